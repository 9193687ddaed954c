-- counting
def pcK (m : Nat) : Nat → Nat
  | 0 => 0
  | k + 1 => pcK m k + (if m.testBit k then 1 else 0)
abbrev pcn (m : Nat) : Nat := pcK m 8
theorem pcn_step : ∀ m, m < 256 → m ≠ 0 → pcn (m &&& (m - 1)) + 1 = pcn m ∧ (m &&& (m - 1)) < m ∧ nI m &&& (nI m - 1) = nI (m &&& (m - 1)) := by decide +kernel
theorem pcn_le : ∀ m, m < 256 → pcn m ≤ 8 := by decide +kernel
theorem m_ones_loop {d : Nat} {σ : ST} {post : Option AV → ST → Prop} : ∀ (f m k : Nat), m < f → m < 256 → post (some (vI (nI (k + pcn m)))) σ → Ev none d m_M_ones 4 [none, some (vI (nI k)), some (vI (nI m))] [] σ post
  | 0, m, k, h, _, _ => absurd h (by omega)
  | f + 1, m, k, h, h2, K => by
    refine sg_M_ones_4 ⟨fun q => ?_, fun q => ?_⟩
    · have : m = 0 := (nI_is (b := 0) (by omega) (by decide)).mp q
      subst this
      exact K
    · have hm : m ≠ 0 := fun z => q (by rw [z]; rfl)
      obtain ⟨p1, p2, p3⟩ := pcn_step m h2 hm
      rw [p3, nI_1]
      refine m_ones_loop f _ (k + 1) (by omega) (by omega) ?_
      rw [show k + 1 + pcn (m &&& (m - 1)) = k + pcn m by omega]
      exact K
theorem m_ones {d m : Nat} {σ : ST} {post : Option AV → ST → Prop} (hm : m < 256) (K : post (some (vI (nI (pcn m)))) σ) : Ev none d m_M_ones 0 [some (vI (nI m)), none, none] [] σ post := by
  refine sg_M_ones_0 (m_ones_loop 256 m 0 hm hm ?_)
  rw [Nat.zero_add]
  exact K
theorem c_bits {σ : ST} : ∀ m, m < 64 → fn_J_bitCount σ (nI m) = nI (pcn m) := by
  have h : ∀ m, m < 64 → fn_J_bitCount (fun _ _ _ => 0, fun _ _ _ => 0) (nI m) = nI (pcn m) := by decide +kernel
  exact h
def cntB (f : Nat → Int32) : Nat → Nat
  | 0 => 0
  | k + 1 => cntB f k + (if f k = 1 then 1 else 0)
theorem cntB_s (f : Nat → Int32) (k : Nat) : cntB f (k + 1) = cntB f k + (if f k = 1 then 1 else 0) := rfl
theorem cntB_le (f : Nat → Int32) : ∀ k, cntB f k ≤ k
  | 0 => Nat.le_refl _
  | k + 1 => by
    have := cntB_le f k
    unfold cntB
    split <;> omega
theorem pcK_bt8 (f : Nat → Int32) (n : Nat) : ∀ k, pcK (bt8 f n) k = cntB f (min k n)
  | 0 => by simp [pcK, cntB]
  | k + 1 => by
    have ih := pcK_bt8 f n k
    have hb := bt8_bit f n k
    unfold pcK
    rw [ih]
    by_cases hk : k < n
    · rw [show min (k + 1) n = min k n + 1 by omega, show min k n = k by omega, cntB_s]
      by_cases h1 : f k = 1
      · rw [if_pos (hb.mpr ⟨hk, h1⟩), if_pos h1]
      · rw [if_neg (fun q => h1 (hb.mp q).2), if_neg h1]
    · rw [if_neg (fun q => hk (hb.mp q).1), show min (k + 1) n = min k n by omega, Nat.add_zero]
theorem bt8_mod (f : Nat → Int32) {n : Nat} : ∀ j, bt8 f (n + j) % 2 ^ n = bt8 f n
  | 0 => Nat.mod_eq_of_lt (bt8_lt f n)
  | j + 1 => by
    have ih := bt8_mod f (n := n) j
    show (bt8 f (n + j) + (if f (n + j) = 1 then 2 ^ (n + j) else 0)) % 2 ^ n = _
    split
    · rw [Nat.pow_add, Nat.add_mul_mod_self_left]
      exact ih
    · exact ih
theorem mask_i : ∀ n, n ≤ 8 → (isl 1 (nI n)) - 1 = nI (2 ^ n - 1) := by decide +kernel
theorem mask_and {f : Nat → Int32} {n : Nat} (hn : n ≤ 8) : nI (bt8 f 8) &&& ((isl 1 (nI n)) - 1) = nI (bt8 f n) := by
  have hlt := bt8_256 f
  have hp : 2 ^ n ≤ 2 ^ 8 := Nat.pow_le_pow_right (by decide) hn
  have hp1 : 0 < 2 ^ n := Nat.pow_pos (by decide)
  rw [mask_i n hn, pk_andN (by omega) n (pk_tn (by omega))]
  have := bt8_mod f (n := n) (8 - n)
  rw [show n + (8 - n) = 8 by omega] at this
  rw [this]
theorem pcn_bt8 {f : Nat → Int32} {n : Nat} (hn : n ≤ 8) : pcn (bt8 f n) = cntB f n := by
  show pcK (bt8 f n) 8 = _
  rw [pcK_bt8, show min 8 n = n by omega]
def sumI (f : Nat → Int32) : Nat → Int32
  | 0 => 0
  | k + 1 => sumI f k + f k
def lkN (A : ST) : Nat → Nat
  | 0 => 0
  | r + 1 => lkN A r + cntB (A.1 3 r) (nC A)
def an_count (A : ST) (a : Int32) : Int32 := if a = 0 then nI (nC A) else if a = 1 then A.1 0 0 0 else if a = 2 then sumI (lC A) (nC A) else if a = 3 then nI (cntB (A.1 4 0) (nC A)) else if a = 4 then nI (lkN A 6) else if a = 5 then A.1 7 0 0 else if a = 6 then A.1 6 0 0 else if a = 7 then A.1 6 0 1 else if a = 8 then A.1 11 0 0 else -2
theorem c_lines {A σ : ST} {d : Nat} (hw : Wf A) (h : RepC A σ) {post : Option AV → ST → Prop} (K : post (some (vI (sumI (lC A) (nC A)))) σ) : Ev none d m_B_allLines 0 [some (vR 1 0), none, none] [] σ post := by
  have h8 := nC_le hw
  refine sg_B_allLines_0 ?_
  have key : ∀ (m c : Nat), c + m = nC A → Ev none d m_B_allLines 4 [some (vR 1 0), some (vI (sumI (lC A) c)), some (vI (nI c))] [] σ post := by
    intro m
    induction m with
    | zero =>
      intro c hc
      have e : c = nC A := by omega
      subst e
      refine sg_B_allLines_4 ⟨fun _ => K, fun q => ?_⟩
      rw [h.1.2.1] at q
      exact absurd (Int32.le_refl _) q
    | succ m ih =>
      intro c hc
      refine sg_B_allLines_4 ⟨fun q => ?_, fun _ => ⟨vpin (by omega) (by decide), ?_⟩⟩
      · rw [h.1.2.1] at q
        exact absurd ((nI_leI (by omega) (by omega)).mp q) (by omega)
      · rw [nI_ix (by omega), (h.1.2.2.2 c (by omega)).2, nI_1]
        exact ih (c + 1) (by omega)
  exact key (nC A) 0 (by omega)
theorem c_skips {A σ : ST} {d : Nat} (hw : Wf A) (h : RepC A σ) {post : Option AV → ST → Prop} (K : post (some (vI (nI (cntB (A.1 4 0) (nC A))))) σ) : Ev none (d + 2) m_C_countSkipped 0 [some (vR 2 0), none, none] [] σ post := by
  have h8 := nC_le hw
  have e4 : fn_C_chapters σ = nI (nC A) := by
    unfold fn_C_chapters fn_B_chapters
    exact h.1.2.1
  refine sg_C_countSkipped_0 ?_
  have key : ∀ (m c : Nat), c + m = nC A → Ev none (d + 2) m_C_countSkipped 4 [some (vR 2 0), some (vI (nI (cntB (A.1 4 0) c))), some (vI (nI c))] [] σ post := by
    intro m
    induction m with
    | zero =>
      intro c hc
      have e : c = nC A := by omega
      subst e
      refine sg_C_countSkipped_4 ⟨fun _ => K, fun q => ?_⟩
      rw [e4] at q
      exact absurd (Int32.le_refl _) q
    | succ m ih =>
      intro c hc
      refine sg_C_countSkipped_4 ⟨fun q => ?_, fun _ => ⟨vpin (by omega) (by decide), ?_⟩⟩
      · rw [e4] at q
        exact absurd ((nI_leI (by omega) (by omega)).mp q) (by omega)
      · intro z hz
        rw [nI_ix (by omega), h.2.2.2.1 c (by omega)] at hz
        have hz' : nI (cntB (A.1 4 0) c) + z = nI (cntB (A.1 4 0) (c + 1)) := by
          rw [cntB_s]
          rcases hw.2.2.2.1 c (by omega) with q | q
          · rw [hz, q, if_neg (show ¬ (0 : Int32) = 1 by decide)]
            exact nI_add _ 0
          · rw [hz, q, if_pos (rfl : (1 : Int32) = 1)]
            exact nI_1 _
        rw [hz', nI_1]
        exact ih (c + 1) (by omega)
  exact key (nC A) 0 (by omega)
theorem upto {n : Nat} {P : Nat → Prop} (h0 : P n) (hs : ∀ c, c < n → P (c + 1) → P c) : P 0 := by
  have key : ∀ m c, c + m = n → P c := by
    intro m
    induction m with
    | zero => intro c hc; rw [show c = n by omega]; exact h0
    | succ m ih => intro c hc; exact hs c (by omega) (ih (c + 1) (by omega))
  exact key n 0 (by omega)
theorem lkN_s (A : ST) (r : Nat) : lkN A (r + 1) = lkN A r + cntB (A.1 3 r) (nC A) := rfl
theorem c_likes {A σ : ST} {d : Nat} (hw : Wf A) (h : RepC A σ) {post : Option AV → ST → Prop} (K : post (some (vI (nI (lkN A 6)))) σ) : Ev none (d + 2) m_C_countLikes 0 [some (vR 2 0), none, none, none] [] σ post := by
  have h8 := nC_le hw
  have e4 : fn_C_chapters σ = nI (nC A) := by
    unfold fn_C_chapters fn_B_chapters
    exact h.1.2.1
  refine sg_C_countLikes_0 ?_
  refine upto (n := 6) (P := fun r => Ev none (d + 2) m_C_countLikes 4 [some (vR 2 0), some (vI (nI (lkN A r))), some (vI (nI r)), none] [] σ post) ?_ ?_
  · exact sg_C_countLikes_4 ⟨fun _ => K, fun q => absurd (Int32.le_refl _) q⟩
  · intro r hr hn
    refine sg_C_countLikes_4 ⟨fun q => absurd ((nI_leI (a := 6) (by decide) (by omega)).mp q) (by omega), fun _ => ?_⟩
    refine upto (n := nC A) (P := fun c => Ev none (d + 2) m_C_countLikes 12 [some (vR 2 0), some (vI (nI (lkN A r + cntB (A.1 3 r) c))), some (vI (nI r)), some (vI (nI c))] [] σ post) ?_ ?_
    · refine sg_C_countLikes_12 ⟨fun _ => ?_, fun q => absurd (by rw [e4]; exact Int32.le_refl _) q⟩
      rw [nI_1]
      exact hn
    · intro c hc ih
      have hk := hw.2.2.1 r c hr (by omega)
      have hk2 := h.2.2.1 r c hr (by omega)
      refine sg_C_countLikes_12 ⟨fun q => ?_, fun _ => ?_⟩
      · rw [e4] at q
        exact absurd ((nI_leI (by omega) (by omega)).mp q) (by omega)
      · refine ⟨vpin hr (by decide), ⟨vpin (by omega) (by decide), ?_⟩, ?_⟩
        · rw [nI_ix (by omega), nI_ix (by omega), hk2]
          exact hk
        · intro z hz
          unfold fn_R_likes at hz
          rw [nI_ix (by omega), nI_ix (by omega), hk2] at hz
          have hz' : nI (lkN A r + cntB (A.1 3 r) c) + z = nI (lkN A r + cntB (A.1 3 r) (c + 1)) := by
            rw [cntB_s]
            rcases hk with q | q
            · rw [hz, q, if_neg (show ¬ (0 : Int32) = 1 by decide)]
              exact nI_add _ 0
            · rw [hz, q, if_pos (rfl : (1 : Int32) = 1), ← Nat.add_assoc]
              exact nI_1 _
          rw [hz', nI_1]
          exact ih
theorem cs_count {A : ST} {a1 : Int32} {d : Nat} (hw : Wf A) : CS m_O_count [some (vR 0 0), some (vI a1)] (d + 3) A A (vI (an_count A a1)) := by
  intro σ post h K
  have K' := K σ h (AgM.off (S := []) Off.rf)
  unfold an_count at K'
  have hO := h.2.2.2.2.2.1
  refine sg_O_count_0 ⟨fun q => ?_, fun q0 => ⟨fun q => ?_, fun q1 => ⟨fun q => ?_, fun q2 => ⟨fun q => ?_, fun q3 => ⟨fun q => ?_, fun q4 => ⟨fun q => ?_, fun q5 => ⟨fun q => ?_, fun q6 => ⟨fun q => ?_, fun q7 => ⟨fun q => ?_, fun q8 => ?_⟩⟩⟩⟩⟩⟩⟩⟩⟩
  · rw [if_pos q] at K'
    unfold fn_B_chapters
    rw [h.1.2.1]
    exact K'
  · rw [if_neg q0, if_pos q] at K'
    unfold fn_B_size
    rw [h.1.1.1]
    exact K'
  · rw [if_neg q0, if_neg q1, if_pos q] at K'
    exact c_lines hw h ⟨_, rfl, K'⟩
  · rw [if_neg q0, if_neg q1, if_neg q2, if_pos q] at K'
    exact c_skips hw h ⟨_, rfl, K'⟩
  · rw [if_neg q0, if_neg q1, if_neg q2, if_neg q3, if_pos q] at K'
    exact c_likes hw h ⟨_, rfl, K'⟩
  · rw [if_neg q0, if_neg q1, if_neg q2, if_neg q3, if_neg q4, if_pos q] at K'
    unfold fn_U_size
    rw [h.2.2.2.2.2.2.1.1]
    exact K'
  · rw [if_neg q0, if_neg q1, if_neg q2, if_neg q3, if_neg q4, if_neg q5, if_pos q] at K'
    rw [hO.1]
    exact K'
  · rw [if_neg q0, if_neg q1, if_neg q2, if_neg q3, if_neg q4, if_neg q5, if_neg q6, if_pos q] at K'
    rw [hO.2.1]
    exact K'
  · rw [if_neg q0, if_neg q1, if_neg q2, if_neg q3, if_neg q4, if_neg q5, if_neg q6, if_neg q7, if_pos q] at K'
    rw [hO.2.2]
    exact K'
  · rw [if_neg q0, if_neg q1, if_neg q2, if_neg q3, if_neg q4, if_neg q5, if_neg q6, if_neg q7, if_neg q8] at K'
    exact K'
theorem bt8_lt256 (f : Nat → Int32) {n : Nat} (hn : n ≤ 8) : bt8 f n < 256 := Nat.lt_of_lt_of_le (bt8_lt f n) (show 2 ^ n ≤ 2 ^ 8 from Nat.pow_le_pow_right (by decide) hn)
theorem m_cnt {A σ : ST} {a1 : Int32} {d : Nat} (hw : Wf A) (h : RepM A σ) {post : Option AV → ST → Prop} (K : ∀ σ', RepM A σ' → Psd A σ' → OffM [47, 48] [7, 8] σ σ' → post (some (vI (an_count A a1))) σ') : Ev none (d + 3) m_M_count 0 [some (vR 11 0), some (vI a1), none, none] [] σ post := by
  have h8 := nC_le hw
  refine sg_M_count_0 (m_reads hw h (fun σ' h1 h2 h3 => ⟨_, rfl, ?_⟩))
  have K' := K σ' h1 h2 h3
  unfold an_count at K'
  have hO := h1.2.2.2.2.2.1
  refine ⟨fun q => ?_, fun q0 => ⟨fun q => ?_, fun q1 => ⟨fun q => ?_, fun q2 => ⟨fun q => ?_, fun q3 => ⟨fun q => ?_, fun q4 => ⟨fun q => ?_, fun q5 => ⟨fun q => ?_, fun q6 => ⟨fun q => ?_, fun q7 => ⟨fun q => ?_, fun q8 => ?_⟩⟩⟩⟩⟩⟩⟩⟩⟩
  · rw [if_pos q] at K'
    rw [h2.1]
    exact K'
  · rw [if_neg q0, if_pos q] at K'
    rw [h1.1.1]
    exact K'
  · rw [if_neg q0, if_neg q1, if_pos q] at K'
    refine upto (n := nC A) (P := fun c => Ev none (d + 3) m_M_count 72 [some (vR 11 0), none, some (vI (sumI (lC A) c)), some (vI (nI c))] [] σ' post) ?_ ?_
    · exact sg_M_count_72 ⟨fun _ => K', fun q => absurd (by rw [h2.1]; exact Int32.le_refl _) q⟩
    · intro c hc ih
      refine sg_M_count_72 ⟨fun q => ?_, fun _ => ⟨vpin (by omega) (by decide), ?_⟩⟩
      · rw [h2.1] at q
        exact absurd ((nI_leI (by omega) (by omega)).mp q) (by omega)
      · rw [nI_ix (by omega), (h2.2 c hc).2, nI_1]
        exact ih
  · rw [if_neg q0, if_neg q1, if_neg q2, if_pos q] at K'
    rw [h1.2.2.2.1, h2.1, mask_and h8]
    refine m_ones (bt8_lt256 _ h8) ⟨_, rfl, ?_⟩
    rw [pcn_bt8 h8]
    exact K'
  · rw [if_neg q0, if_neg q1, if_neg q2, if_neg q3, if_pos q] at K'
    refine upto (n := 6) (P := fun r => Ev none (d + 3) m_M_count 116 [some (vR 11 0), none, some (vI (nI (lkN A r))), some (vI (nI r))] [] σ' post) ?_ ?_
    · exact sg_M_count_116 ⟨fun _ => K', fun q => absurd (Int32.le_refl _) q⟩
    · intro r hr ih
      refine sg_M_count_116 ⟨fun q => absurd ((nI_leI (a := 6) (by decide) (by omega)).mp q) (by omega), fun _ => ⟨vpin hr (by decide), ?_⟩⟩
      rw [nI_ix (by omega), h1.2.2.1 r hr, h2.1, mask_and h8]
      refine m_ones (bt8_lt256 _ h8) ⟨_, rfl, ?_⟩
      rw [pcn_bt8 h8, nI_add, nI_1]
      exact ih
  · rw [if_neg q0, if_neg q1, if_neg q2, if_neg q3, if_neg q4, if_pos q] at K'
    rw [h1.2.2.2.2.2.2.1.1]
    exact K'
  · rw [if_neg q0, if_neg q1, if_neg q2, if_neg q3, if_neg q4, if_neg q5, if_pos q] at K'
    subst q
    refine ⟨vpin (j := 0) (by decide) (by decide), ?_⟩
    show post (some (vI (σ'.1 54 0 0))) σ'
    rw [hO.1]
    exact K'
  · rw [if_neg q0, if_neg q1, if_neg q2, if_neg q3, if_neg q4, if_neg q5, if_neg q6, if_pos q] at K'
    subst q
    refine ⟨vpin (j := 1) (by decide) (by decide), ?_⟩
    show post (some (vI (σ'.1 54 0 1))) σ'
    rw [hO.2.1]
    exact K'
  · rw [if_neg q0, if_neg q1, if_neg q2, if_neg q3, if_neg q4, if_neg q5, if_neg q6, if_neg q7, if_pos q] at K'
    rw [hO.2.2]
    exact K'
  · rw [if_neg q0, if_neg q1, if_neg q2, if_neg q3, if_neg q4, if_neg q5, if_neg q6, if_neg q7, if_neg q8] at K'
    exact K'
theorem ms_count {A : ST} {a1 : Int32} {d : Nat} (hw : Wf A) : MSp m_M_count [some (vR 11 0), some (vI a1), none, none] (d + 3) A A (vI (an_count A a1)) := by
  intro σ post h K
  exact m_cnt hw h (fun σ' h1 h2 h3 => K σ' h1 (AgC.off h3))
