-- the abstract state, what a book is, the two relations
def kdB (x : Int32) : Int32 := if x = 100 then 2 else (if x = 112 then 0 else (if x = 118 then 1 else -1))
def fgB (x : Int32) : Int32 := if x < 48 then -1 else (if 57 < x then -1 else x - 48)
abbrev gon (b : Nat → Int32) (p : Nat) : Prop := (p % 4 = 0 ∧ ¬ kdB (b p) = -1) ∨ (p % 4 = 3 ∧ b p = 59) ∨ ((p % 4 = 1 ∨ p % 4 = 2) ∧ ¬ fgB (b p) = -1)
abbrev zro (b : Nat → Int32) (p : Nat) : Prop := p % 4 = 2 ∧ fgB (b (p - 1)) = 0 ∧ fgB (b p) = 0
def ffl (b : Nat → Int32) (n : Nat) : Nat → Nat → Int32
  | 0, _ => if n = 0 ∨ n % 4 = 3 then -1 else nI n
  | k + 1, p => if 32 ≤ p ∨ ¬ gon b p then nI p else if zro b p then nI (p - 1) else ffl b n k (p + 1)
def flt (b : Nat → Int32) (n : Nat) : Int32 := ffl b n n 0
def nch (b : Nat → Int32) (n : Nat) : Nat := if flt b n = -1 then (n + 1) / 4 else 0
def knd (b : Nat → Int32) (c : Nat) : Int32 := kdB (b (4 * c))
def lns (b : Nat → Int32) (c : Nat) : Int32 := 10 * fgB (b (4 * c + 1)) + fgB (b (4 * c + 2))
theorem ffl_none {b : Nat → Int32} {n : Nat} (hn : n < 2 ^ 31) : ∀ (k p : Nat), p + k = n → ffl b n k p = -1 → (n = 0 ∨ n % 4 = 3) ∧ ∀ q, p ≤ q → q < n → q < 32 ∧ gon b q ∧ ¬ zro b q
  | 0, p, hp, h => by
    unfold ffl at h
    by_cases hc : n = 0 ∨ n % 4 = 3
    · exact ⟨hc, fun q h1 h2 => by omega⟩
    · rw [if_neg hc] at h
      have := congrArg Int32.toInt h
      rw [nI_toInt hn] at this
      have h2 : (-1 : Int32).toInt = -1 := by decide
      omega
  | k + 1, p, hp, h => by
    unfold ffl at h
    by_cases hc : 32 ≤ p ∨ ¬ gon b p
    · rw [if_pos hc] at h
      have := congrArg Int32.toInt h
      rw [nI_toInt (by omega)] at this
      have h2 : (-1 : Int32).toInt = -1 := by decide
      omega
    · rw [if_neg hc] at h
      by_cases hz : zro b p
      · rw [if_pos hz] at h
        have := congrArg Int32.toInt h
        rw [nI_toInt (by omega)] at this
        have h2 : (-1 : Int32).toInt = -1 := by decide
        omega
      · rw [if_neg hz] at h
        obtain ⟨h1, h2⟩ := ffl_none hn k (p + 1) (by omega) h
        refine ⟨h1, fun q g1 g2 => ?_⟩
        by_cases hq : q = p
        · subst hq
          refine ⟨by omega, ?_, hz⟩
          exact Decidable.byContradiction fun g => hc (Or.inr g)
        · exact h2 q (by omega) g2
theorem flt_none {b : Nat → Int32} {n : Nat} (hn : n ≤ 60) (h : flt b n = -1) : (n = 0 ∨ n % 4 = 3) ∧ ∀ q, q < n → q < 32 ∧ gon b q ∧ ¬ zro b q := by
  obtain ⟨h1, h2⟩ := ffl_none (by omega) n 0 (by omega) h
  exact ⟨h1, fun q hq => h2 q (by omega) hq⟩
theorem kdB_rg {x : Int32} (h : ¬ kdB x = -1) : kdB x = nI 0 ∨ kdB x = nI 1 ∨ kdB x = nI 2 := by
  unfold kdB at *
  by_cases h1 : x = 100
  · rw [if_pos h1]; exact Or.inr (Or.inr rfl)
  · rw [if_neg h1] at *
    by_cases h2 : x = 112
    · rw [if_pos h2]; exact Or.inl rfl
    · rw [if_neg h2] at *
      by_cases h3 : x = 118
      · rw [if_pos h3]; exact Or.inr (Or.inl rfl)
      · rw [if_neg h3] at h
        exact absurd rfl h
theorem fgB_rg {x : Int32} (h : ¬ fgB x = -1) : ∃ j : Nat, j ≤ 9 ∧ fgB x = nI j := by
  unfold fgB at *
  by_cases h1 : x < 48
  · rw [if_pos h1] at h; exact absurd rfl h
  · rw [if_neg h1] at *
    by_cases h2 : 57 < x
    · rw [if_pos h2] at h; exact absurd rfl h
    · rw [if_neg h2] at *
      refine rg_nI (n := 9) ?_
      rw [lt_toInt] at h1 h2
      have e1 : (48 : Int32).toInt = 48 := by decide
      have e2 : (57 : Int32).toInt = 57 := by decide
      rw [e1] at h1
      rw [e2] at h2
      unfold rg
      rw [sub_toInt (by omega) (by omega), e1]
      omega
theorem nch_le {b : Nat → Int32} {n : Nat} (hn : n ≤ 60) : nch b n ≤ 8 := by
  unfold nch
  split
  next h =>
    obtain ⟨h1, h2⟩ := flt_none hn h
    rcases h1 with h1 | h1
    · omega
    · have := (h2 (n - 1) (by omega)).1
      omega
  next => omega
/-- a chapter that there is -/
theorem chap_ok {b : Nat → Int32} {n c : Nat} (hn : n ≤ 60) (hc : c < nch b n) : (knd b c = nI 0 ∨ knd b c = nI 1 ∨ knd b c = nI 2) ∧ ∃ l : Nat, 1 ≤ l ∧ l ≤ 99 ∧ lns b c = nI l := by
  unfold nch at hc
  split at hc
  next h =>
    obtain ⟨h1, h2⟩ := flt_none hn h
    have hl : 4 * c + 2 < n := by omega
    obtain ⟨-, g0, -⟩ := h2 (4 * c) (by omega)
    obtain ⟨-, g1, -⟩ := h2 (4 * c + 1) (by omega)
    obtain ⟨-, g2, z2⟩ := h2 (4 * c + 2) (by omega)
    have k0 : ¬ kdB (b (4 * c)) = -1 := by
      rcases g0 with g | g | g
      · exact g.2
      · exact absurd g.1 (by omega)
      · exact absurd g.1 (by omega)
    have k1 : ¬ fgB (b (4 * c + 1)) = -1 := by
      rcases g1 with g | g | g
      · exact absurd g.1 (by omega)
      · exact absurd g.1 (by omega)
      · exact g.2
    have k2 : ¬ fgB (b (4 * c + 2)) = -1 := by
      rcases g2 with g | g | g
      · exact absurd g.1 (by omega)
      · exact absurd g.1 (by omega)
      · exact g.2
    refine ⟨kdB_rg k0, ?_⟩
    obtain ⟨x, hx, ex⟩ := fgB_rg k1
    obtain ⟨y, hy, ey⟩ := fgB_rg k2
    refine ⟨10 * x + y, ?_, by omega, ?_⟩
    · rcases Nat.eq_zero_or_pos (10 * x + y) with q | q
      · exfalso
        refine z2 ⟨by omega, ?_, ?_⟩
        · rw [show 4 * c + 2 - 1 = 4 * c + 1 by omega, ex, show x = 0 by omega]; rfl
        · rw [ey, show y = 0 by omega]; rfl
      · exact q
    · unfold lns
      rw [ex, ey, show (10 : Int32) = nI 10 from rfl, pk_mul, nI_add]
  next => omega
-- the abstract state's parts
def sN (A : ST) : Nat := (A.1 0 0 0).toNatClampNeg
def tN (A : ST) : Nat := (A.1 7 0 0).toNatClampNeg
def szN (A : ST) (s : Nat) : Nat := (A.1 9 s 2).toNatClampNeg
abbrev nC (A : ST) : Nat := nch (A.1 1 0) (sN A)
abbrev kC (A : ST) (c : Nat) : Int32 := knd (A.1 1 0) c
abbrev lC (A : ST) (c : Nat) : Int32 := lns (A.1 1 0) c
def wB (A : ST) : Prop := A.1 0 0 0 = nI (sN A) ∧ sN A ≤ 60
def wP (A : ST) : Prop := ∀ r k, r < 6 → k < 3 → rg (A.1 2 r k) 1 9
def wK (A : ST) : Prop := ∀ r c, r < 6 → c < 8 → A.1 3 r c = 0 ∨ A.1 3 r c = 1
def wS (A : ST) : Prop := ∀ c, c < 8 → A.1 4 0 c = 0 ∨ A.1 4 0 c = 1
def wT (A : ST) : Prop := ∀ r, r < 6 → rg (A.1 5 r 0) 0 99 ∧ rg (A.1 5 r 1) 0 9 ∧ rg (A.1 5 r 2) 0 4
def wO (A : ST) : Prop := rg (A.1 6 0 0) 0 999 ∧ rg (A.1 6 0 1) 0 999
def wU (A : ST) : Prop := (A.1 7 0 0 = nI (tN A) ∧ tN A ≤ 8) ∧ ∀ k, k < 8 → rg (A.1 8 k 0) 0 7 ∧ rg (A.1 8 k 1) 0 63 ∧ rg (A.1 8 k 2) 0 999
def wH (A : ST) : Prop := ∀ s, s < 4 → (A.1 9 s 0 = 0 ∨ A.1 9 s 0 = 1) ∧ rg (A.1 9 s 1) 0 2 ∧ rg (A.1 9 s 2) 0 60
def Wf (A : ST) : Prop := wB A ∧ wP A ∧ wK A ∧ wS A ∧ wT A ∧ wO A ∧ wU A ∧ wH A
def cB (A σ : ST) : Prop := (σ.1 1 0 3 = A.1 0 0 0 ∧ σ.1 12 0 = A.1 1 0) ∧ σ.1 1 0 4 = nI (nC A) ∧ σ.1 1 0 5 = flt (A.1 1 0) (sN A) ∧ ∀ c, c < nC A → σ.1 13 0 c = kC A c ∧ σ.1 14 0 c = lC A c
def cP (A σ : ST) : Prop := ∀ r k, r < 6 → k < 3 → σ.1 17 r k = A.1 2 r k
def cK (A σ : ST) : Prop := ∀ r c, r < 6 → c < 8 → σ.1 18 r c = A.1 3 r c
def cS (A σ : ST) : Prop := ∀ c, c < 8 → σ.1 16 0 c = A.1 4 0 c
def cT (A σ : ST) : Prop := ∀ r t, r < 6 → t < 3 → σ.1 19 r t = A.1 5 r t
def cO (A σ : ST) : Prop := σ.1 0 0 9 = A.1 6 0 0 ∧ σ.1 0 0 10 = A.1 6 0 1 ∧ σ.1 0 0 11 = A.1 11 0 0
def cU (A σ : ST) : Prop := σ.1 8 0 4 = A.1 7 0 0 ∧ ∀ k, k < 8 → σ.1 32 0 k = A.1 8 k 0 ∧ σ.1 33 0 k = A.1 8 k 1 ∧ σ.1 34 0 k = A.1 8 k 2
def cH (A σ : ST) : Prop := ∀ s, s < 4 → σ.1 10 s 1 = A.1 9 s 0 ∧ (A.1 9 s 0 = 0 → σ.1 10 s 2 = A.1 9 s 1 ∧ σ.1 10 s 3 = A.1 9 s 2 ∧ ∀ j, j < szN A s → σ.1 41 s j = A.1 10 s j)
def RepC (A σ : ST) : Prop := cB A σ ∧ cP A σ ∧ cK A σ ∧ cS A σ ∧ cT A σ ∧ cO A σ ∧ cU A σ ∧ cH A σ
/-- eight bits of a row -/
def bt8 (f : Nat → Int32) : Nat → Nat
  | 0 => 0
  | k + 1 => bt8 f k + (if f k = 1 then 2 ^ k else 0)
theorem bt8_lt (f : Nat → Int32) : ∀ k, bt8 f k < 2 ^ k
  | 0 => Nat.zero_lt_one
  | k + 1 => by
    have ih := bt8_lt f k
    unfold bt8
    rw [Nat.pow_succ]
    split <;> omega
theorem bt8_bit (f : Nat → Int32) : ∀ k c, (bt8 f k).testBit c = true ↔ (c < k ∧ f c = 1)
  | 0, c => by simp [bt8]
  | k + 1, c => by
    have ih := bt8_bit f k c
    have hlt := bt8_lt f k
    rcases Nat.lt_trichotomy c k with hc | hc | hc
    · have e : (bt8 f (k + 1)).testBit c = (bt8 f k).testBit c := by
        show (bt8 f k + (if f k = 1 then 2 ^ k else 0)).testBit c = _
        split
        · rw [Nat.add_comm, Nat.testBit_two_pow_add_gt hc]
        · rw [Nat.add_zero]
      rw [e, ih]
      exact ⟨fun q => ⟨by omega, q.2⟩, fun q => ⟨hc, q.2⟩⟩
    · subst hc
      have h0 : (bt8 f c).testBit c = false := Nat.testBit_lt_two_pow hlt
      unfold bt8
      split
      next h =>
        rw [Nat.add_comm, Nat.testBit_two_pow_add_eq, h0]
        exact ⟨fun _ => ⟨by omega, h⟩, fun _ => rfl⟩
      next h =>
        rw [Nat.add_zero, h0]
        exact ⟨fun q => (by cases q), fun q => absurd q.2 h⟩
    · have h1 := bt8_lt f (k + 1)
      have h2 : (bt8 f (k + 1)).testBit c = false := Nat.testBit_lt_two_pow (Nat.lt_of_lt_of_le h1 (Nat.pow_le_pow_right (by decide) hc))
      rw [h2]
      exact ⟨fun q => (by cases q), fun q => absurd q.1 (by omega)⟩
def mB (A σ : ST) : Prop := σ.1 11 0 6 = A.1 0 0 0 ∧ σ.1 46 0 = A.1 1 0
def mP (A σ : ST) : Prop := ∀ r k, r < 6 → k < 3 → σ.1 49 0 (3 * r + k) = A.1 2 r k
def mK (A σ : ST) : Prop := ∀ r, r < 6 → σ.1 50 0 r = nI (bt8 (A.1 3 r) 8)
def mS (A σ : ST) : Prop := σ.1 11 0 11 = nI (bt8 (A.1 4 0) 8)
def mT (A σ : ST) : Prop := ∀ r, r < 6 → σ.1 51 0 r = A.1 5 r 0 ∧ σ.1 52 0 r = A.1 5 r 1 ∧ σ.1 53 0 r = A.1 5 r 2
def mO (A σ : ST) : Prop := σ.1 54 0 0 = A.1 6 0 0 ∧ σ.1 54 0 1 = A.1 6 0 1 ∧ σ.1 11 0 4 = A.1 11 0 0
def mU (A σ : ST) : Prop := σ.1 11 0 29 = A.1 7 0 0 ∧ ∀ k t, k < 8 → t < 3 → σ.1 60 0 (3 * k + t) = A.1 8 k t
def mH (A σ : ST) : Prop := ∀ s, s < 4 → σ.1 42 0 s = (if A.1 9 s 0 = 0 then A.1 9 s 1 else -1) ∧ (A.1 9 s 0 = 0 → σ.1 43 0 s = A.1 9 s 2 ∧ ∀ j, j < szN A s → σ.1 44 0 (60 * s + j) = A.1 10 s j)
def RepM (A σ : ST) : Prop := mB A σ ∧ mP A σ ∧ mK A σ ∧ mS A σ ∧ mT A σ ∧ mO A σ ∧ mU A σ ∧ mH A σ
-- what is left as it was
def Off (S : List Nat) (σ σ' : ST) : Prop := ∀ k, k ∉ S → σ'.1 k = σ.1 k ∧ σ'.2 k = σ.2 k
theorem Off.rf {S : List Nat} {σ : ST} : Off S σ σ := fun _ _ => ⟨rfl, rfl⟩
theorem Off.tr {S : List Nat} {σ σ1 σ2 : ST} (h1 : Off S σ σ1) (h2 : Off S σ1 σ2) : Off S σ σ2 := fun k hk => ⟨(h2 k hk).1.trans (h1 k hk).1, (h2 k hk).2.trans (h1 k hk).2⟩
theorem Off.mono {S S' : List Nat} {σ σ' : ST} (h : Off S σ σ') (hs : ∀ k ∈ S, k ∈ S') : Off S' σ σ' := fun k hk => h k (fun q => hk (hs k q))
theorem Off.sI {S : List Nat} {σ σ1 : ST} {k i f : Nat} {v : Int32} (h : Off S σ σ1) (hk : k ∈ S) : Off S σ (setI σ1 k i f v) := fun a ha => by
  have hne : a ≠ k := fun q => ha (q ▸ hk)
  refine ⟨?_, (h a ha).2⟩
  rw [← (h a ha).1]
  funext b c
  exact setI_ne σ1 k i f v (fun q => hne q.1)
theorem Off.sJ {S : List Nat} {σ σ1 : ST} {k i f : Nat} {v : Int64} (h : Off S σ σ1) (hk : k ∈ S) : Off S σ (setJ σ1 k i f v) := fun a ha => by
  have hne : a ≠ k := fun q => ha (q ▸ hk)
  refine ⟨(h a ha).1, ?_⟩
  rw [← (h a ha).2]
  funext b c
  exact setJ_ne σ1 k i f v (fun q => hne q.1)
theorem Off.sA {S : List Nat} {σ σ1 : ST} {k i : Nat} {g : Nat → Int32} (h : Off S σ σ1) (hk : k ∈ S) : Off S σ (setA σ1 k i g) := fun a ha => by
  have hne : a ≠ k := fun q => ha (q ▸ hk)
  refine ⟨?_, (h a ha).2⟩
  rw [← (h a ha).1]
  funext b
  exact (setA_off σ1 k i g a b (fun q => hne q.1)).1
abbrev pCs : List Nat := [0, 1, 8, 10, 12, 13, 14, 16, 17, 18, 19, 32, 33, 34, 41]
theorem wB_k {A A' : ST} (h : wB A) (hA : ∀ k ∈ [0, 1], A'.1 k = A.1 k) : wB A' := by
  have a0 := hA 0 (by decide)
  have a1 := hA 1 (by decide)
  unfold wB sN at *
  rw [a0]
  exact h
theorem cB_k {A A' σ σ' : ST} (h : cB A σ) (hA : ∀ k ∈ [0, 1], A'.1 k = A.1 k) (hσ : ∀ k ∈ [1, 12, 13, 14], σ'.1 k = σ.1 k) : cB A' σ' := by
  have a0 := hA 0 (by decide)
  have a1 := hA 1 (by decide)
  have s1 := hσ 1 (by decide)
  have s12 := hσ 12 (by decide)
  have s13 := hσ 13 (by decide)
  have s14 := hσ 14 (by decide)
  unfold cB nC kC lC sN at *
  rw [a0, a1, s1, s12, s13, s14]
  exact h
theorem mB_k {A A' σ σ' : ST} (h : mB A σ) (hA : ∀ k ∈ [0, 1], A'.1 k = A.1 k) (hσ : ∀ k ∈ ([46] : List Nat), σ'.1 k = σ.1 k) (hf : ∀ f ∈ ([6] : List Nat), σ'.1 11 0 f = σ.1 11 0 f) : mB A' σ' := by
  have a0 := hA 0 (by decide)
  have a1 := hA 1 (by decide)
  have s46 := hσ 46 (by decide)
  have f6 := hf 6 (by decide)
  unfold mB at *
  rw [a0, a1, s46, f6]
  exact h
theorem wP_k {A A' : ST} (h : wP A) (hA : ∀ k ∈ [2], A'.1 k = A.1 k) : wP A' := by
  have a2 := hA 2 (by decide)
  unfold wP at *
  rw [a2]
  exact h
theorem cP_k {A A' σ σ' : ST} (h : cP A σ) (hA : ∀ k ∈ [2], A'.1 k = A.1 k) (hσ : ∀ k ∈ [17], σ'.1 k = σ.1 k) : cP A' σ' := by
  have a2 := hA 2 (by decide)
  have s17 := hσ 17 (by decide)
  unfold cP at *
  rw [a2, s17]
  exact h
theorem mP_k {A A' σ σ' : ST} (h : mP A σ) (hA : ∀ k ∈ [2], A'.1 k = A.1 k) (hσ : ∀ k ∈ ([49] : List Nat), σ'.1 k = σ.1 k) (hf : ∀ f ∈ ([] : List Nat), σ'.1 11 0 f = σ.1 11 0 f) : mP A' σ' := by
  have a2 := hA 2 (by decide)
  have s49 := hσ 49 (by decide)
  unfold mP at *
  rw [a2, s49]
  exact h
theorem wK_k {A A' : ST} (h : wK A) (hA : ∀ k ∈ [3], A'.1 k = A.1 k) : wK A' := by
  have a3 := hA 3 (by decide)
  unfold wK at *
  rw [a3]
  exact h
theorem cK_k {A A' σ σ' : ST} (h : cK A σ) (hA : ∀ k ∈ [3], A'.1 k = A.1 k) (hσ : ∀ k ∈ [18], σ'.1 k = σ.1 k) : cK A' σ' := by
  have a3 := hA 3 (by decide)
  have s18 := hσ 18 (by decide)
  unfold cK at *
  rw [a3, s18]
  exact h
theorem mK_k {A A' σ σ' : ST} (h : mK A σ) (hA : ∀ k ∈ [3], A'.1 k = A.1 k) (hσ : ∀ k ∈ ([50] : List Nat), σ'.1 k = σ.1 k) (hf : ∀ f ∈ ([] : List Nat), σ'.1 11 0 f = σ.1 11 0 f) : mK A' σ' := by
  have a3 := hA 3 (by decide)
  have s50 := hσ 50 (by decide)
  unfold mK at *
  rw [a3, s50]
  exact h
theorem wS_k {A A' : ST} (h : wS A) (hA : ∀ k ∈ [4], A'.1 k = A.1 k) : wS A' := by
  have a4 := hA 4 (by decide)
  unfold wS at *
  rw [a4]
  exact h
theorem cS_k {A A' σ σ' : ST} (h : cS A σ) (hA : ∀ k ∈ [4], A'.1 k = A.1 k) (hσ : ∀ k ∈ [16], σ'.1 k = σ.1 k) : cS A' σ' := by
  have a4 := hA 4 (by decide)
  have s16 := hσ 16 (by decide)
  unfold cS at *
  rw [a4, s16]
  exact h
theorem mS_k {A A' σ σ' : ST} (h : mS A σ) (hA : ∀ k ∈ [4], A'.1 k = A.1 k) (hσ : ∀ k ∈ ([] : List Nat), σ'.1 k = σ.1 k) (hf : ∀ f ∈ ([11] : List Nat), σ'.1 11 0 f = σ.1 11 0 f) : mS A' σ' := by
  have a4 := hA 4 (by decide)
  have f11 := hf 11 (by decide)
  unfold mS at *
  rw [a4, f11]
  exact h
theorem wT_k {A A' : ST} (h : wT A) (hA : ∀ k ∈ [5], A'.1 k = A.1 k) : wT A' := by
  have a5 := hA 5 (by decide)
  unfold wT at *
  rw [a5]
  exact h
theorem cT_k {A A' σ σ' : ST} (h : cT A σ) (hA : ∀ k ∈ [5], A'.1 k = A.1 k) (hσ : ∀ k ∈ [19], σ'.1 k = σ.1 k) : cT A' σ' := by
  have a5 := hA 5 (by decide)
  have s19 := hσ 19 (by decide)
  unfold cT at *
  rw [a5, s19]
  exact h
theorem mT_k {A A' σ σ' : ST} (h : mT A σ) (hA : ∀ k ∈ [5], A'.1 k = A.1 k) (hσ : ∀ k ∈ ([51, 52, 53] : List Nat), σ'.1 k = σ.1 k) (hf : ∀ f ∈ ([] : List Nat), σ'.1 11 0 f = σ.1 11 0 f) : mT A' σ' := by
  have a5 := hA 5 (by decide)
  have s51 := hσ 51 (by decide)
  have s52 := hσ 52 (by decide)
  have s53 := hσ 53 (by decide)
  unfold mT at *
  rw [a5, s51, s52, s53]
  exact h
theorem wO_k {A A' : ST} (h : wO A) (hA : ∀ k ∈ [6, 11], A'.1 k = A.1 k) : wO A' := by
  have a6 := hA 6 (by decide)
  have a11 := hA 11 (by decide)
  unfold wO at *
  rw [a6]
  exact h
theorem cO_k {A A' σ σ' : ST} (h : cO A σ) (hA : ∀ k ∈ [6, 11], A'.1 k = A.1 k) (hσ : ∀ k ∈ [0], σ'.1 k = σ.1 k) : cO A' σ' := by
  have a6 := hA 6 (by decide)
  have a11 := hA 11 (by decide)
  have s0 := hσ 0 (by decide)
  unfold cO at *
  rw [a6, a11, s0]
  exact h
theorem mO_k {A A' σ σ' : ST} (h : mO A σ) (hA : ∀ k ∈ [6, 11], A'.1 k = A.1 k) (hσ : ∀ k ∈ ([54] : List Nat), σ'.1 k = σ.1 k) (hf : ∀ f ∈ ([4] : List Nat), σ'.1 11 0 f = σ.1 11 0 f) : mO A' σ' := by
  have a6 := hA 6 (by decide)
  have a11 := hA 11 (by decide)
  have s54 := hσ 54 (by decide)
  have f4 := hf 4 (by decide)
  unfold mO at *
  rw [a6, a11, s54, f4]
  exact h
theorem wU_k {A A' : ST} (h : wU A) (hA : ∀ k ∈ [7, 8], A'.1 k = A.1 k) : wU A' := by
  have a7 := hA 7 (by decide)
  have a8 := hA 8 (by decide)
  unfold wU tN at *
  rw [a7, a8]
  exact h
theorem cU_k {A A' σ σ' : ST} (h : cU A σ) (hA : ∀ k ∈ [7, 8], A'.1 k = A.1 k) (hσ : ∀ k ∈ [8, 32, 33, 34], σ'.1 k = σ.1 k) : cU A' σ' := by
  have a7 := hA 7 (by decide)
  have a8 := hA 8 (by decide)
  have s8 := hσ 8 (by decide)
  have s32 := hσ 32 (by decide)
  have s33 := hσ 33 (by decide)
  have s34 := hσ 34 (by decide)
  unfold cU at *
  rw [a7, a8, s8, s32, s33, s34]
  exact h
theorem mU_k {A A' σ σ' : ST} (h : mU A σ) (hA : ∀ k ∈ [7, 8], A'.1 k = A.1 k) (hσ : ∀ k ∈ ([60] : List Nat), σ'.1 k = σ.1 k) (hf : ∀ f ∈ ([29] : List Nat), σ'.1 11 0 f = σ.1 11 0 f) : mU A' σ' := by
  have a7 := hA 7 (by decide)
  have a8 := hA 8 (by decide)
  have s60 := hσ 60 (by decide)
  have f29 := hf 29 (by decide)
  unfold mU at *
  rw [a7, a8, s60, f29]
  exact h
theorem wH_k {A A' : ST} (h : wH A) (hA : ∀ k ∈ [9, 10], A'.1 k = A.1 k) : wH A' := by
  have a9 := hA 9 (by decide)
  have a10 := hA 10 (by decide)
  unfold wH at *
  rw [a9]
  exact h
theorem cH_k {A A' σ σ' : ST} (h : cH A σ) (hA : ∀ k ∈ [9, 10], A'.1 k = A.1 k) (hσ : ∀ k ∈ [10, 41], σ'.1 k = σ.1 k) : cH A' σ' := by
  have a9 := hA 9 (by decide)
  have a10 := hA 10 (by decide)
  have s10 := hσ 10 (by decide)
  have s41 := hσ 41 (by decide)
  unfold cH szN at *
  rw [a9, a10, s10, s41]
  exact h
theorem mH_k {A A' σ σ' : ST} (h : mH A σ) (hA : ∀ k ∈ [9, 10], A'.1 k = A.1 k) (hσ : ∀ k ∈ ([42, 43, 44] : List Nat), σ'.1 k = σ.1 k) (hf : ∀ f ∈ ([] : List Nat), σ'.1 11 0 f = σ.1 11 0 f) : mH A' σ' := by
  have a9 := hA 9 (by decide)
  have a10 := hA 10 (by decide)
  have s42 := hσ 42 (by decide)
  have s43 := hσ 43 (by decide)
  have s44 := hσ 44 (by decide)
  unfold mH szN at *
  rw [a9, a10, s42, s43, s44]
  exact h
theorem RepC.eq1 {A σ σ' : ST} (h : RepC A σ) (hk : ∀ k ∈ pCs, σ'.1 k = σ.1 k) : RepC A σ' := by
  obtain ⟨hB, hP, hK, hS, hT, hO, hU, hH⟩ := h
  exact ⟨cB_k hB (fun _ _ => rfl) (fun k hq => hk k (by revert k; decide)), cP_k hP (fun _ _ => rfl) (fun k hq => hk k (by revert k; decide)), cK_k hK (fun _ _ => rfl) (fun k hq => hk k (by revert k; decide)), cS_k hS (fun _ _ => rfl) (fun k hq => hk k (by revert k; decide)), cT_k hT (fun _ _ => rfl) (fun k hq => hk k (by revert k; decide)), cO_k hO (fun _ _ => rfl) (fun k hq => hk k (by revert k; decide)), cU_k hU (fun _ _ => rfl) (fun k hq => hk k (by revert k; decide)), cH_k hH (fun _ _ => rfl) (fun k hq => hk k (by revert k; decide))⟩
theorem RepC.off {A σ σ' : ST} {S : List Nat} (h : RepC A σ) (ho : Off S σ σ') (hs : ∀ k ∈ pCs, k ∉ S := by decide) : RepC A σ' := h.eq1 (fun k hk => (ho k (hs k hk)).1)
/-- the reference's object: kinds but 11, and fields of 11 -/
def OffM (S F : List Nat) (σ σ' : ST) : Prop := (∀ k, k ∉ S → k ≠ 11 → σ'.1 k = σ.1 k ∧ σ'.2 k = σ.2 k) ∧ ∀ f, f ∉ F → σ'.1 11 0 f = σ.1 11 0 f
theorem OffM.rf {S F : List Nat} {σ : ST} : OffM S F σ σ := ⟨fun _ _ _ => ⟨rfl, rfl⟩, fun _ _ => rfl⟩
theorem OffM.tr {S F : List Nat} {σ σ1 σ2 : ST} (h1 : OffM S F σ σ1) (h2 : OffM S F σ1 σ2) : OffM S F σ σ2 := ⟨fun k hk h => ⟨(h2.1 k hk h).1.trans (h1.1 k hk h).1, (h2.1 k hk h).2.trans (h1.1 k hk h).2⟩, fun f hf => (h2.2 f hf).trans (h1.2 f hf)⟩
theorem OffM.mono {S S' F F' : List Nat} {σ σ' : ST} (h : OffM S F σ σ') (hs : ∀ k ∈ S, k ∈ S') (hf : ∀ k ∈ F, k ∈ F') : OffM S' F' σ σ' := ⟨fun k hk q => h.1 k (fun z => hk (hs k z)) q, fun f hq => h.2 f (fun z => hq (hf f z))⟩
theorem OffM.sI {S F : List Nat} {σ σ1 : ST} {k i f : Nat} {v : Int32} (h : OffM S F σ σ1) (hk : k ∈ S) (h11 : k ≠ 11) : OffM S F σ (setI σ1 k i f v) := by
  refine ⟨fun a ha hne => ⟨?_, (h.1 a ha hne).2⟩, fun g hg => ?_⟩
  · have hn : a ≠ k := fun q => ha (q ▸ hk)
    rw [← (h.1 a ha hne).1]
    funext b c
    exact setI_ne σ1 k i f v (fun q => hn q.1)
  · rw [← h.2 g hg]
    exact setI_ne σ1 k i f v (fun q => h11 q.1.symm)
theorem OffM.sF {S F : List Nat} {σ σ1 : ST} {f : Nat} {v : Int32} (h : OffM S F σ σ1) (hf : f ∈ F) : OffM S F σ (setI σ1 11 0 f v) := by
  refine ⟨fun a ha hne => ⟨?_, (h.1 a ha hne).2⟩, fun g hg => ?_⟩
  · rw [← (h.1 a ha hne).1]
    funext b c
    exact setI_ne σ1 11 0 f v (fun q => hne q.1)
  · rw [← h.2 g hg]
    exact setI_ne σ1 11 0 f v (fun q => hg (q.2.2 ▸ hf))
theorem OffM.sJ {S F : List Nat} {σ σ1 : ST} {k i f : Nat} {v : Int64} (h : OffM S F σ σ1) (hk : k ∈ S ∨ k = 11) : OffM S F σ (setJ σ1 k i f v) := by
  refine ⟨fun a ha hne => ⟨(h.1 a ha hne).1, ?_⟩, fun g hg => h.2 g hg⟩
  have hn : a ≠ k := by
    rintro rfl
    rcases hk with hk | hk
    · exact ha hk
    · exact hne hk
  rw [← (h.1 a ha hne).2]
  funext b c
  exact setJ_ne σ1 k i f v (fun q => hn q.1)
abbrev pMs : List Nat := [42, 43, 44, 46, 49, 50, 51, 52, 53, 54, 60]
theorem RepM.eq1 {A σ σ' : ST} (h : RepM A σ) (hk : ∀ k ∈ pMs, σ'.1 k = σ.1 k) (hf : ∀ f ∈ [4, 6, 11, 29], σ'.1 11 0 f = σ.1 11 0 f) : RepM A σ' := by
  obtain ⟨hB, hP, hK, hS, hT, hO, hU, hH⟩ := h
  exact ⟨mB_k hB (fun _ _ => rfl) (fun k hq => hk k (by revert k; decide)) (fun f hq => hf f (by revert f; decide)), mP_k hP (fun _ _ => rfl) (fun k hq => hk k (by revert k; decide)) (fun f hq => hf f (by revert f; decide)), mK_k hK (fun _ _ => rfl) (fun k hq => hk k (by revert k; decide)) (fun f hq => hf f (by revert f; decide)), mS_k hS (fun _ _ => rfl) (fun k hq => hk k (by revert k; decide)) (fun f hq => hf f (by revert f; decide)), mT_k hT (fun _ _ => rfl) (fun k hq => hk k (by revert k; decide)) (fun f hq => hf f (by revert f; decide)), mO_k hO (fun _ _ => rfl) (fun k hq => hk k (by revert k; decide)) (fun f hq => hf f (by revert f; decide)), mU_k hU (fun _ _ => rfl) (fun k hq => hk k (by revert k; decide)) (fun f hq => hf f (by revert f; decide)), mH_k hH (fun _ _ => rfl) (fun k hq => hk k (by revert k; decide)) (fun f hq => hf f (by revert f; decide))⟩
theorem RepM.off {A σ σ' : ST} {S F : List Nat} (h : RepM A σ) (ho : OffM S F σ σ') (hs : ∀ k ∈ pMs, k ∉ S ∧ k ≠ 11 := by decide) (hf : ∀ f ∈ [4, 6, 11, 29], f ∉ F := by decide) : RepM A σ' :=
  h.eq1 (fun k hk => (ho.1 k (hs k hk).1 (hs k hk).2).1) (fun f hq => ho.2 f (hf f hq))
/-- a call of the class leaves the reference's cells; a call of the reference leaves the class's -/
def AgM (σ σ' : ST) : Prop := ∀ k, (k = 11 ∨ 42 ≤ k) → σ'.1 k = σ.1 k ∧ σ'.2 k = σ.2 k
def AgC (σ σ' : ST) : Prop := ∀ k, (k ≠ 11 ∧ k < 42) → σ'.1 k = σ.1 k ∧ σ'.2 k = σ.2 k
theorem AgM.off {S : List Nat} {σ σ' : ST} (h : Off S σ σ') (hs : ∀ k ∈ S, k ≠ 11 ∧ k < 42 := by decide) : AgM σ σ' := fun k hk => h k (fun q => by have := hs k q; omega)
theorem AgC.off {S F : List Nat} {σ σ' : ST} (h : OffM S F σ σ') (hs : ∀ k ∈ S, 42 ≤ k := by decide) : AgC σ σ' := fun k hk => h.1 k (fun q => by have := hs k q; omega) hk.1
theorem RepM.ag {A σ σ' : ST} (h : RepM A σ) (ha : AgM σ σ') : RepM A σ' := h.eq1 (fun k hk => (ha k (by revert k; decide)).1) (fun f _ => by rw [(ha 11 (Or.inl rfl)).1])
theorem RepC.ag {A σ σ' : ST} (h : RepC A σ) (ha : AgC σ σ') : RepC A σ' := h.eq1 (fun k hk => (ha k (by revert k; decide)).1)
theorem Wf.putB {A A' : ST} (h : Wf A) (hA : ∀ k, k ∉ ([0, 1] : List Nat) → A'.1 k = A.1 k) (hX : wB A') : Wf A' := by
  obtain ⟨hB, hP, hK, hS, hT, hO, hU, hH⟩ := h
  exact ⟨hX, wP_k hP (fun k hk => hA k (by revert k; decide)), wK_k hK (fun k hk => hA k (by revert k; decide)), wS_k hS (fun k hk => hA k (by revert k; decide)), wT_k hT (fun k hk => hA k (by revert k; decide)), wO_k hO (fun k hk => hA k (by revert k; decide)), wU_k hU (fun k hk => hA k (by revert k; decide)), wH_k hH (fun k hk => hA k (by revert k; decide))⟩
theorem RepC.putB {A A' σ σ' : ST} {S : List Nat} (h : RepC A σ) (hA : ∀ k, k ∉ ([0, 1] : List Nat) → A'.1 k = A.1 k) (ho : Off S σ σ') (hX : cB A' σ') (hs : ∀ k ∈ pCs, k ∉ ([1, 12, 13, 14] : List Nat) → k ∉ S := by decide) : RepC A' σ' := by
  obtain ⟨hB, hP, hK, hS, hT, hO, hU, hH⟩ := h
  exact ⟨hX, cP_k hP (fun k hk => hA k (by revert k; decide)) (fun k hk => (ho k (hs k (by revert k; decide) (by revert k; decide))).1), cK_k hK (fun k hk => hA k (by revert k; decide)) (fun k hk => (ho k (hs k (by revert k; decide) (by revert k; decide))).1), cS_k hS (fun k hk => hA k (by revert k; decide)) (fun k hk => (ho k (hs k (by revert k; decide) (by revert k; decide))).1), cT_k hT (fun k hk => hA k (by revert k; decide)) (fun k hk => (ho k (hs k (by revert k; decide) (by revert k; decide))).1), cO_k hO (fun k hk => hA k (by revert k; decide)) (fun k hk => (ho k (hs k (by revert k; decide) (by revert k; decide))).1), cU_k hU (fun k hk => hA k (by revert k; decide)) (fun k hk => (ho k (hs k (by revert k; decide) (by revert k; decide))).1), cH_k hH (fun k hk => hA k (by revert k; decide)) (fun k hk => (ho k (hs k (by revert k; decide) (by revert k; decide))).1)⟩
theorem RepM.putB {A A' σ σ' : ST} {S F : List Nat} (h : RepM A σ) (hA : ∀ k, k ∉ ([0, 1] : List Nat) → A'.1 k = A.1 k) (ho : OffM S F σ σ') (hX : mB A' σ') (hs : ∀ k ∈ pMs, k ∉ ([46] : List Nat) → k ∉ S ∧ k ≠ 11 := by decide) (hf : ∀ f ∈ [4, 6, 11, 29], f ∉ ([6] : List Nat) → f ∉ F := by decide) : RepM A' σ' := by
  obtain ⟨hB, hP, hK, hS, hT, hO, hU, hH⟩ := h
  exact ⟨hX, mP_k hP (fun k hk => hA k (by revert k; decide)) (fun k hk => (ho.1 k (hs k (by revert k; decide) (by revert k; decide)).1 (hs k (by revert k; decide) (by revert k; decide)).2).1) (fun f hq => ho.2 f (hf f (by revert f; decide) (by revert f; decide))), mK_k hK (fun k hk => hA k (by revert k; decide)) (fun k hk => (ho.1 k (hs k (by revert k; decide) (by revert k; decide)).1 (hs k (by revert k; decide) (by revert k; decide)).2).1) (fun f hq => ho.2 f (hf f (by revert f; decide) (by revert f; decide))), mS_k hS (fun k hk => hA k (by revert k; decide)) (fun k hk => (ho.1 k (hs k (by revert k; decide) (by revert k; decide)).1 (hs k (by revert k; decide) (by revert k; decide)).2).1) (fun f hq => ho.2 f (hf f (by revert f; decide) (by revert f; decide))), mT_k hT (fun k hk => hA k (by revert k; decide)) (fun k hk => (ho.1 k (hs k (by revert k; decide) (by revert k; decide)).1 (hs k (by revert k; decide) (by revert k; decide)).2).1) (fun f hq => ho.2 f (hf f (by revert f; decide) (by revert f; decide))), mO_k hO (fun k hk => hA k (by revert k; decide)) (fun k hk => (ho.1 k (hs k (by revert k; decide) (by revert k; decide)).1 (hs k (by revert k; decide) (by revert k; decide)).2).1) (fun f hq => ho.2 f (hf f (by revert f; decide) (by revert f; decide))), mU_k hU (fun k hk => hA k (by revert k; decide)) (fun k hk => (ho.1 k (hs k (by revert k; decide) (by revert k; decide)).1 (hs k (by revert k; decide) (by revert k; decide)).2).1) (fun f hq => ho.2 f (hf f (by revert f; decide) (by revert f; decide))), mH_k hH (fun k hk => hA k (by revert k; decide)) (fun k hk => (ho.1 k (hs k (by revert k; decide) (by revert k; decide)).1 (hs k (by revert k; decide) (by revert k; decide)).2).1) (fun f hq => ho.2 f (hf f (by revert f; decide) (by revert f; decide)))⟩
theorem Wf.putP {A A' : ST} (h : Wf A) (hA : ∀ k, k ∉ ([2] : List Nat) → A'.1 k = A.1 k) (hX : wP A') : Wf A' := by
  obtain ⟨hB, hP, hK, hS, hT, hO, hU, hH⟩ := h
  exact ⟨wB_k hB (fun k hk => hA k (by revert k; decide)), hX, wK_k hK (fun k hk => hA k (by revert k; decide)), wS_k hS (fun k hk => hA k (by revert k; decide)), wT_k hT (fun k hk => hA k (by revert k; decide)), wO_k hO (fun k hk => hA k (by revert k; decide)), wU_k hU (fun k hk => hA k (by revert k; decide)), wH_k hH (fun k hk => hA k (by revert k; decide))⟩
theorem RepC.putP {A A' σ σ' : ST} {S : List Nat} (h : RepC A σ) (hA : ∀ k, k ∉ ([2] : List Nat) → A'.1 k = A.1 k) (ho : Off S σ σ') (hX : cP A' σ') (hs : ∀ k ∈ pCs, k ∉ ([17] : List Nat) → k ∉ S := by decide) : RepC A' σ' := by
  obtain ⟨hB, hP, hK, hS, hT, hO, hU, hH⟩ := h
  exact ⟨cB_k hB (fun k hk => hA k (by revert k; decide)) (fun k hk => (ho k (hs k (by revert k; decide) (by revert k; decide))).1), hX, cK_k hK (fun k hk => hA k (by revert k; decide)) (fun k hk => (ho k (hs k (by revert k; decide) (by revert k; decide))).1), cS_k hS (fun k hk => hA k (by revert k; decide)) (fun k hk => (ho k (hs k (by revert k; decide) (by revert k; decide))).1), cT_k hT (fun k hk => hA k (by revert k; decide)) (fun k hk => (ho k (hs k (by revert k; decide) (by revert k; decide))).1), cO_k hO (fun k hk => hA k (by revert k; decide)) (fun k hk => (ho k (hs k (by revert k; decide) (by revert k; decide))).1), cU_k hU (fun k hk => hA k (by revert k; decide)) (fun k hk => (ho k (hs k (by revert k; decide) (by revert k; decide))).1), cH_k hH (fun k hk => hA k (by revert k; decide)) (fun k hk => (ho k (hs k (by revert k; decide) (by revert k; decide))).1)⟩
theorem RepM.putP {A A' σ σ' : ST} {S F : List Nat} (h : RepM A σ) (hA : ∀ k, k ∉ ([2] : List Nat) → A'.1 k = A.1 k) (ho : OffM S F σ σ') (hX : mP A' σ') (hs : ∀ k ∈ pMs, k ∉ ([49] : List Nat) → k ∉ S ∧ k ≠ 11 := by decide) (hf : ∀ f ∈ [4, 6, 11, 29], f ∉ ([] : List Nat) → f ∉ F := by decide) : RepM A' σ' := by
  obtain ⟨hB, hP, hK, hS, hT, hO, hU, hH⟩ := h
  exact ⟨mB_k hB (fun k hk => hA k (by revert k; decide)) (fun k hk => (ho.1 k (hs k (by revert k; decide) (by revert k; decide)).1 (hs k (by revert k; decide) (by revert k; decide)).2).1) (fun f hq => ho.2 f (hf f (by revert f; decide) (by revert f; decide))), hX, mK_k hK (fun k hk => hA k (by revert k; decide)) (fun k hk => (ho.1 k (hs k (by revert k; decide) (by revert k; decide)).1 (hs k (by revert k; decide) (by revert k; decide)).2).1) (fun f hq => ho.2 f (hf f (by revert f; decide) (by revert f; decide))), mS_k hS (fun k hk => hA k (by revert k; decide)) (fun k hk => (ho.1 k (hs k (by revert k; decide) (by revert k; decide)).1 (hs k (by revert k; decide) (by revert k; decide)).2).1) (fun f hq => ho.2 f (hf f (by revert f; decide) (by revert f; decide))), mT_k hT (fun k hk => hA k (by revert k; decide)) (fun k hk => (ho.1 k (hs k (by revert k; decide) (by revert k; decide)).1 (hs k (by revert k; decide) (by revert k; decide)).2).1) (fun f hq => ho.2 f (hf f (by revert f; decide) (by revert f; decide))), mO_k hO (fun k hk => hA k (by revert k; decide)) (fun k hk => (ho.1 k (hs k (by revert k; decide) (by revert k; decide)).1 (hs k (by revert k; decide) (by revert k; decide)).2).1) (fun f hq => ho.2 f (hf f (by revert f; decide) (by revert f; decide))), mU_k hU (fun k hk => hA k (by revert k; decide)) (fun k hk => (ho.1 k (hs k (by revert k; decide) (by revert k; decide)).1 (hs k (by revert k; decide) (by revert k; decide)).2).1) (fun f hq => ho.2 f (hf f (by revert f; decide) (by revert f; decide))), mH_k hH (fun k hk => hA k (by revert k; decide)) (fun k hk => (ho.1 k (hs k (by revert k; decide) (by revert k; decide)).1 (hs k (by revert k; decide) (by revert k; decide)).2).1) (fun f hq => ho.2 f (hf f (by revert f; decide) (by revert f; decide)))⟩
theorem Wf.putK {A A' : ST} (h : Wf A) (hA : ∀ k, k ∉ ([3] : List Nat) → A'.1 k = A.1 k) (hX : wK A') : Wf A' := by
  obtain ⟨hB, hP, hK, hS, hT, hO, hU, hH⟩ := h
  exact ⟨wB_k hB (fun k hk => hA k (by revert k; decide)), wP_k hP (fun k hk => hA k (by revert k; decide)), hX, wS_k hS (fun k hk => hA k (by revert k; decide)), wT_k hT (fun k hk => hA k (by revert k; decide)), wO_k hO (fun k hk => hA k (by revert k; decide)), wU_k hU (fun k hk => hA k (by revert k; decide)), wH_k hH (fun k hk => hA k (by revert k; decide))⟩
theorem RepC.putK {A A' σ σ' : ST} {S : List Nat} (h : RepC A σ) (hA : ∀ k, k ∉ ([3] : List Nat) → A'.1 k = A.1 k) (ho : Off S σ σ') (hX : cK A' σ') (hs : ∀ k ∈ pCs, k ∉ ([18] : List Nat) → k ∉ S := by decide) : RepC A' σ' := by
  obtain ⟨hB, hP, hK, hS, hT, hO, hU, hH⟩ := h
  exact ⟨cB_k hB (fun k hk => hA k (by revert k; decide)) (fun k hk => (ho k (hs k (by revert k; decide) (by revert k; decide))).1), cP_k hP (fun k hk => hA k (by revert k; decide)) (fun k hk => (ho k (hs k (by revert k; decide) (by revert k; decide))).1), hX, cS_k hS (fun k hk => hA k (by revert k; decide)) (fun k hk => (ho k (hs k (by revert k; decide) (by revert k; decide))).1), cT_k hT (fun k hk => hA k (by revert k; decide)) (fun k hk => (ho k (hs k (by revert k; decide) (by revert k; decide))).1), cO_k hO (fun k hk => hA k (by revert k; decide)) (fun k hk => (ho k (hs k (by revert k; decide) (by revert k; decide))).1), cU_k hU (fun k hk => hA k (by revert k; decide)) (fun k hk => (ho k (hs k (by revert k; decide) (by revert k; decide))).1), cH_k hH (fun k hk => hA k (by revert k; decide)) (fun k hk => (ho k (hs k (by revert k; decide) (by revert k; decide))).1)⟩
theorem RepM.putK {A A' σ σ' : ST} {S F : List Nat} (h : RepM A σ) (hA : ∀ k, k ∉ ([3] : List Nat) → A'.1 k = A.1 k) (ho : OffM S F σ σ') (hX : mK A' σ') (hs : ∀ k ∈ pMs, k ∉ ([50] : List Nat) → k ∉ S ∧ k ≠ 11 := by decide) (hf : ∀ f ∈ [4, 6, 11, 29], f ∉ ([] : List Nat) → f ∉ F := by decide) : RepM A' σ' := by
  obtain ⟨hB, hP, hK, hS, hT, hO, hU, hH⟩ := h
  exact ⟨mB_k hB (fun k hk => hA k (by revert k; decide)) (fun k hk => (ho.1 k (hs k (by revert k; decide) (by revert k; decide)).1 (hs k (by revert k; decide) (by revert k; decide)).2).1) (fun f hq => ho.2 f (hf f (by revert f; decide) (by revert f; decide))), mP_k hP (fun k hk => hA k (by revert k; decide)) (fun k hk => (ho.1 k (hs k (by revert k; decide) (by revert k; decide)).1 (hs k (by revert k; decide) (by revert k; decide)).2).1) (fun f hq => ho.2 f (hf f (by revert f; decide) (by revert f; decide))), hX, mS_k hS (fun k hk => hA k (by revert k; decide)) (fun k hk => (ho.1 k (hs k (by revert k; decide) (by revert k; decide)).1 (hs k (by revert k; decide) (by revert k; decide)).2).1) (fun f hq => ho.2 f (hf f (by revert f; decide) (by revert f; decide))), mT_k hT (fun k hk => hA k (by revert k; decide)) (fun k hk => (ho.1 k (hs k (by revert k; decide) (by revert k; decide)).1 (hs k (by revert k; decide) (by revert k; decide)).2).1) (fun f hq => ho.2 f (hf f (by revert f; decide) (by revert f; decide))), mO_k hO (fun k hk => hA k (by revert k; decide)) (fun k hk => (ho.1 k (hs k (by revert k; decide) (by revert k; decide)).1 (hs k (by revert k; decide) (by revert k; decide)).2).1) (fun f hq => ho.2 f (hf f (by revert f; decide) (by revert f; decide))), mU_k hU (fun k hk => hA k (by revert k; decide)) (fun k hk => (ho.1 k (hs k (by revert k; decide) (by revert k; decide)).1 (hs k (by revert k; decide) (by revert k; decide)).2).1) (fun f hq => ho.2 f (hf f (by revert f; decide) (by revert f; decide))), mH_k hH (fun k hk => hA k (by revert k; decide)) (fun k hk => (ho.1 k (hs k (by revert k; decide) (by revert k; decide)).1 (hs k (by revert k; decide) (by revert k; decide)).2).1) (fun f hq => ho.2 f (hf f (by revert f; decide) (by revert f; decide)))⟩
theorem Wf.putS {A A' : ST} (h : Wf A) (hA : ∀ k, k ∉ ([4] : List Nat) → A'.1 k = A.1 k) (hX : wS A') : Wf A' := by
  obtain ⟨hB, hP, hK, hS, hT, hO, hU, hH⟩ := h
  exact ⟨wB_k hB (fun k hk => hA k (by revert k; decide)), wP_k hP (fun k hk => hA k (by revert k; decide)), wK_k hK (fun k hk => hA k (by revert k; decide)), hX, wT_k hT (fun k hk => hA k (by revert k; decide)), wO_k hO (fun k hk => hA k (by revert k; decide)), wU_k hU (fun k hk => hA k (by revert k; decide)), wH_k hH (fun k hk => hA k (by revert k; decide))⟩
theorem RepC.putS {A A' σ σ' : ST} {S : List Nat} (h : RepC A σ) (hA : ∀ k, k ∉ ([4] : List Nat) → A'.1 k = A.1 k) (ho : Off S σ σ') (hX : cS A' σ') (hs : ∀ k ∈ pCs, k ∉ ([16] : List Nat) → k ∉ S := by decide) : RepC A' σ' := by
  obtain ⟨hB, hP, hK, hS, hT, hO, hU, hH⟩ := h
  exact ⟨cB_k hB (fun k hk => hA k (by revert k; decide)) (fun k hk => (ho k (hs k (by revert k; decide) (by revert k; decide))).1), cP_k hP (fun k hk => hA k (by revert k; decide)) (fun k hk => (ho k (hs k (by revert k; decide) (by revert k; decide))).1), cK_k hK (fun k hk => hA k (by revert k; decide)) (fun k hk => (ho k (hs k (by revert k; decide) (by revert k; decide))).1), hX, cT_k hT (fun k hk => hA k (by revert k; decide)) (fun k hk => (ho k (hs k (by revert k; decide) (by revert k; decide))).1), cO_k hO (fun k hk => hA k (by revert k; decide)) (fun k hk => (ho k (hs k (by revert k; decide) (by revert k; decide))).1), cU_k hU (fun k hk => hA k (by revert k; decide)) (fun k hk => (ho k (hs k (by revert k; decide) (by revert k; decide))).1), cH_k hH (fun k hk => hA k (by revert k; decide)) (fun k hk => (ho k (hs k (by revert k; decide) (by revert k; decide))).1)⟩
theorem RepM.putS {A A' σ σ' : ST} {S F : List Nat} (h : RepM A σ) (hA : ∀ k, k ∉ ([4] : List Nat) → A'.1 k = A.1 k) (ho : OffM S F σ σ') (hX : mS A' σ') (hs : ∀ k ∈ pMs, k ∉ ([] : List Nat) → k ∉ S ∧ k ≠ 11 := by decide) (hf : ∀ f ∈ [4, 6, 11, 29], f ∉ ([11] : List Nat) → f ∉ F := by decide) : RepM A' σ' := by
  obtain ⟨hB, hP, hK, hS, hT, hO, hU, hH⟩ := h
  exact ⟨mB_k hB (fun k hk => hA k (by revert k; decide)) (fun k hk => (ho.1 k (hs k (by revert k; decide) (by revert k; decide)).1 (hs k (by revert k; decide) (by revert k; decide)).2).1) (fun f hq => ho.2 f (hf f (by revert f; decide) (by revert f; decide))), mP_k hP (fun k hk => hA k (by revert k; decide)) (fun k hk => (ho.1 k (hs k (by revert k; decide) (by revert k; decide)).1 (hs k (by revert k; decide) (by revert k; decide)).2).1) (fun f hq => ho.2 f (hf f (by revert f; decide) (by revert f; decide))), mK_k hK (fun k hk => hA k (by revert k; decide)) (fun k hk => (ho.1 k (hs k (by revert k; decide) (by revert k; decide)).1 (hs k (by revert k; decide) (by revert k; decide)).2).1) (fun f hq => ho.2 f (hf f (by revert f; decide) (by revert f; decide))), hX, mT_k hT (fun k hk => hA k (by revert k; decide)) (fun k hk => (ho.1 k (hs k (by revert k; decide) (by revert k; decide)).1 (hs k (by revert k; decide) (by revert k; decide)).2).1) (fun f hq => ho.2 f (hf f (by revert f; decide) (by revert f; decide))), mO_k hO (fun k hk => hA k (by revert k; decide)) (fun k hk => (ho.1 k (hs k (by revert k; decide) (by revert k; decide)).1 (hs k (by revert k; decide) (by revert k; decide)).2).1) (fun f hq => ho.2 f (hf f (by revert f; decide) (by revert f; decide))), mU_k hU (fun k hk => hA k (by revert k; decide)) (fun k hk => (ho.1 k (hs k (by revert k; decide) (by revert k; decide)).1 (hs k (by revert k; decide) (by revert k; decide)).2).1) (fun f hq => ho.2 f (hf f (by revert f; decide) (by revert f; decide))), mH_k hH (fun k hk => hA k (by revert k; decide)) (fun k hk => (ho.1 k (hs k (by revert k; decide) (by revert k; decide)).1 (hs k (by revert k; decide) (by revert k; decide)).2).1) (fun f hq => ho.2 f (hf f (by revert f; decide) (by revert f; decide)))⟩
theorem Wf.putT {A A' : ST} (h : Wf A) (hA : ∀ k, k ∉ ([5] : List Nat) → A'.1 k = A.1 k) (hX : wT A') : Wf A' := by
  obtain ⟨hB, hP, hK, hS, hT, hO, hU, hH⟩ := h
  exact ⟨wB_k hB (fun k hk => hA k (by revert k; decide)), wP_k hP (fun k hk => hA k (by revert k; decide)), wK_k hK (fun k hk => hA k (by revert k; decide)), wS_k hS (fun k hk => hA k (by revert k; decide)), hX, wO_k hO (fun k hk => hA k (by revert k; decide)), wU_k hU (fun k hk => hA k (by revert k; decide)), wH_k hH (fun k hk => hA k (by revert k; decide))⟩
theorem RepC.putT {A A' σ σ' : ST} {S : List Nat} (h : RepC A σ) (hA : ∀ k, k ∉ ([5] : List Nat) → A'.1 k = A.1 k) (ho : Off S σ σ') (hX : cT A' σ') (hs : ∀ k ∈ pCs, k ∉ ([19] : List Nat) → k ∉ S := by decide) : RepC A' σ' := by
  obtain ⟨hB, hP, hK, hS, hT, hO, hU, hH⟩ := h
  exact ⟨cB_k hB (fun k hk => hA k (by revert k; decide)) (fun k hk => (ho k (hs k (by revert k; decide) (by revert k; decide))).1), cP_k hP (fun k hk => hA k (by revert k; decide)) (fun k hk => (ho k (hs k (by revert k; decide) (by revert k; decide))).1), cK_k hK (fun k hk => hA k (by revert k; decide)) (fun k hk => (ho k (hs k (by revert k; decide) (by revert k; decide))).1), cS_k hS (fun k hk => hA k (by revert k; decide)) (fun k hk => (ho k (hs k (by revert k; decide) (by revert k; decide))).1), hX, cO_k hO (fun k hk => hA k (by revert k; decide)) (fun k hk => (ho k (hs k (by revert k; decide) (by revert k; decide))).1), cU_k hU (fun k hk => hA k (by revert k; decide)) (fun k hk => (ho k (hs k (by revert k; decide) (by revert k; decide))).1), cH_k hH (fun k hk => hA k (by revert k; decide)) (fun k hk => (ho k (hs k (by revert k; decide) (by revert k; decide))).1)⟩
theorem RepM.putT {A A' σ σ' : ST} {S F : List Nat} (h : RepM A σ) (hA : ∀ k, k ∉ ([5] : List Nat) → A'.1 k = A.1 k) (ho : OffM S F σ σ') (hX : mT A' σ') (hs : ∀ k ∈ pMs, k ∉ ([51, 52, 53] : List Nat) → k ∉ S ∧ k ≠ 11 := by decide) (hf : ∀ f ∈ [4, 6, 11, 29], f ∉ ([] : List Nat) → f ∉ F := by decide) : RepM A' σ' := by
  obtain ⟨hB, hP, hK, hS, hT, hO, hU, hH⟩ := h
  exact ⟨mB_k hB (fun k hk => hA k (by revert k; decide)) (fun k hk => (ho.1 k (hs k (by revert k; decide) (by revert k; decide)).1 (hs k (by revert k; decide) (by revert k; decide)).2).1) (fun f hq => ho.2 f (hf f (by revert f; decide) (by revert f; decide))), mP_k hP (fun k hk => hA k (by revert k; decide)) (fun k hk => (ho.1 k (hs k (by revert k; decide) (by revert k; decide)).1 (hs k (by revert k; decide) (by revert k; decide)).2).1) (fun f hq => ho.2 f (hf f (by revert f; decide) (by revert f; decide))), mK_k hK (fun k hk => hA k (by revert k; decide)) (fun k hk => (ho.1 k (hs k (by revert k; decide) (by revert k; decide)).1 (hs k (by revert k; decide) (by revert k; decide)).2).1) (fun f hq => ho.2 f (hf f (by revert f; decide) (by revert f; decide))), mS_k hS (fun k hk => hA k (by revert k; decide)) (fun k hk => (ho.1 k (hs k (by revert k; decide) (by revert k; decide)).1 (hs k (by revert k; decide) (by revert k; decide)).2).1) (fun f hq => ho.2 f (hf f (by revert f; decide) (by revert f; decide))), hX, mO_k hO (fun k hk => hA k (by revert k; decide)) (fun k hk => (ho.1 k (hs k (by revert k; decide) (by revert k; decide)).1 (hs k (by revert k; decide) (by revert k; decide)).2).1) (fun f hq => ho.2 f (hf f (by revert f; decide) (by revert f; decide))), mU_k hU (fun k hk => hA k (by revert k; decide)) (fun k hk => (ho.1 k (hs k (by revert k; decide) (by revert k; decide)).1 (hs k (by revert k; decide) (by revert k; decide)).2).1) (fun f hq => ho.2 f (hf f (by revert f; decide) (by revert f; decide))), mH_k hH (fun k hk => hA k (by revert k; decide)) (fun k hk => (ho.1 k (hs k (by revert k; decide) (by revert k; decide)).1 (hs k (by revert k; decide) (by revert k; decide)).2).1) (fun f hq => ho.2 f (hf f (by revert f; decide) (by revert f; decide)))⟩
theorem Wf.putO {A A' : ST} (h : Wf A) (hA : ∀ k, k ∉ ([6, 11] : List Nat) → A'.1 k = A.1 k) (hX : wO A') : Wf A' := by
  obtain ⟨hB, hP, hK, hS, hT, hO, hU, hH⟩ := h
  exact ⟨wB_k hB (fun k hk => hA k (by revert k; decide)), wP_k hP (fun k hk => hA k (by revert k; decide)), wK_k hK (fun k hk => hA k (by revert k; decide)), wS_k hS (fun k hk => hA k (by revert k; decide)), wT_k hT (fun k hk => hA k (by revert k; decide)), hX, wU_k hU (fun k hk => hA k (by revert k; decide)), wH_k hH (fun k hk => hA k (by revert k; decide))⟩
theorem RepC.putO {A A' σ σ' : ST} {S : List Nat} (h : RepC A σ) (hA : ∀ k, k ∉ ([6, 11] : List Nat) → A'.1 k = A.1 k) (ho : Off S σ σ') (hX : cO A' σ') (hs : ∀ k ∈ pCs, k ∉ ([0] : List Nat) → k ∉ S := by decide) : RepC A' σ' := by
  obtain ⟨hB, hP, hK, hS, hT, hO, hU, hH⟩ := h
  exact ⟨cB_k hB (fun k hk => hA k (by revert k; decide)) (fun k hk => (ho k (hs k (by revert k; decide) (by revert k; decide))).1), cP_k hP (fun k hk => hA k (by revert k; decide)) (fun k hk => (ho k (hs k (by revert k; decide) (by revert k; decide))).1), cK_k hK (fun k hk => hA k (by revert k; decide)) (fun k hk => (ho k (hs k (by revert k; decide) (by revert k; decide))).1), cS_k hS (fun k hk => hA k (by revert k; decide)) (fun k hk => (ho k (hs k (by revert k; decide) (by revert k; decide))).1), cT_k hT (fun k hk => hA k (by revert k; decide)) (fun k hk => (ho k (hs k (by revert k; decide) (by revert k; decide))).1), hX, cU_k hU (fun k hk => hA k (by revert k; decide)) (fun k hk => (ho k (hs k (by revert k; decide) (by revert k; decide))).1), cH_k hH (fun k hk => hA k (by revert k; decide)) (fun k hk => (ho k (hs k (by revert k; decide) (by revert k; decide))).1)⟩
theorem RepM.putO {A A' σ σ' : ST} {S F : List Nat} (h : RepM A σ) (hA : ∀ k, k ∉ ([6, 11] : List Nat) → A'.1 k = A.1 k) (ho : OffM S F σ σ') (hX : mO A' σ') (hs : ∀ k ∈ pMs, k ∉ ([54] : List Nat) → k ∉ S ∧ k ≠ 11 := by decide) (hf : ∀ f ∈ [4, 6, 11, 29], f ∉ ([4] : List Nat) → f ∉ F := by decide) : RepM A' σ' := by
  obtain ⟨hB, hP, hK, hS, hT, hO, hU, hH⟩ := h
  exact ⟨mB_k hB (fun k hk => hA k (by revert k; decide)) (fun k hk => (ho.1 k (hs k (by revert k; decide) (by revert k; decide)).1 (hs k (by revert k; decide) (by revert k; decide)).2).1) (fun f hq => ho.2 f (hf f (by revert f; decide) (by revert f; decide))), mP_k hP (fun k hk => hA k (by revert k; decide)) (fun k hk => (ho.1 k (hs k (by revert k; decide) (by revert k; decide)).1 (hs k (by revert k; decide) (by revert k; decide)).2).1) (fun f hq => ho.2 f (hf f (by revert f; decide) (by revert f; decide))), mK_k hK (fun k hk => hA k (by revert k; decide)) (fun k hk => (ho.1 k (hs k (by revert k; decide) (by revert k; decide)).1 (hs k (by revert k; decide) (by revert k; decide)).2).1) (fun f hq => ho.2 f (hf f (by revert f; decide) (by revert f; decide))), mS_k hS (fun k hk => hA k (by revert k; decide)) (fun k hk => (ho.1 k (hs k (by revert k; decide) (by revert k; decide)).1 (hs k (by revert k; decide) (by revert k; decide)).2).1) (fun f hq => ho.2 f (hf f (by revert f; decide) (by revert f; decide))), mT_k hT (fun k hk => hA k (by revert k; decide)) (fun k hk => (ho.1 k (hs k (by revert k; decide) (by revert k; decide)).1 (hs k (by revert k; decide) (by revert k; decide)).2).1) (fun f hq => ho.2 f (hf f (by revert f; decide) (by revert f; decide))), hX, mU_k hU (fun k hk => hA k (by revert k; decide)) (fun k hk => (ho.1 k (hs k (by revert k; decide) (by revert k; decide)).1 (hs k (by revert k; decide) (by revert k; decide)).2).1) (fun f hq => ho.2 f (hf f (by revert f; decide) (by revert f; decide))), mH_k hH (fun k hk => hA k (by revert k; decide)) (fun k hk => (ho.1 k (hs k (by revert k; decide) (by revert k; decide)).1 (hs k (by revert k; decide) (by revert k; decide)).2).1) (fun f hq => ho.2 f (hf f (by revert f; decide) (by revert f; decide)))⟩
theorem Wf.putU {A A' : ST} (h : Wf A) (hA : ∀ k, k ∉ ([7, 8] : List Nat) → A'.1 k = A.1 k) (hX : wU A') : Wf A' := by
  obtain ⟨hB, hP, hK, hS, hT, hO, hU, hH⟩ := h
  exact ⟨wB_k hB (fun k hk => hA k (by revert k; decide)), wP_k hP (fun k hk => hA k (by revert k; decide)), wK_k hK (fun k hk => hA k (by revert k; decide)), wS_k hS (fun k hk => hA k (by revert k; decide)), wT_k hT (fun k hk => hA k (by revert k; decide)), wO_k hO (fun k hk => hA k (by revert k; decide)), hX, wH_k hH (fun k hk => hA k (by revert k; decide))⟩
theorem RepC.putU {A A' σ σ' : ST} {S : List Nat} (h : RepC A σ) (hA : ∀ k, k ∉ ([7, 8] : List Nat) → A'.1 k = A.1 k) (ho : Off S σ σ') (hX : cU A' σ') (hs : ∀ k ∈ pCs, k ∉ ([8, 32, 33, 34] : List Nat) → k ∉ S := by decide) : RepC A' σ' := by
  obtain ⟨hB, hP, hK, hS, hT, hO, hU, hH⟩ := h
  exact ⟨cB_k hB (fun k hk => hA k (by revert k; decide)) (fun k hk => (ho k (hs k (by revert k; decide) (by revert k; decide))).1), cP_k hP (fun k hk => hA k (by revert k; decide)) (fun k hk => (ho k (hs k (by revert k; decide) (by revert k; decide))).1), cK_k hK (fun k hk => hA k (by revert k; decide)) (fun k hk => (ho k (hs k (by revert k; decide) (by revert k; decide))).1), cS_k hS (fun k hk => hA k (by revert k; decide)) (fun k hk => (ho k (hs k (by revert k; decide) (by revert k; decide))).1), cT_k hT (fun k hk => hA k (by revert k; decide)) (fun k hk => (ho k (hs k (by revert k; decide) (by revert k; decide))).1), cO_k hO (fun k hk => hA k (by revert k; decide)) (fun k hk => (ho k (hs k (by revert k; decide) (by revert k; decide))).1), hX, cH_k hH (fun k hk => hA k (by revert k; decide)) (fun k hk => (ho k (hs k (by revert k; decide) (by revert k; decide))).1)⟩
theorem RepM.putU {A A' σ σ' : ST} {S F : List Nat} (h : RepM A σ) (hA : ∀ k, k ∉ ([7, 8] : List Nat) → A'.1 k = A.1 k) (ho : OffM S F σ σ') (hX : mU A' σ') (hs : ∀ k ∈ pMs, k ∉ ([60] : List Nat) → k ∉ S ∧ k ≠ 11 := by decide) (hf : ∀ f ∈ [4, 6, 11, 29], f ∉ ([29] : List Nat) → f ∉ F := by decide) : RepM A' σ' := by
  obtain ⟨hB, hP, hK, hS, hT, hO, hU, hH⟩ := h
  exact ⟨mB_k hB (fun k hk => hA k (by revert k; decide)) (fun k hk => (ho.1 k (hs k (by revert k; decide) (by revert k; decide)).1 (hs k (by revert k; decide) (by revert k; decide)).2).1) (fun f hq => ho.2 f (hf f (by revert f; decide) (by revert f; decide))), mP_k hP (fun k hk => hA k (by revert k; decide)) (fun k hk => (ho.1 k (hs k (by revert k; decide) (by revert k; decide)).1 (hs k (by revert k; decide) (by revert k; decide)).2).1) (fun f hq => ho.2 f (hf f (by revert f; decide) (by revert f; decide))), mK_k hK (fun k hk => hA k (by revert k; decide)) (fun k hk => (ho.1 k (hs k (by revert k; decide) (by revert k; decide)).1 (hs k (by revert k; decide) (by revert k; decide)).2).1) (fun f hq => ho.2 f (hf f (by revert f; decide) (by revert f; decide))), mS_k hS (fun k hk => hA k (by revert k; decide)) (fun k hk => (ho.1 k (hs k (by revert k; decide) (by revert k; decide)).1 (hs k (by revert k; decide) (by revert k; decide)).2).1) (fun f hq => ho.2 f (hf f (by revert f; decide) (by revert f; decide))), mT_k hT (fun k hk => hA k (by revert k; decide)) (fun k hk => (ho.1 k (hs k (by revert k; decide) (by revert k; decide)).1 (hs k (by revert k; decide) (by revert k; decide)).2).1) (fun f hq => ho.2 f (hf f (by revert f; decide) (by revert f; decide))), mO_k hO (fun k hk => hA k (by revert k; decide)) (fun k hk => (ho.1 k (hs k (by revert k; decide) (by revert k; decide)).1 (hs k (by revert k; decide) (by revert k; decide)).2).1) (fun f hq => ho.2 f (hf f (by revert f; decide) (by revert f; decide))), hX, mH_k hH (fun k hk => hA k (by revert k; decide)) (fun k hk => (ho.1 k (hs k (by revert k; decide) (by revert k; decide)).1 (hs k (by revert k; decide) (by revert k; decide)).2).1) (fun f hq => ho.2 f (hf f (by revert f; decide) (by revert f; decide)))⟩
theorem Wf.putH {A A' : ST} (h : Wf A) (hA : ∀ k, k ∉ ([9, 10] : List Nat) → A'.1 k = A.1 k) (hX : wH A') : Wf A' := by
  obtain ⟨hB, hP, hK, hS, hT, hO, hU, hH⟩ := h
  exact ⟨wB_k hB (fun k hk => hA k (by revert k; decide)), wP_k hP (fun k hk => hA k (by revert k; decide)), wK_k hK (fun k hk => hA k (by revert k; decide)), wS_k hS (fun k hk => hA k (by revert k; decide)), wT_k hT (fun k hk => hA k (by revert k; decide)), wO_k hO (fun k hk => hA k (by revert k; decide)), wU_k hU (fun k hk => hA k (by revert k; decide)), hX⟩
theorem RepC.putH {A A' σ σ' : ST} {S : List Nat} (h : RepC A σ) (hA : ∀ k, k ∉ ([9, 10] : List Nat) → A'.1 k = A.1 k) (ho : Off S σ σ') (hX : cH A' σ') (hs : ∀ k ∈ pCs, k ∉ ([10, 41] : List Nat) → k ∉ S := by decide) : RepC A' σ' := by
  obtain ⟨hB, hP, hK, hS, hT, hO, hU, hH⟩ := h
  exact ⟨cB_k hB (fun k hk => hA k (by revert k; decide)) (fun k hk => (ho k (hs k (by revert k; decide) (by revert k; decide))).1), cP_k hP (fun k hk => hA k (by revert k; decide)) (fun k hk => (ho k (hs k (by revert k; decide) (by revert k; decide))).1), cK_k hK (fun k hk => hA k (by revert k; decide)) (fun k hk => (ho k (hs k (by revert k; decide) (by revert k; decide))).1), cS_k hS (fun k hk => hA k (by revert k; decide)) (fun k hk => (ho k (hs k (by revert k; decide) (by revert k; decide))).1), cT_k hT (fun k hk => hA k (by revert k; decide)) (fun k hk => (ho k (hs k (by revert k; decide) (by revert k; decide))).1), cO_k hO (fun k hk => hA k (by revert k; decide)) (fun k hk => (ho k (hs k (by revert k; decide) (by revert k; decide))).1), cU_k hU (fun k hk => hA k (by revert k; decide)) (fun k hk => (ho k (hs k (by revert k; decide) (by revert k; decide))).1), hX⟩
theorem RepM.putH {A A' σ σ' : ST} {S F : List Nat} (h : RepM A σ) (hA : ∀ k, k ∉ ([9, 10] : List Nat) → A'.1 k = A.1 k) (ho : OffM S F σ σ') (hX : mH A' σ') (hs : ∀ k ∈ pMs, k ∉ ([42, 43, 44] : List Nat) → k ∉ S ∧ k ≠ 11 := by decide) (hf : ∀ f ∈ [4, 6, 11, 29], f ∉ ([] : List Nat) → f ∉ F := by decide) : RepM A' σ' := by
  obtain ⟨hB, hP, hK, hS, hT, hO, hU, hH⟩ := h
  exact ⟨mB_k hB (fun k hk => hA k (by revert k; decide)) (fun k hk => (ho.1 k (hs k (by revert k; decide) (by revert k; decide)).1 (hs k (by revert k; decide) (by revert k; decide)).2).1) (fun f hq => ho.2 f (hf f (by revert f; decide) (by revert f; decide))), mP_k hP (fun k hk => hA k (by revert k; decide)) (fun k hk => (ho.1 k (hs k (by revert k; decide) (by revert k; decide)).1 (hs k (by revert k; decide) (by revert k; decide)).2).1) (fun f hq => ho.2 f (hf f (by revert f; decide) (by revert f; decide))), mK_k hK (fun k hk => hA k (by revert k; decide)) (fun k hk => (ho.1 k (hs k (by revert k; decide) (by revert k; decide)).1 (hs k (by revert k; decide) (by revert k; decide)).2).1) (fun f hq => ho.2 f (hf f (by revert f; decide) (by revert f; decide))), mS_k hS (fun k hk => hA k (by revert k; decide)) (fun k hk => (ho.1 k (hs k (by revert k; decide) (by revert k; decide)).1 (hs k (by revert k; decide) (by revert k; decide)).2).1) (fun f hq => ho.2 f (hf f (by revert f; decide) (by revert f; decide))), mT_k hT (fun k hk => hA k (by revert k; decide)) (fun k hk => (ho.1 k (hs k (by revert k; decide) (by revert k; decide)).1 (hs k (by revert k; decide) (by revert k; decide)).2).1) (fun f hq => ho.2 f (hf f (by revert f; decide) (by revert f; decide))), mO_k hO (fun k hk => hA k (by revert k; decide)) (fun k hk => (ho.1 k (hs k (by revert k; decide) (by revert k; decide)).1 (hs k (by revert k; decide) (by revert k; decide)).2).1) (fun f hq => ho.2 f (hf f (by revert f; decide) (by revert f; decide))), mU_k hU (fun k hk => hA k (by revert k; decide)) (fun k hk => (ho.1 k (hs k (by revert k; decide) (by revert k; decide)).1 (hs k (by revert k; decide) (by revert k; decide)).2).1) (fun f hq => ho.2 f (hf f (by revert f; decide) (by revert f; decide))), hX⟩
