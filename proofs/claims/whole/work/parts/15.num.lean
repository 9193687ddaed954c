-- numbers
abbrev rg (a : Int32) (lo hi : Int) : Prop := lo ≤ a.toInt ∧ a.toInt ≤ hi
theorem wi {σ : ST} {a lo hi : Int32} (l h : Int) (hl : lo.toInt = l := by decide) (hh : hi.toInt = h := by decide) : fp_O_within σ a lo hi ↔ rg a l h := by
  unfold fp_O_within rg
  rw [Int32.not_lt, Int32.not_lt, Int32.le_iff_toInt_le, Int32.le_iff_toInt_le, hl, hh]
theorem mi {σ : ST} {a : Int32} {lo hi : Int64} (l h : Int) (hl : lo.toInt = l := by decide) (hh : hi.toInt = h := by decide) : fp_M_in σ (Int32.toInt64 a) lo hi ↔ rg a l h := by
  unfold fp_M_in rg
  rw [Int64.not_lt, Int64.not_lt, Int64.le_iff_toInt_le, Int64.le_iff_toInt_le, hl, hh, Int32.toInt_toInt64]
theorem rg_nI {a : Int32} {n : Nat} (h : rg a 0 n) : ∃ j : Nat, j ≤ n ∧ a = nI j := by
  refine ⟨a.toInt.toNat, by have := h.1; have := h.2; omega, ?_⟩
  apply Int32.toInt_inj.mp
  have h1 := h.1
  have h2 : a.toInt < 2 ^ 31 := Int32.toInt_lt a
  rw [nI_toInt (by omega)]
  omega
theorem nI_rg {j n : Nat} (h : j ≤ n) (hn : n < 2 ^ 31) : rg (nI j) 0 n := by
  unfold rg
  rw [nI_toInt (by omega)]
  omega
theorem nI_rg' {j : Nat} {lo hi : Int} (h : lo ≤ (j : Int)) (h2 : (j : Int) ≤ hi) (hn : j < 2 ^ 31) : rg (nI j) lo hi := by
  unfold rg
  rw [nI_toInt hn]
  exact ⟨h, h2⟩
theorem nI_ix {j : Nat} (h : j < 2 ^ 31) : (nI j).toNatClampNeg = j := nI_clamp h
theorem nI_lit (n : Nat) : (OfNat.ofNat n : Int32) = nI n := rfl
theorem lt_toInt {a b : Int32} : a < b ↔ a.toInt < b.toInt := Int32.lt_iff_toInt_lt
theorem le_toInt {a b : Int32} : a ≤ b ↔ a.toInt ≤ b.toInt := Int32.le_iff_toInt_le
theorem eq_toInt {a b : Int32} : a = b ↔ a.toInt = b.toInt := Int32.toInt_inj.symm
theorem rg_nlit {a : Int32} : rg a (-2147483648) 2147483647 := ⟨Int32.le_toInt a, by have := Int32.toInt_lt a; omega⟩
theorem add_toInt {a b : Int32} (h1 : -2147483648 ≤ a.toInt + b.toInt) (h2 : a.toInt + b.toInt < 2147483648) : (a + b).toInt = a.toInt + b.toInt := by
  rw [Int32.toInt_add]
  exact Int.bmod_eq_of_le (by omega) (by omega)
theorem sub_toInt {a b : Int32} (h1 : -2147483648 ≤ a.toInt - b.toInt) (h2 : a.toInt - b.toInt < 2147483648) : (a - b).toInt = a.toInt - b.toInt := by
  rw [Int32.toInt_sub]
  exact Int.bmod_eq_of_le (by omega) (by omega)
theorem mul_toInt {a b : Int32} (h1 : -2147483648 ≤ a.toInt * b.toInt) (h2 : a.toInt * b.toInt < 2147483648) : (a * b).toInt = a.toInt * b.toInt := by
  rw [Int32.toInt_mul]
  exact Int.bmod_eq_of_le (by omega) (by omega)
theorem vpin {j n : Nat} (h : j < n) (hn : n < 2 ^ 31) : vp_in (nI j) n := vp_in_nI h hn
theorem nI_le6 {j : Nat} (n : Nat) (hj : j < 2 ^ 31) (hn : n < 2 ^ 31) : nI n ≤ nI j ↔ n ≤ j := nI_leI hn hj
theorem Ev.to {X : SX} {d : Nat} {M : MD} {pc : Nat} {L : List (Option AV)} {st : List AV} {σ : ST} {post post' : Option AV → ST → Prop} (hp : ∀ r σ', post r σ' → post' r σ') (h : Ev X d M pc L st σ post) : Ev X d M pc L st σ post' := h.mono hp
-- bits of small numbers
theorem isr_nI {n k : Nat} (hn : n < 2 ^ 31) (hk : k < 32) : isr (nI n) (nI k) = nI (n / 2 ^ k) := by
  unfold isr
  apply pk_shrN hn
  revert k
  decide +kernel
theorem isl1_nI {k : Nat} (hk : k < 31) : isl 1 (nI k) = nI (2 ^ k) := by
  revert k
  decide +kernel
theorem and1_nI {n : Nat} (hn : n < 2 ^ 32) : nI n &&& (1 : Int32) = nI (n % 2) := by
  have := pk_andN hn (m := 1) 1 (by decide)
  simpa using this
theorem bit_nI {n k : Nat} (hn : n < 2 ^ 31) (hk : k < 32) : (isr (nI n) (nI k)) &&& (1 : Int32) = nI (n / 2 ^ k % 2) := by
  rw [isr_nI hn hk, and1_nI]
  exact Nat.lt_of_le_of_lt (Nat.div_le_self _ _) (by omega)
theorem bit_one {n k : Nat} (hn : n < 2 ^ 31) (hk : k < 32) : (isr (nI n) (nI k)) &&& (1 : Int32) = 1 ↔ n.testBit k = true := by
  rw [bit_nI hn hk, Nat.testBit_eq_decide_div_mod_eq, decide_eq_true_eq]
  constructor
  · intro h
    have h2 : n / 2 ^ k % 2 < 2 := Nat.mod_lt _ (by decide)
    have := (nI_eq (a := n / 2 ^ k % 2) (b := 1) (by omega) (by decide)).mp h
    exact this
  · intro h
    rw [h]
    rfl
