-- best, how: all rows in order
abbrev SB := Option (Nat × Nat × Nat × (Nat → Nat))
def dif (x y : Nat) : Nat := max x y - min x y
def btr (l w : Nat) : SB → Bool
  | none => true
  | some v => decide (v.1 < l ∨ (l = v.1 ∧ w < v.2.1))
theorem btr_some {l w : Nat} {v : Nat × Nat × Nat × (Nat → Nat)} : btr l w (some v) = true ↔ (v.1 < l ∨ (l = v.1 ∧ w < v.2.1)) := decide_eq_true_iff
def upR (row : Nat → Nat) (c v : Nat) : Nat → Nat := fun j => if j = c then v else row j
def leafB (C D l w m x y : Nat) (row : Nat → Nat) (B : SB) : SB := if (m ≤ C ∧ x ≤ D ∧ y ≤ D) ∧ btr l w B = true then some (l, w, m, row) else B
def bst (ta tb ln : Nat → Nat) (rd : Nat → Bool) (C D : Nat) : Nat → Nat → Nat → Nat → Nat → Nat → Nat → (Nat → Nat) → SB → SB
  | 0, _, l, w, m, x, y, row, B => leafB C D l w m x y row B
  | k + 1, c, l, w, m, x, y, row, B => bst ta tb ln rd C D k (c + 1) l w m x y (upR row c 2) (if rd c = true then bst ta tb ln rd C D k (c + 1) (l + ln c) w m (x + ta c) (y + tb c) (upR row c 1) (bst ta tb ln rd C D k (c + 1) (l + ln c) (w + dif (ta c) (tb c)) (m + max (ta c) (tb c)) x y (upR row c 0) B) else B)
section
variable {ta tb ln : Nat → Nat} {rd : Nat → Bool} {C D : Nat}
theorem bst_s {k c l w m x y : Nat} {row : Nat → Nat} {B : SB} : bst ta tb ln rd C D (k + 1) c l w m x y row B = bst ta tb ln rd C D k (c + 1) l w m x y (upR row c 2) (if rd c = true then bst ta tb ln rd C D k (c + 1) (l + ln c) w m (x + ta c) (y + tb c) (upR row c 1) (bst ta tb ln rd C D k (c + 1) (l + ln c) (w + dif (ta c) (tb c)) (m + max (ta c) (tb c)) x y (upR row c 0) B) else B) := rfl
theorem bst_inf : ∀ (k c l w m x y : Nat) (row : Nat → Nat) (B : SB), ¬ (m ≤ C ∧ x ≤ D ∧ y ≤ D) → bst ta tb ln rd C D k c l w m x y row B = B
  | 0, c, l, w, m, x, y, row, B, h => if_neg (fun q => h q.1)
  | k + 1, c, l, w, m, x, y, row, B, h => by
    rw [bst_s, bst_inf k (c + 1) (l + ln c) (w + dif (ta c) (tb c)) (m + max (ta c) (tb c)) x y _ B (by omega), bst_inf k (c + 1) (l + ln c) w m (x + ta c) (y + tb c) _ B (by omega), ite_self, bst_inf k (c + 1) l w m x y _ B h]
def lfK (ln : Nat → Nat) (rd : Nat → Bool) : Nat → Nat → Nat
  | 0, _ => 0
  | k + 1, c => (if rd c = true then ln c else 0) + lfK ln rd k (c + 1)
theorem lfK_s {k c : Nat} : lfK ln rd (k + 1) c = (if rd c = true then ln c else 0) + lfK ln rd k (c + 1) := rfl
theorem bst_nb (v : Nat × Nat × Nat × (Nat → Nat)) : ∀ (k c l w m x y : Nat) (row : Nat → Nat), (l + lfK ln rd k c < v.1 ∨ (l + lfK ln rd k c = v.1 ∧ v.2.1 ≤ w)) → bst ta tb ln rd C D k c l w m x y row (some v) = some v
  | 0, c, l, w, m, x, y, row, h => by
    refine if_neg (fun q => ?_)
    have h2 : v.1 < l ∨ (l = v.1 ∧ w < v.2.1) := btr_some.mp q.2
    have h3 : lfK ln rd 0 c = 0 := rfl
    rw [h3] at h
    omega
  | k + 1, c, l, w, m, x, y, row, h => by
    rw [lfK_s] at h
    rw [bst_s]
    by_cases hr : rd c = true
    · rw [if_pos hr] at h
      rw [if_pos hr, bst_nb v k (c + 1) (l + ln c) (w + dif (ta c) (tb c)) _ _ _ _ (by omega), bst_nb v k (c + 1) (l + ln c) w _ _ _ _ (by omega), bst_nb v k (c + 1) l w _ _ _ _ (by omega)]
    · rw [if_neg hr] at h
      rw [if_neg hr, bst_nb v k (c + 1) l w _ _ _ _ (by omega)]
theorem bst_some : ∀ (k c l w m x y : Nat) (row : Nat → Nat) (B : SB), (m ≤ C ∧ x ≤ D ∧ y ≤ D) → ∃ v, bst ta tb ln rd C D k c l w m x y row B = some v
  | 0, c, l, w, m, x, y, row, B, h => by
    show ∃ v, leafB C D l w m x y row B = some v
    unfold leafB
    cases B with
    | none => exact ⟨_, if_pos ⟨h, rfl⟩⟩
    | some v =>
      split
      · exact ⟨_, rfl⟩
      · exact ⟨v, rfl⟩
  | k + 1, c, l, w, m, x, y, row, B, h => by
    rw [bst_s]
    exact bst_some k (c + 1) l w m x y _ _ h
-- rows by number
def rowf : Nat → Nat → Nat → Nat
  | 0, _ => fun _ => 0
  | c + 1, p => upR (rowf c (p / 3)) c (p % 3)
def sL (ln row : Nat → Nat) : Nat → Nat
  | 0 => 0
  | c + 1 => sL ln row c + (if row c < 2 then ln c else 0)
def sE (f row : Nat → Nat) (e : Nat) : Nat → Nat
  | 0 => 0
  | c + 1 => sE f row e c + (if row c = e then f c else 0)
theorem sL_s {f row : Nat → Nat} {c : Nat} : sL f row (c + 1) = sL f row c + (if row c < 2 then f c else 0) := rfl
theorem sE_s {f row : Nat → Nat} {e c : Nat} : sE f row e (c + 1) = sE f row e c + (if row c = e then f c else 0) := rfl
theorem sL_cg {f row row' : Nat → Nat} : ∀ {c : Nat}, (∀ j, j < c → row j = row' j) → sL f row c = sL f row' c
  | 0, _ => rfl
  | c + 1, h => by rw [sL_s, sL_s, sL_cg (fun j hj => h j (by omega)), h c (by omega)]
theorem sE_cg {f row row' : Nat → Nat} {e : Nat} : ∀ {c : Nat}, (∀ j, j < c → row j = row' j) → sE f row e c = sE f row' e c
  | 0, _ => rfl
  | c + 1, h => by rw [sE_s, sE_s, sE_cg (fun j hj => h j (by omega)), h c (by omega)]
theorem upR_c {row : Nat → Nat} {c v : Nat} : upR row c v c = v := if_pos rfl
theorem upR_n {row : Nat → Nat} {c v j : Nat} (h : j ≠ c) : upR row c v j = row j := if_neg h
abbrev okk (rd : Nat → Bool) (c : Nat) (row : Nat → Nat) : Prop := ∀ j, j < c → (row j = 2 ∨ rd j = true)
abbrev Lf (ta tb ln : Nat → Nat) (C D n : Nat) (row : Nat → Nat) (B : SB) : SB := leafB C D (sL ln row n) (sE (fun c => dif (ta c) (tb c)) row 0 n) (sE (fun c => max (ta c) (tb c)) row 0 n) (sE ta row 1 n) (sE tb row 1 n) row B
def Tr (ta tb ln : Nat → Nat) (rd : Nat → Bool) (C D n r : Nat) (B : SB) : SB := if okk rd n (rowf n r) then Lf ta tb ln C D n (rowf n r) B else B
def foB (ta tb ln : Nat → Nat) (rd : Nat → Bool) (C D n s : Nat) : Nat → SB → SB
  | 0, B => B
  | i + 1, B => Tr ta tb ln rd C D n (s + i) (foB ta tb ln rd C D n s i B)
theorem foB_add {n s i : Nat} {B : SB} : ∀ j, foB ta tb ln rd C D n s (i + j) B = foB ta tb ln rd C D n (s + i) j (foB ta tb ln rd C D n s i B)
  | 0 => rfl
  | j + 1 => by
    show Tr ta tb ln rd C D n (s + (i + j)) (foB ta tb ln rd C D n s (i + j) B) = Tr ta tb ln rd C D n (s + i + j) (foB ta tb ln rd C D n (s + i) j (foB ta tb ln rd C D n s i B))
    rw [foB_add j, Nat.add_assoc]
theorem block {n : Nat} : ∀ (k c p : Nat) (B : SB), c + k = n → foB ta tb ln rd C D n (p * 3 ^ k) (3 ^ k) B = if okk rd c (rowf c p) then bst ta tb ln rd C D k c (sL ln (rowf c p) c) (sE (fun c => dif (ta c) (tb c)) (rowf c p) 0 c) (sE (fun c => max (ta c) (tb c)) (rowf c p) 0 c) (sE ta (rowf c p) 1 c) (sE tb (rowf c p) 1 c) (rowf c p) B else B
  | 0, c, p, B, h => by
    have e : c = n := by omega
    subst e
    show Tr ta tb ln rd C D c (p * 3 ^ 0 + 0) B = _
    rw [Nat.pow_zero, Nat.mul_one, Nat.add_zero]
    rfl
  | k + 1, c, p, B, h => by
    have e3 : (3 : Nat) ^ (k + 1) = 3 ^ k + 3 ^ k + 3 ^ k := by rw [Nat.pow_succ]; omega
    have b0 : p * 3 ^ (k + 1) = (3 * p + 0) * 3 ^ k := by rw [Nat.pow_succ, Nat.mul_comm (3 ^ k) 3, ← Nat.mul_assoc, Nat.mul_comm p 3, Nat.add_zero]
    have b1 : (3 * p + 0) * 3 ^ k + 3 ^ k = (3 * p + 1) * 3 ^ k := by rw [Nat.add_mul, Nat.add_mul, Nat.zero_mul, Nat.one_mul, Nat.add_zero]
    have b2 : (3 * p + 0) * 3 ^ k + (3 ^ k + 3 ^ k) = (3 * p + 2) * 3 ^ k := by rw [Nat.add_mul, Nat.add_mul, Nat.zero_mul]; omega
    have er : ∀ e, e < 3 → rowf (c + 1) (3 * p + e) = upR (rowf c p) c e := fun e he => by
      show upR (rowf c ((3 * p + e) / 3)) c ((3 * p + e) % 3) = _
      rw [show (3 * p + e) / 3 = p by omega, show (3 * p + e) % 3 = e by omega]
    have nj : ∀ (e j : Nat), j < c → upR (rowf c p) c e j = rowf c p j := fun e j hj => upR_n (by omega)
    have l1 : ∀ e, sL ln (upR (rowf c p) c e) (c + 1) = sL ln (rowf c p) c + (if e < 2 then ln c else 0) := fun e => by rw [sL_s, sL_cg (nj e), upR_c]
    have l2 : ∀ (f : Nat → Nat) (q e : Nat), sE f (upR (rowf c p) c e) q (c + 1) = sE f (rowf c p) q c + (if e = q then f c else 0) := fun f q e => by rw [sE_s, sE_cg (nj e), upR_c]
    have ok : ∀ e, okk rd (c + 1) (upR (rowf c p) c e) ↔ (okk rd c (rowf c p) ∧ (e = 2 ∨ rd c = true)) := fun e => by
      constructor
      · intro g
        refine ⟨fun j hj => ?_, ?_⟩
        · have := g j (by omega)
          rw [nj e j hj] at this
          exact this
        · have := g c (by omega)
          rw [upR_c] at this
          exact this
      · rintro ⟨g1, g2⟩ j hj
        by_cases ej : j = c
        · subst ej
          rw [upR_c]
          exact g2
        · rw [nj e j (by omega)]
          exact g1 j (by omega)
    have ih : ∀ (e : Nat), e < 3 → ∀ B, foB ta tb ln rd C D n ((3 * p + e) * 3 ^ k) (3 ^ k) B = if okk rd c (rowf c p) ∧ (e = 2 ∨ rd c = true) then bst ta tb ln rd C D k (c + 1) (sL ln (rowf c p) c + (if e < 2 then ln c else 0)) (sE (fun c => dif (ta c) (tb c)) (rowf c p) 0 c + (if e = 0 then dif (ta c) (tb c) else 0)) (sE (fun c => max (ta c) (tb c)) (rowf c p) 0 c + (if e = 0 then max (ta c) (tb c) else 0)) (sE ta (rowf c p) 1 c + (if e = 1 then ta c else 0)) (sE tb (rowf c p) 1 c + (if e = 1 then tb c else 0)) (upR (rowf c p) c e) B else B := fun e he B => by
      rw [block (n := n) k (c + 1) (3 * p + e) B (by omega), er e he, l1, l2, l2, l2, l2]
      by_cases g : okk rd (c + 1) (upR (rowf c p) c e)
      · rw [if_pos g, if_pos ((ok e).mp g)]
      · rw [if_neg g, if_neg (fun z => g ((ok e).mpr z))]
    rw [b0, e3, foB_add, foB_add, b1, b2, ih 0 (by omega), ih 1 (by omega), ih 2 (by omega)]
    by_cases ho : okk rd c (rowf c p)
    · by_cases hr : rd c = true
      · have t0 : okk rd c (rowf c p) ∧ ((0 : Nat) = 2 ∨ rd c = true) := ⟨ho, Or.inr hr⟩
        have t1 : okk rd c (rowf c p) ∧ ((1 : Nat) = 2 ∨ rd c = true) := ⟨ho, Or.inr hr⟩
        have t2 : okk rd c (rowf c p) ∧ ((2 : Nat) = 2 ∨ rd c = true) := ⟨ho, Or.inl rfl⟩
        rw [if_pos t0, if_pos t1, if_pos t2, if_pos ho, bst_s, if_pos hr]
        rfl
      · have hn : ∀ e, e ≠ 2 → ¬ (okk rd c (rowf c p) ∧ (e = 2 ∨ rd c = true)) := fun e he g => by
          rcases g.2 with g | g
          · exact he g
          · exact hr g
        have t2 : okk rd c (rowf c p) ∧ ((2 : Nat) = 2 ∨ rd c = true) := ⟨ho, Or.inl rfl⟩
        rw [if_neg (hn 0 (by omega)), if_neg (hn 1 (by omega)), if_pos t2, if_pos ho, bst_s, if_neg hr]
        rfl
    · have hn : ∀ e, ¬ (okk rd c (rowf c p) ∧ (e = 2 ∨ rd c = true)) := fun e g => ho g.1
      rw [if_neg (hn 0), if_neg (hn 1), if_neg (hn 2), if_neg ho]
theorem all_rows {n : Nat} : foB ta tb ln rd C D n 0 (3 ^ n) none = bst ta tb ln rd C D n 0 0 0 0 0 0 (fun _ => 0) none := by
  have := block (ta := ta) (tb := tb) (ln := ln) (rd := rd) (C := C) (D := D) (n := n) n 0 0 none (by omega)
  rw [Nat.zero_mul] at this
  rw [this, if_pos (fun j hj => absurd hj (Nat.not_lt_zero _))]
  rfl
end
-- of the book
def lnN (A : ST) (c : Nat) : Nat := (lC A c).toNatClampNeg
def rdB (A : ST) (c : Nat) : Bool := decide (A.1 4 0 c = 0)
def cdN (A : ST) : Nat := (A.1 6 0 0).toNatClampNeg
def dyN (A : ST) : Nat := (A.1 6 0 1).toNatClampNeg
theorem lnN_ix {A : ST} (hw : Wf A) {c : Nat} (hc : c < nC A) : lC A c = nI (lnN A c) ∧ lnN A c ≤ 99 := by
  obtain ⟨j, _, hj, e⟩ := lC_ix hw hc
  unfold lnN
  rw [e, nI_ix (by omega)]
  exact ⟨rfl, hj⟩
theorem cd_ix {A : ST} (hw : Wf A) : (A.1 6 0 0 = nI (cdN A) ∧ cdN A ≤ 999) ∧ A.1 6 0 1 = nI (dyN A) ∧ dyN A ≤ 999 := by
  obtain ⟨x, hx, ex⟩ := rg_nI (n := 999) hw.2.2.2.2.2.1.1
  obtain ⟨y, hy, ey⟩ := rg_nI (n := 999) hw.2.2.2.2.2.1.2
  unfold cdN dyN
  rw [ex, ey, nI_ix (by omega), nI_ix (by omega)]
  exact ⟨⟨rfl, hx⟩, rfl, hy⟩
abbrev PBk (A : ST) (a b : Nat) := bst (fun c => tmn A c a) (fun c => tmn A c b) (lnN A) (rdB A) (cdN A) (dyN A)
def pbv (A : ST) (a b : Nat) : Nat × Nat × Nat × (Nat → Nat) := (PBk A a b (nC A) 0 0 0 0 0 0 (fun _ => 0) none).getD (0, 0, 0, fun _ => 0)
theorem pbv_eq (A : ST) (a b : Nat) : PBk A a b (nC A) 0 0 0 0 0 0 (fun _ => 0) none = some (pbv A a b) := by
  obtain ⟨v, e⟩ := bst_some (ta := fun c => tmn A c a) (tb := fun c => tmn A c b) (ln := lnN A) (rd := rdB A) (C := cdN A) (D := dyN A) (nC A) 0 0 0 0 0 0 (fun _ => 0) none ⟨Nat.zero_le _, Nat.zero_le _, Nat.zero_le _⟩
  have e' : PBk A a b (nC A) 0 0 0 0 0 0 (fun _ => 0) none = some v := e
  unfold pbv
  rw [e']
  rfl
theorem PBk_s {A : ST} {a b k c l w m x y : Nat} {row : Nat → Nat} {B : SB} : PBk A a b (k + 1) c l w m x y row B = PBk A a b k (c + 1) l w m x y (upR row c 2) (if rdB A c = true then PBk A a b k (c + 1) (l + lnN A c) w m (x + tmn A c a) (y + tmn A c b) (upR row c 1) (PBk A a b k (c + 1) (l + lnN A c) (w + dif (tmn A c a) (tmn A c b)) (m + max (tmn A c a) (tmn A c b)) x y (upR row c 0) B) else B) := rfl
theorem lfK_le {A : ST} (hw : Wf A) : ∀ k c, c + k ≤ nC A → lfK (lnN A) (rdB A) k c ≤ 99 * k
  | 0, c, _ => Nat.le_refl _
  | k + 1, c, h => by
    have h1 := lfK_le hw k (c + 1) (by omega)
    have h2 := (lnN_ix hw (show c < nC A by omega)).2
    rw [lfK_s]
    split <;> omega
def cPl (A : ST) (v : Nat × Nat × Nat × (Nat → Nat)) (σ : ST) : Prop := (σ.1 5 0 8 = nI v.1 ∧ σ.1 5 0 9 = nI v.2.1 ∧ σ.1 5 0 10 = nI v.2.2.1 ∧ ∀ j, j < nC A → σ.1 24 0 j = nI (v.2.2.2 j)) ∧ v.1 ≤ 9999 ∧ v.2.1 ≤ 9999
def cSB (A : ST) : SB → ST → Prop
  | none, σ => σ.1 5 0 8 = -1
  | some v, σ => cPl A v σ
def Pb (A : ST) (a b : Nat) (σ : ST) : Prop := σ.1 5 0 6 = nI (cdN A) ∧ σ.1 5 0 7 = nI (dyN A) ∧ (∀ j, j < nC A → σ.1 21 0 j = nI (tmn A j a) ∧ σ.1 22 0 j = nI (tmn A j b)) ∧ ∀ j, j ≤ nC A → σ.1 25 0 j = nI (lfK (lnN A) (rdB A) (nC A - j) j)
theorem Pb.row {A σ : ST} {a b c : Nat} {v : Int32} (h : Pb A a b σ) : Pb A a b (setI σ 23 0 c v) := by
  unfold Pb at *
  rw [sk_k (by decide), sk_k (by decide), sk_k (by decide), sk_k (by decide)]
  exact h
theorem cSB.row {A σ : ST} {B : SB} {c : Nat} {v : Int32} (h : cSB A B σ) : cSB A B (setI σ 23 0 c v) := by
  cases B with
  | none => show (setI σ 23 0 c v).1 5 0 8 = -1; rw [sk_k (by decide)]; exact h
  | some w =>
    show cPl A w _
    have h' : cPl A w σ := h
    unfold cPl at *
    rw [sk_k (by decide), sk_k (by decide)]
    exact h'
theorem rdB_iff {A : ST} {c : Nat} : rdB A c = true ↔ A.1 4 0 c = 0 := decide_eq_true_iff
theorem c_choose {A : ST} {a b d : Nat} (hw : Wf A) (ha : a < 6) (hb : b < 6) : ∀ (k c l w m x y : Nat) (row : Nat → Nat) (B : SB) (σ : ST) (post : Option AV → ST → Prop), c + k = nC A → l ≤ 99 * c → w ≤ 198 * c → m ≤ 198 * c → x ≤ 198 * c → y ≤ 198 * c → RepC A σ → Pb A a b σ → (∀ j, j < c → σ.1 23 0 j = nI (row j)) → cSB A B σ → (∀ σ', Off [5, 23, 24] σ σ' → Pb A a b σ' → (∀ j, j < c → σ'.1 23 0 j = nI (row j)) → cSB A (PBk A a b k c l w m x y row B) σ' → post none σ') → Ev none (d + k + 2) m_P_choose 0 [some (vR 5 0), some (vI (nI c)), some (vI (nI l)), some (vI (nI w)), some (vI (nI m)), some (vI (nI x)), some (vI (nI y)), none, none, none] [] σ post := by
  have h8 := nC_le hw
  obtain ⟨⟨_, hC⟩, _, hD⟩ := cd_ix hw
  intro k
  induction k with
  | zero =>
    intro c l w m x y row B σ post hc hl hwb hm hx hy h hP hr hB K
    have ec : c = nC A := by omega
    have hlf : σ.1 25 0 c = nI 0 := by
      have := hP.2.2.2 c (by omega)
      rw [show nC A - c = 0 by omega] at this
      exact this
    have stay : PBk A a b 0 c l w m x y row B = B → post none σ := fun e => K σ Off.rf hP hr (by rw [e]; exact hB)
    have f1 : σ.1 5 0 6 < nI m ↔ cdN A < m := by rw [hP.1, nI_ltI (by omega) (by omega)]
    have f2 : σ.1 5 0 7 < nI x ↔ dyN A < x := by rw [hP.2.1, nI_ltI (by omega) (by omega)]
    have f3 : σ.1 5 0 7 < nI y ↔ dyN A < y := by rw [hP.2.1, nI_ltI (by omega) (by omega)]
    refine sg_P_choose_0 ⟨fun q => stay (bst_inf 0 c l w m x y row B (by have := f1.mp q; omega)), fun q1 => ⟨fun q => stay (bst_inf 0 c l w m x y row B (by have := f2.mp q; omega)), fun q2 => ⟨fun q => stay (bst_inf 0 c l w m x y row B (by have := f3.mp q; omega)), fun q3 => ⟨vpin (by omega) (by decide), fun q => ?_, fun q4 => ⟨fun q => ?_, fun _ => ?_⟩⟩⟩⟩⟩
    · unfold fp_P_isNoBetter at q
      rw [nI_ix (by omega), hlf, nI_add, Nat.add_zero] at q
      cases B with
      | none =>
        exfalso
        have e8 : σ.1 5 0 8 = -1 := hB
        rw [e8] at q
        rcases q with q | q
        · rw [lt_toInt, nI_toInt (by omega)] at q
          have e3 : (-1 : Int32).toInt = -1 := rfl
          omega
        · exact nI_nem1 (by omega) q.1
      | some v =>
        have hv : cPl A v σ := hB
        obtain ⟨⟨v1, v2, v3, v4⟩, vb1, vb2⟩ := hv
        rw [v1, v2, nI_ltI (by omega) (by omega), nI_eq (by omega) (by omega), nI_ltI (by omega) (by omega)] at q
        exact stay (bst_nb v 0 c l w m x y row (by show l + 0 < v.1 ∨ (l + 0 = v.1 ∧ v.2.1 ≤ w); omega))
    · rw [c_chs h, ec] at q
      exact absurd q (by rw [nI_ltI (by omega) (by omega)]; omega)
    · have n1 : ¬ cdN A < m := fun z => q1 (f1.mpr z)
      have n2 : ¬ dyN A < x := fun z => q2 (f2.mpr z)
      have n3 : ¬ dyN A < y := fun z => q3 (f3.mpr z)
      have hbt : btr l w B = true := by
        unfold fp_P_isNoBetter at q4
        rw [nI_ix (by omega), hlf, nI_add, Nat.add_zero] at q4
        cases B with
        | none => rfl
        | some v =>
          have hv : cPl A v σ := hB
          obtain ⟨⟨v1, v2, v3, v4⟩, vb1, vb2⟩ := hv
          rw [v1, v2, nI_ltI (by omega) (by omega), nI_eq (by omega) (by omega), nI_ltI (by omega) (by omega)] at q4
          refine btr_some.mpr ?_
          omega
      have e : PBk A a b 0 c l w m x y row B = some (l, w, m, row) := if_pos ⟨⟨by omega, by omega, by omega⟩, hbt⟩
      rw [e] at K
      refine sg_P_keep_0 ⟨by decide, by decide, by decide, by decide, by decide, rfl, ?_⟩
      refine K _ ?_ ?_ ?_ ?_
      · exact Off.sA (Off.sI (Off.sI (Off.sI Off.rf (by decide)) (by decide)) (by decide)) (by decide)
      · unfold Pb at *
        rw [setA_k (by decide), setA_k (by decide), setA_k (by decide), setA_k (by decide), sk_f (by decide), sk_f (by decide), sk_f (by decide), sk_f (by decide), sk_f (by decide), sk_f (by decide), sk_k (by decide), sk_k (by decide), sk_k (by decide), sk_k (by decide), sk_k (by decide), sk_k (by decide), sk_k (by decide), sk_k (by decide), sk_k (by decide)]
        exact hP
      · intro j hj
        rw [setA_k (by decide), sk_k (by decide), sk_k (by decide), sk_k (by decide)]
        exact hr j hj
      · show cPl A (l, w, m, row) _
        refine ⟨⟨?_, ?_, ?_, fun j hj => ?_⟩, by show l ≤ 9999; omega, by show w ≤ 9999; omega⟩
        · rw [setA_k (by decide), sk_f (by decide), sk_f (by decide), setI_at]
        · rw [setA_k (by decide), sk_f (by decide), setI_at]
        · rw [setA_k (by decide), setI_at]
        · rw [setA_if, if_pos rfl, pk_cpy_in (by show (0 : Int32).toNatClampNeg ≤ j; exact Nat.zero_le _) (by show j < 0 + 8; omega)]
          show _ = nI (row j)
          rw [sk_k (by decide), sk_k (by decide), sk_k (by decide), show (0 : Int32).toNatClampNeg = 0 from rfl, Nat.zero_add, Nat.sub_zero]
          exact hr j (by omega)
  | succ k ih =>
    intro c l w m x y row B σ post hc hl hwb hm hx hy h hP hr hB K
    have hcn : c < nC A := by omega
    have hlf : σ.1 25 0 c = nI (lfK (lnN A) (rdB A) (k + 1) c) := by
      have := hP.2.2.2 c (by omega)
      rw [show nC A - c = k + 1 by omega] at this
      exact this
    have hlfb := lfK_le hw (k + 1) c (by omega)
    have stay : PBk A a b (k + 1) c l w m x y row B = B → post none σ := fun e => K σ Off.rf hP hr (by rw [e]; exact hB)
    have f1 : σ.1 5 0 6 < nI m ↔ cdN A < m := by rw [hP.1, nI_ltI (by omega) (by omega)]
    have f2 : σ.1 5 0 7 < nI x ↔ dyN A < x := by rw [hP.2.1, nI_ltI (by omega) (by omega)]
    have f3 : σ.1 5 0 7 < nI y ↔ dyN A < y := by rw [hP.2.1, nI_ltI (by omega) (by omega)]
    have hvc := vpin (show c < 8 by omega) (by decide)
    refine sg_P_choose_0 (d := d + k + 1) ⟨fun q => stay (bst_inf (k + 1) c l w m x y row B (by have := f1.mp q; omega)), fun q1 => ⟨fun q => stay (bst_inf (k + 1) c l w m x y row B (by have := f2.mp q; omega)), fun q2 => ⟨fun q => stay (bst_inf (k + 1) c l w m x y row B (by have := f3.mp q; omega)), fun q3 => ⟨vpin (by omega) (by decide), fun q => ?_, fun q4 => ⟨fun q => ?_, fun q => ?_⟩⟩⟩⟩⟩
    · unfold fp_P_isNoBetter at q
      rw [nI_ix (by omega), hlf, nI_add] at q
      cases B with
      | none =>
        exfalso
        have e8 : σ.1 5 0 8 = -1 := hB
        rw [e8] at q
        rcases q with q | q
        · rw [lt_toInt, nI_toInt (by omega)] at q
          have e3 : (-1 : Int32).toInt = -1 := rfl
          omega
        · exact nI_nem1 (by omega) q.1
      | some v =>
        have hv : cPl A v σ := hB
        obtain ⟨⟨v1, v2, v3, v4⟩, vb1, vb2⟩ := hv
        rw [v1, v2, nI_ltI (by omega) (by omega), nI_eq (by omega) (by omega), nI_ltI (by omega) (by omega)] at q
        exact stay (bst_nb v (k + 1) c l w m x y row (by omega))
    · obtain ⟨s1, s2⟩ := c_skp hw h (show c < 8 by omega)
      obtain ⟨t1, t2⟩ := hP.2.2.1 c hcn
      have ta1 := (tmn_ix hw ha hcn).2
      have tb1 := (tmn_ix hw hb hcn).2
      obtain ⟨el, hll⟩ := lnN_ix hw hcn
      have eln : fn_C_linesOf σ (nI c) = nI (lnN A c) := by
        unfold fn_C_linesOf fn_B_linesOf
        rw [nI_ix (by omega), (h.1.2.2.2 c hcn).2, el]
      refine ⟨s1, ?_⟩
      rw [s2, eln, nI_ix (by omega), t1, t2, iabs_nI (by omega) (by omega), imax_nI (by omega) (by omega), nI_add, nI_add, nI_add, nI_add, nI_add, nI_1]
      have rw1 : ∀ (τ : ST) (v : Nat), (∀ j, j < c → τ.1 23 0 j = nI (row j)) → ∀ j, j < c + 1 → (setI τ 23 0 c (nI v)).1 23 0 j = nI (upR row c v j) := fun τ v hτ j hj => by
        rw [setI_if]
        by_cases e : j = c
        · rw [if_pos ⟨rfl, e⟩, e, upR_c]
        · rw [if_neg (fun q => e q.2), upR_n e]
          exact hτ j (by omega)
      have rw2 : ∀ (τ : ST) (v : Nat), (∀ j, j < c + 1 → τ.1 23 0 j = nI (upR row c v j)) → ∀ j, j < c → τ.1 23 0 j = nI (row j) := fun τ v hτ j hj => by
        rw [hτ j (by omega), upR_n (by omega)]
      rw [PBk_s] at K
      refine ⟨fun q0 => ⟨hvc, hvc, hvc, hvc, ?_⟩, fun q0 => ⟨hvc, ?_⟩⟩
      · have hrd : rdB A c = true := rdB_iff.mpr q0
        rw [if_pos hrd] at K
        have o1 : Off [5, 23, 24] σ (setI σ 23 0 c (nI 0)) := Off.sI Off.rf (by decide)
        refine ih (c + 1) _ _ _ _ _ (upR row c 0) B _ _ (by omega) (by omega) (by omega) (by omega) (by omega) (by omega) (h.off o1) hP.row (rw1 σ 0 hr) hB.row (fun τ1 oo1 hP1 hr1 hB1 => ⟨rfl, hvc, ?_⟩)
        have o2 : Off [5, 23, 24] σ (setI τ1 23 0 c (nI 1)) := Off.sI (Off.tr o1 oo1) (by decide)
        refine ih (c + 1) _ _ _ _ _ (upR row c 1) _ _ _ (by omega) (by omega) (by omega) (by omega) (by omega) (by omega) (h.off o2) hP1.row (rw1 τ1 1 (rw2 τ1 0 hr1)) hB1.row (fun τ2 oo2 hP2 hr2 hB2 => ⟨rfl, hvc, ?_⟩)
        have o3 : Off [5, 23, 24] σ (setI τ2 23 0 c (nI 2)) := Off.sI (Off.tr o2 oo2) (by decide)
        refine ih (c + 1) _ _ _ _ _ (upR row c 2) _ _ _ (by omega) (by omega) (by omega) (by omega) (by omega) (by omega) (h.off o3) hP2.row (rw1 τ2 2 (rw2 τ2 1 hr2)) hB2.row (fun τ3 oo3 hP3 hr3 hB3 => ⟨rfl, K τ3 (Off.tr o3 oo3) hP3 (rw2 τ3 2 hr3) hB3⟩)
      · have hrd : ¬ rdB A c = true := fun z => q0 (rdB_iff.mp z)
        rw [if_neg hrd] at K
        have o3 : Off [5, 23, 24] σ (setI σ 23 0 c (nI 2)) := Off.sI Off.rf (by decide)
        refine ih (c + 1) _ _ _ _ _ (upR row c 2) _ _ _ (by omega) (by omega) (by omega) (by omega) (by omega) (by omega) (h.off o3) hP.row (rw1 σ 2 hr) hB.row (fun τ3 oo3 hP3 hr3 hB3 => ⟨rfl, K τ3 (Off.tr o3 oo3) hP3 (rw2 τ3 2 hr3) hB3⟩)
    · rw [c_chs h] at q
      exact absurd ((nI_ltI (by omega) (by omega)).mpr hcn) q
