-- best, how: the class's search, the reference's rows
theorem c_search {A σ : ST} {a b d : Nat} (hw : Wf A) (h : RepC A σ) (ha : a < 6) (hb : b < 6) {post : Option AV → ST → Prop} (K : ∀ σ', Off [5, 21, 22, 23, 24, 25] σ σ' → cPl A (pbv A a b) σ' → post none σ') : Ev none (d + 11) m_P_search 0 [some (vR 5 0), some (vI (nI a)), some (vI (nI b)), some (vI (σ.1 0 0 9)), some (vI (σ.1 0 0 10)), none] [] σ post := by
  have h8 := nC_le hw
  obtain ⟨⟨eC, hC⟩, eD, hD⟩ := cd_ix hw
  rw [h.2.2.2.2.2.1.1, h.2.2.2.2.2.1.2.1, eC, eD]
  refine sg_P_search_0 (d := d + 8) ?_
  generalize hσ1 : setI (setI (setI (setI (setI σ 5 0 6 (nI (cdN A))) 5 0 7 (nI (dyN A))) 5 0 8 (-1)) 5 0 9 0) 5 0 10 0 = σ1
  have o1 : Off [5] σ σ1 := by rw [← hσ1]; exact Off.sI (Off.sI (Off.sI (Off.sI (Off.sI Off.rf (by decide)) (by decide)) (by decide)) (by decide)) (by decide)
  have e6 : σ1.1 5 0 6 = nI (cdN A) := by rw [← hσ1, sk_f (by decide), sk_f (by decide), sk_f (by decide), sk_f (by decide), setI_at]
  have e7 : σ1.1 5 0 7 = nI (dyN A) := by rw [← hσ1, sk_f (by decide), sk_f (by decide), sk_f (by decide), setI_at]
  have e8 : σ1.1 5 0 8 = -1 := by rw [← hσ1, sk_f (by decide), sk_f (by decide), setI_at]
  have h1 : RepC A σ1 := h.off o1
  rw [c_chs h1, nI_ix (by omega)]
  refine ⟨vpin (by omega) (by decide), ?_⟩
  have o2 : Off [5, 21, 22, 25] σ (setI σ1 25 0 (nC A) 0) := Off.sI (o1.mono (by decide)) (by decide)
  rw [c_chs (h.off o2), Int32.sub_eq_add_neg]
  have key : ∀ j, j ≤ nC A → ∀ σj, Off [5, 21, 22, 25] σ σj → σj.1 5 0 6 = nI (cdN A) → σj.1 5 0 7 = nI (dyN A) → σj.1 5 0 8 = -1 → (∀ i, j ≤ i → i < nC A → σj.1 21 0 i = nI (tmn A i a) ∧ σj.1 22 0 i = nI (tmn A i b)) → (∀ i, j ≤ i → i ≤ nC A → σj.1 25 0 i = nI (lfK (lnN A) (rdB A) (nC A - i) i)) → Ev none (d + 8 + 3) m_P_search 50 [some (vR 5 0), some (vI (nI a)), some (vI (nI b)), none, none, some (vI (nI j + (-1)))] [] σj post := by
    intro j
    induction j with
    | zero =>
      intro _ σj hoj f6 f7 f8 ht hl
      refine sg_P_search_50 (d := d + 8) ⟨fun _ => ?_, fun q => absurd (by decide) q⟩
      rw [show d + 8 + 2 = (d + (8 - nC A)) + nC A + 2 by omega]
      refine c_choose hw ha hb (nC A) 0 0 0 0 0 0 (fun _ => 0) none σj _ (by omega) (by omega) (by omega) (by omega) (by omega) (by omega) (h.off hoj) ⟨f6, f7, fun i hi => ht i (Nat.zero_le _) hi, fun i hi => hl i (Nat.zero_le _) hi⟩ (fun i hi => absurd hi (Nat.not_lt_zero _)) f8 (fun σ' ho' _ _ hB => ⟨rfl, ?_⟩)
      rw [pbv_eq] at hB
      exact K σ' (Off.tr (hoj.mono (by decide)) (ho'.mono (by decide))) hB
    | succ j ih =>
      intro hj σj hoj f6 f7 f8 ht hl
      have hjn : j < nC A := by omega
      rw [pk_m1]
      have hv := vpin (show j < 8 by omega) (by decide)
      have hR := h.off hoj
      obtain ⟨t1, t2⟩ := c_tm hw hR ha hjn
      refine sg_P_search_50 (d := d + 8) ⟨fun q => absurd q (nI_pos (by omega)), fun _ => ⟨t2, hv, ?_⟩⟩
      rw [t1, (tmn_ix hw ha hjn).1, nI_ix (show j < 2 ^ 31 by omega)]
      have p1 : Off [5, 21, 22, 25] σ (setI σj 21 0 j (nI (tmn A j a))) := Off.sI hoj (by decide)
      obtain ⟨u1, u2⟩ := c_tm hw (h.off p1) hb hjn
      rw [u1, (tmn_ix hw hb hjn).1]
      have p2 : Off [5, 21, 22, 25] σ (setI (setI σj 21 0 j (nI (tmn A j a))) 22 0 j (nI (tmn A j b))) := Off.sI p1 (by decide)
      obtain ⟨s1, s2⟩ := c_skp hw (h.off p2) (show j < 8 by omega)
      refine ⟨u2, hv, ?_, s1, ⟨fun _ => hv, fun _ => trivial⟩, fun z hz => ⟨vpin (by omega) (by decide), ?_⟩⟩
      · rw [nI_1]; exact vpin (by omega) (by decide)
      have el : fn_C_linesOf (setI (setI σj 21 0 j (nI (tmn A j a))) 22 0 j (nI (tmn A j b))) (nI j) = nI (lnN A j) := by
        unfold fn_C_linesOf fn_B_linesOf
        rw [nI_ix (by omega), ((h.off p2).1.2.2.2 j hjn).2, (lnN_ix hw hjn).1]
      have ez : z = nI (if rdB A j = true then lnN A j else 0) := by
        rw [hz, s2, el]
        by_cases q : A.1 4 0 j = 0
        · rw [if_pos q, if_pos (rdB_iff.mpr q)]
        · rw [if_neg q, if_neg (fun w => q (rdB_iff.mp w))]
          rfl
      rw [ez, nI_1, nI_ix (show j + 1 < 2 ^ 31 by omega), sk_k (show (25 : Nat) ≠ 22 by decide), sk_k (show (25 : Nat) ≠ 21 by decide), hl (j + 1) (by omega) (by omega), nI_add]
      refine ih (by omega) _ (Off.sI p2 (by decide)) ?_ ?_ ?_ (fun i h1 h2 => ?_) (fun i h1 h2 => ?_)
      · rw [sk_k (by decide), sk_k (by decide), sk_k (by decide)]; exact f6
      · rw [sk_k (by decide), sk_k (by decide), sk_k (by decide)]; exact f7
      · rw [sk_k (by decide), sk_k (by decide), sk_k (by decide)]; exact f8
      · rw [sk_k (show (21 : Nat) ≠ 25 by decide), sk_k (show (21 : Nat) ≠ 22 by decide), sk_k (show (22 : Nat) ≠ 25 by decide)]
        by_cases e : i = j
        · subst e
          rw [setI_at, setI_at]
          exact ⟨rfl, rfl⟩
        · rw [sk_f e, sk_f e, sk_k (show (22 : Nat) ≠ 21 by decide)]
          exact ht i (by omega) h2
      · by_cases e : i = j
        · subst e
          rw [setI_at, show nC A - i = (nC A - (i + 1)) + 1 by omega, lfK_s, Nat.add_comm]
        · rw [sk_f e, sk_k (by decide), sk_k (by decide)]
          exact hl i (by omega) h2
  refine key (nC A) (Nat.le_refl _) _ o2 (by rw [sk_k (by decide)]; exact e6) (by rw [sk_k (by decide)]; exact e7) (by rw [sk_k (by decide)]; exact e8) (fun i h1 h2 => by omega) (fun i h1 h2 => ?_)
  have e : i = nC A := by omega
  subst e
  rw [setI_at, Nat.sub_self]
  rfl
def mPl (A : ST) (v : Nat × Nat × Nat × (Nat → Nat)) (σ : ST) : Prop := (σ.1 11 0 24 = nI v.1 ∧ σ.1 11 0 25 = nI v.2.1 ∧ σ.1 11 0 26 = nI v.2.2.1 ∧ ∀ j, j < nC A → σ.1 57 0 j = nI (v.2.2.2 j)) ∧ v.1 ≤ 9999 ∧ v.2.1 ≤ 9999
def mSB (A : ST) : SB → ST → Prop
  | none, σ => σ.1 11 0 24 = -1
  | some v, σ => mPl A v σ
theorem sL_le {f row : Nat → Nat} {b : Nat} : ∀ c, (∀ j, j < c → f j ≤ b) → sL f row c ≤ b * c
  | 0, _ => Nat.zero_le _
  | c + 1, h => by
    have h1 := sL_le (f := f) (row := row) (b := b) c (fun j hj => h j (by omega))
    have h2 := h c (by omega)
    rw [sL_s, Nat.mul_add]
    split <;> omega
theorem sE_le {f row : Nat → Nat} {e b : Nat} : ∀ c, (∀ j, j < c → f j ≤ b) → sE f row e c ≤ b * c
  | 0, _ => Nat.zero_le _
  | c + 1, h => by
    have h1 := sE_le (f := f) (row := row) (e := e) (b := b) c (fun j hj => h j (by omega))
    have h2 := h c (by omega)
    rw [sE_s, Nat.mul_add]
    split <;> omega
theorem amt_nI {σ : ST} {x y : Nat} (hx : x < 2 ^ 30) (hy : y < 2 ^ 30) : fn_M_amount σ (nI x - nI y) = nI (dif x y) := by
  have := iabs_nI hx hy
  unfold iabs at this
  unfold fn_M_amount dif
  rw [Int32.zero_sub] at this
  exact this
abbrev LfA (A : ST) (a b : Nat) (row : Nat → Nat) (B : SB) : SB := Lf (fun c => tmn A c a) (fun c => tmn A c b) (lnN A) (cdN A) (dyN A) (nC A) row B
theorem m_try {A σ : ST} {a b d : Nat} {row : Nat → Nat} {B : SB} (hw : Wf A) (h : RepM A σ) (hp : Psd A σ) (ha : a < 6) (hb : b < 6) (hrow : ∀ j, j < nC A → σ.1 56 0 j = nI (row j) ∧ row j ≤ 2) (hB : mSB A B σ) {post : Option AV → ST → Prop} (K : ∀ σ', OffM [57] [24, 25, 26] σ σ' → mSB A (LfA A a b row B) σ' → post none σ') : Ev none (d + 3) m_M_tries 0 [some (vR 11 0), some (vI (nI a)), some (vI (nI b)), none, none, none, none, none, none, none, none] [] σ post := by
  have h8 := nC_le hw
  obtain ⟨⟨eC, hC⟩, eD, hD⟩ := cd_ix hw
  refine sg_M_tries_0 ?_
  have bA : ∀ j, j < nC A → tmn A j a ≤ 198 := fun j hj => (tmn_ix hw ha hj).2
  have bB : ∀ j, j < nC A → tmn A j b ≤ 198 := fun j hj => (tmn_ix hw hb hj).2
  refine upto (n := nC A) (P := fun c => Ev none (d + 3) m_M_tries 17 [some (vR 11 0), some (vI (nI a)), some (vI (nI b)), some (vI (nI (sL (lnN A) row c))), some (vI (nI (sE (fun c => dif (tmn A c a) (tmn A c b)) row 0 c))), some (vI (nI (sE (fun c => max (tmn A c a) (tmn A c b)) row 0 c))), some (vI (nI (sE (fun c => tmn A c a) row 1 c))), some (vI (nI (sE (fun c => tmn A c b) row 1 c))), some (vI (nI c)), none, none] [] σ post) ?_ ?_
  · have bl := sL_le (f := lnN A) (row := row) (b := 99) (nC A) (fun j hj => (lnN_ix hw hj).2)
    have bw := sE_le (f := fun c => dif (tmn A c a) (tmn A c b)) (row := row) (e := 0) (b := 198) (nC A) (fun j hj => by have := bA j hj; have := bB j hj; unfold dif; omega)
    have bm := sE_le (f := fun c => max (tmn A c a) (tmn A c b)) (row := row) (e := 0) (b := 198) (nC A) (fun j hj => by have := bA j hj; have := bB j hj; show max (tmn A j a) (tmn A j b) ≤ 198; omega)
    have bx := sE_le (f := fun c => tmn A c a) (row := row) (e := 1) (b := 198) (nC A) bA
    have by' := sE_le (f := fun c => tmn A c b) (row := row) (e := 1) (b := 198) (nC A) bB
    have eL : LfA A a b row B = leafB (cdN A) (dyN A) (sL (lnN A) row (nC A)) (sE (fun c => dif (tmn A c a) (tmn A c b)) row 0 (nC A)) (sE (fun c => max (tmn A c a) (tmn A c b)) row 0 (nC A)) (sE (fun c => tmn A c a) row 1 (nC A)) (sE (fun c => tmn A c b) row 1 (nC A)) row B := rfl
    rw [eL] at K
    generalize sL (lnN A) row (nC A) = l at *
    generalize sE (fun c => dif (tmn A c a) (tmn A c b)) row 0 (nC A) = w at *
    generalize sE (fun c => max (tmn A c a) (tmn A c b)) row 0 (nC A) = m at *
    generalize sE (fun c => tmn A c a) row 1 (nC A) = x at *
    generalize sE (fun c => tmn A c b) row 1 (nC A) = y at *
    refine sg_M_tries_17 ⟨fun _ z hz => ?_, fun q => absurd (by rw [hp.1]; exact Int32.le_refl _) q⟩
    have hO := h.2.2.2.2.2.1
    have hz' : ¬ z = 0 ↔ (m ≤ cdN A ∧ x ≤ dyN A ∧ y ≤ dyN A) := by
      rw [hz, bi_0, show (0 : Int32).toNatClampNeg = 0 from rfl, show (1 : Int32).toNatClampNeg = 1 from rfl, hO.1, hO.2.1, eC, eD, nI_ltI (by omega) (by omega), nI_ltI (by omega) (by omega), nI_ltI (by omega) (by omega)]
      omega
    have hbt : btr l w B = true ↔ ¬ (¬ (σ.1 11 0 24 < nI l) ∧ (¬ (nI l = σ.1 11 0 24) ∨ σ.1 11 0 25 ≤ nI w)) := by
      cases B with
      | none =>
        have e : σ.1 11 0 24 = -1 := hB
        refine ⟨fun _ g => g.1 ?_, fun _ => rfl⟩
        rw [e, lt_toInt, nI_toInt (by omega)]
        have e3 : (-1 : Int32).toInt = -1 := rfl
        omega
      | some v =>
        obtain ⟨⟨v1, v2, v3, v4⟩, vb1, vb2⟩ : mPl A v σ := hB
        rw [btr_some, v1, v2, nI_ltI (by omega) (by omega), nI_eq (by omega) (by omega), nI_leI (by omega) (by omega)]
        omega
    refine ⟨fun q => ?_, fun q => ?_⟩
    · have e : leafB (cdN A) (dyN A) l w m x y row B = B := by
        refine if_neg (fun g => ?_)
        rcases q with q | q
        · exact hz'.mpr g.1 q
        · exact hbt.mp g.2 q
      rw [e] at K
      exact K σ OffM.rf hB
    · have e : leafB (cdN A) (dyN A) l w m x y row B = some (l, w, m, row) := by
        refine if_pos ⟨hz'.mp (fun w => q (Or.inl w)), hbt.mpr (fun w => q (Or.inr w))⟩
      rw [e] at K
      generalize hσ1 : setI (setI (setI σ 11 0 24 (nI l)) 11 0 25 (nI w)) 11 0 26 (nI m) = σ1
      have o1 : OffM [57] [24, 25, 26] σ σ1 := by rw [← hσ1]; exact OffM.sF (OffM.sF (OffM.sF OffM.rf (by decide)) (by decide)) (by decide)
      have e24 : σ1.1 11 0 24 = nI l := by rw [← hσ1, sk_f (by decide), sk_f (by decide), setI_at]
      have e25 : σ1.1 11 0 25 = nI w := by rw [← hσ1, sk_f (by decide), setI_at]
      have e26 : σ1.1 11 0 26 = nI m := by rw [← hσ1, setI_at]
      refine upto (n := nC A) (P := fun i => ∀ σi, OffM [57] [] σ1 σi → (∀ j, j < i → σi.1 57 0 j = nI (row j)) → Ev none (d + 3) m_M_tries 269 [some (vR 11 0), none, none, none, none, none, none, none, none, some (vI (nI i)), none] [] σi post) ?_ ?_ σ1 OffM.rf (fun j hj => absurd hj (Nat.not_lt_zero _))
      · intro σi ho hr
        have o2 : OffM [57] [24, 25, 26] σ σi := OffM.tr o1 (ho.mono (by decide) (by decide))
        refine sg_M_tries_269 ⟨fun _ => K σi o2 ⟨⟨?_, ?_, ?_, hr⟩, by show l ≤ 9999; omega, by show w ≤ 9999; omega⟩, fun q => absurd (by rw [(hp.off o2).1]; exact Int32.le_refl _) q⟩
        · rw [ho.2 24 (by decide)]; exact e24
        · rw [ho.2 25 (by decide)]; exact e25
        · rw [ho.2 26 (by decide)]; exact e26
      · intro i hi ih σi ho hr
        have o2 : OffM [57] [24, 25, 26] σ σi := OffM.tr o1 (ho.mono (by decide) (by decide))
        have hv := vpin (show i < 8 by omega) (by decide)
        refine sg_M_tries_269 ⟨fun q => ?_, fun _ => ⟨hv, hv, ?_⟩⟩
        · rw [(hp.off o2).1] at q
          exact absurd ((nI_leI (by omega) (by omega)).mp q) (by omega)
        · rw [nI_ix (by omega), nI_1, (o2.1 56 (by decide) (by decide)).1, (hrow i hi).1]
          refine ih _ (OffM.sI ho (by decide) (by decide)) (fun j hj => ?_)
          by_cases e : j = i
          · subst e; rw [setI_at]
          · rw [sk_f e]; exact hr j (by omega)
  · intro c hc ih
    obtain ⟨t1, t2⟩ := m_tm hw h hp ha hc
    obtain ⟨u1, u2⟩ := m_tm hw h hp hb hc
    have ea := (tmn_ix hw ha hc)
    have eb := (tmn_ix hw hb hc)
    obtain ⟨r1, r2⟩ := hrow c hc
    obtain ⟨el, hl⟩ := lnN_ix hw hc
    have hv := vpin (show c < 8 by omega) (by decide)
    refine sg_M_tries_17 ⟨fun q => ?_, fun _ => ?_⟩
    · rw [hp.1] at q
      exact absurd ((nI_leI (by omega) (by omega)).mp q) (by omega)
    rw [nI_ix (by omega), r1, t1, u1, ea.1, eb.1, (hp.2 c hc).2, el, amt_nI (by omega) (by omega)]
    have g2 : (2 : Int32) ≤ nI (row c) ↔ 2 ≤ row c := nI_leI (a := 2) (by decide) (by omega)
    have g0 : nI (row c) = 0 ↔ row c = 0 := nI_is (b := 0) (by omega) (by decide)
    have g1 : nI (row c) = 1 ↔ row c = 1 := nI_is (b := 1) (by omega) (by decide)
    have gm : (if nI (tmn A c a) ≤ nI (tmn A c b) then nI (tmn A c b) else nI (tmn A c a)) = nI (max (tmn A c a) (tmn A c b)) := by
      by_cases g : tmn A c a ≤ tmn A c b
      · rw [if_pos ((nI_leI (by omega) (by omega)).mpr g), show max (tmn A c a) (tmn A c b) = tmn A c b by omega]
      · rw [if_neg (fun w => g ((nI_leI (by omega) (by omega)).mp w)), show max (tmn A c a) (tmn A c b) = tmn A c a by omega]
    rw [gm]
    refine ⟨t2, u2, hv, ⟨fun _ => trivial, fun _ => hv⟩, fun z23 h23 => ⟨hv, fun z25 h25 => ⟨hv, fun z27 h27 => ⟨hv, fun z29 h29 => ⟨hv, fun z31 h31 => ?_⟩⟩⟩⟩⟩
    have e23 : z23 = nI (if row c < 2 then lnN A c else 0) := by
      rw [h23]
      by_cases g : row c < 2
      · rw [if_pos g, if_neg (fun w => by have := g2.mp w; omega)]
      · rw [if_neg g, if_pos (g2.mpr (by omega))]; rfl
    have eif : ∀ (p : Prop) [Decidable p] (q : Prop) [Decidable q] (x : Nat), (p ↔ q) → (if p then nI x else (0 : Int32)) = nI (if q then x else 0) := by
      intro p _ q _ x hpq
      by_cases g : q
      · rw [if_pos g, if_pos (hpq.mpr g)]
      · rw [if_neg g, if_neg (fun w => g (hpq.mp w))]; rfl
    rw [e23, h25, h27, h29, h31, eif _ _ _ g0, eif _ _ _ g0, eif _ _ _ g1, eif _ _ _ g1, nI_add, nI_add, nI_add, nI_add, nI_add, nI_1]
    exact ih
abbrev FoA (A : ST) (a b r : Nat) : SB := foB (fun c => tmn A c a) (fun c => tmn A c b) (lnN A) (rdB A) (cdN A) (dyN A) (nC A) 0 r none
theorem rowf_s {c p : Nat} : rowf (c + 1) p = upR (rowf c (p / 3)) c (p % 3) := rfl
theorem rowf_le : ∀ (c p j : Nat), rowf c p j ≤ 2
  | 0, _, _ => by show 0 ≤ 2; omega
  | c + 1, p, j => by
    rw [rowf_s]
    by_cases e : j = c
    · rw [e, upR_c]; omega
    · rw [upR_n e]; exact rowf_le c _ j
theorem p38 {n : Nat} (h : n ≤ 8) : 3 ^ n ≤ 6561 := Nat.le_trans (Nat.pow_le_pow_right (by decide) h) (by decide)
theorem mSB.keep {A σ σ' : ST} {B : SB} {S F : List Nat} (h : mSB A B σ) (ho : OffM S F σ σ') (hs : 57 ∉ S := by decide) (hf : 24 ∉ F ∧ 25 ∉ F ∧ 26 ∉ F := by decide) : mSB A B σ' := by
  cases B with
  | none => show σ'.1 11 0 24 = -1; rw [ho.2 24 hf.1]; exact h
  | some v =>
    show mPl A v σ'
    have h' : mPl A v σ := h
    unfold mPl at *
    rw [ho.2 24 hf.1, ho.2 25 hf.2.1, ho.2 26 hf.2.2, (ho.1 57 hs (by decide)).1]
    exact h'
theorem m_best {A σ : ST} {a b d : Nat} (hw : Wf A) (h : RepM A σ) (hp : Psd A σ) (ha : a < 6) (hb : b < 6) {post : Option AV → ST → Prop} (K : ∀ σ', OffM [56, 57] [24, 25, 26] σ σ' → mPl A (pbv A a b) σ' → post none σ') : Ev none (d + 4) m_M_findBest 0 [some (vR 11 0), some (vI (nI a)), some (vI (nI b)), none, none, none, none, none] [] σ post := by
  have h8 := nC_le hw
  have h3 := p38 h8
  refine sg_M_findBest_0 ?_
  refine upto (n := nC A) (P := fun c => Ev none (d + 4) m_M_findBest 5 [some (vR 11 0), some (vI (nI a)), some (vI (nI b)), some (vI (nI (3 ^ c))), some (vI (nI c)), none, none, none] [] σ post) ?_ ?_
  · refine sg_M_findBest_5 ⟨fun _ => ?_, fun q => absurd (by rw [hp.1]; exact Int32.le_refl _) q⟩
    refine upto (n := 3 ^ nC A) (P := fun r => ∀ σr, OffM [56, 57] [24, 25, 26] σ σr → mSB A (FoA A a b r) σr → Ev none (d + 4) m_M_findBest 32 [some (vR 11 0), some (vI (nI a)), some (vI (nI b)), some (vI (nI (3 ^ nC A))), some (vI (nI r)), none, none, none] [] σr post) ?_ ?_ _ (OffM.sF OffM.rf (by decide)) (by show (setI σ 11 0 24 (-1)).1 11 0 24 = -1; rw [setI_at])
    · intro σr hor hB
      refine sg_M_findBest_32 ⟨fun _ => K σr hor ?_, fun q => absurd (Int32.le_refl _) q⟩
      have e : FoA A a b (3 ^ nC A) = PBk A a b (nC A) 0 0 0 0 0 0 (fun _ => 0) none := all_rows
      rw [e, pbv_eq] at hB
      exact hB
    · intro r hr ih σr hor hB
      refine sg_M_findBest_32 ⟨fun q => absurd ((nI_leI (by omega) (by omega)).mp q) (by omega), fun _ => ?_⟩
      rw [(hp.off hor).1, Int32.sub_eq_add_neg]
      have key : ∀ c, c ≤ nC A → ∀ (ρ : Nat) (σc : ST), ρ ≤ r → OffM [56] [] σr σc → (∀ j, j < c → rowf (nC A) r j = rowf c ρ j) → (∀ j, c ≤ j → j < nC A → σc.1 56 0 j = nI (rowf (nC A) r j)) → Ev none (d + 4) m_M_findBest 53 [some (vR 11 0), some (vI (nI a)), some (vI (nI b)), some (vI (nI (3 ^ nC A))), some (vI (nI r)), some (vI (nI ρ)), some (vI (bi (∀ j, j < nC A → c ≤ j → (rowf (nC A) r j = 2 ∨ rdB A j = true)))), some (vI (nI c + (-1)))] [] σc post := by
        intro c
        induction c with
        | zero =>
          intro _ ρ σc hρ hoc _ hrow
          have o2 : OffM [56, 57] [24, 25, 26] σ σc := OffM.tr hor (hoc.mono (by decide) (by decide))
          refine sg_M_findBest_53 ⟨fun _ => ⟨fun q => ?_, fun q => ?_⟩, fun q => absurd (by decide) q⟩
          · have hno : ¬ okk (rdB A) (nC A) (rowf (nC A) r) := fun g => bi_0.mp q (fun j hj _ => g j hj)
            rw [nI_1]
            refine ih σc o2 ?_
            show mSB A (Tr _ _ _ _ _ _ (nC A) (0 + r) (FoA A a b r)) σc
            rw [Nat.zero_add]
            unfold Tr
            rw [if_neg hno]
            exact hB.keep hoc
          · have hok : okk (rdB A) (nC A) (rowf (nC A) r) := fun j hj => (Decidable.byContradiction fun w => q (bi_0.mpr w) : ∀ j, j < nC A → 0 ≤ j → (rowf (nC A) r j = 2 ∨ rdB A j = true)) j hj (Nat.zero_le _)
            refine m_try hw (h.off o2) (hp.off o2) ha hb (row := rowf (nC A) r) (fun j hj => ⟨hrow j (Nat.zero_le _) hj, rowf_le _ _ _⟩) (hB.keep hoc) (fun σ' ho' hB' => ⟨rfl, ?_⟩)
            rw [nI_1]
            refine ih σ' (OffM.tr o2 (ho'.mono (by decide) (by decide))) ?_
            show mSB A (Tr _ _ _ _ _ _ (nC A) (0 + r) (FoA A a b r)) σ'
            rw [Nat.zero_add]
            unfold Tr
            rw [if_pos hok]
            exact hB'
        | succ c ihc =>
          intro hc ρ σc hρ hoc hpre hrow
          have hcn : c < nC A := by omega
          have hv := vpin (show c < 8 by omega) (by decide)
          have hdig : rowf (nC A) r c = ρ % 3 := by rw [hpre c (by omega), rowf_s, upR_c]
          rw [pk_m1]
          refine sg_M_findBest_53 ⟨fun q => absurd q (nI_pos (by omega)), fun _ => ⟨hv, ⟨fun _ => trivial, fun _ => hv⟩, fun z hz => ?_⟩⟩
          rw [show (3 : Int32) = nI 3 from rfl, pk_div (by omega) (by decide) (by decide), show irm (nI ρ) (nI 3) = nI (ρ % 3) from pk_rem (by omega) (by decide) (by decide), nI_ix (by omega)]
          rw [show (3 : Int32) = nI 3 from rfl, show irm (nI ρ) (nI 3) = nI (ρ % 3) from pk_rem (by omega) (by decide) (by decide), nI_ix (by omega), setI_at] at hz
          have o3 : OffM [56] [] σr (setI σc 56 0 c (nI (ρ % 3))) := OffM.sI hoc (by decide) (by decide)
          have o2 : OffM [56, 57] [24, 25, 26] σ (setI σc 56 0 c (nI (ρ % 3))) := OffM.tr hor (o3.mono (by decide) (by decide))
          have hir := m_isRead hw (h.off o2) (hp.off o2) hcn
          have e2 : nI (ρ % 3) = 2 ↔ ρ % 3 = 2 := nI_is (b := 2) (by omega) (by decide)
          have ez : z = bi (∀ j, j < nC A → c ≤ j → (rowf (nC A) r j = 2 ∨ rdB A j = true)) := by
            rw [hz]
            refine bi_iff ⟨fun g j hj hcj => ?_, fun g => ⟨fun w => bi_0.mp w (fun j hj hcj => g j hj (by omega)), ?_⟩⟩
            · by_cases e : j = c
              · subst e
                rw [hdig, rdB_iff]
                rcases g.2 with w | w
                · exact Or.inl (e2.mp w)
                · exact Or.inr (hir.mp w)
              · have g1 : ∀ j, j < nC A → c + 1 ≤ j → (rowf (nC A) r j = 2 ∨ rdB A j = true) := Decidable.byContradiction fun w => g.1 (bi_0.mpr w)
                exact g1 j hj (by omega)
            · have := g c hcn (Nat.le_refl _)
              rw [hdig, rdB_iff] at this
              rcases this with w | w
              · exact Or.inl (e2.mpr w)
              · exact Or.inr (hir.mpr w)
          rw [ez]
          refine ihc (by omega) (ρ / 3) _ (by omega) o3 (fun j hj => ?_) (fun j hj hj2 => ?_)
          · rw [hpre j (by omega), rowf_s, upR_n (by omega)]
          · by_cases e : j = c
            · subst e
              rw [setI_at, hdig]
            · rw [sk_f e]
              exact hrow j (by omega) hj2
      have e1 : (1 : Int32) = bi (∀ j, j < nC A → nC A ≤ j → (rowf (nC A) r j = 2 ∨ rdB A j = true)) := (bi_t (fun j h1 h2 => by omega)).symm
      have kk := key (nC A) (Nat.le_refl _) r σr (Nat.le_refl _) OffM.rf (fun j hj => rfl) (fun j h1 h2 => by omega)
      rw [← e1] at kk
      exact kk
  · intro c hc ih
    refine sg_M_findBest_5 ⟨fun q => ?_, fun _ => ?_⟩
    · rw [hp.1] at q
      exact absurd ((nI_leI (by omega) (by omega)).mp q) (by omega)
    · rw [show (3 : Int32) = nI 3 from rfl, pk_mul, ← Nat.pow_succ, nI_1]
      exact ih
-- best, how
def bsv (A : ST) (a b : Nat) (a3 : Int32) : Int32 := if a3 = 0 then nI (pbv A a b).1 else if a3 = 1 then nI (pbv A a b).2.1 else nI (pbv A a b).2.2.1
abbrev g_best (a1 a2 a3 : Int32) : Prop := g_two a1 a2 ∧ rg a3 0 2
def an_best (A : ST) (a1 a2 a3 : Int32) : Int32 := if g_best a1 a2 a3 then bsv A a1.toNatClampNeg a2.toNatClampNeg a3 else -2
theorem cs_best {A : ST} {a1 a2 a3 : Int32} {d : Nat} (hw : Wf A) : CS m_O_best [some (vR 0 0), some (vI a1), some (vI a2), some (vI a3)] (d + 12) A A (vI (an_best A a1 a2 a3)) := by
  intro σ post h K
  unfold an_best at K
  by_cases hg : g_best a1 a2 a3
  · rw [if_pos hg] at K
    refine sg_O_best_0 (d := d + 8) ⟨fun _ => ?_, fun g => absurd ⟨c_two.mpr hg.1, (wi 0 2).mpr hg.2⟩ g⟩
    obtain ⟨x, y, hx, hy, _, rfl, rfl⟩ := two_ix hg.1
    rw [nI_ix (by omega), nI_ix (by omega)] at K
    refine c_search hw h hx hy (fun σ' ho hP => ⟨rfl, ?_⟩)
    have K' := K σ' (h.off ho) (AgM.off ho)
    unfold bsv at K'
    unfold fn_P_lines fn_P_waits fn_P_minutes
    rw [hP.1.1, hP.1.2.1, hP.1.2.2.1]
    refine ⟨fun q => ?_, fun q => ⟨fun q2 => ?_, fun q2 => ?_⟩⟩
    · rw [if_pos q] at K'; exact K'
    · rw [if_neg q, if_pos q2] at K'; exact K'
    · rw [if_neg q, if_neg q2] at K'; exact K'
  · rw [if_neg hg] at K
    exact sg_O_best_0 (d := d + 8) ⟨fun g => absurd ⟨c_two.mp g.1, (wi 0 2).mp g.2⟩ hg, fun _ => K σ h (AgM.off (S := []) Off.rf)⟩
theorem m_bestOf {A σ : ST} {a b : Nat} {a3 : Int32} (hP : mPl A (pbv A a b) σ) : fn_M_bestOf σ a3 = bsv A a b a3 := by
  unfold fn_M_bestOf bsv
  rw [hP.1.1, hP.1.2.1, hP.1.2.2.1]
theorem ms_best {A : ST} {a1 a2 a3 : Int32} {d : Nat} (hw : Wf A) : MSp m_M_best [some (vR 11 0), some (vI a1), some (vI a2), some (vI a3)] (d + 5) A A (vI (an_best A a1 a2 a3)) := by
  intro σ post h K
  unfold an_best at K
  by_cases hg : g_best a1 a2 a3
  · rw [if_pos hg] at K
    refine sg_M_best_0 ⟨fun _ => m_reads hw h (fun σ1 h1 h2 h3 => ⟨_, rfl, ?_⟩), fun g => absurd ⟨m_two.mpr hg.1, (mi 0 2).mpr hg.2⟩ g⟩
    obtain ⟨x, y, hx, hy, _, rfl, rfl⟩ := two_ix hg.1
    rw [nI_ix (by omega), nI_ix (by omega)] at K
    refine m_best hw h1 h2 hx hy (fun σ' ho hP => ⟨rfl, ?_⟩)
    rw [m_bestOf hP]
    exact K σ' (h1.off ho) (AgC.tr (AgC.off h3) (AgC.off ho))
  · rw [if_neg hg] at K
    exact sg_M_best_0 ⟨fun g => absurd ⟨m_two.mp g.1, (mi 0 2).mp g.2⟩ hg, fun _ => K σ h (AgC.off (S := []) (F := []) OffM.rf)⟩
abbrev g_how (A : ST) (a1 a2 a3 : Int32) : Prop := g_two a1 a2 ∧ rg a3 0 ((nC A : Int) - 1)
def an_how (A : ST) (a1 a2 a3 : Int32) : Int32 := if g_how A a1 a2 a3 then nI ((pbv A a1.toNatClampNeg a2.toNatClampNeg).2.2.2 a3.toNatClampNeg) else -2
theorem cs_how {A : ST} {a1 a2 a3 : Int32} {d : Nat} (hw : Wf A) : CS m_O_how [some (vR 0 0), some (vI a1), some (vI a2), some (vI a3)] (d + 12) A A (vI (an_how A a1 a2 a3)) := by
  intro σ post h K
  have h8 := nC_le hw
  unfold an_how at K
  by_cases hg : g_how A a1 a2 a3
  · rw [if_pos hg] at K
    refine sg_O_how_0 (d := d + 8) ⟨fun _ => ?_, fun g => absurd ⟨c_two.mpr hg.1, (c_isCh hw h).mpr hg.2⟩ g⟩
    obtain ⟨x, y, hx, hy, _, rfl, rfl⟩ := two_ix hg.1
    obtain ⟨c, hc, rfl⟩ := ch_ix hw hg.2
    rw [nI_ix (by omega), nI_ix (by omega), nI_ix (by omega)] at K
    refine c_search hw h hx hy (fun σ' ho hP => ⟨rfl, vpin (by omega) (by decide), ?_⟩)
    unfold fn_P_wayOf
    rw [nI_ix (by omega), hP.1.2.2.2 c hc]
    exact K σ' (h.off ho) (AgM.off ho)
  · rw [if_neg hg] at K
    exact sg_O_how_0 (d := d + 8) ⟨fun g => absurd ⟨c_two.mp g.1, (c_isCh hw h).mp g.2⟩ hg, fun _ => K σ h (AgM.off (S := []) Off.rf)⟩
theorem ms_how {A : ST} {a1 a2 a3 : Int32} {d : Nat} (hw : Wf A) : MSp m_M_how [some (vR 11 0), some (vI a1), some (vI a2), some (vI a3)] (d + 5) A A (vI (an_how A a1 a2 a3)) := by
  intro σ post h K
  have h8 := nC_le hw
  unfold an_how at K
  refine sg_M_how_0 ⟨fun g1 => m_isCh hw h (fun σ1 h1 h2 h3 => ⟨_, rfl, fun q => ?_, fun q => ?_⟩), fun g1 => ?_⟩
  · rw [if_neg (fun z => bi_0.mp q z.2)] at K
    exact K σ1 h1 (AgC.off h3)
  · have z1 := m_two.mp g1
    have z2 : rg a3 0 ((nC A : Int) - 1) := Decidable.byContradiction fun z => q (bi_0.mpr z)
    rw [if_pos ⟨z1, z2⟩] at K
    obtain ⟨x, y, hx, hy, _, rfl, rfl⟩ := two_ix z1
    obtain ⟨c, hc, rfl⟩ := ch_ix hw z2
    rw [nI_ix (by omega), nI_ix (by omega), nI_ix (by omega)] at K
    refine m_best hw h1 h2 hx hy (fun σ' ho hP => ⟨rfl, vpin (by omega) (by decide), ?_⟩)
    rw [nI_ix (by omega), hP.1.2.2.2 c hc]
    exact K σ' (h1.off ho) (AgC.tr (AgC.off h3) (AgC.off ho))
  · rw [if_neg (fun z => g1 (m_two.mpr z.1))] at K
    exact K σ h (AgC.off (S := []) (F := []) OffM.rf)
