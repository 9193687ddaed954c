-- moods: the class
theorem cntb_mono (b : Nat → Bool) {i k : Nat} (h : i ≤ k) : cntb b i ≤ cntb b k := by
  induction k with
  | zero => rw [show i = 0 by omega]; exact Nat.le_refl _
  | succ k ih =>
    by_cases e : i = k + 1
    · rw [e]; exact Nat.le_refl _
    · have := ih (by omega)
      rw [cntb_s]
      omega
theorem cntb_inv (b : Nat → Bool) {j : Nat} : ∀ {k : Nat}, j < cntb b k → ∃ r, r < k ∧ b r = true ∧ cntb b r = j
  | 0, h => absurd h (Nat.not_lt_zero _)
  | k + 1, h => by
    rw [cntb_s] at h
    by_cases hj : j < cntb b k
    · obtain ⟨r, h1, h2⟩ := cntb_inv b (k := k) hj
      exact ⟨r, by omega, h2⟩
    · by_cases hb : b k = true
      · rw [if_pos hb] at h
        exact ⟨k, by omega, hb, by omega⟩
      · rw [if_neg hb] at h
        omega
theorem lm_le {b : Nat → Bool} {t : Nat → Nat} {B x : Nat} : ∀ k, (∀ r, r < k → 2 * t r ≤ B) → lm b t k x ≤ B
  | 0, _ => Nat.zero_le _
  | k + 1, h => by
    have := lm_le (b := b) (t := t) (x := x) k (fun r hr => h r (by omega))
    have := h k (by omega)
    rw [lm_s]
    split
    · split <;> omega
    · omega
theorem sm_le {b : Nat → Bool} {q : Nat → Nat} {x : Nat} : ∀ k, (∀ r, r < k → q r ≤ 4) → sm b q k x ≤ 4 ^ k
  | 0, _ => Nat.le_refl _
  | k + 1, h => by
    have h1 := sm_le (b := b) (q := q) (x := x) k (fun r hr => h r (by omega))
    have h2 := h k (by omega)
    rw [sm_s, Nat.pow_succ]
    refine Nat.mul_le_mul h1 ?_
    split
    · split <;> omega
    · omega
theorem p43 {n : Nat} (hn : n ≤ 3) : 4 ^ n ≤ 64 := Nat.le_trans (Nat.pow_le_pow_right (by decide) hn) (Nat.le_refl _)
theorem p23 {n : Nat} (hn : n ≤ 3) : 2 ^ n ≤ 8 := Nat.le_trans (Nat.pow_le_pow_right (by decide) hn) (Nat.le_refl _)
def Acc (x : Nat) (h : (Nat → Nat) → Nat) (σ : ST) : Prop := ∃ (k : Nat) (L S : Nat → Nat), k ≤ x ∧ σ.1 9 0 6 = nI k ∧ (∀ j, j < k → σ.1 38 0 j = nI (L j) ∧ σ.1 39 0 j = nI (S j) ∧ L j ≤ 396 ∧ S j ≤ 64 * x) ∧ ∀ g : Nat → Nat, sumN (fun j => S j * g (L j)) k = h g
theorem c_add {σ : ST} {d x l p : Nat} {h : (Nat → Nat) → Nat} (hx : x < 8) (hl : l ≤ 396) (hp : p ≤ 64) (hA : Acc x h σ) {post : Option AV → ST → Prop} (K : ∀ σ', Off [9, 38, 39] σ σ' → Acc (x + 1) (fun g => h g + p * g l) σ' → post none σ') : Ev none d m_D_addOutcome 0 [some (vR 9 0), some (vI (nI l)), some (vI (nI p)), none] [] σ post := by
  obtain ⟨k, L, S, hk, e6, hj, hg⟩ := hA
  refine sg_D_addOutcome_0 ⟨fun q => ?_, fun q => ?_⟩
  · have p0 : p = 0 := (nI_is (b := 0) (by omega) (by decide)).mp q
    subst p0
    refine K σ Off.rf ⟨k, L, S, by omega, e6, fun j hj' => ?_, fun g => ?_⟩
    · obtain ⟨u1, u2, u3, u4⟩ := hj j hj'
      exact ⟨u1, u2, u3, by omega⟩
    · rw [hg g]
      show h g = h g + 0 * g l
      rw [Nat.zero_mul, Nat.add_zero]
  · refine upto (n := k) (P := fun j => (∀ i, i < j → L i ≠ l) → Ev none d m_D_addOutcome 7 [some (vR 9 0), some (vI (nI l)), some (vI (nI p)), some (vI (nI j))] [] σ post) ?_ ?_ (fun i hi => absurd hi (Nat.not_lt_zero _))
    · intro hn
      refine sg_D_addOutcome_7 ⟨fun _ => ⟨fun w => ?_, fun _ => ?_⟩, fun w => absurd (by rw [e6]; exact Int32.le_refl _) w⟩
      · rw [e6] at w
        exact absurd ((nI_leI (a := 8) (by decide) (by omega)).mp w) (by omega)
      · rw [sk_k (show (9 : Nat) ≠ 38 by decide), sk_k (show (9 : Nat) ≠ 39 by decide), sk_k (show (9 : Nat) ≠ 38 by decide), e6, nI_ix (by omega), nI_1]
        refine ⟨vpin (by omega) (by decide), vpin (by omega) (by decide), ?_⟩
        refine K _ (Off.sI (Off.sI (Off.sI Off.rf (by decide)) (by decide)) (by decide)) ⟨k + 1, fun j => if j = k then l else L j, fun j => if j = k then p else S j, by omega, by rw [setI_at], fun j hj' => ?_, fun g => ?_⟩
        · show _ = nI (if j = k then l else L j) ∧ _ = nI (if j = k then p else S j) ∧ (if j = k then l else L j) ≤ 396 ∧ (if j = k then p else S j) ≤ 64 * (x + 1)
          rw [sk_k (show (38 : Nat) ≠ 9 by decide), sk_k (show (38 : Nat) ≠ 39 by decide), sk_k (show (39 : Nat) ≠ 9 by decide)]
          by_cases e : j = k
          · subst e
            rw [setI_at, setI_at, if_pos rfl, if_pos rfl]
            exact ⟨rfl, rfl, hl, by omega⟩
          · obtain ⟨u1, u2, u3, u4⟩ := hj j (by omega)
            rw [sk_f e, sk_f e, sk_k (show (39 : Nat) ≠ 38 by decide), if_neg e, if_neg e]
            exact ⟨u1, u2, u3, by omega⟩
        · rw [sumN_s, sumN_cg (g := fun j => S j * g (L j)) (fun j hj' => by show (if j = k then p else S j) * g (if j = k then l else L j) = _; rw [if_neg (by omega), if_neg (by omega)]), hg g]
          show h g + (if k = k then p else S k) * g (if k = k then l else L k) = _
          rw [if_pos rfl, if_pos rfl]
    · intro j hjk ih hn
      obtain ⟨u1, u2, u3, u4⟩ := hj j hjk
      have hvj := vpin (show j < 8 by omega) (by decide)
      refine sg_D_addOutcome_7 ⟨fun w => ?_, fun _ => ⟨hvj, fun w => ⟨hvj, hvj, ?_⟩, fun w => ?_⟩⟩
      · rw [e6] at w
        exact absurd ((nI_leI (by omega) (by omega)).mp w) (by omega)
      · rw [nI_ix (by omega), u1] at w
        have el : L j = l := (nI_eq (by omega) (by omega)).mp w
        rw [nI_ix (by omega), u2, nI_add]
        refine K _ (Off.sI Off.rf (by decide)) ⟨k, L, fun i => if i = j then S i + p else S i, by omega, by rw [sk_k (by decide)]; exact e6, fun i hi => ?_, fun g => ?_⟩
        · obtain ⟨v1, v2, v3, v4⟩ := hj i hi
          rw [sk_k (show (38 : Nat) ≠ 39 by decide)]
          show _ ∧ _ = nI (if i = j then S i + p else S i) ∧ _ ∧ (if i = j then S i + p else S i) ≤ 64 * (x + 1)
          by_cases e : i = j
          · subst e
            rw [setI_at, if_pos rfl]
            exact ⟨v1, rfl, v3, by omega⟩
          · rw [sk_f e, if_neg e]
            exact ⟨v1, v2, v3, by omega⟩
        · have := sumN_upd (S := S) (g := fun i => g (L i)) (p := p) hjk
          show sumN (fun i => (if i = j then S i + p else S i) * g (L i)) k = _
          rw [this, hg g, el]
      · rw [nI_ix (by omega), u1] at w
        rw [nI_1]
        refine ih (fun i hi => ?_)
        by_cases e : i = j
        · subst e
          intro z
          exact w (by rw [z])
        · exact hn i (by omega)
def Out (A : ST) (s c : Nat) (σ : ST) : Prop := ∃ (k : Nat) (L S : Nat → Nat), k ≤ 8 ∧ σ.1 9 0 6 = nI k ∧ (∀ j, j < k → σ.1 38 0 j = nI (L j) ∧ σ.1 39 0 j = nI (S j) ∧ L j ≤ 396 ∧ S j ≤ 512) ∧ ∀ g : Nat → Nat, sumN (fun j => S j * g (L j)) k = EE A s c g
theorem c_out2 {A σ : ST} {d s c : Nat} (hw : Wf A) (hs : s < 64) (hn : cntb s.testBit 6 ≤ 3) (hc : c < nC A) (hM : ∀ r, r < 6 → s.testBit r = true → σ.1 36 0 (cntb s.testBit r) = nI (tmn A c r) ∧ σ.1 37 0 (cntb s.testBit r) = nI (qd A r)) (e6 : σ.1 9 0 6 = 0) {post : Option AV → ST → Prop} (K : ∀ σ', Off [9, 38, 39] σ σ' → Out A s c σ' → post none σ') : Ev none (d + 3) m_D_findOutcomes 77 [some (vR 9 0), none, none, some (vI (nI (cntb s.testBit 6))), some (vI 0), none, none, none, none] [] σ post := by
  generalize hnn : cntb s.testBit 6 = n at *
  have hM2 : ∀ j, j < n → ∃ t q : Nat, σ.1 36 0 j = nI t ∧ σ.1 37 0 j = nI q ∧ t ≤ 198 ∧ q ≤ 4 := by
    intro j hj
    rw [← hnn] at hj
    obtain ⟨r, h1, h2, h3⟩ := cntb_inv _ hj
    obtain ⟨u1, u2⟩ := hM r h1 h2
    rw [h3] at u1 u2
    exact ⟨_, _, u1, u2, (tmn_ix hw h1 hc).2, (qd_ix hw h1).2⟩
  generalize ht' : (fun j => (σ.1 36 0 j).toNatClampNeg) = t'
  generalize hq' : (fun j => (σ.1 37 0 j).toNatClampNeg) = q'
  have hT : ∀ j, j < n → σ.1 36 0 j = nI (t' j) ∧ t' j ≤ 198 := by
    intro j hj
    obtain ⟨t, q, u1, u2, u3, u4⟩ := hM2 j hj
    rw [← ht']
    show σ.1 36 0 j = nI (σ.1 36 0 j).toNatClampNeg ∧ (σ.1 36 0 j).toNatClampNeg ≤ 198
    rw [u1, nI_ix (by omega)]
    exact ⟨rfl, u3⟩
  have hQ : ∀ j, j < n → σ.1 37 0 j = nI (q' j) ∧ q' j ≤ 4 := by
    intro j hj
    obtain ⟨t, q, u1, u2, u3, u4⟩ := hM2 j hj
    rw [← hq']
    show σ.1 37 0 j = nI (σ.1 37 0 j).toNatClampNeg ∧ (σ.1 37 0 j).toNatClampNeg ≤ 4
    rw [u2, nI_ix (by omega)]
    exact ⟨rfl, u4⟩
  have hE : ∀ g, EE A s c g = sumN (fun y => sm (fun _ => true) q' n y * g (lm (fun _ => true) t' n y)) (2 ^ n) := by
    intro g
    unfold EE
    rw [UU_mem (t' := t') (q' := q') 6 _ (fun r hr hb => ?_), hnn, ← SU]
    · refine sumN_cg (fun x hx => ?_)
      rw [if_pos (fun _ _ _ => rfl)]
    · obtain ⟨u1, u2⟩ := hM r hr hb
      have g1 := (tmn_ix hw hr hc).2
      have g2 := (qd_ix hw hr).2
      rw [← ht', ← hq']
      show (σ.1 36 0 (cntb s.testBit r)).toNatClampNeg = _ ∧ (σ.1 37 0 (cntb s.testBit r)).toNatClampNeg = _
      rw [u1, u2, nI_ix (by omega), nI_ix (by omega)]
      exact ⟨rfl, rfl⟩
  have hp2 := p23 hn
  have hp4 := p43 hn
  have eI : isl 1 (nI n) = nI (2 ^ n) := isl1_nI (by omega)
  refine upto (n := 2 ^ n) (P := fun x => ∀ σx, Off [9, 38, 39] σ σx → Acc x (fun g => sumN (fun y => sm (fun _ => true) q' n y * g (lm (fun _ => true) t' n y)) x) σx → Ev none (d + 3) m_D_findOutcomes 77 [some (vR 9 0), none, none, some (vI (nI n)), some (vI (nI x)), none, none, none, none] [] σx post) ?_ ?_ σ Off.rf ⟨0, fun _ => 0, fun _ => 0, Nat.le_refl _, e6, fun j hj => absurd hj (Nat.not_lt_zero _), fun g => rfl⟩
  · intro σx ho hA
    refine sg_D_findOutcomes_77 ⟨fun _ => K σx ho ?_, fun q => absurd (by rw [eI]; exact Int32.le_refl _) q⟩
    obtain ⟨k, L, S, hk, e6, hj, hg⟩ := hA
    refine ⟨k, L, S, by omega, e6, fun j hj' => ?_, fun g => by rw [hg g, hE g]⟩
    obtain ⟨u1, u2, u3, u4⟩ := hj j hj'
    exact ⟨u1, u2, u3, by omega⟩
  · intro x hx ih σx ho hA
    refine sg_D_findOutcomes_77 ⟨fun q => ?_, fun _ => ?_⟩
    · rw [eI] at q
      exact absurd ((nI_leI (by omega) (by omega)).mp q) (by omega)
    have e36 := (ho 36 (by decide)).1
    have e37 := (ho 37 (by decide)).1
    refine upto (n := n) (P := fun m => Ev none (d + 3) m_D_findOutcomes 94 [some (vR 9 0), none, none, some (vI (nI n)), some (vI (nI x)), some (vI (nI (lm (fun _ => true) t' m x))), some (vI (nI (sm (fun _ => true) q' m x))), some (vI (nI m)), none] [] σx post) ?_ ?_
    · have hl := lm_le (b := fun _ => true) (t := t') (B := 396) (x := x) n (fun r hr => by have := (hT r hr).2; omega)
      have hsm := sm_le (b := fun _ => true) (q := q') (x := x) n (fun r hr => (hQ r hr).2)
      refine sg_D_findOutcomes_94 ⟨fun _ => c_add (by omega) hl (by omega) hA (fun σ' ho' hA' => ⟨rfl, ?_⟩), fun q => absurd (Int32.le_refl _) q⟩
      rw [nI_1]
      exact ih σ' (Off.tr ho ho') hA'
    · intro m hm ihm
      have hvm := vpin (show m < 3 by omega) (by decide)
      have hb : hld (nI x) m ↔ x.testBit m = true := bit_one (by omega) (by omega)
      refine sg_D_findOutcomes_94 ⟨fun q => absurd ((nI_leI (by omega) (by omega)).mp q) (by omega), fun _ => ⟨⟨fun _ => hvm, fun _ => hvm⟩, fun z7 hz7 => ⟨⟨fun _ => hvm, fun _ => hvm⟩, fun z10 hz10 => ?_⟩⟩⟩
      have hl := lm_le (b := fun _ => true) (t := t') (B := 396) (x := x) m (fun r hr => by have := (hT r (by omega)).2; omega)
      obtain ⟨t1, t2⟩ := hT m hm
      obtain ⟨q1, q2⟩ := hQ m hm
      rw [nI_ix (by omega), e36, t1] at hz7
      rw [nI_ix (by omega), e37, q1] at hz10
      have f7 : z7 = nI (if x.testBit m = true then 2 * t' m else t' m) := by
        rw [hz7]
        by_cases g : x.testBit m = true
        · rw [if_pos (hb.mpr g), if_pos g, show (2 : Int32) = nI 2 from rfl, pk_mul]
        · rw [if_neg (fun w => g (hb.mp w)), if_neg g]
      have f10 : z10 = nI (if x.testBit m = true then q' m else 4 - q' m) := by
        rw [hz10]
        by_cases g : x.testBit m = true
        · rw [if_pos (hb.mpr g), if_pos g]
        · rw [if_neg (fun w => g (hb.mp w)), if_neg g, show (4 : Int32) = nI 4 from rfl, pk_sub q2]
      have f7l : (if x.testBit m = true then 2 * t' m else t' m) ≤ 396 := by split <;> omega
      rw [f7, f10, imax_nI (by omega) (by omega), pk_mul, nI_1]
      have e1 : lm (fun _ => true) t' (m + 1) x = max (lm (fun _ => true) t' m x) (if x.testBit m = true then 2 * t' m else t' m) := by
        rw [lm_s, if_pos rfl]
      have e2 : sm (fun _ => true) q' (m + 1) x = sm (fun _ => true) q' m x * (if x.testBit m = true then q' m else 4 - q' m) := by
        rw [sm_s, if_pos rfl]
      rw [e1, e2] at ihm
      exact ihm
theorem c_out {A σ : ST} {d s c : Nat} (hw : Wf A) (h : RepC A σ) (hs : s < 64) (hn : cntb s.testBit 6 ≤ 3) (hc : c < nC A) {post : Option AV → ST → Prop} (K : ∀ σ', Off [9, 36, 37, 38, 39] σ σ' → Out A s c σ' → post none σ') : Ev none (d + 3) m_D_findOutcomes 0 [some (vR 9 0), some (vI (nI s)), some (vI (nI c)), none, none, none, none, none, none] [] σ post := by
  have h8 := nC_le hw
  refine sg_D_findOutcomes_0 ?_
  have fin : ∀ (r : Nat) (σr : ST), r ≤ 6 → Off [36, 37] σ σr → cntb s.testBit r = cntb s.testBit 6 → (∀ x, x < r → s.testBit x = true → σr.1 36 0 (cntb s.testBit x) = nI (tmn A c x) ∧ σr.1 37 0 (cntb s.testBit x) = nI (qd A x)) → Ev none (d + 3) m_D_findOutcomes 77 [some (vR 9 0), none, none, some (vI (nI (cntb s.testBit r))), some (vI 0), none, none, none, none] [] (setI σr 9 0 6 0) post := by
    intro r σr hr ho hcn hm
    rw [hcn]
    refine c_out2 hw hs hn hc (fun x hx hb => ?_) (by rw [setI_at]) (fun σ' ho' hO => K σ' (Off.tr (Off.sI (ho.mono (by decide)) (by decide)) (ho'.mono (by decide))) hO)
    rw [sk_k (by decide), sk_k (by decide)]
    rcases Nat.lt_or_ge x r with g | g
    · exact hm x g hb
    · exfalso
      have e1 : cntb s.testBit (x + 1) = cntb s.testBit x + 1 := by rw [cntb_s, if_pos hb]
      have e2 := cntb_mono s.testBit (show x + 1 ≤ 6 by omega)
      have e3 := cntb_mono s.testBit g
      omega
  refine upto (n := 6) (P := fun r => ∀ σr, Off [36, 37] σ σr → (∀ x, x < r → s.testBit x = true → σr.1 36 0 (cntb s.testBit x) = nI (tmn A c x) ∧ σr.1 37 0 (cntb s.testBit x) = nI (qd A x)) → Ev none (d + 3) m_D_findOutcomes 5 [some (vR 9 0), some (vI (nI s)), some (vI (nI c)), some (vI (nI (cntb s.testBit r))), some (vI (nI r)), none, none, none, none] [] σr post) ?_ ?_ σ Off.rf (fun x hx => absurd hx (Nat.not_lt_zero _))
  · intro σr ho hm
    exact sg_D_findOutcomes_5 ⟨fun _ => fin 6 σr (Nat.le_refl _) ho rfl hm, fun q => absurd (Int32.le_refl _) q⟩
  · intro r hr ih σr ho hm
    have hcr := cntb_mono s.testBit (show r ≤ 6 by omega)
    refine sg_D_findOutcomes_5 ⟨fun q => absurd ((nI_leI (a := 6) (by decide) (by omega)).mp q) (by omega), fun _ => ⟨fun q => ?_, fun q => ⟨fun g => ?_, fun g => ?_⟩⟩⟩
    · have := (nI_leI (a := 3) (by decide) (by omega)).mp q
      exact fin r σr (by omega) ho (by omega) hm
    · have hlt : cntb s.testBit r < 3 := by
        rcases Nat.lt_or_ge (cntb s.testBit r) 3 with w | w
        · exact w
        · exact absurd ((nI_leI (a := 3) (by decide) (by omega)).mpr w) q
      have hb := (hldT hs hr).mp g
      have hR := h.off ho
      obtain ⟨t1, t2⟩ := c_tm hw hR hr hc
      have hv := vpin hlt (by decide)
      refine ⟨t2, hv, vpin hr (by decide), hv, ?_⟩
      have em : fn_R_mood (setI σr 36 0 ((nI (cntb s.testBit r)).toNatClampNeg) (fn_C_minutes σr (nI r) (nI c))) (fx_C_person (setI σr 36 0 ((nI (cntb s.testBit r)).toNatClampNeg) (fn_C_minutes σr (nI r) (nI c))) (nI r)) = nI (qd A r) := by
        unfold fn_R_mood
        rw [show ∀ τ : ST, fx_C_person τ (nI r) = r from fun τ => nI_ix (by omega), sk_k (by decide), show (2 : Int32).toNatClampNeg = 2 from rfl, hR.2.2.2.2.1 r 2 hr (by omega)]
        exact (qd_ix hw hr).1
      rw [em, t1, (tmn_ix hw hr hc).1, nI_ix (by omega), nI_1, nI_1]
      have ec : cntb s.testBit r + 1 = cntb s.testBit (r + 1) := by rw [cntb_s, if_pos hb]
      rw [ec]
      refine ih _ (Off.sI (Off.sI ho (by decide)) (by decide)) (fun x hx hbx => ?_)
      rw [sk_k (show (36 : Nat) ≠ 37 by decide)]
      by_cases e : x = r
      · subst e
        rw [setI_at, setI_at]
        exact ⟨rfl, rfl⟩
      · have e1 : cntb s.testBit (x + 1) = cntb s.testBit x + 1 := by rw [cntb_s, if_pos hbx]
        have e3 := cntb_mono s.testBit (show x + 1 ≤ r by omega)
        rw [sk_f (by omega), sk_f (by omega), sk_k (by decide)]
        exact hm x (by omega) hbx
    · have hb : ¬ s.testBit r = true := fun w => g ((hldT hs hr).mpr w)
      rw [nI_1]
      have ec : cntb s.testBit (r + 1) = cntb s.testBit r := by rw [cntb_s, if_neg hb]; rfl
      rw [ec] at ih
      refine ih σr ho (fun x hx hbx => ?_)
      by_cases e : x = r
      · subst e; exact absurd hbx hb
      · exact hm x (by omega) hbx
theorem setJ_i (σ : ST) (k i f : Nat) (v : Int64) : (setJ σ k i f v).1 = σ.1 := rfl
theorem setJ_if (σ : ST) (k i f : Nat) (v : Int64) (c : Nat) : (setJ σ k i f v).2 k i c = if c = f then v else σ.2 k i c := by
  simp [setJ]
abbrev gW (w : Nat → Nat) (m l : Nat) : Nat := if l ≤ m then w (m - l) else 0
theorem c_on {A σ : ST} {d s c N : Nat} {w : Nat → Nat} (hN : N ≤ 3168) (hO : Out A s c σ) (hW : ∀ i, i ≤ N → σ.2 35 0 i = lN (w i)) {post : Option AV → ST → Prop} (K : ∀ σ', Off [35] σ σ' → (∀ i, i ≤ N → σ'.2 35 0 i = lN (EE A s c (gW w i))) → post none σ') : Ev none d m_D_readOn 0 [some (vR 9 0), some (vI (nI N)), none, none, none, none] [] σ post := by
  obtain ⟨k, L, S, hk, e6, hj, hg⟩ := hO
  refine sg_D_readOn_0 ?_
  have inner : ∀ (m : Nat) (σm : ST), m ≤ N → Off [35] σ σm → (∀ i, i ≤ m → σm.2 35 0 i = lN (w i)) → Ev none d m_D_readOn 2 [some (vR 9 0), none, some (vI (nI m + (-1))), none, none, none] [] (setJ σm 35 0 m (lN (EE A s c (gW w m)))) post → Ev none d m_D_readOn 2 [some (vR 9 0), none, some (vI (nI m)), none, none, none] [] σm post := by
    intro m σm hm ho hw1 Kn
    have e6m : σm.1 9 0 6 = nI k := by rw [(ho 9 (by decide)).1]; exact e6
    have e38 := (ho 38 (by decide)).1
    have e39 := (ho 39 (by decide)).1
    refine sg_D_readOn_2 ⟨fun q => absurd q (nI_pos (by omega)), fun _ => ?_⟩
    refine upto (n := k) (P := fun j => Ev none d m_D_readOn 11 [some (vR 9 0), none, some (vI (nI m)), some (vJ (lN (sumN (fun j => S j * gW w m (L j)) j))), none, some (vI (nI j))] [] σm post) ?_ ?_
    · refine sg_D_readOn_11 ⟨fun _ => ⟨vpin (by omega) (by decide), ?_⟩, fun q => absurd (by rw [e6m]; exact Int32.le_refl _) q⟩
      rw [nI_ix (by omega), hg (gW w m)]
      exact Kn
    · intro j hjk ih
      obtain ⟨u1, u2, u3, u4⟩ := hj j hjk
      have hvj := vpin (show j < 8 by omega) (by decide)
      refine sg_D_readOn_11 ⟨fun q => ?_, fun _ => ?_⟩
      · rw [e6m] at q
        exact absurd ((nI_leI (by omega) (by omega)).mp q) (by omega)
      · have hlt : nI m < nI (L j) ↔ m < L j := nI_ltI (by omega) (by omega)
        rw [nI_ix (by omega), e38, e39, u1, u2]
        refine ⟨hvj, ⟨fun _ => trivial, fun q => ⟨hvj, hvj, ?_⟩⟩, fun z hz => ?_⟩
        · have q' : ¬ m < L j := fun w => q (hlt.mpr w)
          rw [pk_sub (by omega)]
          exact vpin (by omega) (by decide)
        · have ez : z = lN (sumN (fun j => S j * gW w m (L j)) (j + 1)) := by
            rw [hz, sumN_s]
            by_cases q : m < L j
            · rw [if_pos (hlt.mpr q), show gW w m (L j) = 0 from if_neg (by omega), Nat.mul_zero, Nat.add_zero]
            · rw [if_neg (fun w => q (hlt.mp w)), pk_sub (by omega), nI_ix (by omega), hw1 _ (by omega), nI_l (by omega), lN_mul, lN_add, show gW w m (L j) = w (m - L j) from if_pos (by omega)]
          rw [ez, nI_1]
          exact ih
  have key : ∀ (m : Nat) (σm : ST), m ≤ N → Off [35] σ σm → (∀ i, i ≤ m → σm.2 35 0 i = lN (w i)) → (∀ i, m < i → i ≤ N → σm.2 35 0 i = lN (EE A s c (gW w i))) → Ev none d m_D_readOn 2 [some (vR 9 0), none, some (vI (nI m)), none, none, none] [] σm post := by
    intro m
    induction m with
    | zero =>
      intro σm hm ho h1 h2
      refine inner 0 σm hm ho h1 (sg_D_readOn_2 ⟨fun _ => K _ (Off.sJ ho (by decide)) (fun i hi => ?_), fun q => absurd (by decide) q⟩)
      rw [setJ_if]
      by_cases e : i = 0
      · rw [if_pos e, e]
      · rw [if_neg e]
        exact h2 i (by omega) hi
    | succ m ih =>
      intro σm hm ho h1 h2
      refine inner (m + 1) σm hm ho h1 ?_
      rw [pk_m1]
      refine ih _ (by omega) (Off.sJ ho (by decide)) (fun i hi => ?_) (fun i hi hi2 => ?_)
      · rw [setJ_if, if_neg (by omega)]
        exact h1 i (by omega)
      · rw [setJ_if]
        by_cases e : i = m + 1
        · rw [if_pos e, e]
        · rw [if_neg e]
          exact h2 i (by omega) hi2
  exact key N σ (Nat.le_refl _) Off.rf hW (fun i h1 h2 => by omega)
theorem p448 {n k : Nat} (hn : n ≤ 3) (hk : k ≤ 8) : 4 ^ (n * k) ≤ 2 ^ 48 := by
  have h1 : n * k ≤ 3 * 8 := Nat.mul_le_mul hn hk
  exact Nat.le_trans (Nat.pow_le_pow_right (by decide) h1) (by decide)
theorem c_cases {σ : ST} {s : Nat} (hs : s < 64) (hn : pcn s ≤ 3) : fn_D_casesOf σ (nI s) = lN (4 ^ pcn s) := by
  unfold fn_D_casesOf
  rw [c_bits s hs, show (2 : Int32) = nI 2 from rfl, pk_mul, lsl_n (pcn s) hn, Int64.one_mul]
def dnX (A : ST) (s m : Nat) : Nat := sumN (wY A s (nC A)) (min m 3168 + 1)
def dnY (A : ST) (s : Nat) : Nat := 4 ^ (pcn s * rdc A (nC A))
theorem dn_ok {A : ST} (hw : Wf A) {s : Nat} (m : Nat) (hs : s < 64) (hn : pcn s ≤ 3) : dnX A s m < 2 ^ 63 ∧ dnY A s < 2 ^ 63 ∧ 0 < dnY A s := by
  have h8 := nC_le hw
  have h1 := wY_tot hw hs (min m 3168 + 1) (nC A) (Nat.le_refl _)
  have h2 := rdc_le A (nC A)
  have h3 := p448 hn (show rdc A (nC A) ≤ 8 by omega)
  have h4 : 0 < 4 ^ (pcn s * rdc A (nC A)) := Nat.pow_pos (by decide)
  unfold dnX dnY
  omega
theorem tog_ge {A : ST} (hw : Wf A) {s c : Nat} (hs : s < 64) (hc : c < nC A) : ∀ k, k ≤ 6 → ∃ t : Nat, t ≤ 198 ∧ togK A (nI s) c k = nI t ∧ ∀ r, r < k → s.testBit r = true → tmn A c r ≤ t
  | 0, _ => ⟨0, by omega, rfl, fun r hr => absurd hr (Nat.not_lt_zero _)⟩
  | k + 1, hk => by
    obtain ⟨t, h1, h2, h3⟩ := tog_ge hw hs hc k (by omega)
    have hk6 : k < 6 := by omega
    obtain ⟨e1, e2⟩ := tmn_ix hw hk6 hc
    by_cases hl : hld (nI s) k
    · refine ⟨max t (tmn A c k), by omega, by rw [togK_s, if_pos hl, h2, e1, imax_nI (by omega) (by omega)], fun r hr hb => ?_⟩
      by_cases e : r = k
      · subst e; exact Nat.le_max_right _ _
      · exact Nat.le_trans (h3 r (by omega) hb) (Nat.le_max_left _ _)
    · refine ⟨t, h1, by rw [togK_s, if_neg hl]; exact h2, fun r hr hb => ?_⟩
      by_cases e : r = k
      · subst e; exact absurd ((hldT hs hk6).mpr hb) hl
      · exact h3 r (by omega) hb
def tgn (A : ST) (s c : Nat) : Nat := (togK A (nI s) c 6).toNatClampNeg
theorem tgn_ix {A : ST} (hw : Wf A) {s c : Nat} (hs : s < 64) (hc : c < nC A) : tog A (nI s) c = nI (tgn A s c) ∧ tgn A s c ≤ 198 ∧ ∀ r, r < 6 → s.testBit r = true → tmn A c r ≤ tgn A s c := by
  obtain ⟨t, h1, h2, h3⟩ := tog_ge hw hs hc 6 (Nat.le_refl _)
  have e : tgn A s c = t := by
    unfold tgn
    rw [h2, nI_ix (by omega)]
  rw [e]
  exact ⟨h2, h1, h3⟩
def lgS (A : ST) (s : Nat) : Nat → Nat
  | 0 => 0
  | c + 1 => lgS A s c + (if A.1 4 0 c = 0 then 2 * tgn A s c else 0)
theorem lgS_s {A : ST} {s c : Nat} : lgS A s (c + 1) = lgS A s c + (if A.1 4 0 c = 0 then 2 * tgn A s c else 0) := rfl
theorem lgS_le {A : ST} (hw : Wf A) {s : Nat} (hs : s < 64) : ∀ c, c ≤ nC A → lgS A s c ≤ 396 * c
  | 0, _ => Nat.le_refl _
  | c + 1, hc => by
    have ih := lgS_le hw hs c (by omega)
    have h1 := (tgn_ix hw hs (show c < nC A by omega)).2.1
    rw [lgS_s]
    split <;> omega
theorem wY_lg {A : ST} (hw : Wf A) {s : Nat} (hs : s < 64) : ∀ c, c ≤ nC A → ∀ t, lgS A s c < t → wY A s c t = 0
  | 0, _, t, ht => by
    show (if t = 0 then 1 else 0) = 0
    rw [if_neg (by omega)]
  | c + 1, hc, t, ht => by
    have ih := wY_lg hw hs c (by omega)
    rw [lgS_s] at ht
    rw [wY_s]
    by_cases h0 : A.1 4 0 c = 0
    · rw [if_pos h0] at ht
      rw [if_pos h0]
      unfold EE
      have h3 := (tgn_ix hw hs (show c < nC A by omega)).2.2
      rw [UU_cg (B := 2 * tgn A s c) 6 _ (fun _ _ => 0) (fun r hr hb => Nat.mul_le_mul_left 2 (h3 r hr hb)) (fun l p hl => ?_), UU_0]
      show p * (if l ≤ t then wY A s c (t - l) else 0) = 0
      by_cases hlt : l ≤ t
      · rw [if_pos hlt, ih _ (by omega), Nat.mul_zero]
      · rw [if_neg hlt, Nat.mul_zero]
    · rw [if_neg h0] at ht
      rw [if_neg h0]
      exact ih t (by omega)
theorem dnX_lg {A : ST} (hw : Wf A) {s : Nat} (m : Nat) (hs : s < 64) : dnX A s m = sumN (wY A s (nC A)) (min m (lgS A s (nC A)) + 1) := by
  have h8 := nC_le hw
  have hl := lgS_le hw hs (nC A) (Nat.le_refl _)
  unfold dnX
  obtain ⟨k, hk⟩ := Nat.exists_eq_add_of_le (show min m (lgS A s (nC A)) + 1 ≤ min m 3168 + 1 by omega)
  rw [hk, sumN_split, sumN_0 (n := k) (fun x hx => wY_lg hw hs (nC A) (Nat.le_refl _) _ (by omega)), Nat.add_zero]
theorem c_long {A σ : ST} {d s : Nat} (hw : Wf A) (h : RepC A σ) (hs : s < 64) {post : Option AV → ST → Prop} (K : post (some (vI (nI (lgS A s (nC A))))) σ) : Ev none (d + 3) m_D_longestOf 0 [some (vR 9 0), some (vI (nI s)), none, none] [] σ post := by
  have h8 := nC_le hw
  refine sg_D_longestOf_0 ?_
  refine upto (n := nC A) (P := fun c => Ev none (d + 3) m_D_longestOf 4 [some (vR 9 0), some (vI (nI s)), some (vI (nI (lgS A s c))), some (vI (nI c))] [] σ post) ?_ ?_
  · have hl := lgS_le hw hs (nC A) (Nat.le_refl _)
    refine sg_D_longestOf_4 ⟨fun _ => ?_, fun q => absurd (by rw [c_chs h]; exact Int32.le_refl _) q⟩
    rw [show (3168 : Int32) = nI 3168 from rfl, imin_nI (by omega) (by decide), Nat.min_eq_left (by omega)]
    exact K
  · intro c hc ih
    obtain ⟨s1, s2⟩ := c_skp hw h (show c < 8 by omega)
    refine sg_D_longestOf_4 ⟨fun q => ?_, fun _ => ⟨s1, fun q => ?_, fun q => ?_⟩⟩
    · rw [c_chs h] at q
      exact absurd ((nI_leI (by omega) (by omega)).mp q) (by omega)
    · rw [s2] at q
      refine c_tog (d := d) hw h hc ⟨_, rfl, ?_⟩
      rw [(tgn_ix hw hs hc).1, show (2 : Int32) = nI 2 from rfl, pk_mul, nI_add, nI_1]
      have e : lgS A s c + 2 * tgn A s c = lgS A s (c + 1) := by rw [lgS_s, if_pos q]
      rw [e]
      exact ih
    · rw [s2] at q
      rw [nI_1]
      have e : lgS A s (c + 1) = lgS A s c := by rw [lgS_s, if_neg q]; rfl
      rw [e] at ih
      exact ih
theorem c_done {A σ : ST} {d s m : Nat} (hw : Wf A) (h : RepC A σ) (hs : s < 64) (hn : pcn s ≤ 3) (hm : m ≤ 9999) {post : Option AV → ST → Prop} (K : ∀ σ', Off [9, 35, 36, 37, 38, 39] σ σ' → σ'.2 9 0 7 = lN (dnX A s m / Nat.gcd (dnX A s m) (dnY A s)) → σ'.2 9 0 8 = lN (dnY A s / Nat.gcd (dnX A s m) (dnY A s)) → post none σ') : Ev none (d + 4) m_D_chanceBy 0 [some (vR 9 0), some (vI (nI s)), some (vI (nI m)), none, none, none, none, none, none] [] σ post := by
  have h8 := nC_le hw
  have hn6 : cntb s.testBit 6 ≤ 3 := by rw [cntb_pc, pcn_cnt s hs]; exact hn
  obtain ⟨dx, dy, d0⟩ := dn_ok hw m hs hn
  have hl := lgS_le hw hs (nC A) (Nat.le_refl _)
  have hX := dnX_lg hw m hs
  refine sg_D_chanceBy_0 (c_long (d := d) hw h hs ⟨_, rfl, ?_⟩)
  rw [imin_nI (by omega) (by omega)]
  have hN : min m (lgS A s (nC A)) ≤ 3168 := by omega
  generalize min m (lgS A s (nC A)) = N at hX hN ⊢
  refine upto (n := N + 1) (P := fun i => ∀ σi, Off [35] σ σi → (∀ j, j < i → σi.2 35 0 j = lN 0) → Ev none (d + 4) m_D_chanceBy 16 [some (vR 9 0), some (vI (nI s)), none, some (vI (nI N)), some (vJ 1), none, some (vI (nI i)), none, none] [] σi post) ?_ ?_ σ Off.rf (fun j hj => absurd hj (Nat.not_lt_zero _))
  · intro σi ho hz
    refine sg_D_chanceBy_16 ⟨fun _ => ?_, fun q => absurd ((nI_ltI (by omega) (by omega)).mpr (Nat.lt_succ_self N)) q⟩
    rw [show (0 : Int32).toNatClampNeg = 0 from rfl, show (1 : Int64) = lN (4 ^ (pcn s * rdc A 0)) from by rw [show rdc A 0 = 0 from rfl, Nat.mul_zero]; rfl]
    refine upto (n := nC A) (P := fun c => ∀ σc, Off [9, 35, 36, 37, 38, 39] σ σc → (∀ j, j ≤ N → σc.2 35 0 j = lN (wY A s c j)) → Ev none (d + 4) m_D_chanceBy 46 [some (vR 9 0), some (vI (nI s)), none, some (vI (nI N)), some (vJ (lN (4 ^ (pcn s * rdc A c)))), none, some (vI (nI c)), none, none] [] σc post) ?_ ?_ _ (Off.sJ (ho.mono (by decide)) (by decide)) (fun j hj => ?_)
    · intro σc hoc hWc
      refine sg_D_chanceBy_46 ⟨fun _ => ?_, fun q => absurd (by rw [c_chs (h.off hoc)]; exact Int32.le_refl _) q⟩
      refine upto (n := N + 1) (P := fun i => Ev none (d + 4) m_D_chanceBy 103 [some (vR 9 0), none, none, some (vI (nI N)), some (vJ (lN (4 ^ (pcn s * rdc A (nC A))))), none, some (vJ (lN (sumN (wY A s (nC A)) i))), none, some (vI (nI i))] [] σc post) ?_ ?_
      · refine sg_D_chanceBy_103 ⟨fun _ => ?_, fun q => absurd ((nI_ltI (by omega) (by omega)).mpr (Nat.lt_succ_self N)) q⟩
        rw [← hX]
        refine c_red (d := d + 2) dx dy d0 (fun σ' ho' e7 e8 => ⟨rfl, K σ' (Off.tr hoc (ho'.mono (by decide))) e7 e8⟩)
      · intro i hi ih
        refine sg_D_chanceBy_103 ⟨fun q => absurd ((nI_ltI (by omega) (by omega)).mp q) (by omega), fun _ => ⟨vpin (by omega) (by decide), ?_⟩⟩
        rw [nI_ix (by omega), hWc i (by omega), lN_add, nI_1]
        exact ih
    · intro c hc ih σc hoc hWc
      have hR := h.off hoc
      obtain ⟨s1, s2⟩ := c_skp hw hR (show c < 8 by omega)
      refine sg_D_chanceBy_46 ⟨fun q => ?_, fun _ => ⟨s1, fun q => ?_, fun q => ?_⟩⟩
      · rw [c_chs hR] at q
        exact absurd ((nI_leI (by omega) (by omega)).mp q) (by omega)
      · rw [s2] at q
        refine c_out hw hR hs hn6 hc (fun σ1 ho1 hO => ⟨rfl, c_on hN hO (w := wY A s c) (fun i hi => by rw [(ho1 35 (by decide)).2]; exact hWc i hi) (fun σ2 ho2 hW2 => ⟨rfl, ?_⟩)⟩)
        rw [c_cases hs hn, lN_mul, nI_1, ← Nat.pow_add]
        have e : pcn s * rdc A c + pcn s = pcn s * rdc A (c + 1) := by rw [rdc_s, if_pos q, Nat.mul_add, Nat.mul_one]
        rw [e]
        refine ih σ2 (Off.tr hoc (Off.tr (ho1.mono (by decide)) (ho2.mono (by decide)))) (fun j hj => ?_)
        rw [hW2 j hj, wY_s, if_pos q]
      · rw [s2] at q
        rw [nI_1]
        have e : rdc A (c + 1) = rdc A c := by rw [rdc_s, if_neg q]; rfl
        rw [e] at ih
        refine ih σc hoc (fun j hj => ?_)
        rw [hWc j hj, wY_s, if_neg q]
    · rw [setJ_if]
      by_cases e : j = 0
      · rw [if_pos e, e]; rfl
      · rw [if_neg e, hz j (by omega)]
        show lN 0 = lN (if j = 0 then 1 else 0)
        rw [if_neg e]
  · intro i hi ih σi ho hz
    refine sg_D_chanceBy_16 ⟨fun q => absurd ((nI_ltI (by omega) (by omega)).mp q) (by omega), fun _ => ⟨vpin (by omega) (by decide), ?_⟩⟩
    rw [nI_ix (by omega), nI_1]
    refine ih _ (Off.sJ ho (by decide)) (fun j hj => ?_)
    rw [setJ_if]
    by_cases e : j = i
    · rw [if_pos e]; rfl
    · rw [if_neg e]
      exact hz j (by omega)
def mnS (A : ST) (s : Nat) : Nat → Nat
  | 0 => 0
  | c + 1 => mnS A s c + (if A.1 4 0 c = 0 then EE A s c (fun l => l) else 0)
theorem mnS_s {A : ST} {s c : Nat} : mnS A s (c + 1) = mnS A s c + (if A.1 4 0 c = 0 then EE A s c (fun l => l) else 0) := rfl
theorem mnS_le {A : ST} (hw : Wf A) {s : Nat} (hs : s < 64) (hn : pcn s ≤ 3) : ∀ c, c ≤ nC A → mnS A s c ≤ 25344 * c
  | 0, _ => Nat.le_refl _
  | c + 1, hc => by
    have ih := mnS_le hw hs hn c (by omega)
    have h1 : EE A s c (fun l => l) ≤ 25344 := by
      rw [EE_cg hw (by omega) (g' := fun l => min l 396) (fun l hl => by show l = min l 396; omega)]
      unfold EE
      refine Nat.le_trans (UU_mono 6 _ (fun _ p => p * 396) (fun l p => Nat.mul_le_mul_left p (Nat.min_le_right l 396))) ?_
      rw [UU_const 6 _ (fun r hr _ => (qd_ix hw hr).2), cntb_pc, pcn_cnt s hs]
      have := p43 hn
      omega
    rw [mnS_s]
    split <;> omega
theorem c_mean {A σ : ST} {d s : Nat} (hw : Wf A) (h : RepC A σ) (hs : s < 64) (hn : pcn s ≤ 3) {post : Option AV → ST → Prop} (K : ∀ σ', Off [9, 35, 36, 37, 38, 39] σ σ' → σ'.2 9 0 7 = lN (mnS A s (nC A) / Nat.gcd (mnS A s (nC A)) (4 ^ pcn s)) → σ'.2 9 0 8 = lN (4 ^ pcn s / Nat.gcd (mnS A s (nC A)) (4 ^ pcn s)) → post none σ') : Ev none (d + 4) m_D_meanMinutes 0 [some (vR 9 0), some (vI (nI s)), none, none, none, none] [] σ post := by
  have h8 := nC_le hw
  have hn6 : cntb s.testBit 6 ≤ 3 := by rw [cntb_pc, pcn_cnt s hs]; exact hn
  have hp4 := p43 hn
  have hp0 : 0 < 4 ^ pcn s := Nat.pow_pos (by decide)
  have hml := mnS_le hw hs hn (nC A) (Nat.le_refl _)
  refine sg_D_meanMinutes_0 ?_
  refine upto (n := nC A) (P := fun c => ∀ σc, Off [9, 35, 36, 37, 38, 39] σ σc → Ev none (d + 4) m_D_meanMinutes 5 [some (vR 9 0), some (vI (nI s)), some (vJ (lN (mnS A s c))), none, some (vI (nI c)), none] [] σc post) ?_ ?_ σ Off.rf
  · intro σc hoc
    refine sg_D_meanMinutes_5 ⟨fun _ => ?_, fun q => absurd (by rw [c_chs (h.off hoc)]; exact Int32.le_refl _) q⟩
    rw [c_cases hs hn]
    exact c_red (d := d + 2) (by omega) (by omega) hp0 (fun σ' ho' e7 e8 => ⟨rfl, K σ' (Off.tr hoc (ho'.mono (by decide))) e7 e8⟩)
  · intro c hc ih σc hoc
    have hR := h.off hoc
    obtain ⟨s1, s2⟩ := c_skp hw hR (show c < 8 by omega)
    refine sg_D_meanMinutes_5 ⟨fun q => ?_, fun _ => ⟨s1, fun q => ?_, fun q => ?_⟩⟩
    · rw [c_chs hR] at q
      exact absurd ((nI_leI (by omega) (by omega)).mp q) (by omega)
    · rw [s2] at q
      refine c_out hw hR hs hn6 hc (fun σ1 ho1 hO => ⟨rfl, ?_⟩)
      obtain ⟨k, L, S, hk, e6, hj, hg⟩ := hO
      refine upto (n := k) (P := fun j => Ev none (d + 4) m_D_meanMinutes 39 [some (vR 9 0), some (vI (nI s)), some (vJ (lN (mnS A s c + sumN (fun j => S j * L j) j))), none, some (vI (nI c)), some (vI (nI j))] [] σ1 post) ?_ ?_
      · refine sg_D_meanMinutes_39 ⟨fun _ => ?_, fun w => absurd (by rw [e6]; exact Int32.le_refl _) w⟩
        have := hg (fun l => l)
        rw [nI_1, this]
        have e : mnS A s c + EE A s c (fun l => l) = mnS A s (c + 1) := by rw [mnS_s, if_pos q]
        rw [e]
        exact ih σ1 (Off.tr hoc (ho1.mono (by decide)))
      · intro j hjk ihj
        obtain ⟨u1, u2, u3, u4⟩ := hj j hjk
        have hvj := vpin (show j < 8 by omega) (by decide)
        refine sg_D_meanMinutes_39 ⟨fun w => ?_, fun _ => ⟨hvj, hvj, ?_⟩⟩
        · rw [e6] at w
          exact absurd ((nI_leI (by omega) (by omega)).mp w) (by omega)
        · rw [nI_ix (by omega), u1, u2, nI_l (by omega), nI_l (by omega), lN_mul, lN_add, nI_1, Nat.mul_comm (L j) (S j), Nat.add_assoc]
          exact ihj
    · rw [s2] at q
      rw [nI_1]
      have e : mnS A s (c + 1) = mnS A s c := by rw [mnS_s, if_neg q]; rfl
      rw [e] at ih
      exact ih σc hoc
