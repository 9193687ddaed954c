-- gain, rests
abbrev g_two (a b : Int32) : Prop := rg a 0 5 ∧ rg b 0 5 ∧ ¬ a = b
theorem c_two {σ : ST} {a b : Int32} : fp_O_areTwo σ a b ↔ g_two a b := by
  unfold fp_O_areTwo g_two fp_O_isReader
  rw [wi 0 5, wi 0 5]
theorem m_two {σ : ST} {a b : Int32} : fp_M_areTwo σ a b ↔ g_two a b := by
  unfold fp_M_areTwo g_two fp_M_isReader
  rw [mi 0 5, mi 0 5]
theorem two_ix {a b : Int32} (h : g_two a b) : ∃ x y : Nat, x < 6 ∧ y < 6 ∧ x ≠ y ∧ a = nI x ∧ b = nI y := by
  obtain ⟨h1, h2, h3⟩ := h
  obtain ⟨x, hx, rfl⟩ := rg_nI (n := 5) h1
  obtain ⟨y, hy, rfl⟩ := rg_nI (n := 5) h2
  exact ⟨x, y, by omega, by omega, fun q => h3 (by rw [q]), rfl, rfl⟩
def gnK (A : ST) (a b : Nat) (sA sB : Int32) : Nat → Int32
  | 0 => 0
  | c + 1 => if A.1 4 0 c = 0 then gnK A a b sA sB c + (A.1 5 a 1 * sA - imax 0 (tm A b c + sB - tm A a c - sA)) else gnK A a b sA sB c
def gn (A : ST) (a b : Nat) (sA sB : Int32) : Int32 := gnK A a b sA sB (nC A)
theorem gnK_s {A : ST} {a b : Nat} {sA sB : Int32} {c : Nat} : gnK A a b sA sB (c + 1) = if A.1 4 0 c = 0 then gnK A a b sA sB c + (A.1 5 a 1 * sA - imax 0 (tm A b c + sB - tm A a c - sA)) else gnK A a b sA sB c := rfl
theorem c_gain {A σ : ST} {d a b : Nat} {sA sB : Int32} (hw : Wf A) (h : RepC A σ) (ha : a < 6) (hb : b < 6) {post : Option AV → ST → Prop} (K : post (some (vI (gn A a b sA sB))) σ) : Ev none (d + 3) m_S_gainOf 0 [some (vR 6 0), some (vI (nI a)), some (vI (nI b)), some (vI sA), some (vI sB), none, none, none, none] [] σ post := by
  have h8 := nC_le hw
  refine sg_S_gainOf_0 ⟨vpin ha (by decide), ?_⟩
  have ej : fn_R_joy σ (fx_C_person σ (nI a)) = A.1 5 a 1 := by
    unfold fn_R_joy
    rw [show fx_C_person σ (nI a) = a from nI_ix (by omega), show (1 : Int32).toNatClampNeg = 1 from rfl]
    exact h.2.2.2.2.1 a 1 ha (by omega)
  rw [ej]
  refine upto (n := nC A) (P := fun c => Ev none (d + 3) m_S_gainOf 21 [some (vR 6 0), some (vI (nI a)), some (vI (nI b)), some (vI sA), some (vI sB), some (vI (A.1 5 a 1 * sA)), some (vI (gnK A a b sA sB c)), some (vI (nI c)), none] [] σ post) ?_ ?_
  · exact sg_S_gainOf_21 ⟨fun _ => K, fun q => absurd (by rw [c_chs h]; exact Int32.le_refl _) q⟩
  · intro c hc ih
    obtain ⟨s1, s2⟩ := c_skp hw h (show c < 8 by omega)
    obtain ⟨t1, t2⟩ := c_tm hw h ha hc
    obtain ⟨u1, u2⟩ := c_tm hw h hb hc
    refine sg_S_gainOf_21 ⟨fun q => ?_, fun _ => ⟨s1, ⟨fun _ => ⟨u2, t2⟩, fun _ => trivial⟩, fun z hz => ?_⟩⟩
    · rw [c_chs h] at q
      exact absurd ((nI_leI (by omega) (by omega)).mp q) (by omega)
    · rw [s2, t1, u1] at hz
      rw [hz, nI_1]
      exact ih
theorem m_gain {A σ : ST} {d a b : Nat} {sA sB : Int32} (hw : Wf A) (h : RepM A σ) (hp : Psd A σ) (ha : a < 6) (hb : b < 6) {post : Option AV → ST → Prop} (K : post (some (vI (gn A a b sA sB))) σ) : Ev none (d + 3) m_M_gainOf 0 [some (vR 11 0), some (vI (nI a)), some (vI (nI b)), some (vI sA), some (vI sB), none, none, none] [] σ post := by
  have h8 := nC_le hw
  refine sg_M_gainOf_0 ?_
  refine upto (n := nC A) (P := fun c => Ev none (d + 3) m_M_gainOf 6 [some (vR 11 0), some (vI (nI a)), some (vI (nI b)), some (vI sA), some (vI sB), some (vI (gnK A a b sA sB c)), some (vI (nI c)), none] [] σ post) ?_ ?_
  · exact sg_M_gainOf_6 ⟨fun _ => K, fun q => absurd (by rw [hp.1]; exact Int32.le_refl _) q⟩
  · intro c hc ih
    have hir := m_isRead hw h hp hc
    obtain ⟨t1, t2⟩ := m_tm hw h hp ha hc
    obtain ⟨u1, u2⟩ := m_tm hw h hp hb hc
    refine sg_M_gainOf_6 ⟨fun q => ?_, fun _ => ⟨⟨fun _ => ⟨u2, t2, vpin ha (by decide)⟩, fun _ => trivial⟩, fun z hz => ?_⟩⟩
    · rw [hp.1] at q
      exact absurd ((nI_leI (by omega) (by omega)).mp q) (by omega)
    · rw [t1, u1, nI_ix (by omega), (h.2.2.2.2.1 a ha).2.1] at hz
      have e : z = gnK A a b sA sB (c + 1) := by
        rw [hz, gnK_s]
        by_cases q : A.1 4 0 c = 0
        · rw [if_pos (hir.mpr q), if_pos q]
          unfold imax
          by_cases g : (0 : Int32) < tm A b c + sB - tm A a c - sA
          · rw [if_pos g, if_neg (Int32.not_le.mpr g)]
          · rw [if_neg g, if_pos (Int32.not_lt.mp g)]
        · rw [if_neg (fun w => q (hir.mp w)), if_neg q]
      rw [e, nI_1]
      exact ih
abbrev g_gain (a1 a2 a3 a4 : Int32) : Prop := g_two a1 a2 ∧ rg a3 0 3 ∧ rg a4 0 3
def an_gain (A : ST) (a1 a2 a3 a4 : Int32) : Int32 := if g_gain a1 a2 a3 a4 then gn A a1.toNatClampNeg a2.toNatClampNeg a3 a4 else -10002
theorem cs_gain {A : ST} {a1 a2 a3 a4 : Int32} {d : Nat} (hw : Wf A) : CS m_O_gain [some (vR 0 0), some (vI a1), some (vI a2), some (vI a3), some (vI a4)] (d + 4) A A (vI (an_gain A a1 a2 a3 a4)) := by
  intro σ post h K
  have K' := K σ h (AgM.off (S := []) Off.rf)
  unfold an_gain at K'
  by_cases hg : g_gain a1 a2 a3 a4
  · rw [if_pos hg] at K'
    refine sg_O_gain_0 ⟨fun _ => ?_, fun g => absurd ⟨c_two.mpr hg.1, (wi 0 3).mpr hg.2.1, (wi 0 3).mpr hg.2.2⟩ g⟩
    obtain ⟨x, y, hx, hy, _, rfl, rfl⟩ := two_ix hg.1
    rw [nI_ix (by omega), nI_ix (by omega)] at K'
    exact c_gain hw h hx hy ⟨_, rfl, K'⟩
  · rw [if_neg hg] at K'
    exact sg_O_gain_0 ⟨fun g => absurd ⟨c_two.mp g.1, (wi 0 3).mp g.2.1, (wi 0 3).mp g.2.2⟩ hg, fun _ => K'⟩
theorem ms_gain {A : ST} {a1 a2 a3 a4 : Int32} {d : Nat} (hw : Wf A) : MSp m_M_gain [some (vR 11 0), some (vI a1), some (vI a2), some (vI a3), some (vI a4)] (d + 4) A A (vI (an_gain A a1 a2 a3 a4)) := by
  intro σ post h K
  unfold an_gain at K
  refine sg_M_gain_0 (m_reads hw h (fun σ1 h1 h2 h3 => ⟨_, rfl, fun q => ?_, fun q => ?_⟩))
  · rw [if_neg] at K
    · exact K σ1 h1 (AgC.off h3)
    · rintro ⟨z1, z2, z3⟩
      rcases q with q | q | q
      · exact q (m_two.mpr z1)
      · exact q ((mi 0 3).mpr z2)
      · exact q ((mi 0 3).mpr z3)
  · have z1 : g_two a1 a2 := m_two.mp (Decidable.byContradiction fun w => q (Or.inl w))
    have z2 : rg a3 0 3 := (mi 0 3).mp (Decidable.byContradiction fun w => q (Or.inr (Or.inl w)))
    have z3 : rg a4 0 3 := (mi 0 3).mp (Decidable.byContradiction fun w => q (Or.inr (Or.inr w)))
    rw [if_pos ⟨z1, z2, z3⟩] at K
    obtain ⟨x, y, hx, hy, _, rfl, rfl⟩ := two_ix z1
    rw [nI_ix (by omega), nI_ix (by omega)] at K
    exact m_gain hw h1 h2 hx hy ⟨_, rfl, K σ1 h1 (AgC.off h3)⟩
-- rests
abbrev rOk (A : ST) (a b i j o : Nat) : Prop := ¬ (gn A a b (nI i) (nI j) < gn A a b (nI o) (nI j)) ∧ ¬ (gn A b a (nI j) (nI i) < gn A b a (nI o) (nI i))
abbrev isRp (A : ST) (a b i j k : Nat) : Prop := ∀ o, o < k → rOk A a b i j o
abbrev isR (A : ST) (a b k : Nat) : Prop := isRp A a b (k / 4) (k % 4) 4
def rcN (A : ST) (a b : Nat) : Nat → Nat
  | 0 => 0
  | k + 1 => rcN A a b k + (if isR A a b k then 1 else 0)
theorem rcN_s {A : ST} {a b k : Nat} : rcN A a b (k + 1) = rcN A a b k + (if isR A a b k then 1 else 0) := rfl
theorem rcN_le {A : ST} {a b : Nat} : ∀ k, rcN A a b k ≤ k
  | 0 => Nat.le_refl _
  | k + 1 => by
    have := rcN_le (A := A) (a := a) (b := b) k
    rw [rcN_s]
    split <;> omega
theorem rcN_mono {A : ST} {a b q k : Nat} (h : q ≤ k) : rcN A a b q ≤ rcN A a b k := by
  induction k with
  | zero => rw [show q = 0 by omega]; exact Nat.le_refl _
  | succ k ih =>
    by_cases e : q = k + 1
    · rw [e]; exact Nat.le_refl _
    · have := ih (by omega)
      rw [rcN_s]
      omega
def rsf (A : ST) (a b : Nat) (i : Int32) : Nat → Nat → Int32
  | 0, k => if i = -1 then nI (rcN A a b k) else -1
  | m + 1, k => if isR A a b k then (if nI (rcN A a b k) = i then nI k else rsf A a b i m (k + 1)) else rsf A a b i m (k + 1)
theorem rsf_s {A : ST} {a b : Nat} {i : Int32} {m k : Nat} : rsf A a b i (m + 1) k = if isR A a b k then (if nI (rcN A a b k) = i then nI k else rsf A a b i m (k + 1)) else rsf A a b i m (k + 1) := rfl
theorem rsf_m1 {A : ST} {a b : Nat} : ∀ m k, k + m = 16 → rsf A a b (-1) m k = nI (rcN A a b 16)
  | 0, k, h => by
    unfold rsf
    rw [if_pos rfl, show k = 16 by omega]
  | m + 1, k, h => by
    have ih := rsf_m1 (A := A) (a := a) (b := b) m (k + 1) (by omega)
    have := rcN_le (A := A) (a := a) (b := b) k
    rw [rsf_s, if_neg (nI_nem1 (c := rcN A a b k) (by omega)), ih]
    split <;> rfl
theorem rsf_in {A : ST} {a b n : Nat} (hn : n < 2 ^ 31) : ∀ m k, k + m = 16 → rcN A a b k ≤ n → (n < rcN A a b 16 → ∃ q, q < 16 ∧ isR A a b q ∧ rcN A a b q = n ∧ rsf A a b (nI n) m k = nI q) ∧ (rcN A a b 16 ≤ n → rsf A a b (nI n) m k = -1)
  | 0, k, h, hk => by
    have e : k = 16 := by omega
    subst e
    refine ⟨fun q => by omega, fun _ => ?_⟩
    unfold rsf
    rw [if_neg (nI_nem1 hn)]
  | m + 1, k, h, hk => by
    have hl := rcN_le (A := A) (a := a) (b := b) k
    rw [rsf_s]
    by_cases hr : isR A a b k
    · have e1 : rcN A a b (k + 1) = rcN A a b k + 1 := by rw [rcN_s, if_pos hr]
      have hm := rcN_mono (A := A) (a := a) (b := b) (show k + 1 ≤ 16 by omega)
      rw [if_pos hr]
      by_cases e : rcN A a b k = n
      · rw [if_pos (by rw [e])]
        exact ⟨fun _ => ⟨k, by omega, hr, e, rfl⟩, fun q => by omega⟩
      · rw [if_neg (fun q => e ((nI_eq (by omega) hn).mp q))]
        exact rsf_in hn m (k + 1) (by omega) (by omega)
    · rw [if_neg hr]
      refine rsf_in hn m (k + 1) (by omega) ?_
      rw [rcN_s, if_neg hr]
      exact hk
theorem ix4 (i j : Nat) : (4 : Int32) * nI i + nI j = nI (4 * i + j) := by
  rw [show (4 : Int32) = nI 4 from rfl, pk_mul, nI_add]
def gA (A : ST) (a b q : Nat) : Int32 := gn A a b (nI (q / 4)) (nI (q % 4))
def gB (A : ST) (a b q : Nat) : Int32 := gn A b a (nI (q % 4)) (nI (q / 4))
def Gns (A : ST) (a b k : Nat) (σ : ST) : Prop := ∀ q, q < k → σ.1 26 0 q = gA A a b q ∧ σ.1 27 0 q = gB A a b q
theorem c_isRest {A σ : ST} {d a b i j : Nat} (hi : i < 4) (hj : j < 4) (hG : Gns A a b 16 σ) {post : Option AV → ST → Prop} (K : post (some (vI (bi (isRp A a b i j 4)))) σ) : Ev none d m_S_isRest 0 [some (vR 6 0), some (vI (nI i)), some (vI (nI j)), none, none] [] σ post := by
  refine sg_S_isRest_0 ?_
  rw [ix4]
  have hA : ∀ x y, x < 4 → y < 4 → σ.1 26 0 (4 * x + y) = gn A a b (nI x) (nI y) := fun x y hx hy => by
    rw [(hG _ (by omega)).1]
    unfold gA
    rw [show (4 * x + y) / 4 = x by omega, show (4 * x + y) % 4 = y by omega]
  have hB : ∀ x y, x < 4 → y < 4 → σ.1 27 0 (4 * x + y) = gn A b a (nI y) (nI x) := fun x y hx hy => by
    rw [(hG _ (by omega)).2]
    unfold gB
    rw [show (4 * x + y) / 4 = x by omega, show (4 * x + y) % 4 = y by omega]
  refine upto (n := 4) (P := fun o => isRp A a b i j o → Ev none d m_S_isRest 9 [some (vR 6 0), some (vI (nI i)), some (vI (nI j)), some (vI (nI (4 * i + j))), some (vI (nI o))] [] σ post) ?_ ?_ (fun o ho => absurd ho (Nat.not_lt_zero _))
  · intro hr
    rw [bi_t hr] at K
    exact sg_S_isRest_9 ⟨fun _ => K, fun q => absurd (Int32.le_refl _) q⟩
  · intro o ho ih hr
    refine sg_S_isRest_9 ⟨fun q => absurd ((nI_leI (a := 4) (by decide) (by omega)).mp q) (by omega), fun _ => ?_⟩
    rw [ix4, ix4, nI_ix (show 4 * i + j < 2 ^ 31 by omega), nI_ix (show 4 * i + o < 2 ^ 31 by omega), nI_ix (show 4 * o + j < 2 ^ 31 by omega), hA i j hi hj, hA o j ho hj, hB i j hi hj, hB i o hi ho, nI_1]
    refine ⟨vpin (by omega) (by decide), vpin (by omega) (by decide), ⟨fun _ => trivial, fun _ => ⟨vpin (by omega) (by decide), vpin (by omega) (by decide)⟩⟩, fun q => ih (fun x hx => ?_), fun q => ?_⟩
    · by_cases e : x = o
      · subst e
        exact ⟨q.1, Int32.not_lt.mpr q.2⟩
      · exact hr x (by omega)
    · rw [bi_f] at K
      · exact K
      · intro g
        have := g o ho
        exact q ⟨this.1, Int32.not_lt.mp this.2⟩
def Rst (A : ST) (a b k : Nat) (σ : ST) : Prop := σ.1 6 0 4 = nI (rcN A a b k) ∧ ∀ q, q < k → isR A a b q → σ.1 28 0 (rcN A a b q) = nI q
theorem c_rests {A σ : ST} {d a b : Nat} (hw : Wf A) (h : RepC A σ) (ha : a < 6) (hb : b < 6) {post : Option AV → ST → Prop} (K : ∀ σ', Off [6, 26, 27, 28] σ σ' → Rst A a b 16 σ' → post none σ') : Ev none (d + 4) m_S_findRests 0 [some (vR 6 0), some (vI (nI a)), some (vI (nI b)), none] [] σ post := by
  refine sg_S_findRests_0 ?_
  refine upto (n := 16) (P := fun i => ∀ σc, Off [6, 26, 27, 28] σ σc → Gns A a b i σc → Ev none (d + 4) m_S_findRests 2 [some (vR 6 0), some (vI (nI a)), some (vI (nI b)), some (vI (nI i))] [] σc post) ?_ ?_ σ Off.rf (fun q hq => absurd hq (Nat.not_lt_zero _))
  · intro σc ho hG
    refine sg_S_findRests_2 ⟨fun _ => ?_, fun q => absurd (Int32.le_refl _) q⟩
    refine upto (n := 16) (P := fun k => ∀ σk, Off [6, 26, 27, 28] σ σk → Gns A a b 16 σk → Rst A a b k σk → Ev none (d + 4) m_S_findRests 57 [some (vR 6 0), none, none, some (vI (nI k))] [] σk post) ?_ ?_ _ (Off.sI ho (by decide)) (fun q hq => by rw [sk_k (by decide), sk_k (by decide)]; exact hG q hq) ⟨by rw [setI_at]; rfl, fun q hq => absurd hq (Nat.not_lt_zero _)⟩
    · intro σk hok _ hR
      exact sg_S_findRests_57 ⟨fun _ => K σk hok hR, fun q => absurd (Int32.le_refl _) q⟩
    · intro k hk ih σk hok hGk hR
      have hl := rcN_le (A := A) (a := a) (b := b) k
      refine sg_S_findRests_57 ⟨fun q => absurd ((nI_leI (a := 16) (by decide) (by omega)).mp q) (by omega), fun _ => ?_⟩
      rw [show (4 : Int32) = nI 4 from rfl, pk_div (by omega) (by decide) (by decide), show irm (nI k) (nI 4) = nI (k % 4) from irm4 (by omega)]
      refine c_isRest (by omega) (by omega) hGk ⟨_, rfl, fun q => ?_, fun q => ?_⟩
      · have hn : ¬ isR A a b k := bi_0.mp q
        rw [nI_1]
        refine ih σk hok hGk ⟨?_, fun x hx hr => ?_⟩
        · rw [rcN_s, if_neg hn]; exact hR.1
        · by_cases e : x = k
          · subst e; exact absurd hr hn
          · exact hR.2 x (by omega) hr
      · have hn : isR A a b k := Decidable.byContradiction fun w => q (bi_0.mpr w)
        rw [hR.1]
        refine ⟨vpin (by omega) (by decide), ?_⟩
        rw [nI_ix (by omega), sk_k (show (6 : Nat) ≠ 28 by decide), hR.1, nI_1, nI_1]
        refine ih _ (Off.sI (Off.sI hok (by decide)) (by decide)) (fun x hx => ?_) ⟨?_, fun x hx hr => ?_⟩
        · rw [sk_k (by decide), sk_k (by decide), sk_k (by decide), sk_k (by decide)]
          exact hGk x hx
        · rw [setI_at, rcN_s, if_pos hn]
        · rw [sk_k (by decide)]
          by_cases e : x = k
          · subst e
            rw [setI_at]
          · have := rcN_mono (A := A) (a := a) (b := b) (show x + 1 ≤ k by omega)
            rw [rcN_s, if_pos hr] at this
            rw [sk_f (by omega)]
            exact hR.2 x (by omega) hr
  · intro i hi ih σc ho hG
    refine sg_S_findRests_2 ⟨fun q => absurd ((nI_leI (a := 16) (by decide) (by omega)).mp q) (by omega), fun _ => ?_⟩
    rw [show (4 : Int32) = nI 4 from rfl, pk_div (by omega) (by decide) (by decide), show irm (nI i) (nI 4) = nI (i % 4) from irm4 (by omega), nI_ix (show i < 2 ^ 31 by omega), nI_1]
    have hvi := vpin (show i < 16 by omega) (by decide)
    have o1 : Off [6, 26, 27, 28] σ (setI σc 26 0 i (gn A a b (nI (i / 4)) (nI (i % 4)))) := Off.sI ho (by decide)
    refine c_gain hw (h.off ho) ha hb ⟨_, rfl, hvi, c_gain hw (h.off o1) hb ha ⟨_, rfl, hvi, ?_⟩⟩
    refine ih _ (Off.sI o1 (by decide)) (fun q hq => ?_)
    rw [sk_k (show (26 : Nat) ≠ 27 by decide)]
    by_cases e : q = i
    · subst e
      rw [setI_at, setI_at]
      exact ⟨rfl, rfl⟩
    · rw [sk_f e, sk_f e, sk_k (by decide)]
      exact hG q (by omega)
abbrev g_rest (a1 a2 a3 : Int32) : Prop := g_two a1 a2 ∧ (-1 : Int32) ≤ a3
def an_rest (A : ST) (a1 a2 a3 : Int32) : Int32 := if g_rest a1 a2 a3 then rsf A a1.toNatClampNeg a2.toNatClampNeg a3 16 0 else -2
theorem c_rsAt {A σ : ST} {a b n : Nat} (hR : Rst A a b 16 σ) (hn : n < 2 ^ 31) : fs_S_restAt σ (nI n) ∧ fn_S_restAt σ (nI n) = rsf A a b (nI n) 16 0 := by
  have hl := rcN_le (A := A) (a := a) (b := b) 16
  obtain ⟨p1, p2⟩ := rsf_in (A := A) (a := a) (b := b) hn 16 0 (by omega) (Nat.zero_le _)
  unfold fs_S_restAt fn_S_restAt
  rw [hR.1, if_neg (nI_pos hn)]
  by_cases hc : rcN A a b 16 ≤ n
  · have hc' : nI (rcN A a b 16) ≤ nI n := (nI_leI (by omega) hn).mpr hc
    rw [if_pos hc', p2 hc]
    exact ⟨⟨fun _ => trivial, fun _ => ⟨fun _ => trivial, fun q => absurd hc' q⟩⟩, rfl⟩
  · have hc' : ¬ nI (rcN A a b 16) ≤ nI n := fun q => hc ((nI_leI (by omega) hn).mp q)
    obtain ⟨q, hq, hr, eq, e⟩ := p1 (by omega)
    rw [if_neg hc', e, nI_ix hn, ← eq]
    exact ⟨⟨fun _ => trivial, fun _ => ⟨fun _ => trivial, fun _ => vpin (by omega) (by decide)⟩⟩, hR.2 q hq hr⟩
theorem cs_rest {A : ST} {a1 a2 a3 : Int32} {d : Nat} (hw : Wf A) : CS m_O_rests [some (vR 0 0), some (vI a1), some (vI a2), some (vI a3)] (d + 5) A A (vI (an_rest A a1 a2 a3)) := by
  intro σ post h K
  unfold an_rest at K
  by_cases hg : g_rest a1 a2 a3
  · rw [if_pos hg] at K
    refine sg_O_rests_0 ⟨fun _ => ?_, fun g => absurd ⟨c_two.mpr hg.1, hg.2⟩ g⟩
    obtain ⟨x, y, hx, hy, _, rfl, rfl⟩ := two_ix hg.1
    rw [nI_ix (by omega), nI_ix (by omega)] at K
    refine c_rests hw h hx hy (fun σ' ho hR => ⟨rfl, fun q => ?_, fun q => ?_⟩)
    · have K' := K σ' (h.off ho) (AgM.off ho)
      rw [q, rsf_m1 16 0 (by omega)] at K'
      unfold fn_S_restCount
      rw [hR.1]
      exact K'
    · have K' := K σ' (h.off ho) (AgM.off ho)
      have hnn : ¬ a3 < 0 := by
        intro z
        apply q
        have h1 := hg.2
        rw [le_toInt] at h1
        rw [lt_toInt] at z
        rw [eq_toInt]
        have e1 : (-1 : Int32).toInt = -1 := rfl
        have e2 : (0 : Int32).toInt = 0 := rfl
        omega
      obtain ⟨n, hn, rfl⟩ := nI_of hnn
      obtain ⟨u1, u2⟩ := c_rsAt hR hn
      rw [u2]
      exact ⟨u1, K'⟩
  · rw [if_neg hg] at K
    exact sg_O_rests_0 ⟨fun g => absurd ⟨c_two.mp g.1, g.2⟩ hg, fun _ => K σ h (AgM.off (S := []) Off.rf)⟩
theorem m_isRest {A σ : ST} {d a b i j : Nat} (hw : Wf A) (h : RepM A σ) (hp : Psd A σ) (ha : a < 6) (hb : b < 6) {post : Option AV → ST → Prop} (K : post (some (vI (bi (isRp A a b i j 4)))) σ) : Ev none (d + 4) m_M_isRest 0 [some (vR 11 0), some (vI (nI a)), some (vI (nI b)), some (vI (nI i)), some (vI (nI j)), none, none] [] σ post := by
  refine sg_M_isRest_0 ?_
  have e0 : (1 : Int32) = bi (isRp A a b i j 0) := (bi_t (fun o ho => absurd ho (Nat.not_lt_zero _))).symm
  rw [e0]
  refine upto (n := 4) (P := fun o => Ev none (d + 4) m_M_isRest 6 [some (vR 11 0), some (vI (nI a)), some (vI (nI b)), some (vI (nI i)), some (vI (nI j)), some (vI (bi (isRp A a b i j o))), some (vI (nI o))] [] σ post) ?_ ?_
  · exact sg_M_isRest_6 ⟨fun _ => ⟨bi_01 _, K⟩, fun q => absurd (Int32.le_refl _) q⟩
  · intro o ho ih
    refine sg_M_isRest_6 ⟨fun q => absurd ((nI_leI (a := 4) (by decide) (by omega)).mp q) (by omega), fun _ => ⟨fun q => ?_, fun q => ?_⟩⟩
    · rw [nI_1]
      have : bi (isRp A a b i j (o + 1)) = 0 := bi_f (fun g => bi_0.mp q (fun x hx => g x (by omega)))
      rw [this] at ih
      exact ih
    · have hr : isRp A a b i j o := Decidable.byContradiction fun w => q (bi_0.mpr w)
      refine m_gain hw h hp ha hb ⟨_, rfl, m_gain hw h hp ha hb ⟨_, rfl, fun g => ?_, fun g => ?_⟩⟩
      · rw [nI_1]
        have : bi (isRp A a b i j (o + 1)) = 0 := bi_f (fun z => (z o (by omega)).1 g)
        rw [this] at ih
        exact ih
      · refine m_gain hw h hp hb ha ⟨_, rfl, m_gain hw h hp hb ha ⟨_, rfl, fun z hz => ?_⟩⟩
        rw [nI_1]
        have : z = bi (isRp A a b i j (o + 1)) := by
          rw [hz]
          refine bi_iff ⟨fun w x hx => ?_, fun w => (w o (by omega)).2⟩
          by_cases e : x = o
          · subst e; exact ⟨g, w⟩
          · exact hr x (by omega)
        rw [this]
        exact ih
theorem m_rests {A σ : ST} {d a b : Nat} {a3 : Int32} (hw : Wf A) (h : RepM A σ) (hp : Psd A σ) (ha : a < 6) (hb : b < 6) {post : Option AV → ST → Prop} (K : post (some (vI (rsf A a b a3 16 0))) σ) : Ev none (d + 5) m_M_restsOf 0 [some (vR 11 0), some (vI (nI a)), some (vI (nI b)), some (vI a3), none, none] [] σ post := by
  refine sg_M_restsOf_0 ?_
  have key : ∀ m k, k + m = 16 → post (some (vI (rsf A a b a3 m k))) σ → Ev none (d + 5) m_M_restsOf 6 [some (vR 11 0), some (vI (nI a)), some (vI (nI b)), some (vI a3), some (vI (nI (rcN A a b k))), some (vI (nI k))] [] σ post := by
    intro m
    induction m with
    | zero =>
      intro k hk K
      have e : k = 16 := by omega
      subst e
      unfold rsf at K
      refine sg_M_restsOf_6 ⟨fun _ => ⟨fun q => ?_, fun q => ?_⟩, fun q => absurd (Int32.le_refl _) q⟩
      · rw [if_pos q] at K; exact K
      · rw [if_neg q] at K; exact K
    | succ m ih =>
      intro k hk K
      rw [rsf_s] at K
      refine sg_M_restsOf_6 ⟨fun q => absurd ((nI_leI (a := 16) (by decide) (by omega)).mp q) (by omega), fun _ => ?_⟩
      rw [show (4 : Int32) = nI 4 from rfl, pk_div (by omega) (by decide) (by decide), show irm (nI k) (nI 4) = nI (k % 4) from irm4 (by omega)]
      refine m_isRest hw h hp ha hb ⟨_, rfl, fun q => ?_, fun q => ⟨fun g => ?_, fun g => ?_⟩⟩
      · have hn : ¬ isR A a b k := bi_0.mp q
        rw [if_neg hn] at K
        have := ih (k + 1) (by omega) K
        rw [rcN_s, if_neg hn, Nat.add_zero] at this
        rw [nI_1]
        exact this
      · have hn : isR A a b k := Decidable.byContradiction fun w => q (bi_0.mpr w)
        rw [if_pos hn, if_pos g] at K
        exact K
      · have hn : isR A a b k := Decidable.byContradiction fun w => q (bi_0.mpr w)
        rw [if_pos hn, if_neg g] at K
        have := ih (k + 1) (by omega) K
        rw [rcN_s, if_pos hn] at this
        rw [nI_1, nI_1]
        exact this
  exact key 16 0 (by omega) K
theorem ms_rest {A : ST} {a1 a2 a3 : Int32} {d : Nat} (hw : Wf A) : MSp m_M_rests [some (vR 11 0), some (vI a1), some (vI a2), some (vI a3)] (d + 6) A A (vI (an_rest A a1 a2 a3)) := by
  intro σ post h K
  unfold an_rest at K
  refine sg_M_rests_0 (m_reads hw h (fun σ1 h1 h2 h3 => ⟨_, rfl, fun q => ?_, fun q => ?_⟩))
  · rw [if_neg] at K
    · exact K σ1 h1 (AgC.off h3)
    · rintro ⟨z1, z2⟩
      rcases q with q | q
      · exact q (m_two.mpr z1)
      · exact absurd q (Int32.not_lt.mpr z2)
  · have z1 : g_two a1 a2 := m_two.mp (Decidable.byContradiction fun w => q (Or.inl w))
    have z2 : (-1 : Int32) ≤ a3 := Int32.not_lt.mp (fun w => q (Or.inr w))
    rw [if_pos ⟨z1, z2⟩] at K
    obtain ⟨x, y, hx, hy, _, rfl, rfl⟩ := two_ix z1
    rw [nI_ix (by omega), nI_ix (by omega)] at K
    exact m_rests hw h1 h2 hx hy ⟨_, rfl, K σ1 h1 (AgC.off h3)⟩
