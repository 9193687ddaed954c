-- moods: sums
def sumN (f : Nat → Nat) : Nat → Nat
  | 0 => 0
  | n + 1 => sumN f n + f n
theorem sumN_s (f : Nat → Nat) (n : Nat) : sumN f (n + 1) = sumN f n + f n := rfl
theorem sumN_cg {f g : Nat → Nat} : ∀ {n : Nat}, (∀ x, x < n → f x = g x) → sumN f n = sumN g n
  | 0, _ => rfl
  | n + 1, h => by rw [sumN_s, sumN_s, sumN_cg (fun x hx => h x (by omega)), h n (by omega)]
theorem sumN_le {f g : Nat → Nat} : ∀ {n : Nat}, (∀ x, x < n → f x ≤ g x) → sumN f n ≤ sumN g n
  | 0, _ => Nat.le_refl _
  | n + 1, h => by
    have := sumN_le (f := f) (g := g) (n := n) (fun x hx => h x (by omega))
    have := h n (by omega)
    rw [sumN_s, sumN_s]
    omega
theorem sumN_0 : ∀ {n : Nat} {f : Nat → Nat}, (∀ x, x < n → f x = 0) → sumN f n = 0
  | 0, _, _ => rfl
  | n + 1, f, h => by rw [sumN_s, sumN_0 (fun x hx => h x (by omega)), h n (by omega)]
theorem sumN_split (f : Nat → Nat) (a : Nat) : ∀ b, sumN f (a + b) = sumN f a + sumN (fun x => f (a + x)) b
  | 0 => rfl
  | b + 1 => by rw [← Nat.add_assoc, sumN_s, sumN_split f a b, sumN_s, Nat.add_assoc]
theorem sumN_mono (f : Nat → Nat) {a b : Nat} (h : a ≤ b) : sumN f a ≤ sumN f b := by
  obtain ⟨c, rfl⟩ := Nat.exists_eq_add_of_le h
  rw [sumN_split]
  omega
theorem sumN_upd {S g : Nat → Nat} {p i : Nat} : ∀ {k : Nat}, i < k → sumN (fun j => (if j = i then S j + p else S j) * g j) k = sumN (fun j => S j * g j) k + p * g i
  | 0, h => by omega
  | k + 1, h => by
    rw [sumN_s, sumN_s]
    by_cases e : i = k
    · subst e
      rw [if_pos rfl, Nat.add_mul, sumN_cg (g := fun j => S j * g j) (fun x hx => by rw [if_neg (by omega)])]
      omega
    · rw [sumN_upd (k := k) (by omega), if_neg (by omega)]
      omega
theorem sumN_shift (w : Nat → Nat) (l : Nat) : ∀ N, sumN (fun t => if l ≤ t then w (t - l) else 0) N = sumN w (N - l)
  | 0 => by rw [Nat.zero_sub]; rfl
  | N + 1 => by
    rw [sumN_s, sumN_shift w l N]
    by_cases h : l ≤ N
    · rw [if_pos h, show N + 1 - l = (N - l) + 1 by omega, sumN_s]
    · rw [if_neg h, show N + 1 - l = 0 by omega, show N - l = 0 by omega, Nat.add_zero]
def UU (b : Nat → Bool) (t q : Nat → Nat) : Nat → (Nat → Nat → Nat) → Nat
  | 0, G => G 0 1
  | r + 1, G => if b r = true then UU b t q r (fun l p => G (max l (t r)) (p * (4 - q r))) + UU b t q r (fun l p => G (max l (2 * t r)) (p * q r)) else UU b t q r G
theorem UU_s {b : Nat → Bool} {t q : Nat → Nat} {r : Nat} {G : Nat → Nat → Nat} : UU b t q (r + 1) G = if b r = true then UU b t q r (fun l p => G (max l (t r)) (p * (4 - q r))) + UU b t q r (fun l p => G (max l (2 * t r)) (p * q r)) else UU b t q r G := rfl
theorem UU_add {b : Nat → Bool} {t q : Nat → Nat} : ∀ (k : Nat) (G H : Nat → Nat → Nat), UU b t q k (fun l p => G l p + H l p) = UU b t q k G + UU b t q k H
  | 0, G, H => rfl
  | k + 1, G, H => by
    rw [UU_s, UU_s, UU_s]
    by_cases h : b k = true
    · rw [if_pos h, if_pos h, if_pos h, UU_add k, UU_add k]
      omega
    · rw [if_neg h, if_neg h, if_neg h, UU_add k]
theorem UU_0 {b : Nat → Bool} {t q : Nat → Nat} : ∀ (k : Nat), UU b t q k (fun _ _ => 0) = 0
  | 0 => rfl
  | k + 1 => by
    rw [UU_s, UU_0 k]
    split <;> rfl
theorem UU_mono {b : Nat → Bool} {t q : Nat → Nat} : ∀ (k : Nat) (G H : Nat → Nat → Nat), (∀ l p, G l p ≤ H l p) → UU b t q k G ≤ UU b t q k H
  | 0, G, H, h => h 0 1
  | k + 1, G, H, h => by
    rw [UU_s, UU_s]
    by_cases hb : b k = true
    · rw [if_pos hb, if_pos hb]
      have h1 := UU_mono (b := b) (t := t) (q := q) k (fun l p => G (max l (t k)) (p * (4 - q k))) (fun l p => H (max l (t k)) (p * (4 - q k))) (fun l p => h _ _)
      have h2 := UU_mono (b := b) (t := t) (q := q) k (fun l p => G (max l (2 * t k)) (p * q k)) (fun l p => H (max l (2 * t k)) (p * q k)) (fun l p => h _ _)
      omega
    · rw [if_neg hb, if_neg hb]
      exact UU_mono k G H h
theorem UU_cg {b : Nat → Bool} {t q : Nat → Nat} {B : Nat} : ∀ (k : Nat) (G H : Nat → Nat → Nat), (∀ r, r < k → b r = true → 2 * t r ≤ B) → (∀ l p, l ≤ B → G l p = H l p) → UU b t q k G = UU b t q k H
  | 0, G, H, _, h => h 0 1 (Nat.zero_le _)
  | k + 1, G, H, hB, h => by
    rw [UU_s, UU_s]
    by_cases hb : b k = true
    · have := hB k (by omega) hb
      rw [if_pos hb, if_pos hb, UU_cg k (fun l p => G (max l (t k)) (p * (4 - q k))) (fun l p => H (max l (t k)) (p * (4 - q k))) (fun r hr => hB r (by omega)) (fun l p hl => h _ _ (by omega)), UU_cg k (fun l p => G (max l (2 * t k)) (p * q k)) (fun l p => H (max l (2 * t k)) (p * q k)) (fun r hr => hB r (by omega)) (fun l p hl => h _ _ (by omega))]
    · rw [if_neg hb, if_neg hb]
      exact UU_cg k G H (fun r hr => hB r (by omega)) h
def cntb (b : Nat → Bool) : Nat → Nat
  | 0 => 0
  | k + 1 => cntb b k + (if b k = true then 1 else 0)
theorem cntb_s {b : Nat → Bool} {k : Nat} : cntb b (k + 1) = cntb b k + (if b k = true then 1 else 0) := rfl
theorem UU_const {b : Nat → Bool} {t q : Nat → Nat} : ∀ (k C : Nat), (∀ r, r < k → b r = true → q r ≤ 4) → UU b t q k (fun _ p => p * C) = 4 ^ (cntb b k) * C
  | 0, C, _ => by
    show 1 * C = 4 ^ 0 * C
    omega
  | k + 1, C, h => by
    rw [UU_s, cntb_s]
    by_cases hb : b k = true
    · rw [if_pos hb, if_pos hb, ← UU_add]
      have e : (fun (_ p : Nat) => p * (4 - q k) * C + p * q k * C) = (fun (_ p : Nat) => p * (4 * C)) := by
        funext l p
        have hq := h k (by omega) hb
        rw [← Nat.add_mul, ← Nat.mul_add, show 4 - q k + q k = 4 by omega, Nat.mul_assoc]
      rw [e, UU_const k (4 * C) (fun r hr => h r (by omega)), Nat.pow_succ, Nat.mul_assoc]
    · rw [if_neg hb, if_neg hb, UU_const k C (fun r hr => h r (by omega))]
      rfl
-- the two ways to go through all cases
def lm (b : Nat → Bool) (t : Nat → Nat) : Nat → Nat → Nat
  | 0, _ => 0
  | k + 1, x => max (lm b t k x) (if b k = true then (if x.testBit k = true then 2 * t k else t k) else 0)
def sm (b : Nat → Bool) (q : Nat → Nat) : Nat → Nat → Nat
  | 0, _ => 1
  | k + 1, x => sm b q k x * (if b k = true then (if x.testBit k = true then q k else 4 - q k) else 1)
theorem lm_s {b : Nat → Bool} {t : Nat → Nat} {k x : Nat} : lm b t (k + 1) x = max (lm b t k x) (if b k = true then (if x.testBit k = true then 2 * t k else t k) else 0) := rfl
theorem sm_s {b : Nat → Bool} {q : Nat → Nat} {k x : Nat} : sm b q (k + 1) x = sm b q k x * (if b k = true then (if x.testBit k = true then q k else 4 - q k) else 1) := rfl
abbrev subb (b : Nat → Bool) (k x : Nat) : Prop := ∀ r, r < k → (x.testBit r = true → b r = true)
theorem lm_cg {b : Nat → Bool} {t : Nat → Nat} {x y : Nat} : ∀ {k : Nat}, (∀ r, r < k → x.testBit r = y.testBit r) → lm b t k x = lm b t k y
  | 0, _ => rfl
  | k + 1, h => by rw [lm_s, lm_s, lm_cg (fun r hr => h r (by omega)), h k (by omega)]
theorem sm_cg {b : Nat → Bool} {q : Nat → Nat} {x y : Nat} : ∀ {k : Nat}, (∀ r, r < k → x.testBit r = y.testBit r) → sm b q k x = sm b q k y
  | 0, _ => rfl
  | k + 1, h => by rw [sm_s, sm_s, sm_cg (fun r hr => h r (by omega)), h k (by omega)]
theorem SU {b : Nat → Bool} {t q : Nat → Nat} : ∀ (k : Nat) (G : Nat → Nat → Nat), sumN (fun x => if subb b k x then G (lm b t k x) (sm b q k x) else 0) (2 ^ k) = UU b t q k G
  | 0, G => by
    show 0 + (if subb b 0 0 then G 0 1 else 0) = G 0 1
    rw [if_pos (fun r hr => absurd hr (Nat.not_lt_zero _)), Nat.zero_add]
  | k + 1, G => by
    rw [Nat.pow_succ, Nat.mul_two, sumN_split, UU_s]
    have f1 : ∀ x, x < 2 ^ k → x.testBit k = false := fun x hx => Nat.testBit_lt_two_pow hx
    have f2 : ∀ x, x < 2 ^ k → (2 ^ k + x).testBit k = true := fun x hx => by
      rw [Nat.testBit_two_pow_add_eq, f1 x hx]
      rfl
    have f3 : ∀ x r, r < k → (2 ^ k + x).testBit r = x.testBit r := fun x r hr => Nat.testBit_two_pow_add_gt hr x
    by_cases hb : b k = true
    · rw [if_pos hb, ← SU k, ← SU k]
      congr 1
      · refine sumN_cg (fun x hx => ?_)
        have e : subb b (k + 1) x ↔ subb b k x := by
          refine ⟨fun h r hr => h r (by omega), fun h r hr => ?_⟩
          by_cases e : r = k
          · subst e; exact fun _ => hb
          · exact h r (by omega)
        by_cases hs : subb b k x
        · rw [if_pos hs, if_pos (e.mpr hs), lm_s, sm_s, if_pos hb, if_pos hb, f1 x hx, if_neg (by decide), if_neg (by decide)]
        · rw [if_neg hs, if_neg (fun w => hs (e.mp w))]
      · refine sumN_cg (fun x hx => ?_)
        have e : subb b (k + 1) (2 ^ k + x) ↔ subb b k x := by
          refine ⟨fun h r hr => by rw [← f3 x r hr]; exact h r (by omega), fun h r hr => ?_⟩
          by_cases e : r = k
          · subst e; exact fun _ => hb
          · rw [f3 x r (by omega)]; exact h r (by omega)
        by_cases hs : subb b k x
        · rw [if_pos hs, if_pos (e.mpr hs), lm_s, sm_s, if_pos hb, if_pos hb, f2 x hx, if_pos rfl, if_pos rfl, lm_cg (f3 x), sm_cg (f3 x)]
        · rw [if_neg hs, if_neg (fun w => hs (e.mp w))]
    · rw [if_neg hb, ← SU k]
      have z : sumN (fun x => if subb b (k + 1) (2 ^ k + x) then G (lm b t (k + 1) (2 ^ k + x)) (sm b q (k + 1) (2 ^ k + x)) else 0) (2 ^ k) = 0 := by
        refine sumN_0 (fun x hx => if_neg (fun h => hb (h k (by omega) (f2 x hx))))
      rw [z, Nat.add_zero]
      refine sumN_cg (fun x hx => ?_)
      have e : subb b (k + 1) x ↔ subb b k x := by
        refine ⟨fun h r hr => h r (by omega), fun h r hr => ?_⟩
        by_cases e : r = k
        · subst e; intro w; rw [f1 x hx] at w; cases w
        · exact h r (by omega)
      by_cases hs : subb b k x
      · rw [if_pos hs, if_pos (e.mpr hs), lm_s, sm_s, if_neg hb, if_neg hb, Nat.mul_one, Nat.max_zero]
      · rw [if_neg hs, if_neg (fun w => hs (e.mp w))]
theorem UU_mem {b : Nat → Bool} {t q t' q' : Nat → Nat} : ∀ (k : Nat) (G : Nat → Nat → Nat), (∀ r, r < k → b r = true → t' (cntb b r) = t r ∧ q' (cntb b r) = q r) → UU b t q k G = UU (fun _ => true) t' q' (cntb b k) G
  | 0, G, _ => rfl
  | k + 1, G, h => by
    rw [UU_s, cntb_s]
    by_cases hb : b k = true
    · obtain ⟨e1, e2⟩ := h k (by omega) hb
      rw [if_pos hb, if_pos hb, UU_s, if_pos rfl, e1, e2, UU_mem k _ (fun r hr => h r (by omega)), UU_mem k _ (fun r hr => h r (by omega))]
    · rw [if_neg hb, if_neg hb, UU_mem k _ (fun r hr => h r (by omega))]
      rfl
-- what the moods make of one chapter, and of all
def qd (A : ST) (r : Nat) : Nat := (A.1 5 r 2).toNatClampNeg
def tmn (A : ST) (c r : Nat) : Nat := (tm A r c).toNatClampNeg
theorem qd_ix {A : ST} (hw : Wf A) {r : Nat} (hr : r < 6) : A.1 5 r 2 = nI (qd A r) ∧ qd A r ≤ 4 := by
  obtain ⟨j, hj, e⟩ := rg_nI (n := 4) (hw.2.2.2.2.1 r hr).2.2
  unfold qd
  rw [e, nI_ix (by omega)]
  exact ⟨rfl, hj⟩
theorem tmn_ix {A : ST} (hw : Wf A) {r c : Nat} (hr : r < 6) (hc : c < nC A) : tm A r c = nI (tmn A c r) ∧ tmn A c r ≤ 198 := by
  obtain ⟨j, _, hj, e⟩ := tm_ix hw hr hc
  unfold tmn
  rw [e, nI_ix (by omega)]
  exact ⟨rfl, hj⟩
def EE (A : ST) (s c : Nat) (g : Nat → Nat) : Nat := UU s.testBit (tmn A c) (qd A) 6 (fun l p => p * g l)
def wY (A : ST) (s : Nat) : Nat → Nat → Nat
  | 0, t => if t = 0 then 1 else 0
  | c + 1, t => if A.1 4 0 c = 0 then EE A s c (fun l => if l ≤ t then wY A s c (t - l) else 0) else wY A s c t
theorem wY_s {A : ST} {s c t : Nat} : wY A s (c + 1) t = if A.1 4 0 c = 0 then EE A s c (fun l => if l ≤ t then wY A s c (t - l) else 0) else wY A s c t := rfl
def rdc (A : ST) : Nat → Nat
  | 0 => 0
  | c + 1 => rdc A c + (if A.1 4 0 c = 0 then 1 else 0)
theorem rdc_s {A : ST} {c : Nat} : rdc A (c + 1) = rdc A c + (if A.1 4 0 c = 0 then 1 else 0) := rfl
theorem rdc_le (A : ST) : ∀ c, rdc A c ≤ c
  | 0 => Nat.le_refl _
  | c + 1 => by
    have := rdc_le A c
    rw [rdc_s]
    split <;> omega
theorem cntb_pc (s : Nat) : ∀ k, cntb s.testBit k = pcK s k
  | 0 => rfl
  | k + 1 => by rw [cntb_s, cntb_pc s k]; rfl
theorem pcn_cnt : ∀ s, s < 64 → pcK s 6 = pcn s := by decide +kernel
theorem EE_sum {A : ST} {s c : Nat} (g : Nat → Nat → Nat) : ∀ N, sumN (fun t => EE A s c (g t)) N = EE A s c (fun l => sumN (fun t => g t l) N)
  | 0 => by
    unfold EE
    show 0 = UU _ _ _ 6 (fun l p => p * 0)
    rw [show (fun (l p : Nat) => p * 0) = (fun _ _ => 0) from funext fun l => funext fun p => Nat.mul_zero p, UU_0]
  | N + 1 => by
    rw [sumN_s, EE_sum g N]
    unfold EE
    rw [← UU_add]
    congr 1
    funext l p
    show p * sumN (fun t => g t l) N + p * g N l = p * (sumN (fun t => g t l) N + g N l)
    rw [Nat.mul_add]
theorem wY_tot {A : ST} (hw : Wf A) {s : Nat} (hs : s < 64) (N : Nat) : ∀ c, c ≤ nC A → sumN (wY A s c) N ≤ 4 ^ (pcn s * rdc A c)
  | 0, _ => by
    have h : ∀ N, sumN (wY A s 0) N ≤ 1 := by
      intro N
      cases N with
      | zero => exact Nat.zero_le _
      | succ N =>
        have := sumN_split (wY A s 0) 1 N
        rw [Nat.add_comm] at this
        rw [this, sumN_0 (n := N) (fun x hx => by show (if 1 + x = 0 then 1 else 0) = 0; rw [if_neg (by omega)])]
        show 0 + (if 0 = 0 then 1 else 0) + 0 ≤ 1
        rw [if_pos rfl]
        exact Nat.le_refl _
    have := h N
    exact this
  | c + 1, hc => by
    have ih := wY_tot hw hs N c (by omega)
    by_cases h0 : A.1 4 0 c = 0
    · have e : wY A s (c + 1) = fun t => EE A s c (fun l => if l ≤ t then wY A s c (t - l) else 0) := by
        funext t
        rw [wY_s, if_pos h0]
      rw [e, EE_sum (fun t l => if l ≤ t then wY A s c (t - l) else 0), rdc_s, if_pos h0]
      unfold EE
      refine Nat.le_trans (UU_mono 6 _ (fun _ p => p * sumN (wY A s c) N) (fun l p => ?_)) ?_
      · refine Nat.mul_le_mul_left p ?_
        show sumN (fun t => if l ≤ t then wY A s c (t - l) else 0) N ≤ _
        rw [sumN_shift]
        exact sumN_mono _ (by omega)
      · rw [UU_const 6 _ (fun r hr _ => (qd_ix hw hr).2), cntb_pc, pcn_cnt s hs, Nat.mul_add, Nat.mul_one, Nat.pow_add, Nat.mul_comm]
        exact Nat.mul_le_mul_right _ ih
    · have e : wY A s (c + 1) = wY A s c := by
        funext t
        rw [wY_s, if_neg h0]
      rw [e, rdc_s, if_neg h0]
      exact ih
theorem EE_cg {A : ST} (hw : Wf A) {s c : Nat} (hc : c < nC A) {g g' : Nat → Nat} (h : ∀ l, l ≤ 396 → g l = g' l) : EE A s c g = EE A s c g' := by
  unfold EE
  refine UU_cg (B := 396) 6 _ _ (fun r hr _ => ?_) (fun l p hl => by rw [h l hl])
  have := (tmn_ix hw hr hc).2
  omega
theorem wY_sup {A : ST} (hw : Wf A) {s : Nat} : ∀ c, c ≤ nC A → ∀ t, 396 * c < t → wY A s c t = 0
  | 0, _, t, ht => by
    show (if t = 0 then 1 else 0) = 0
    rw [if_neg (by omega)]
  | c + 1, hc, t, ht => by
    have ih := wY_sup hw (s := s) c (by omega)
    rw [wY_s]
    split
    · rw [EE_cg hw (by omega) (g' := fun _ => 0)]
      · unfold EE
        rw [show (fun (l p : Nat) => p * 0) = (fun _ _ => 0) from funext fun l => funext fun p => Nat.mul_zero p, UU_0]
      · intro l hl
        split
        · exact ih _ (by omega)
        · rfl
    · exact ih t (by omega)
-- greatest common divisors
theorem gcd_step {a b : Nat} : Nat.gcd a b = Nat.gcd b (a % b) := by
  rw [Nat.gcd_comm b (a % b), ← Nat.gcd_rec, Nat.gcd_comm]
theorem lrm_lN {a b : Nat} (ha : a < 2 ^ 63) (h0 : 0 < b) (hb : b < 2 ^ 63) : lrm (lN a) (lN b) = lN (a % b) := pk_lRem ha h0 hb
theorem lN0 {b : Nat} (hb : b < 2 ^ 63) : lN b = (0 : Int64) ↔ b = 0 := pk_lEQ (b := 0) hb (by decide)
theorem c_gcd_loop {σ : ST} {d : Nat} {post : Option AV → ST → Prop} : ∀ (k a b st : Nat), b < 2 ^ k → k ≤ 63 → a < 2 ^ 63 → st + 2 * k < 200 → post (some (vJ (lN (Nat.gcd a b)))) σ → Ev none d m_D_commonDivisor 9 [none, none, none, none, some (vJ (lN a)), none, some (vJ (lN b)), none, some (vI (nI st)), none, none] [] σ post
  | 0, a, b, st, hb, _, ha, hst, K => by
    have e : b = 0 := by
      have : (2 : Nat) ^ 0 = 1 := rfl
      omega
    subst e
    rw [Nat.gcd_zero_right] at K
    exact sg_D_commonDivisor_9 ⟨fun _ => K, fun q => absurd (Or.inr rfl) q⟩
  | k + 1, a, b, st, hb, hk, ha, hst, K => by
    have hp : (2 : Nat) ^ (k + 1) ≤ 2 ^ 63 := Nat.pow_le_pow_right (by decide) hk
    have hp2 : (2 : Nat) ^ (k + 1) = 2 * 2 ^ k := by rw [Nat.pow_succ, Nat.mul_comm]
    by_cases h0 : b = 0
    · subst h0
      rw [Nat.gcd_zero_right] at K
      exact sg_D_commonDivisor_9 ⟨fun _ => K, fun q => absurd (Or.inr rfl) q⟩
    · refine sg_D_commonDivisor_9 ⟨fun q => ?_, fun _ => ⟨fun w => h0 ((lN0 (by omega)).mp w), ?_⟩⟩
      · exfalso
        rcases q with q | q
        · exact absurd ((nI_leI (a := 200) (by decide) (by omega)).mp q) (by omega)
        · exact h0 ((lN0 (by omega)).mp q)
      · rw [lrm_lN ha (by omega) (by omega), nI_1]
        rw [gcd_step] at K
        have hr : a % b < b := Nat.mod_lt _ (by omega)
        by_cases h1 : a % b = 0
        · rw [h1] at K ⊢
          rw [Nat.gcd_zero_right] at K
          exact sg_D_commonDivisor_9 ⟨fun _ => K, fun q => absurd (Or.inr rfl) q⟩
        · refine sg_D_commonDivisor_9 ⟨fun q => ?_, fun _ => ⟨fun w => h1 ((lN0 (by omega)).mp w), ?_⟩⟩
          · exfalso
            rcases q with q | q
            · exact absurd ((nI_leI (a := 200) (by decide) (by omega)).mp q) (by omega)
            · exact h1 ((lN0 (by omega)).mp q)
          · rw [lrm_lN (by omega) (by omega) (by omega), nI_1]
            rw [gcd_step] at K
            have hr2 : b % (a % b) < a % b := Nat.mod_lt _ (by omega)
            have hd := Nat.div_add_mod b (a % b)
            have hq : 1 ≤ b / (a % b) := Nat.div_pos (by omega) (by omega)
            have hm : a % b ≤ (a % b) * (b / (a % b)) := Nat.le_mul_of_pos_right _ hq
            exact c_gcd_loop k _ _ (st + 1 + 1) (by omega) (by omega) (by omega) (by omega) K
theorem c_gcd {σ : ST} {d a b : Nat} {post : Option AV → ST → Prop} (ha : a < 2 ^ 63) (hb : b < 2 ^ 63) (K : post (some (vJ (lN (Nat.gcd a b)))) σ) : Ev none d m_D_commonDivisor 0 [some (vJ (lN a)), none, some (vJ (lN b)), none, none, none, none, none, none, none, none] [] σ post :=
  sg_D_commonDivisor_0 (c_gcd_loop 63 a b 0 hb (Nat.le_refl _) ha (by decide) K)
theorem m_gcd_loop {σ : ST} {d x y : Nat} {a4 : Int32} (hx : x < 2 ^ 63) (hy : y < 2 ^ 63) (h0 : 0 < y) {post : Option AV → ST → Prop} (K : post (some (vJ (if a4 = 0 then lN (x / Nat.gcd x y) else lN (y / Nat.gcd x y)))) σ) : ∀ (n a b : Nat), b < n → a < 2 ^ 63 → b < 2 ^ 63 → Nat.gcd a b = Nat.gcd x y → Ev none d m_M_part 6 [some (vJ (lN x)), none, some (vJ (lN y)), none, some (vI a4), some (vJ (lN a)), none, some (vJ (lN b)), none, none, none] [] σ post
  | 0, a, b, h, _, _, _ => by omega
  | n + 1, a, b, h, ha, hb, hg => by
    have gpos : 0 < Nat.gcd x y := Nat.gcd_pos_of_pos_right _ h0
    by_cases h1 : b = 0
    · subst h1
      rw [Nat.gcd_zero_right] at hg
      subst hg
      have hne : ¬ lN (Nat.gcd x y) = 0 := fun w => by have := (lN0 ha).mp w; omega
      refine sg_M_part_6 ⟨fun _ => ⟨fun q => ⟨hne, ?_⟩, fun q => ⟨hne, ?_⟩⟩, fun q => absurd rfl q⟩
      · rw [if_pos q] at K
        rw [pk_lDiv hx gpos ha]
        exact K
      · rw [if_neg q] at K
        rw [pk_lDiv hy gpos ha]
        exact K
    · have hne : ¬ lN b = 0 := fun w => h1 ((lN0 hb).mp w)
      refine sg_M_part_6 ⟨fun q => absurd q hne, fun _ => ⟨hne, ?_⟩⟩
      rw [lrm_lN ha (by omega) hb]
      have hr : a % b < b := Nat.mod_lt _ (by omega)
      exact m_gcd_loop hx hy h0 K n b (a % b) (by omega) hb (by omega) (by rw [← gcd_step]; exact hg)
theorem m_part' {σ : ST} {d x y : Nat} {a4 : Int32} (hx : x < 2 ^ 63) (hy : y < 2 ^ 63) (h0 : 0 < y) {post : Option AV → ST → Prop} (K : post (some (vJ (if a4 = 0 then lN (x / Nat.gcd x y) else lN (y / Nat.gcd x y)))) σ) : Ev none d m_M_part 0 [some (vJ (lN x)), none, some (vJ (lN y)), none, some (vI a4), none, none, none, none, none, none] [] σ post :=
  sg_M_part_0 (m_gcd_loop hx hy h0 K (y + 1) x y (by omega) hx hy rfl)
theorem c_red {σ : ST} {d x y : Nat} (hx : x < 2 ^ 63) (hy : y < 2 ^ 63) (h0 : 0 < y) {post : Option AV → ST → Prop} (K : ∀ σ', Off [9] σ σ' → σ'.2 9 0 7 = lN (x / Nat.gcd x y) → σ'.2 9 0 8 = lN (y / Nat.gcd x y) → post none σ') : Ev none (d + 1) m_D_reduce 0 [some (vR 9 0), some (vJ (lN x)), none, some (vJ (lN y)), none, none, none] [] σ post := by
  have gpos : 0 < Nat.gcd x y := Nat.gcd_pos_of_pos_right _ h0
  have hl : Nat.gcd x y ≤ y := Nat.gcd_le_right _ h0
  refine sg_D_reduce_0 (c_gcd hx hy ⟨_, rfl, ⟨fun _ => trivial, fun _ w => by have := (lN0 (by omega)).mp w; omega⟩, fun z4 hz4 => ⟨⟨fun _ => trivial, fun _ w => by have := (lN0 (by omega)).mp w; omega⟩, fun z6 hz6 => ?_⟩⟩)
  have e1 : lN (Nat.gcd x y) ≤ (1 : Int64) ↔ Nat.gcd x y ≤ 1 := pk_lLE (b := 1) (by omega) (by decide)
  have e4 : z4 = lN (x / Nat.gcd x y) := by
    rw [hz4]
    by_cases g : Nat.gcd x y ≤ 1
    · rw [if_pos (e1.mpr g), show Nat.gcd x y = 1 by omega, Nat.div_one]
    · rw [if_neg (fun w => g (e1.mp w)), pk_lDiv hx gpos (by omega)]
  have e6 : z6 = lN (y / Nat.gcd x y) := by
    rw [hz6]
    by_cases g : Nat.gcd x y ≤ 1
    · rw [if_pos (e1.mpr g), show Nat.gcd x y = 1 by omega, Nat.div_one]
    · rw [if_neg (fun w => g (e1.mp w)), pk_lDiv hy gpos (by omega)]
  refine K _ (Off.sJ (Off.sJ Off.rf (by decide)) (by decide)) ?_ ?_
  · rw [setJ_ne _ _ _ _ _ (by decide), setJ_at, e4]
  · rw [setJ_at, e6]
theorem lsl_n : ∀ n, n ≤ 3 → ∀ x : Int64, lsl x (nI (2 * n)) = x * lN (4 ^ n) := by
  intro n hn x
  unfold lsl
  rcases (show n = 0 ∨ n = 1 ∨ n = 2 ∨ n = 3 by omega) with rfl | rfl | rfl | rfl
  · show x <<< (0 : Int64) = x * 1
    rw [Int64.mul_one, Int64.shiftLeft_zero]
  all_goals
    apply Int64.toBitVec_inj.mp
    rw [Int64.toBitVec_mul, Int64.toBitVec_shiftLeft]
  · show x.toBitVec <<< (2 : Nat) = x.toBitVec * (4#64)
    rw [BitVec.shiftLeft_eq_mul_twoPow]
    rfl
  · show x.toBitVec <<< (4 : Nat) = x.toBitVec * (16#64)
    rw [BitVec.shiftLeft_eq_mul_twoPow]
    rfl
  · show x.toBitVec <<< (6 : Nat) = x.toBitVec * (64#64)
    rw [BitVec.shiftLeft_eq_mul_twoPow]
    rfl
