-- the judgement Ev: a frame of a method over the cells of the two objects; and what it gives
abbrev MD : Type := MethodName × ByteArray × Nat × Option FieldType
def lw_gd : List Cond := lw_tbl.filter goodWord
def nests : List Cond := [.methodLinkNest "OneBook$Company" 51 ⟨"OneBook", "holds", "(II)Z"⟩ "OneBook", .methodLinkNest "OneBook$Evening" 46 ⟨"OneBook", "holds", "(II)Z"⟩ "OneBook", .methodLinkNest "OneBook$Seating" 46 ⟨"OneBook", "holds", "(II)Z"⟩ "OneBook", .methodLinkNest "OneBook$Turns" 62 ⟨"OneBook", "holds", "(II)Z"⟩ "OneBook", .methodLinkNest "OneBook$Moods" 87 ⟨"OneBook", "holds", "(II)Z"⟩ "OneBook"]
def Wo (D : va_G) (ad : AD) (aC : Nat → ClassId) (σ : ST) (A : Nat → Prop) (H0 H : Heap) (locs : List Loc) : Prop :=
  va_P D cls (wld ad aC σ) H ∧ va_D A (wld ad aC σ) ∧ va_S A H0 H locs
def Lc (ad : AD) (ls : Array Slot) (n : Nat) (L : List (Option AV)) : Prop := ls.size = n ∧ lv_wf ls ∧ ∀ (i : Nat) (v : AV), L[i]? = some (some v) → ls[i]? = some (.val (cv ad v))
/-- which answer a method of a return type may give, and by which instruction -/
def rok (ret : Option FieldType) (r : Option AV) (op : Instr) : Prop := match ret, r with
  | none, none => op = .return_
  | some .int, some (.inl _) => op = .ireturn
  | some .boolean, some (.inl x) => op = .ireturn ∧ (x = 0 ∨ x = 1)
  | some .long, some (.inr (.inl _)) => op = .lreturn
  | some (.object _), some (.inr (.inr _)) => op = .areturn
  | _, _ => False
abbrev SX : Type := Option (Nat × (Nat → Int32))
/-- the script: kind 63 -/
def Xok (X : SX) (ad : AD) (A : Nat → Prop) (s : State) : Prop := match X with
  | none => True
  | some q => va_X (ad 63 0) q.1 q.2 s s.heap ∧ ad 63 0 < s.heap.size ∧ ¬ A (ad 63 0)
def Cx (X : SX) (d : Nat) (M : MD) (post : Option AV → ST → Prop) (D : va_G) (ad : AD) (aC : Nat → ClassId) (p : Program) (l : Launch) (e : Env) (R : Room) (s : State) (m : MethodId) (args : Array Value) (below : List Frame) (meth : Method) (c : Code) (cells slots : Nat) (A : Nat → Prop) (Q : State → Prop) : Prop :=
  p.tables.exec = Jvm.exec ∧ c.code = M.2.1 ∧ c.maxLocals = M.2.2.1 ∧ s.vm.findClass M.1.cls = some m.cls ∧ (∀ w ∈ lw_gd, w.before args s = true) ∧ (∀ w ∈ nests, va_Nw w s) ∧ va_K D cls (tys aC) s ∧ (d ≤ R.frames ∧ 64 * d ≤ R.locals ∧ cells ≤ R.cells ∧ slots ≤ R.slots) ∧ (∀ q, s.heap.size ≤ q → A q) ∧ Xok X ad A s ∧
  ∀ (r : Option AV) (σ : ST) (H : Heap) (locs : List Loc) (ls : Array Slot) (pc : Nat) (op : Instr), post r σ → rok M.2.2.2 r op → Wo D ad aC σ A s.heap H locs → decode M.2.1 pc = .ok (op, 1) → W p l e R s m args below meth c H locs cells slots Q (F0 m pc ls (r.toList.map (cv ad)))
def Ev (X : SX) (d : Nat) (M : MD) (pc : Nat) (L : List (Option AV)) (st : List AV) (σ : ST) (post : Option AV → ST → Prop) : Prop :=
  ∀ (D : va_G) (ad : AD) (aC : Nat → ClassId) (p : Program) (l : Launch) (e : Env) (R : Room) (s : State) (m : MethodId) (args : Array Value) (below : List Frame) (meth : Method) (c : Code) (cells slots : Nat) (A : Nat → Prop) (Q : State → Prop), Cx X d M post D ad aC p l e R s m args below meth c cells slots A Q →
    ∀ (H : Heap) (locs : List Loc) (ls : Array Slot), Wo D ad aC σ A s.heap H locs → Lc ad ls M.2.2.1 L → W p l e R s m args below meth c H locs cells slots Q (F0 m pc ls (st.map (cv ad)))
/-- Ev with its context named: what a rule is proved from -/
theorem Ev.at {X : SX} {d : Nat} {M : MD} {pc : Nat} {L : List (Option AV)} {st : List AV} {σ : ST} {post : Option AV → ST → Prop} (h : Ev X d M pc L st σ post) {D : va_G} {ad : AD} {aC : Nat → ClassId} {p : Program} {l : Launch} {e : Env} {R : Room} {s : State} {m : MethodId} {args : Array Value} {below : List Frame} {meth : Method} {c : Code} {cells slots : Nat} {A : Nat → Prop} {Q : State → Prop} (C : Cx X d M post D ad aC p l e R s m args below meth c cells slots A Q)
    {H : Heap} {locs : List Loc} {ls : Array Slot} (w : Wo D ad aC σ A s.heap H locs) (hl : Lc ad ls M.2.2.1 L) : W p l e R s m args below meth c H locs cells slots Q (F0 m pc ls (st.map (cv ad))) := h D ad aC p l e R s m args below meth c cells slots A Q C H locs ls w hl
theorem Ev.mono {X : SX} {d : Nat} {M : MD} {pc : Nat} {L : List (Option AV)} {st : List AV} {σ : ST} {post post' : Option AV → ST → Prop} (h : Ev X d M pc L st σ post) (hp : ∀ r σ', post r σ' → post' r σ') : Ev X d M pc L st σ post' := by
  intro D ad aC p l e R s m args below meth c cells slots A Q C H locs ls w hl
  obtain ⟨c1, c2, c3, c4, c5, c6, c7, c8, c9, c10, c11⟩ := C
  exact h.at ⟨c1, c2, c3, c4, c5, c6, c7, c8, c9, c10, fun r σ' H locs ls pc op h1 => c11 r σ' H locs ls pc op (hp r σ' h1)⟩ w hl
theorem Ev.up {X : SX} {d d' : Nat} {M : MD} {pc : Nat} {L : List (Option AV)} {st : List AV} {σ : ST} {post : Option AV → ST → Prop} (h : Ev X d M pc L st σ post) (hd : d ≤ d') : Ev X d' M pc L st σ post := by
  intro D ad aC p l e R s m args below meth c cells slots A Q C H locs ls w hl
  obtain ⟨c1, c2, c3, c4, c5, c6, c7, ⟨r1, r2, r3, r4⟩, c9, c10, c11⟩ := C
  exact h.at ⟨c1, c2, c3, c4, c5, c6, c7, ⟨by omega, by omega, r3, r4⟩, c9, c10, c11⟩ w hl
-- locals
def prs (ad : AD) (L : List (Option AV)) : List (Nat × Value) := (List.range L.length).filterMap (fun i => match L[i]? with | some (some v) => some (i, cv ad v) | _ => none)
theorem mem_prs {ad : AD} {L : List (Option AV)} {i : Nat} {w : Value} : (i, w) ∈ prs ad L ↔ ∃ v, L[i]? = some (some v) ∧ w = cv ad v := by
  unfold prs
  rw [List.mem_filterMap]
  constructor
  · rintro ⟨j, -, h⟩
    split at h
    next v hv =>
      cases h
      exact ⟨v, hv, rfl⟩
    next => cases h
  · rintro ⟨v, hv, rfl⟩
    refine ⟨i, List.mem_range.mpr (List.getElem?_eq_some_iff.mp hv).1, ?_⟩
    rw [hv]
theorem Lc.has {ad : AD} {ls : Array Slot} {n : Nat} {L : List (Option AV)} (h : Lc ad ls n L) : lv_has ls n (prs ad L) := by
  refine ⟨h.1, h.2.1, ?_⟩
  rintro ⟨i, w⟩ hq
  obtain ⟨v, hv, rfl⟩ := mem_prs.mp hq
  exact h.2.2 i v hv
def isJ : Option (Option AV) → Bool
  | some (some (.inr (.inl _))) => true
  | _ => false
/-- what a store leaves of the slot ahead of it -/
def kil (L : List (Option AV)) (i : Nat) : List (Option AV) := match i with
  | 0 => L
  | j + 1 => match isJ L[j]? with
    | true => L.set j none
    | false => L
def sto1 (L : List (Option AV)) (i : Nat) (v : AV) : List (Option AV) := (kil L i).set i (some v)
def sto2 (L : List (Option AV)) (i : Nat) (v : AV) : List (Option AV) := ((kil L i).set i (some v)).set (i + 1) none
theorem cv_cat2 {ad : AD} {v : AV} : (cv ad v).category = 2 ↔ isJ (some (some v)) = true := by
  rcases v with x | x | ⟨k, i⟩ <;> simp [cv, isJ, Value.category]
theorem kil_at {L : List (Option AV)} {i j : Nat} {v : AV} (h : (kil L i)[j]? = some (some v)) : L[j]? = some (some v) ∧ ¬ (j + 1 = i ∧ isJ (some (some v)) = true) := by
  unfold kil at h
  cases i with
  | zero => exact ⟨h, fun q => by omega⟩
  | succ i =>
    dsimp only at h
    split at h
    next hq =>
      by_cases hj : j = i
      · subst hj
        have hlt : j < L.length := by
          have := (List.getElem?_eq_some_iff.mp h).1
          simpa using this
        rw [List.getElem?_set_self hlt] at h
        cases h
      · rw [List.getElem?_set_ne (Ne.symm hj)] at h
        exact ⟨h, fun q => hj (by omega)⟩
    next hq =>
      refine ⟨h, fun q => ?_⟩
      have e : j = i := by omega
      subst e
      rw [h, q.2] at hq
      cases hq
theorem set_at {L : List (Option AV)} {i j : Nat} {v w : AV} (h : (L.set i (some v))[j]? = some (some w)) : (j = i ∧ w = v) ∨ (j ≠ i ∧ L[j]? = some (some w)) := by
  by_cases hj : j = i
  · subst hj
    have hlt : j < L.length := by
      have := (List.getElem?_eq_some_iff.mp h).1
      simpa using this
    rw [List.getElem?_set_self hlt] at h
    cases h
    exact Or.inl ⟨rfl, rfl⟩
  · rw [List.getElem?_set_ne (Ne.symm hj)] at h
    exact Or.inr ⟨hj, h⟩
theorem setn_at {L : List (Option AV)} {i j : Nat} {w : AV} (h : (L.set i none)[j]? = some (some w)) : j ≠ i ∧ L[j]? = some (some w) := by
  by_cases hj : j = i
  · subst hj
    have hlt : j < L.length := by
      have := (List.getElem?_eq_some_iff.mp h).1
      simpa using this
    rw [List.getElem?_set_self hlt] at h
    cases h
  · rw [List.getElem?_set_ne (Ne.symm hj)] at h
    exact ⟨hj, h⟩
theorem Lc.of1 {ad : AD} {ls : Array Slot} {n i : Nat} {L : List (Option AV)} {v : AV} (h : lv_has ls n ((i, cv ad v) :: (prs ad L).filter (fun q => !(q.1 == i) && !(q.1 + 1 == i && q.2.category == 2)))) : Lc ad ls n (sto1 L i v) := by
  refine ⟨h.1, h.2.1, fun j w hw => ?_⟩
  rcases set_at hw with ⟨rfl, rfl⟩ | ⟨hj, hk⟩
  · exact h.2.2 _ List.mem_cons_self
  · obtain ⟨h1, h2⟩ := kil_at hk
    refine h.2.2 (j, cv ad w) (List.mem_cons_of_mem _ (List.mem_filter.mpr ⟨mem_prs.mpr ⟨w, h1, rfl⟩, ?_⟩))
    have n1 : (j == i) = false := beq_eq_false_iff_ne.mpr hj
    have n2 : (j + 1 == i && (cv ad w).category == 2) = false := by
      rw [Bool.and_eq_false_iff]
      by_cases a : j + 1 = i
      · right
        rw [beq_eq_false_iff_ne]
        exact fun q => h2 ⟨a, cv_cat2.mp q⟩
      · left
        exact beq_eq_false_iff_ne.mpr a
    simp only [n1, n2]
    rfl
theorem Lc.of2 {ad : AD} {ls : Array Slot} {n i : Nat} {L : List (Option AV)} {v : AV} (h : lv_has ls n ((i, cv ad v) :: (prs ad L).filter (fun q => !(q.1 == i) && (!(q.1 == i + 1) && !(q.1 + 1 == i && q.2.category == 2))))) : Lc ad ls n (sto2 L i v) := by
  refine ⟨h.1, h.2.1, fun j w hw => ?_⟩
  obtain ⟨g1, hw⟩ := setn_at hw
  rcases set_at hw with ⟨rfl, rfl⟩ | ⟨hj, hk⟩
  · exact h.2.2 _ List.mem_cons_self
  · obtain ⟨h1, h2⟩ := kil_at hk
    refine h.2.2 (j, cv ad w) (List.mem_cons_of_mem _ (List.mem_filter.mpr ⟨mem_prs.mpr ⟨w, h1, rfl⟩, ?_⟩))
    have n1 : (j == i) = false := beq_eq_false_iff_ne.mpr hj
    have n3 : (j == i + 1) = false := beq_eq_false_iff_ne.mpr g1
    have n2 : (j + 1 == i && (cv ad w).category == 2) = false := by
      rw [Bool.and_eq_false_iff]
      by_cases a : j + 1 = i
      · right
        rw [beq_eq_false_iff_ne]
        exact fun q => h2 ⟨a, cv_cat2.mp q⟩
      · left
        exact beq_eq_false_iff_ne.mpr a
    simp only [n1, n2, n3]
    rfl
def entL : List AV → List (Option AV)
  | [] => []
  | v :: vs => match isJ (some (some v)) with
    | true => some v :: none :: entL vs
    | false => some v :: entL vs
def entP (n : Nat) (as : List AV) : List (Option AV) := entL as ++ List.replicate (n - (entL as).length) none
theorem entL_cons (v : AV) (vs : List AV) : entL (v :: vs) = if isJ (some (some v)) = true then some v :: none :: entL vs else some v :: entL vs := by
  show (match isJ (some (some v)) with | true => some v :: none :: entL vs | false => some v :: entL vs) = _
  cases isJ (some (some v)) <;> rfl
theorem entL_len {ad : AD} : ∀ as : List AV, (lg_sl (as.map (cv ad))).length = (entL as).length
  | [] => rfl
  | v :: vs => by
    have ih := entL_len (ad := ad) vs
    have e : lg_sl ((v :: vs).map (cv ad)) = (if (cv ad v).category = 2 then [.val (cv ad v), .second] else [.val (cv ad v)]) ++ lg_sl (vs.map (cv ad)) := rfl
    rw [e, List.length_append, ih, entL_cons]
    by_cases h : isJ (some (some v)) = true
    · rw [if_pos h, if_pos (cv_cat2.mpr h)]
      simp
      omega
    · rw [if_neg h, if_neg (fun q => h (cv_cat2.mp q))]
      simp
      omega
theorem entL_at {ad : AD} : ∀ (as : List AV) (o j : Nat) (v : AV), (entL as)[j]? = some (some v) → (o + j, cv ad v) ∈ lv_args o (as.map (cv ad))
  | [], o, j, v, h => by simp [entL] at h
  | a :: as, o, j, v, h => by
    show _ ∈ (o, cv ad a) :: lv_args (if (cv ad a).category = 2 then o + 2 else o + 1) (as.map (cv ad))
    rw [entL_cons] at h
    by_cases hq : isJ (some (some a)) = true
    · rw [if_pos hq] at h
      rw [if_pos (cv_cat2.mpr hq)]
      match j, h with
      | 0, h =>
        cases h
        exact List.mem_cons_self
      | 1, h => cases h
      | j + 2, h =>
        have h' : (entL as)[j]? = some (some v) := h
        have := entL_at (ad := ad) as (o + 2) j v h'
        rw [show o + (j + 2) = o + 2 + j by omega]
        exact List.mem_cons_of_mem _ this
    · rw [if_neg hq] at h
      rw [if_neg (fun q => hq (cv_cat2.mp q))]
      match j, h with
      | 0, h =>
        cases h
        exact List.mem_cons_self
      | j + 1, h =>
        have h' : (entL as)[j]? = some (some v) := h
        have := entL_at (ad := ad) as (o + 1) j v h'
        rw [show o + (j + 1) = o + 1 + j by omega]
        exact List.mem_cons_of_mem _ this
theorem Lc.entry (ad : AD) (as : List AV) {n : Nat} (h : (entL as).length ≤ n) : Lc ad ((lg_sl (as.map (cv ad)) ++ List.replicate (n - (lg_sl (as.map (cv ad))).length) Slot.unset).toArray) n (entP n as) := by
  have hl := lv_entry (as.map (cv ad)) (n := n) (by rw [entL_len]; exact h)
  refine ⟨hl.1, hl.2.1, fun i v hv => ?_⟩
  have hv' : (entL as)[i]? = some (some v) := by
    unfold entP at hv
    by_cases hi : i < (entL as).length
    · rwa [List.getElem?_append_left hi] at hv
    · rw [List.getElem?_append_right (by omega)] at hv
      have := List.mem_of_getElem? hv
      rw [List.mem_replicate] at this
      exact absurd this.2 (by intro q; cases q)
  have := entL_at (ad := ad) as 0 i v hv'
  rw [Nat.zero_add] at this
  exact hl.2.2 _ this
