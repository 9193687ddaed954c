/-! THE CLAIM OUT OF ONE WALK OF THE LAW'S BODY. Your part is whole_start (and what it stands on); all else here is the same for every law, but numbers. -/
def R_law : String := "OneBookLaw"
def lw_P (b : Addr) (xs : List Int32) (args : Array Value) (s : State) : Prop := args = #[.ref b] ∧ s.IntsAt b xs ∧ xs.length ≤ 3072 ∧ (Jvm.Cond.and given_1 narrow_1).before args s = true
def lw_Q (_ : Array Value) (s : State) (o : Outcome) (t : State) : Prop := o = .returned (some (.int 1)) ∧ Framed s o t [] 600000 7302250
def lw_Z (below : List Frame) (a : Array Value) (s : State) : State → Prop := fun t => ∃ o, t.status = .running ∧ Ended t below o ∧ lw_Q a s o t
/-- the law's own end, with 1 on the stack, nothing written that was there before, its room as the claim has it -/
theorem lw_ret {p : Program} {l : Launch} {e : Env} {s : State} {m : MethodId} {below : List Frame} {meth : Method} {c : Code} {b : Nat} (hx : p.tables.exec = Jvm.exec) (hb : c.code = code) (hr : meth.sig.returnType = ret) (hlocks : meth.locks = false) {pc : Nat} {H : Heap} {ls : Array Slot} (hdg : decode code pc = .ok (.ireturn, 1)) : W p l e room_1 s m #[Value.ref b] below meth c H [] 600000 7302250 (lw_Z below #[Value.ref b] s) (F0 m pc ls [.int 1]) := by
  intro T hT X
  obtain ⟨fs, hret, hrun, hended, hW, hframe⟩ := X.leave (v := some (.int 1)) (hlocks := hlocks) (fun h => by rw [hr] at h; cases h)
  have hmeth' : T.vm.method? m = some meth := X.method'
  refine ⟨T.setFrames fs, ?_, .returned (some (.int 1)), hrun, hended, rfl, ⟨_, rfl⟩, hW, hframe⟩
  jvm_step X.here [X.here.top, hx, hb, hdg, hmeth', hr, ret, narrow_b1]
  (try refine ⟨rfl, ?_⟩); (try refine ⟨rfl, ?_⟩)
  first | (intro acts; rw [hret _ acts rfl rfl rfl]) | rw [hret _ _ rfl rfl rfl]
  exact Steps.refl _
/-- what holds at the law's entry: the machine, the code, the tables' words (any of lw_tbl by 'hts w (by decide +kernel)'), the script of L ints xs at the cell b, what the Statement gives of the start (any of its parts by flat_of_before) -/
def lw_At (p : Program) (s : State) (m : MethodId) (meth : Method) (c : Code) (b L : Nat) (xs : Nat → Int32) : Prop :=
  p.tables.exec = Jvm.exec ∧ c.code = code ∧ meth.sig.returnType = ret ∧ c.maxLocals = 4 ∧ s.vm.findClass R_law = some m.cls ∧ (∀ w ∈ lw_tbl, w.before #[Value.ref b] s = true) ∧ va_X b L xs s s.heap ∧ b < s.heap.size ∧ meth.locks = false ∧ (Jvm.Cond.and given_1 narrow_1).before #[Value.ref b] s = true
theorem kn_0 {args : Array Value} {s : State} (hts : ∀ w ∈ lw_gd, w.before args s = true) : ∃ (cC : ClassId) (iS : Nat → Nat), u_Kn s "OneBook" kT0 12 cC iS := u_known (n := 12) hts (fun w hw => gd_t (clsP_0.1 w hw) (u_good hw)) (hts _ (tb 17 (by decide +kernel) rfl))
theorem kn_1 {args : Array Value} {s : State} (hts : ∀ w ∈ lw_gd, w.before args s = true) : ∃ (cC : ClassId) (iS : Nat → Nat), u_Kn s "OneBook$Book" kT1 6 cC iS := u_known (n := 6) hts (fun w hw => gd_t (clsP_1.1 w hw) (u_good hw)) (hts _ (tb 25 (by decide +kernel) rfl))
theorem kn_2 {args : Array Value} {s : State} (hts : ∀ w ∈ lw_gd, w.before args s = true) : ∃ (cC : ClassId) (iS : Nat → Nat), u_Kn s "OneBook$Company" kT2 3 cC iS := u_known (n := 3) hts (fun w hw => gd_t (clsP_2.1 w hw) (u_good hw)) (hts _ (tb 51 (by decide +kernel) rfl))
theorem kn_3 {args : Array Value} {s : State} (hts : ∀ w ∈ lw_gd, w.before args s = true) : ∃ (cC : ClassId) (iS : Nat → Nat), u_Kn s "OneBook$Reader" kT3 3 cC iS := u_known (n := 3) hts (fun w hw => gd_t (clsP_3.1 w hw) (u_good hw)) (hts _ (tb 58 (by decide +kernel) rfl))
theorem kn_4 {args : Array Value} {s : State} (hts : ∀ w ∈ lw_gd, w.before args s = true) : ∃ (cC : ClassId) (iS : Nat → Nat), u_Kn s "OneBook$Evening" kT4 5 cC iS := u_known (n := 5) hts (fun w hw => gd_t (clsP_4.1 w hw) (u_good hw)) (hts _ (tb 85 (by decide +kernel) rfl))
theorem kn_5 {args : Array Value} {s : State} (hts : ∀ w ∈ lw_gd, w.before args s = true) : ∃ (cC : ClassId) (iS : Nat → Nat), u_Kn s "OneBook$Plan" kT5 11 cC iS := u_known (n := 11) hts (fun w hw => gd_t (clsP_5.1 w hw) (u_good hw)) (hts _ (tb 107 (by decide +kernel) rfl))
theorem kn_6 {args : Array Value} {s : State} (hts : ∀ w ∈ lw_gd, w.before args s = true) : ∃ (cC : ClassId) (iS : Nat → Nat), u_Kn s "OneBook$Seeming" kT6 5 cC iS := u_known (n := 5) hts (fun w hw => gd_t (clsP_6.1 w hw) (u_good hw)) (hts _ (tb 147 (by decide +kernel) rfl))
theorem kn_7 {args : Array Value} {s : State} (hts : ∀ w ∈ lw_gd, w.before args s = true) : ∃ (cC : ClassId) (iS : Nat → Nat), u_Kn s "OneBook$Seating" kT7 5 cC iS := u_known (n := 5) hts (fun w hw => gd_t (clsP_7.1 w hw) (u_good hw)) (hts _ (tb 169 (by decide +kernel) rfl))
theorem kn_8 {args : Array Value} {s : State} (hts : ∀ w ∈ lw_gd, w.before args s = true) : ∃ (cC : ClassId) (iS : Nat → Nat), u_Kn s "OneBook$Turns" kT8 5 cC iS := u_known (n := 5) hts (fun w hw => gd_t (clsP_8.1 w hw) (u_good hw)) (hts _ (tb 191 (by decide +kernel) rfl))
theorem kn_9 {args : Array Value} {s : State} (hts : ∀ w ∈ lw_gd, w.before args s = true) : ∃ (cC : ClassId) (iS : Nat → Nat), u_Kn s "OneBook$Moods" kT9 9 cC iS := u_known (n := 9) hts (fun w hw => gd_t (clsP_9.1 w hw) (u_good hw)) (hts _ (tb 213 (by decide +kernel) rfl))
theorem kn_10 {args : Array Value} {s : State} (hts : ∀ w ∈ lw_gd, w.before args s = true) : ∃ (cC : ClassId) (iS : Nat → Nat), u_Kn s "OneBook$Sheet" kT10 4 cC iS := u_known (n := 4) hts (fun w hw => gd_t (clsP_10.1 w hw) (u_good hw)) (hts _ (tb 249 (by decide +kernel) rfl))
theorem kn_11 {args : Array Value} {s : State} (hts : ∀ w ∈ lw_gd, w.before args s = true) : ∃ (cC : ClassId) (iS : Nat → Nat), u_Kn s "OneBookModel" kT11 34 cC iS := u_known (n := 34) hts (fun w hw => gd_t (clsP_11.1 w hw) (u_good hw)) (hts _ (tb 916 (by decide +kernel) rfl))
theorem kn_all {args : Array Value} {s : State} (hts : ∀ w ∈ lw_gd, w.before args s = true) : ∀ c : Nat, ∃ x : ClassId × (Nat → Nat), ∀ q : vw_C, cls[c]? = some q → u_Kn s q.1 q.2.1 q.2.2 x.1 x.2
  | 0 => by
    obtain ⟨a, b, h⟩ := kn_0 hts
    exact ⟨(a, b), fun q hq => by cases hq; exact h⟩
  | 1 => by
    obtain ⟨a, b, h⟩ := kn_1 hts
    exact ⟨(a, b), fun q hq => by cases hq; exact h⟩
  | 2 => by
    obtain ⟨a, b, h⟩ := kn_2 hts
    exact ⟨(a, b), fun q hq => by cases hq; exact h⟩
  | 3 => by
    obtain ⟨a, b, h⟩ := kn_3 hts
    exact ⟨(a, b), fun q hq => by cases hq; exact h⟩
  | 4 => by
    obtain ⟨a, b, h⟩ := kn_4 hts
    exact ⟨(a, b), fun q hq => by cases hq; exact h⟩
  | 5 => by
    obtain ⟨a, b, h⟩ := kn_5 hts
    exact ⟨(a, b), fun q hq => by cases hq; exact h⟩
  | 6 => by
    obtain ⟨a, b, h⟩ := kn_6 hts
    exact ⟨(a, b), fun q hq => by cases hq; exact h⟩
  | 7 => by
    obtain ⟨a, b, h⟩ := kn_7 hts
    exact ⟨(a, b), fun q hq => by cases hq; exact h⟩
  | 8 => by
    obtain ⟨a, b, h⟩ := kn_8 hts
    exact ⟨(a, b), fun q hq => by cases hq; exact h⟩
  | 9 => by
    obtain ⟨a, b, h⟩ := kn_9 hts
    exact ⟨(a, b), fun q hq => by cases hq; exact h⟩
  | 10 => by
    obtain ⟨a, b, h⟩ := kn_10 hts
    exact ⟨(a, b), fun q hq => by cases hq; exact h⟩
  | 11 => by
    obtain ⟨a, b, h⟩ := kn_11 hts
    exact ⟨(a, b), fun q hq => by cases hq; exact h⟩
  | c + 12 => ⟨(0, fun _ => 0), fun q hq => by cases hq⟩
theorem ka_0 {args : Array Value} {s : State} (hts : ∀ w ∈ lw_gd, w.before args s = true) : ∃ cA : ClassId, ArrOfT s cA .int ∧ va_RA s cA .int := by
  obtain ⟨cA, kA, comp, h1, h2, h3⟩ := Cond.arrayClass_spec (type := .int) (hts _ (tb 49 (by decide +kernel) rfl))
  exact ⟨cA, fun n z => ⟨fun k h => (by cases h), kA, h2, comp, h3⟩, h1⟩
theorem ka_1 {args : Array Value} {s : State} (hts : ∀ w ∈ lw_gd, w.before args s = true) : ∃ cA : ClassId, ArrOfT s cA .boolean ∧ va_RA s cA .boolean := by
  obtain ⟨cA, kA, comp, h1, h2, h3⟩ := Cond.arrayClass_spec (type := .boolean) (hts _ (tb 73 (by decide +kernel) rfl))
  exact ⟨cA, fun n z => ⟨fun k h => (by cases h), kA, h2, comp, h3⟩, h1⟩
theorem ka_2 {args : Array Value} {s : State} (hts : ∀ w ∈ lw_gd, w.before args s = true) : ∃ cA : ClassId, ArrOfT s cA .long ∧ va_RA s cA .long := by
  obtain ⟨cA, kA, comp, h1, h2, h3⟩ := Cond.arrayClass_spec (type := .long) (hts _ (tb 246 (by decide +kernel) rfl))
  exact ⟨cA, fun n z => ⟨fun k h => (by cases h), kA, h2, comp, h3⟩, h1⟩
theorem kq {C : String} {s : State} (h : va_AO C s) : ∃ cA : ClassId, ArrOfT s cA (.object C) ∧ va_RA s cA (.object C) := by
  obtain ⟨comp, c, k, h1, h2, h3, h4, h5⟩ := Cond.arrayOver_spec h
  exact ⟨c, fun N z => ⟨(fun k h => by cases h), k, h3, comp, h4⟩, k, comp, h3, h4, h1, h5⟩
theorem start_K {args : Array Value} {s : State} (hts : ∀ w ∈ lw_tbl, w.before args s = true) : ∃ (D : va_G) (aC : Nat → ClassId), Sd D aC s ∧ ∀ w ∈ nests, va_Nw w s := by
  have hg : ∀ w ∈ lw_gd, w.before args s = true := fun w hw => hts w (gd_self hw).1
  have hr : va_AO "OneBook$Reader" s := va_AO.of (hts _ (by decide +kernel))
  have hs : va_AO "OneBook$Sheet" s := va_AO.of (hts _ (by decide +kernel))
  obtain ⟨a0, b0⟩ := ka_0 hg
  obtain ⟨a1, b1⟩ := ka_1 hg
  obtain ⟨a2, b2⟩ := ka_2 hg
  obtain ⟨a3, b3⟩ := kq hr
  obtain ⟨a4, b4⟩ := kq hs
  refine ⟨(fun c => (Classical.choose (kn_all hg c)).1, fun c => (Classical.choose (kn_all hg c)).2), fun j => match j with | 0 => a0 | 1 => a1 | 2 => a2 | 3 => a3 | _ => a4, ⟨⟨fun c q hq => Classical.choose_spec (kn_all hg c) q hq, fun k q hq => ?_⟩, fun w hw => ?_, hr, hs⟩, fun w hw => ?_⟩
  · match k, hq with
    | 0, hq => cases hq; exact b0
    | 1, hq => cases hq; exact b1
    | 2, hq => cases hq; exact b2
    | 3, hq => cases hq; exact b3
    | 4, hq => cases hq; exact b4
    | k + 5, hq => cases hq
  · have h1 : ∀ w ∈ nestI, w ∈ lw_tbl := by decide +kernel
    obtain ⟨z1, z2, z3, z4, rfl⟩ := nestI_all w hw
    exact va_Nw.of rfl (hts _ (h1 _ hw))
  · have h1 : ∀ w ∈ nests, w ∈ lw_tbl := by decide +kernel
    obtain ⟨z1, z2, z3, z4, rfl⟩ := nests_all w hw
    exact va_Nw.of rfl (hts _ (h1 _ hw))
/-- the law's end as Ev has it -/
abbrev lawPost : Option AV → ST → Prop := fun r _ => r = some (vI 1)
set_option maxRecDepth 20000 in
set_option maxHeartbeats 4000000 in
theorem whole_of_ev {p : Program} {e : Env} {s : State} {m : MethodId} {below : List Frame} {meth : Method} {c : Code} (l : Launch) {b L : Nat} {xs : Nat → Int32} (hEv : Ev (some (L, xs)) 20 m_L_law 16 [some (vR 63 0), some (vR 0 0), some (vR 11 0), none] [] st0 lawPost) (C0 : lw_At p s m meth c b L xs) : W p l e room_1 s m #[Value.ref b] below meth c s.heap [] 0 0 (lw_Z below #[Value.ref b] s) (entryFrame m ([Value.ref b] : List Value).toArray 4) := by
  obtain ⟨hx, hb, hr, hml, hown, hts, hX, hbl, hlocks, -⟩ := C0
  obtain ⟨D, aC, hSd, hN⟩ := start_K hts
  have hg : ∀ w ∈ lw_gd, w.before #[Value.ref b] s = true := fun w hw => hts w (gd_self hw).1
  have hP0 : va_P D cls [] s.heap := fun k q hk => by simp at hk
  have hD0 : va_D (fun q => s.heap.size ≤ q) ([] : va_W) := ⟨fun i j x y hi => by simp at hi, fun k q hk => by simp at hk⟩
  rw [lg_entry_eq]
  refine (c_L_start aC b).at (D := D) (A := fun q => s.heap.size ≤ q) ⟨hx, hb, hml, hown, hg, hSd, ⟨by decide, by decide⟩, fun q h => h, fun h => absurd h (by decide), ?_⟩ (by decide) (by decide) hP0 hD0 va_S.rf (Lc.entry ad0 [rA b] (Nat.le_of_ble_eq_true rfl))
  rintro w L1 H locs ls pc cells slots ⟨rfl, q1, q2, q3, q4, q5, q6, q7, q8, q9, q10, q11, q12, q13, q14, q15, q16, q17, q18, q19, q20, q21, q22, q23, q24, q25, q26, q27, q28, q29, q30, q31, q32, q33, q34, q35, q36, q37, q38, q39, q40, q41, q42, q43, q44, q45, q46, q47, q48, q49, q50, q51, q52, q53, q54, q55, q56, q57, q58, q59, q60, q61, q62, q63, q64, q65, q66, q67, q68, q69, q70, q71, q72, q73, q74, q75, q76, q77, q78, q79, q80, q81, q82, q83, q84, q85, q86, q87, q88, q89, rfl, rfl⟩ hl hP hD hS hc hs
  have hP' := wld_P (wa_all (b := b) hP)
  obtain ⟨d1, d2⟩ := hD.addr
  have hD' : va_D (fun q => s.heap.size ≤ q) (wld (adL (b :: [q1, q2, q3, q4, q5, q6, q7, q8, q9, q10, q11, q12, q13, q14, q15, q16, q17, q18, q19, q20, q21, q22, q23, q24, q25, q26, q27, q28, q29, q30, q31, q32, q33, q34, q35, q36, q37, q38, q39, q40, q41, q42, q43, q44, q45, q46, q47, q48, q49, q50, q51, q52, q53, q54, q55, q56, q57, q58, q59, q60, q61, q62, q63, q64, q65, q66, q67, q68, q69, q70, q71, q72, q73, q74, q75, q76, q77, q78, q79, q80, q81, q82, q83, q84, q85, q86, q87, q88, q89])) aC st0) := wld_D rfl d1 d2
  refine hEv.at (D := D) (ad := adL (b :: [q1, q2, q3, q4, q5, q6, q7, q8, q9, q10, q11, q12, q13, q14, q15, q16, q17, q18, q19, q20, q21, q22, q23, q24, q25, q26, q27, q28, q29, q30, q31, q32, q33, q34, q35, q36, q37, q38, q39, q40, q41, q42, q43, q44, q45, q46, q47, q48, q49, q50, q51, q52, q53, q54, q55, q56, q57, q58, q59, q60, q61, q62, q63, q64, q65, q66, q67, q68, q69, q70, q71, q72, q73, q74, q75, q76, q77, q78, q79, q80, q81, q82, q83, q84, q85, q86, q87, q88, q89])) (aC := aC) (A := fun q => s.heap.size ≤ q) ⟨hx, hb, hml, hown, hg, hN, hSd.1, ⟨by decide, by decide, hc, hs⟩, fun q h => h, ⟨hX, hbl, Nat.not_le.mpr hbl⟩, ?_⟩ ⟨hP', hD', hS⟩ ⟨hl.1, hl.2.1, fun i v hv => ?_⟩
  · intro r σ H2 locs2 ls2 pc2 op hp hok hw hdg
    subst hp
    have hop : op = .ireturn := hok.1
    subst hop
    refine va_forget (fun q hq => hw.2.2.2.2 q hq) (W.widen hc hs ?_)
    exact lw_ret hx hb hr hlocks hdg
  · match i, hv with
    | 0, hv => cases hv; exact hl.2.2 0 (rA b) rfl
    | 1, hv => cases hv; exact hl.2.2 1 (rA q1) rfl
    | 2, hv => cases hv; exact hl.2.2 2 (rA q68) rfl
    | 3, hv => cases hv
    | i + 4, hv => cases hv
