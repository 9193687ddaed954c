-- constructors: a judgement over an explicit list of cells; addresses stand as vR 0 address
abbrev ad0 : AD := fun _ i => i
abbrev rA (q : Nat) : AV := vR 0 q
def nestI : List Cond := [.methodLinkNest "OneBook" 9 ⟨"OneBook$Book", "<init>", "()V"⟩ "OneBook", .methodLinkNest "OneBook$Company" 25 ⟨"OneBook$Reader", "<init>", "()V"⟩ "OneBook", .methodLinkNest "OneBook" 75 ⟨"OneBook$Sheet", "<init>", "()V"⟩ "OneBook"]
theorem nestI_all : ∀ w ∈ nestI, ∃ a i x h, w = Cond.methodLinkNest a i x h := by
  intro w hw
  simp only [nestI, List.mem_cons, List.not_mem_nil, or_false] at hw
  rcases hw with rfl | rfl | rfl <;> exact ⟨_, _, _, _, rfl⟩
/-- what of the start the constructors carry along -/
def Sd (D : va_G) (aC : Nat → ClassId) (U : State) : Prop := va_K D cls (tys aC) U ∧ (∀ w ∈ nestI, va_Nw w U) ∧ va_AO "OneBook$Reader" U ∧ va_AO "OneBook$Sheet" U
def Kw (aC : Nat → ClassId) (d : Nat) (M : MD) (post : Nat → List (Option AV) → va_W → Prop) (D : va_G) (p : Program) (l : Launch) (e : Env) (R : Room) (s : State) (m : MethodId) (args : Array Value) (below : List Frame) (meth : Method) (c : Code) (A : Nat → Prop) (Q : State → Prop) : Prop :=
  p.tables.exec = Jvm.exec ∧ c.code = M.2.1 ∧ c.maxLocals = M.2.2.1 ∧ s.vm.findClass M.1.cls = some m.cls ∧ (∀ w ∈ lw_gd, w.before args s = true) ∧ Sd D aC s ∧ (d ≤ R.frames ∧ 64 * d ≤ R.locals) ∧ (∀ q, s.heap.size ≤ q → A q) ∧ (M.1.name = "<init>" → meth.name = "<init>") ∧
  ∀ (w : va_W) (L : List (Option AV)) (H : Heap) (locs : List Loc) (ls : Array Slot) (pc cells slots : Nat), post pc L w → Lc ad0 ls M.2.2.1 L → va_P D cls w H → va_D A w → va_S A s.heap H locs → cells ≤ R.cells → slots ≤ R.slots → W p l e R s m args below meth c H locs cells slots Q (F0 m pc ls [])
def Ew (aC : Nat → ClassId) (d : Nat) (M : MD) (pc : Nat) (L : List (Option AV)) (st : List AV) (w : va_W) (rn rk : Nat) (post : Nat → List (Option AV) → va_W → Prop) : Prop :=
  ∀ (D : va_G) (p : Program) (l : Launch) (e : Env) (R : Room) (s : State) (m : MethodId) (args : Array Value) (below : List Frame) (meth : Method) (c : Code) (A : Nat → Prop) (Q : State → Prop), Kw aC d M post D p l e R s m args below meth c A Q →
    ∀ (H : Heap) (locs : List Loc) (ls : Array Slot) (cells slots : Nat), cells + rn ≤ R.cells → slots + rk ≤ R.slots → va_P D cls w H → va_D A w → va_S A s.heap H locs → Lc ad0 ls M.2.2.1 L → W p l e R s m args below meth c H locs cells slots Q (F0 m pc ls (st.map (cv ad0)))
section EW
variable {aC : Nat → ClassId} {d : Nat} {M M' : MD} {pc : Nat} {L L' L0 : List (Option AV)} {st stk : List AV} {w w' : va_W} {rn rk : Nat} {post : Nat → List (Option AV) → va_W → Prop}
theorem Ew.at (h : Ew aC d M pc L st w rn rk post) {D : va_G} {p : Program} {l : Launch} {e : Env} {R : Room} {s : State} {m : MethodId} {args : Array Value} {below : List Frame} {meth : Method} {c : Code} {A : Nat → Prop} {Q : State → Prop} (C : Kw aC d M post D p l e R s m args below meth c A Q) {H : Heap} {locs : List Loc} {ls : Array Slot} {cells slots : Nat} (h1 : cells + rn ≤ R.cells) (h2 : slots + rk ≤ R.slots) (hP : va_P D cls w H) (hD : va_D A w) (hS : va_S A s.heap H locs) (hl : Lc ad0 ls M.2.2.1 L) : W p l e R s m args below meth c H locs cells slots Q (F0 m pc ls (st.map (cv ad0))) :=
  h D p l e R s m args below meth c A Q C H locs ls cells slots h1 h2 hP hD hS hl
theorem ew_exit (h : post pc L w) : Ew aC d M pc L [] w rn rk post := by
  intro D p l e R s m args below meth c A Q C H locs ls cells slots h1 h2 hP hD hS hl
  exact C.2.2.2.2.2.2.2.2.2 w L H locs ls pc cells slots h hl hP hD hS (by omega) (by omega)
theorem ew_iconst {n : Int} {v : Int32} (hd : decode M.2.1 pc = .ok (.iconst n, 1)) (hv : Int32.ofInt n = v) (k : Ew aC d M (pc + 1) L (vI v :: st) w rn rk post) : Ew aC d M pc L st w rn rk post := by
  intro D p l e R s m args below meth c A Q C H locs ls cells slots h1 h2 hP hD hS hl
  exact lv_iconst C.1 C.2.1 hd hv (k.at C h1 h2 hP hD hS hl)
theorem ew_bipush {n : Int} {v : Int32} (hd : decode M.2.1 pc = .ok (.bipush n, 2)) (hv : (Int8.ofInt n).toInt32 = v) (k : Ew aC d M (pc + 2) L (vI v :: st) w rn rk post) : Ew aC d M pc L st w rn rk post := by
  intro D p l e R s m args below meth c A Q C H locs ls cells slots h1 h2 hP hD hS hl
  exact lv_bipush C.1 C.2.1 hd hv (k.at C h1 h2 hP hD hS hl)
theorem ew_sipush {n : Int} {v : Int32} (hd : decode M.2.1 pc = .ok (.sipush n, 3)) (hv : (Int16.ofInt n).toInt32 = v) (k : Ew aC d M (pc + 3) L (vI v :: st) w rn rk post) : Ew aC d M pc L st w rn rk post := by
  intro D p l e R s m args below meth c A Q C H locs ls cells slots h1 h2 hP hD hS hl
  exact lv_sipush C.1 C.2.1 hd hv (k.at C h1 h2 hP hD hS hl)
theorem ew_lconst {n : Fin 2} {v : Int64} (hd : decode M.2.1 pc = .ok (.lconst n, 1)) (hv : Int64.ofNat (n : Nat) = v) (k : Ew aC d M (pc + 1) L (vJ v :: st) w rn rk post) : Ew aC d M pc L st w rn rk post := by
  intro D p l e R s m args below meth c A Q C H locs ls cells slots h1 h2 hP hD hS hl
  exact lv_lconst C.1 C.2.1 hd hv (k.at C h1 h2 hP hD hS hl)
theorem ew_aload_n {j : Fin 4} {i q : Nat} (hd : decode M.2.1 pc = .ok (.aload_n j, 1)) (hi : (j : Nat) = i) (hx : L[i]? = some (some (rA q))) (k : Ew aC d M (pc + 1) L (rA q :: st) w rn rk post) : Ew aC d M pc L st w rn rk post := by
  intro D p l e R s m args below meth c A Q C H locs ls cells slots h1 h2 hP hD hS hl
  exact lv_aload_n C.1 C.2.1 hd hi (hl.2.2 _ _ hx) (k.at C h1 h2 hP hD hS hl)
theorem ew_iload_n {j : Fin 4} {i : Nat} {x : Int32} (hd : decode M.2.1 pc = .ok (.iload_n j, 1)) (hi : (j : Nat) = i) (hx : L[i]? = some (some (vI x))) (k : Ew aC d M (pc + 1) L (vI x :: st) w rn rk post) : Ew aC d M pc L st w rn rk post := by
  intro D p l e R s m args below meth c A Q C H locs ls cells slots h1 h2 hP hD hS hl
  exact lv_iload_n C.1 C.2.1 hd hi (hl.2.2 _ _ hx) (k.at C h1 h2 hP hD hS hl)
theorem ew_istore_n {j : Fin 4} {i : Nat} {x : Int32} (hd : decode M.2.1 pc = .ok (.istore_n j, 1)) (hi : (j : Nat) = i) (hn : i < M.2.2.1) (hL : sto1 L i (vI x) = L') (k : Ew aC d M (pc + 1) L' st w rn rk post) : Ew aC d M pc L (vI x :: st) w rn rk post := by
  intro D p l e R s m args below meth c A Q C H locs ls cells slots h1 h2 hP hD hS hl
  exact lv_istore_n C.1 C.2.1 hd hi hl.has hn rfl (fun ls' h' => k.at C h1 h2 hP hD hS (hL ▸ Lc.of1 (v := vI x) h'))
theorem ew_astore_n {j : Fin 4} {i q : Nat} (hd : decode M.2.1 pc = .ok (.astore_n j, 1)) (hi : (j : Nat) = i) (hn : i < M.2.2.1) (hL : sto1 L i (rA q) = L') (k : Ew aC d M (pc + 1) L' st w rn rk post) : Ew aC d M pc L (rA q :: st) w rn rk post := by
  intro D p l e R s m args below meth c A Q C H locs ls cells slots h1 h2 hP hD hS hl
  exact lv_astore_n C.1 C.2.1 hd hi hl.has hn rfl (fun ls' h' => k.at C h1 h2 hP hD hS (hL ▸ Lc.of1 (v := rA q) h'))
theorem ew_iinc {i : Nat} {n : Int} {x v : Int32} (hd : decode M.2.1 pc = .ok (.iinc i n, 3)) (hx : L[i]? = some (some (vI x))) (hv : x + Int32.ofInt n = v) (hn : i < M.2.2.1) (hL : sto1 L i (vI v) = L') (k : Ew aC d M (pc + 3) L' st w rn rk post) : Ew aC d M pc L st w rn rk post := by
  intro D p l e R s m args below meth c A Q C H locs ls cells slots h1 h2 hP hD hS hl
  obtain ⟨q, hq⟩ := List.getElem?_of_mem (mem_prs.mpr ⟨vI x, hx, rfl⟩ : (i, cv ad0 (vI x)) ∈ prs ad0 L)
  exact lv_iinc C.1 C.2.1 hd hl.has hq hv hn rfl (fun ls' h' => k.at C h1 h2 hP hD hS (hL ▸ Lc.of1 (v := vI v) h'))
theorem ew_dup {v : AV} (hd : decode M.2.1 pc = .ok (.dup, 1)) (hc : isJ (some (some v)) = false) (k : Ew aC d M (pc + 1) L (v :: v :: st) w rn rk post) : Ew aC d M pc L (v :: st) w rn rk post := by
  intro D p l e R s m args below meth c A Q C H locs ls cells slots h1 h2 hP hD hS hl
  exact lv_dup C.1 C.2.1 hd (cat1 hc) (k.at C h1 h2 hP hD hS hl)
theorem ew_get {x y : Int32} {off : Int} {tgt : Nat} (hd : decode M.2.1 pc = .ok (.if_icmp .ge off, 3)) (ht : (pc : Int) + off = (tgt : Int)) (h : y ≤ x) (k : Ew aC d M tgt L st w rn rk post) : Ew aC d M pc L (vI y :: vI x :: st) w rn rk post := by
  intro D p l e R s m args below meth c A Q C H locs ls cells slots h1 h2 hP hD hS hl
  exact lv_icmp_ge C.1 C.2.1 hd ht (fun _ => k.at C h1 h2 hP hD hS hl) (fun q => absurd h q)
theorem ew_gef {x y : Int32} {off : Int} (hd : decode M.2.1 pc = .ok (.if_icmp .ge off, 3)) (ht : ∃ tgt : Nat, (pc : Int) + off = (tgt : Int)) (h : ¬ y ≤ x) (k : Ew aC d M (pc + 3) L st w rn rk post) : Ew aC d M pc L (vI y :: vI x :: st) w rn rk post := by
  intro D p l e R s m args below meth c A Q C H locs ls cells slots h1 h2 hP hD hS hl
  obtain ⟨tgt, ht⟩ := ht
  exact lv_icmp_ge C.1 C.2.1 hd ht (fun q => absurd q h) (fun _ => k.at C h1 h2 hP hD hS hl)
theorem ew_goto {off : Int} {tgt : Nat} (hd : decode M.2.1 pc = .ok (.goto off, 3)) (ht : (pc : Int) + off = (tgt : Int)) (k : Ew aC d M tgt L st w rn rk post) : Ew aC d M pc L st w rn rk post := by
  intro D p l e R s m args below meth c A Q C H locs ls cells slots h1 h2 hP hD hS hl
  exact lv_goto C.1 C.2.1 hd ht (k.at C h1 h2 hP hD hS hl)
theorem ew_obj {idx q : Nat} (hd : decode M.2.1 pc = .ok (.invokespecial idx, 3)) (hlk : Cond.methodLink M.1.cls idx objectInit ∈ lw_gd) (hr : cats st ≤ 8) (k : Ew aC (d + 1) M (pc + 3) L st w rn rk post) : Ew aC (d + 1) M pc L (rA q :: st) w rn rk post := by
  intro D p l e R s m args below meth c A Q C H locs ls cells slots h1 h2 hP hD hS hl
  have hts := C.2.2.2.2.1
  obtain ⟨f1, f2⟩ := C.2.2.2.2.2.2.1
  exact W.objInit (g := F0 m pc ls (.ref q :: st.map (cv ad0))) C.1 C.2.1 C.2.2.2.1 (hts _ hlk) (hts _ (by decide +kernel)) (hts _ (by decide +kernel)) rfl (by rw [C.2.2.1]; exact hl.1) rfl hd (by omega) (by show 2 * 0 + ((st.map (cv ad0)).map fun v => v.category).sum + 12 ≤ _; rw [cats_eq]; omega) (k.at C h1 h2 hP hD hS hl)
theorem rA_eq {D : va_G} {s : State} {cA : ClassId} {ty : FieldType} {j : Nat} (hK : va_K D cls (tys aC) s) (hj : (tys aC)[j]? = some (aC j, ty)) (hK2 : va_K D cls (tys aC ++ [(cA, ty)]) s) : cA = aC j := by
  have a1 := (hK.2 j _ hj).2
  have a2 := (hK2.2 (tys aC).length (cA, ty) (by rw [List.getElem?_append_right (Nat.le_refl _), Nat.sub_self]; rfl)).2
  cases ty with
  | object C =>
    obtain ⟨_, _, _, _, _, b1⟩ := a1
    obtain ⟨_, _, _, _, _, b2⟩ := a2
    exact (Option.some.inj (b1.symm.trans b2)).symm
  | _ => exact (Option.some.inj ((show s.vm.findClass _ = some _ from a1).symm.trans a2)).symm
theorem ew_newa {atype : ArrayType} {ty : FieldType} {j N : Nat} {n : Int32} {a0 : vp_A} (hd : decode M.2.1 pc = .ok (.newarray atype, 2)) (harr : Cond.arrayClass ty ∈ lw_gd) (hty : newarray.typeOf atype = ty) (hj : ∀ aC : Nat → ClassId, (tys aC)[j]? = some (aC j, ty)) (ha : ∀ cA : ClassId, vp_cell cA a0 = arrV cA N (fun _ => defaultValue ty)) (hn : ¬ n < 0) (hN : n.toNatClampNeg = N) (hb : N * componentBytes ty ≤ 536870912)
    (k : ∀ q : Nat, Ew aC d M (pc + 2) L (rA q :: st) (w ++ [(q, .inl (aC j, a0))]) rn rk post) : Ew aC d M pc L (vI n :: st) w (rn + 1) (rk + N) post := by
  intro D p l e R s m args below meth c A Q C H locs ls cells slots h1 h2 hP hD hS hl
  have hK := C.2.2.2.2.2.1.1
  refine va_newa C.1 C.2.1 (atype := atype) (by rw [hty]; exact C.2.2.2.2.1 _ harr) hty hK hP hD hS C.2.2.2.2.2.2.2.1 ha hn hN hb (by omega) (by omega) hd (fun q cA H1 hK1 hP1 hD1 hS1 => ?_)
  have e1 := rA_eq hK (hj aC) hK1
  subst e1
  exact (k q).at C (by omega) (by omega) hP1 hD1 hS1 hl
theorem ew_newq {C0 : String} {idx j N : Nat} {n : Int32} (hd : decode M.2.1 pc = .ok (.anewarray idx, 3)) (hlk : Cond.classLink M.1.cls idx C0 ∈ lw_gd) (hC : C0 = "OneBook$Reader" ∨ C0 = "OneBook$Sheet") (hj : ∀ aC : Nat → ClassId, (tys aC)[j]? = some (aC j, .object C0)) (hn : ¬ n < 0) (hN : n.toNatClampNeg = N) (hb : N * 4 ≤ 536870912)
    (k : ∀ q : Nat, Ew aC d M (pc + 3) L (rA q :: st) (w ++ [(q, .inl (aC j, N, .inr (.inr (.inr (.inr (fun _ => none))))))]) rn rk post) : Ew aC d M pc L (vI n :: st) w (rn + 1) (rk + N) post := by
  intro D p l e R s m args below meth c A Q C H locs ls cells slots h1 h2 hP hD hS hl
  have hK := C.2.2.2.2.2.1.1
  have hao : va_AO C0 s := by
    rcases hC with rfl | rfl
    · exact C.2.2.2.2.2.1.2.2.1
    · exact C.2.2.2.2.2.1.2.2.2
  refine va_newq C.1 C.2.1 C.2.2.2.1 (C.2.2.2.2.1 _ hlk) hao hK hP hD hS C.2.2.2.2.2.2.2.1 hn hN hb (by omega) (by omega) hd (fun q cA H1 hK1 hP1 hD1 hS1 => ?_)
  have e1 := rA_eq hK (hj aC) hK1
  subst e1
  exact (k q).at C (by omega) (by omega) hP1 hD1 hS1 hl
theorem ew_new {C0 : String} {T : u_T} {N ci idx : Nat} {fs : List Value} (ty : Nat → FieldType) (hd : decode M.2.1 pc = .ok (.new idx, 3)) (hlk : Cond.classLink M.1.cls idx C0 ∈ lw_gd) (hin : Cond.instantiable C0 N ∈ lw_gd) (hini : Cond.initialized C0 ∈ lw_gd) (hc : cls[ci]? = some (C0, T, N)) (hp : clsP (C0, T, N) ty) (hfs : ∀ j, j < N → defaultValue (ty j) = vp_V fs j)
    (k : ∀ q : Nat, Ew aC d M (pc + 3) L (rA q :: st) (w ++ [(q, .inr (ci, fs))]) rn rk post) : Ew aC d M pc L st w (rn + 1) (rk + N) post := by
  intro D p l e R s m args below meth c A Q C H locs ls cells slots h1 h2 hP hD hS hl
  have hts := C.2.2.2.2.1
  exact va_new (C := C0) (T := T) (N := N) C.1 C.2.1 hts (fun w hw => gd_t (hp.1 w hw) (u_good hw)) ty hp.2.1 C.2.2.2.1 (hts _ hlk) (hts _ hin) (hts _ hini) C.2.2.2.2.2.1.1 hP hD hS C.2.2.2.2.2.2.2.1 hc hfs (by omega) (by omega) hd (fun q H1 hP1 hD1 hS1 => (k q).at C (by omega) (by omega) hP1 hD1 hS1 hl)
theorem ew_putF {C0 : String} {T : u_T} {N ci idx q0 a kf b : Nat} {fs : List Value} {t : FieldType} (ty : Nat → FieldType) (hd : decode M.2.1 pc = .ok (.putfield idx, 3)) (hc : cls[ci]? = some (C0, T, N)) (hp : clsP (C0, T, N) ty) (hown : M.1.cls = C0) (hinit : M.1.name = "<init>") (he : w[q0]? = some (a, .inr (ci, fs))) (hk : kf < N) (hlk : Cond.fieldLink M.1.cls idx C0 (T kf).2.1 (T kf).2.2.1 ∈ lw_gd) (hfin : (T kf).2.2.2 = true) (hty : ty kf = t) (ht : (∃ n, t = .object n) ∨ ∃ n, t = .array n) (hl0 : kf < fs.length) (hw : w.set q0 (a, .inr (ci, fs.set kf (.ref b))) = w')
    (k : Ew aC d M (pc + 3) L st w' rn rk post) : Ew aC d M pc L (rA b :: rA a :: st) w rn rk post := by
  intro D p l e R s m args below meth c A Q C H locs ls cells slots h1 h2 hP hD hS hl
  have hts := C.2.2.2.2.1
  subst hw
  refine va_putF (ref := C0) (v := .ref b) (ty := t) C.1 C.2.1 hts (fun w hw => gd_t (hp.1 w hw) (u_good hw)) ty hp.2.1 hp.2.2.1 C.2.2.2.1 C.2.2.2.2.2.1.1 hP hD hS q0 he hc kf hk (hts _ hlk) (fun x hx => (show (T kf).1 = C0 from hp.2.2.2 kf hk) ▸ hx) hfin (C.2.2.2.2.2.2.2.2.1 hinit) (by rw [hown]; exact hp.2.2.2 kf hk) (by rw [hp.2.1 kf hk, hty]) ?_ ?_ hl0 hd (fun H1 locs1 hP1 hD1 hS1 => k.at C h1 h2 hP1 hD1 hS1 hl)
  · rcases ht with ⟨n, rfl⟩ | ⟨n, rfl⟩ <;> rfl
  · rcases ht with ⟨n, rfl⟩ | ⟨n, rfl⟩ <;> rfl
theorem ew_put {C0 : String} {T : u_T} {N ci idx q0 a kf : Nat} {fs : List Value} {t : FieldType} {v : AV} {vv : Value} (ty : Nat → FieldType) (hd : decode M.2.1 pc = .ok (.putfield idx, 3)) (hc : cls[ci]? = some (C0, T, N)) (hp : clsP (C0, T, N) ty) (he : w[q0]? = some (a, .inr (ci, fs))) (hk : kf < N) (hlk : Cond.fieldLink M.1.cls idx C0 (T kf).2.1 (T kf).2.2.1 ∈ lw_gd) (hfin : (T kf).2.2.2 = false) (hty : ty kf = t) (hvv : cv ad0 v = vv) (hn : narrow t vv = vv) (hf : fits t vv = true) (hl0 : kf < fs.length) (hw : w.set q0 (a, .inr (ci, fs.set kf vv)) = w')
    (k : Ew aC d M (pc + 3) L st w' rn rk post) : Ew aC d M pc L (v :: rA a :: st) w rn rk post := by
  intro D p l e R s m args below meth c A Q C H locs ls cells slots h1 h2 hP hD hS hl
  have hts := C.2.2.2.2.1
  subst hw
  subst hvv
  exact va_put (ref := C0) (v := cv ad0 v) (ty := t) C.1 C.2.1 hts (fun w hw => gd_t (hp.1 w hw) (u_good hw)) ty hp.2.1 hp.2.2.1 C.2.2.2.1 C.2.2.2.2.2.1.1 hP hD hS q0 he hc kf hk (hts _ hlk) (fun x hx => (show (T kf).1 = C0 from hp.2.2.2 kf hk) ▸ hx) hfin (by rw [hp.2.1 kf hk, hty]) hn hf hl0 hd (fun H1 locs1 hP1 hD1 hS1 => k.at C h1 h2 hP1 hD1 hS1 hl)
theorem ew_getR {C0 : String} {T : u_T} {N ci idx q0 a kf b : Nat} {fs : List Value} {ty : Nat → FieldType} (hd : decode M.2.1 pc = .ok (.getfield idx, 3)) (hc : cls[ci]? = some (C0, T, N)) (hp : clsP (C0, T, N) ty) (he : w[q0]? = some (a, .inr (ci, fs))) (hk : kf < N) (hlk : Cond.fieldLink M.1.cls idx C0 (T kf).2.1 (T kf).2.2.1 ∈ lw_gd) (hv : fs[kf]? = some (.ref b))
    (k : Ew aC d M (pc + 3) L (rA b :: st) w rn rk post) : Ew aC d M pc L (rA a :: st) w rn rk post := by
  intro D p l e R s m args below meth c A Q C H locs ls cells slots h1 h2 hP hD hS hl
  have hts := C.2.2.2.2.1
  exact va_get (ref := C0) (v := .ref b) C.1 C.2.1 hts (fun w hw => gd_t (hp.1 w hw) (u_good hw)) C.2.2.2.1 C.2.2.2.2.2.1.1 hP q0 he hc kf hk (hts _ hlk) (fun x hx => (show (T kf).1 = C0 from hp.2.2.2 kf hk) ▸ hx) hv hd (k.at C h1 h2 hP hD hS hl)
theorem ew_iast {q0 a n : Nat} {f : Nat → Int32} {i x : Int32} (hd : decode M.2.1 pc = .ok (.iastore, 1)) (he : w[q0]? = some (a, .inl (aC 0, n, .inl f))) (hin : vp_in i n) (hw : w.set q0 (a, .inl (aC 0, n, .inl (upd f i.toNatClampNeg x))) = w') (k : Ew aC d M (pc + 1) L st w' rn rk post) : Ew aC d M pc L (vI x :: vI i :: rA a :: st) w rn rk post := by
  intro D p l e R s m args below meth c A Q C H locs ls cells slots h1 h2 hP hD hS hl
  subst hw
  exact va_iast C.1 C.2.1 C.2.2.2.2.2.1.1 hP hD hS q0 0 he rfl hin hd (fun H1 locs1 hP1 hD1 hS1 => k.at C h1 h2 hP1 hD1 hS1 hl)
theorem ew_aast {q0 qk ci j a b n : Nat} {r : vw_C} {vs : List Value} {f : Nat → Option Nat} {i : Int32} (hd : decode M.2.1 pc = .ok (.aastore, 1)) (he : w[q0]? = some (a, .inl (aC j, n, .inr (.inr (.inr (.inr f)))))) (hj : ∀ aC : Nat → ClassId, (tys aC)[j]? = some (aC j, .object r.1)) (hv : w[qk]? = some (b, .inr (ci, vs))) (hc : cls[ci]? = some r) (hin : vp_in i n) (hw : w.set q0 (a, .inl (aC j, n, .inr (.inr (.inr (.inr (va_up f i.toNatClampNeg (some b))))))) = w')
    (k : Ew aC d M (pc + 1) L st w' rn rk post) : Ew aC d M pc L (rA b :: vI i :: rA a :: st) w rn rk post := by
  intro D p l e R s m args below meth c A Q C H locs ls cells slots h1 h2 hP hD hS hl
  subst hw
  exact va_astq C.1 C.2.1 C.2.2.2.2.2.1.1 hP hD hS q0 j qk ci he (hj aC) hv hc hin hd (fun H1 locs1 hP1 hD1 hS1 => k.at C h1 h2 hP1 hD1 hS1 hl)
/-- what the tables have of a constructor -/
def MGi (M : MD) (n : Nat) : Prop := MG M n ∧ M.2.2.2 = none ∧ M.1.name = "<init>" ∧ Cond.instanceMethod M.1 ∈ lw_gd
abbrev rmk (n rn rk : Nat) : Room := { frames := n, cells := rn, slots := rk, locals := 64 * n }
def PcW (D : va_G) (aC : Nat → ClassId) (as : List AV) (w : va_W) (sz : Nat) : Array Value → State → Prop :=
  va_Pc (as.map (cv ad0)) (fun U => U.heap.size = sz ∧ va_P D cls w U.heap ∧ Sd D aC U ∧ va_D (fun _ => True) w)
def Qw (D : va_G) (post : va_W → Prop) (A : Nat → Prop) : Array Value → State → Outcome → State → Prop := fun _ st oc t =>
  (∃ w' : va_W, oc = .returned none ∧ post w' ∧ va_P D cls w' t.heap ∧ va_D A w') ∧ va_F A st t
theorem Sd.moved {D : va_G} {aC : Nat → ClassId} {u U : State} (hW : u.WarmedH U.vm) (h : Sd D aC u) : Sd D aC U :=
  ⟨va_K.moved hW.alike h.1, fun w hw => by
    obtain ⟨z1, z2, z3, z4, rfl⟩ := nestI_all w hw
    exact va_Nw.warmM hW (h.2.1 _ hw), va_AO.moved hW.alike h.2.2.1, va_AO.moved hW.alike h.2.2.2⟩
set_option maxHeartbeats 1000000 in
theorem met_of_ew {n dd : Nat} {as : List AV} {p0 : va_W → Prop} (hM : MGi M n) (hn : (entL as).length ≤ M.2.2.1) (h : Ew aC dd M 0 (entP M.2.2.1 as) [] w rn rk (fun pc _ w' => decode M.2.1 pc = .ok (.return_, 1) ∧ p0 w')) (l : Launch) (D : va_G) (sz : Nat) :
    Met l M.1 (wsM M) (rmk dd rn rk) (PcW D aC as w sz) (Qw D p0 (va_A w sz)) rn rk (va_A w sz) := by
  refine Met.ofW (cc := M.2.1) (maxL := M.2.2.1) (ret := M.2.2.2) hM.1.2.2.1 rfl ?_
  intro p e s m args below meth c s₁ B hml hv
  obtain ⟨rfl, hsz, hP, hK, hD0⟩ := hv
  have hx := B.exec
  have hb := B.bytes
  have hr := B.returns
  have hts := atoms_spec (ws := wsM M) B.pre
  have hown : s.vm.findClass M.1.cls = some m.cls := findClass_of_methodNamed B.named
  have hlocks := B.notSynchronized
  have hin : meth.name = M.1.name := (name_of_methodNamed B.named B.method).1
  subst hsz
  have hD := hD0.self (sz := s.heap.size)
  rw [lg_entry_eq]
  refine h.at (A := va_A w s.heap.size) (D := D) ⟨hx, hb, hml, hown, fun w hw => hts w (List.mem_cons_of_mem _ hw), hK, ⟨Nat.le_refl _, Nat.le_refl _⟩, fun q hq => Or.inr hq, fun hi => hin.trans hi, ?_⟩ (by show 0 + rn ≤ rn; omega) (by show 0 + rk ≤ rk; omega) hP hD va_S.rf (Lc.entry ad0 as hn)
  intro w' L' H locs ls pc cells slots hp hl' hP' hD' hS' hc hs
  obtain ⟨hdg, hp⟩ := hp
  refine W.widen (k := rn) (n := rk) hc hs ?_
  rw [hM.2.1] at hr
  exact W.vret hx hb hr (fun t ht _ => ⟨⟨w', rfl, hp, by rw [ht]; exact hP', hD'⟩, hS'.F ht⟩) hS'.2.2 hdg
theorem vw_call {p : Program} {l : Launch} {e : Env} {R : Room} {s : State} {m : MethodId} {args : Array Value} {below : List Frame} {meth : Method} {c : Code} {H : Heap} {locs : List Loc} {cells slots mc ms : Nat} {Q : State → Prop} {ls : Array Slot} {rest st0 : List Value} {a : Array Value} {A0 A1 : Nat → Prop} {H0 : Heap} {free : Addr → Prop} {D : va_G} {p0 : va_W → Prop}
    (hr : va_Run p l e R s m args below meth c H locs cells slots mc ms (F0 m pc ls st0) rest (Qw D p0 A1 a) free) (hS : va_S A0 H0 H locs) (hA : ∀ q, q < H.size → A1 q → A0 q) (hf : ∀ q, free q → A0 q)
    (kk : ∀ (w' : va_W) (H1 : Heap) (locs1 : List Loc), p0 w' → va_P D cls w' H1 → va_D A1 w' → H.size ≤ H1.size → (∀ q : Nat, q < H.size → ¬ A1 q → H1[q]? = H[q]?) → va_S A0 H0 H1 locs1 → W p l e R s m args below meth c H1 locs1 (cells + mc) (slots + ms) Q (F0 m (pc + 3) ls rest)) : W p l e R s m args below meth c H locs cells slots Q (F0 m pc ls st0) := by
  intro T hT X
  obtain ⟨v, st₀, t, T', L, h0, X', hL, e1, e2, ⟨⟨w', hv, hp, hP, hD⟩, hz, hk⟩, st⟩ := hr T hT X
  cases hv
  rw [h0] at hz hk
  obtain ⟨t2, a1, b1⟩ := kk w' T'.heap (locs ++ L) hp (by rw [e1]; exact hP) hD (by rw [e1]; exact hz) (fun q h1 h2 => by rw [e1]; exact hk q h1 h2)
    ⟨Nat.le_trans hS.1 (by rw [e1]; exact hz), fun q h1 h2 => by rw [e1, hk q (Nat.lt_of_lt_of_le h1 hS.1) (fun z => h2 (hA q (Nat.lt_of_lt_of_le h1 hS.1) z))]; exact hS.2.1 q h1 h2, fun q hq => by
      rcases List.mem_append.mp hq with h | h
      · exact hS.2.2 q h
      · exact hf _ (hL q h)⟩ T' rfl X'
  exact ⟨t2, st t2 a1, b1⟩
/-- the last cell cut out, the rest beside what came back -/
theorem last_join {A0 : Nat → Prop} {D : va_G} {w1 : va_W} {z : Nat × va_E} {H H1 : Heap} (hP : va_P D cls (w1 ++ [z]) H) (hD : va_D A0 (w1 ++ [z])) (hk : ∀ q : Nat, q < H.size → ¬ va_A [z] H.size q → H1[q]? = H[q]?) (hF : ∀ q, va_A [z] H.size q → A0 q) {w2 : va_W} (hP1 : va_P D cls w2 H1) (hD1 : va_D (va_A [z] H.size) w2) : va_P D cls (w1 ++ w2) H1 ∧ va_D A0 (w1 ++ w2) := by
  refine va_join hP hD (wc := [z]) (wr := w1) [w1.length] (List.range w1.length) ?_ ?_ ?_ ?_ hk hF hP1 hD1
  · simp
  · apply List.ext_getElem?
    intro j
    rw [List.getElem?_map, List.getElem?_map]
    by_cases hj : j < w1.length
    · rw [List.getElem?_range hj]
      show some ((w1 ++ [z])[j]?) = _
      rw [List.getElem?_append_left hj, List.getElem?_eq_getElem hj]
      rfl
    · rw [List.getElem?_eq_none (by simpa using hj), List.getElem?_eq_none (by omega)]
      rfl
  · have key : ∀ l : List Nat, l.Nodup → va_nd l = true := by
      intro l
      induction l with
      | nil => intro _; rfl
      | cons a l ih =>
        intro h
        obtain ⟨h1, h2⟩ := List.nodup_cons.mp h
        simp only [va_nd, Bool.and_eq_true, decide_eq_true_eq]
        exact ⟨h1, ih h2⟩
    exact key _ List.nodup_range
  · intro i hi hc
    rw [List.mem_range] at hi
    rw [List.mem_singleton] at hc
    omega
set_option maxHeartbeats 1000000 in
theorem ew_call {idx n dd rn' rk' b : Nat} {as : List AV} {z : va_E} {w1 : va_W} {p0 : va_W → Prop} {host : String} (g : MGi M' n) (hlk : Cond.methodLink M.1.cls idx M'.1 ∈ lw_gd ∨ Cond.methodLinkNest M.1.cls idx M'.1 host ∈ nestI) (hd : decode M.2.1 pc = .ok (.invokespecial idx, 3)) (hst : stk = as.reverse ++ rA b :: st) (hn : as.length = n) (hr : cats st ≤ 8) (hL : entP M'.2.2.1 (rA b :: as) = L0) (hl0 : (entL (rA b :: as)).length ≤ M'.2.2.1) (hdd : dd ≤ d) (hw : w = w1 ++ [(b, z)])
    (h : Ew aC dd M' 0 L0 [] [(b, z)] rn' rk' (fun pc _ w' => decode M'.2.1 pc = .ok (.return_, 1) ∧ p0 w'))
    (k : ∀ w2 : va_W, p0 w2 → Ew aC (d + 1) M (pc + 3) L st (w1 ++ w2) rn rk post) : Ew aC (d + 1) M pc L stk w (rn + rn') (rk + rk') post := by
  intro D p l e R s m args below meth c A Q C H locs ls cells slots h1 h2 hP hD hS hl
  subst hL
  subst hst
  subst hw
  obtain ⟨f1, f2⟩ := C.2.2.2.2.2.2.1
  obtain ⟨gM, gr, gi, gin⟩ := g
  have hts := C.2.2.2.2.1
  have hmet := met_of_ew ⟨gM, gr, gi, gin⟩ hl0 h l D H.size
  have hin1 : (w1 ++ [(b, z)])[w1.length]? = some (b, z) := by simp
  have hPc : va_P D cls [(b, z)] H := hP.sub [w1.length] (by simp)
  have hDc : va_D A [(b, z)] := hD.sub [w1.length] rfl (by simp)
  have hF : ∀ q, va_A [(b, z)] H.size q → A q := va_free hD hS C.2.2.2.2.2.2.2.1 [w1.length] (by simp)
  have hrl := gM.2.2.2.2
  have hroom : 8 + (M'.2.2.1 + 11) + 64 * dd ≤ R.locals := by omega
  have hpre : PreS s H (PcW D aC (rA b :: as) [(b, z)] H.size) (.ref b :: as.map (cv ad0)) := ⟨fun a U g mk q => by
      obtain ⟨q0, q1, qP, qK, qD⟩ := q
      exact ⟨q0, q1, qP, ⟨va_K.moved (u := U) (U := U.calling g mk a) (Vm.Alike.refl U.vm) qK.1, fun w hw => by
        obtain ⟨z1, z2, z3, z4, rfl⟩ := nestI_all w hw
        exact va_Nw.same (u := U) rfl rfl (qK.2.1 _ hw), va_AO.moved (u := U) (U := U.calling g mk a) (Vm.Alike.refl U.vm) qK.2.2.1, va_AO.moved (u := U) (U := U.calling g mk a) (Vm.Alike.refl U.vm) qK.2.2.2⟩, qD⟩,
    fun U hU hW => ⟨rfl, by rw [hU], by rw [hU]; exact hPc, Sd.moved hW C.2.2.2.2.2.1, hDc.weaken (fun _ _ _ _ => trivial)⟩⟩
  have hstk : ((as.reverse ++ rA b :: st).map (cv ad0)) = (as.map (cv ad0)).reverse ++ .ref b :: st.map (cv ad0) := by
    rw [List.map_append, List.map_cons, List.map_reverse]
    rfl
  have hrun : va_Run p l e R s m args below meth c H locs cells slots rn' rk' (F0 m pc ls ((as.reverse ++ rA b :: st).map (cv ad0))) (st.map (cv ad0)) (Qw D p0 (va_A [(b, z)] H.size) (Value.ref b :: as.map (cv ad0)).toArray) (va_A [(b, z)] H.size) := by
    have gr' : wsM M' = Cond.code M'.1 M'.2.1 M'.2.2.1 none :: lw_gd := by
      show Cond.code M'.1 M'.2.1 M'.2.2.1 M'.2.2.2 :: lw_gd = _
      rw [gr]
    rcases hlk with hlk | hlk
    · exact va_runI (bytes := M'.2.1) (maxL := M'.2.2.1) (n := n) (nL := M.2.2.1) (Ts := lw_gd) (own := M.1.cls) ⟨C.1, C.2.1, C.2.2.1, C.2.2.2.1, hts⟩ hmet (cwI n hts (good_M gM) gr' rfl rfl (hts _ gM.2.1) (hts _ hlk) (hts _ gin) gi gM.2.2.2.1 ⟨by show dd + 1 ≤ _; omega, hroom⟩) hpre rfl (by rw [List.length_map]; exact hn) hl.1 hstk (lv_room (by rw [cats_eq]; exact hr)) hd ⟨by omega, by omega⟩
    · exact va_runIN (bytes := M'.2.1) (maxL := M'.2.2.1) (n := n) (nL := M.2.2.1) (Ts := lw_gd) (own := M.1.cls) ⟨C.1, C.2.1, C.2.2.1, C.2.2.2.1, hts⟩ hmet ⟨va_cnB n hts (good_M gM) gr' rfl rfl (C.2.2.2.2.2.1.2.1 _ hlk) (hts _ gM.2.1) gM.2.2.2.1 ⟨by show dd + 1 ≤ _; omega, hroom⟩, gi, hts _ gin⟩ hpre rfl (by rw [List.length_map]; exact hn) hl.1 hstk (lv_room (by rw [cats_eq]; exact hr)) hd ⟨by omega, by omega⟩
  refine vw_call hrun hS (fun q _ h => hF q h) hF (fun w2 H1 locs1 hp hP1 hD1 hz hk1 hS1 => ?_)
  obtain ⟨hP2, hD2⟩ := last_join hP hD hk1 hF hP1 hD1
  exact (k w2 hp).at C (by omega) (by omega) hP2 hD2 hS1 hl
end EW
