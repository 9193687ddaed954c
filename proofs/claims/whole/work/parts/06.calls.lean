-- a method's contract out of Ev of its body; the rules of the calls
abbrev rmd (n : Nat) : Room := { frames := n, cells := 0, slots := 0, locals := 64 * n }
abbrev wsM (M : MD) : List Cond := Cond.code M.1 M.2.1 M.2.2.1 M.2.2.2 :: lw_gd
def PcM (D : va_G) (ad : AD) (aC : Nat → ClassId) (as : List AV) (σ : ST) (sz : Nat) : Array Value → State → Prop :=
  va_Pc (as.map (cv ad)) (fun U => U.heap.size = sz ∧ va_P D cls (wld ad aC σ) U.heap ∧ va_K D cls (tys aC) U ∧ va_D (fun _ => True) (wld ad aC σ) ∧ ∀ w ∈ nests, va_Nw w U)
def Qg (D : va_G) (ad : AD) (aC : Nat → ClassId) (post : Option AV → ST → Prop) (A : Nat → Prop) : Array Value → State → Outcome → State → Prop := fun _ st oc t =>
  (∃ (r : Option AV) (σ' : ST), oc = .returned (r.map (cv ad)) ∧ post r σ' ∧ va_P D cls (wld ad aC σ') t.heap ∧ va_D A (wld ad aC σ')) ∧ va_F A st t
/-- what the tables have of a method -/
def MG (M : MD) (n : Nat) : Prop := Cond.code M.1 M.2.1 M.2.2.1 M.2.2.2 ∈ lw_gd ∧ Cond.initialized M.1.cls ∈ lw_gd ∧ plainName M.1.cls = true ∧ (M.1.cls ≠ "java/lang/invoke/MethodHandle" ∧ M.1.cls ≠ "java/lang/invoke/VarHandle" ∧ (parseMethodDescriptor M.1.desc).map (fun d => d.parameters.length) = some n) ∧ M.2.2.1 ≤ 40
def MGv (M : MD) (n : Nat) : Prop := MG M n ∧ Cond.instanceMethod M.1 ∈ lw_gd ∧ Cond.selects M.1.cls M.1 M.1 ∈ lw_gd
def MGs (M : MD) (n : Nat) : Prop := MG M n ∧ Cond.static M.1 ∈ lw_gd
theorem nests_all : ∀ w ∈ nests, ∃ a i x h, w = Cond.methodLinkNest a i x h := by
  intro w hw
  simp only [nests, List.mem_cons, List.not_mem_nil, or_false] at hw
  rcases hw with rfl | rfl | rfl | rfl | rfl <;> exact ⟨_, _, _, _, rfl⟩
set_option maxHeartbeats 1000000 in
theorem met_of_ev {M : MD} {n dd : Nat} {as : List AV} {σ : ST} {post : Option AV → ST → Prop} (hM : MG M n) (hn : (entL as).length ≤ M.2.2.1) (h : Ev none dd M 0 (entP M.2.2.1 as) [] σ post) (l : Launch) (D : va_G) (ad : AD) (aC : Nat → ClassId) (sz : Nat) :
    Met l M.1 (wsM M) (rmd dd) (PcM D ad aC as σ sz) (Qg D ad aC post (va_A (wld ad aC σ) sz)) 0 0 (va_A (wld ad aC σ) sz) := by
  refine Met.ofW (cc := M.2.1) (maxL := M.2.2.1) (ret := M.2.2.2) hM.2.2.1 rfl ?_
  intro p e s m args below meth c s₁ B hml hv
  obtain ⟨rfl, hsz, hP, hK, hD0, hN⟩ := hv
  have hx := B.exec
  have hb := B.bytes
  have hr := B.returns
  have hts := atoms_spec (ws := wsM M) B.pre
  have hown : s.vm.findClass M.1.cls = some m.cls := findClass_of_methodNamed B.named
  have hlocks := B.notSynchronized
  subst hsz
  have hD := hD0.self (sz := s.heap.size)
  rw [lg_entry_eq]
  refine h.at (A := va_A (wld ad aC σ) s.heap.size) (aC := aC) (D := D) ⟨hx, hb, hml, hown, fun w hw => hts w (List.mem_cons_of_mem _ hw), hN, hK, ⟨Nat.le_refl _, Nat.le_refl _, Nat.le_refl _, Nat.le_refl _⟩, fun q hq => Or.inr hq, trivial, ?_⟩ ⟨hP, hD, va_S.rf⟩ (Lc.entry ad as hn)
  intro r σ' H locs ls pc op hp hok hw hdg
  have key : ∀ t : State, t.heap = H → Qg D ad aC post (va_A (wld ad aC σ) s.heap.size) ((as.map (cv ad)).toArray) s (.returned (r.map (cv ad))) t := fun t ht =>
    ⟨⟨r, σ', rfl, hp, by rw [ht]; exact hw.1, hw.2.1⟩, hw.2.2.F ht⟩
  obtain ⟨y, bytes, maxL, ret⟩ := M
  dsimp only at *
  unfold rok at hok
  split at hok
  · subst hok
    exact W.vret hx hb hr (fun t ht _ => key t ht) hw.2.2.2.2 hdg
  · subst hok
    exact W.iret hx hb hr (fun t ht _ => key t ht) hw.2.2.2.2 hdg
  · obtain ⟨rfl, hz⟩ := hok
    exact W.zret hx hb hr (nar_fz hz).1 (fun t ht _ => key t ht) hw.2.2.2.2 hdg
  · subst hok
    exact W.lret hx hb hr (fun t ht _ => key t ht) hw.2.2.2.2 hdg
  · subst hok
    exact W.aret hx hb hr (Or.inl ⟨_, rfl⟩) (Or.inr ⟨_, rfl⟩) (fun t ht _ => key t ht) hw.2.2.2.2 hdg
  · exact hok.elim
section VG
variable {p : Program} {l : Launch} {e : Env} {R : Room} {s : State} {m : MethodId} {args : Array Value} {below : List Frame} {meth : Method} {c : Code} {H : Heap} {locs : List Loc} {cells slots : Nat} {Q : State → Prop}
variable {pc : Nat} {ls : Array Slot} {rest st0 : List Value} {a : Array Value} {A0 A1 : Nat → Prop} {H0 : Heap} {free : Addr → Prop}
theorem vg_call {D : va_G} {ad : AD} {aC : Nat → ClassId} {post : Option AV → ST → Prop} (hr : va_Run p l e R s m args below meth c H locs cells slots 0 0 (F0 m pc ls st0) rest (Qg D ad aC post A1 a) free) (hS : va_S A0 H0 H locs) (hA : ∀ q, A1 q → A0 q) (hf : ∀ q, free q → A0 q)
    (kk : ∀ (r : Option AV) (σ' : ST) (H1 : Heap) (locs1 : List Loc), post r σ' → Wo D ad aC σ' A0 H0 H1 locs1 → W p l e R s m args below meth c H1 locs1 cells slots Q (F0 m (pc + 3) ls ((r.map (cv ad)).toList ++ rest))) : W p l e R s m args below meth c H locs cells slots Q (F0 m pc ls st0) := by
  intro T hT X
  obtain ⟨v, st₀, t, T', L, h0, X', hL, e1, e2, ⟨⟨r, σ', hv, hp, hP, hD⟩, hz, hk⟩, st⟩ := hr T hT X
  cases hv
  rw [h0] at hz hk
  obtain ⟨t2, a1, b1⟩ := kk r σ' T'.heap (locs ++ L) hp ⟨by rw [e1]; exact hP, hD.weaken (fun _ _ _ q => hA _ q), 
    ⟨Nat.le_trans hS.1 (by rw [e1]; exact hz), fun q h1 h2 => by rw [e1, hk q (Nat.lt_of_lt_of_le h1 hS.1) (fun z => h2 (hA q z))]; exact hS.2.1 q h1 h2, fun q hq => by
      rcases List.mem_append.mp hq with h | h
      · exact hS.2.2 q h
      · exact hf _ (hL q h)⟩⟩ T' rfl X'
  exact ⟨t2, st t2 a1, b1⟩
end VG
theorem wld_free {ad : AD} {aC : Nat → ClassId} {σ : ST} {A : Nat → Prop} {H0 H : Heap} {locs : List Loc} (hD : va_D A (wld ad aC σ)) (hS : va_S A H0 H locs) (hA : ∀ q, H0.size ≤ q → A q) : ∀ q, va_A (wld ad aC σ) H.size q → A q := by
  intro q h
  rcases h with ⟨k, e, h⟩ | h
  · exact hD.2 k (q, e) h
  · exact hA q (Nat.le_trans hS.1 h)
theorem pcm_blind {D : va_G} {ad : AD} {aC : Nat → ClassId} {as : List AV} {σ : ST} {sz : Nat} : FrameBlind (PcM D ad aC as σ sz) := by
  intro a U g mk q
  obtain ⟨q0, q1, qP, qK, qD, qN⟩ := q
  exact ⟨q0, q1, qP, va_K.moved (u := U) (U := U.calling g mk a) (Vm.Alike.refl U.vm) qK, qD, fun w hw => by
    obtain ⟨z1, z2, z3, z4, rfl⟩ := nests_all w hw
    exact va_Nw.same (u := U) rfl rfl (qN _ hw)⟩
theorem pcm_at {D : va_G} {ad : AD} {aC : Nat → ClassId} {as : List AV} {σ : ST} {s : State} {H : Heap} {A : Nat → Prop} (hP : va_P D cls (wld ad aC σ) H) (hK : va_K D cls (tys aC) s) (hD : va_D A (wld ad aC σ)) (hN : ∀ w ∈ nests, va_Nw w s) (U : State) (hU : U.heap = H) (hW : s.WarmedH U.vm) : PcM D ad aC as σ H.size ((as.map (cv ad)).toArray) U :=
  ⟨rfl, by rw [hU], by rw [hU]; exact hP, va_K.moved hW.alike hK, hD.weaken (fun _ _ _ _ => trivial), fun w hw => by
    obtain ⟨z1, z2, z3, z4, rfl⟩ := nests_all w hw
    exact va_Nw.warmM hW (hN _ hw)⟩
theorem good_M {M : MD} {n : Nat} (hM : MG M n) : GoodIn lw_gd (wsM M) := by
  intro w hw
  rcases List.mem_cons.mp hw with rfl | h
  · exact good_gd _ hM.1
  · exact good_gd _ h
section EVC
variable {X : SX} {d : Nat} {M M' : MD} {pc : Nat} {L L0 : List (Option AV)} {st stk : List AV} {σ : ST} {post : Option AV → ST → Prop}
set_option maxHeartbeats 1000000 in
theorem ev_callV {idx k i n : Nat} {as : List AV} {q : vw_C} (g : MGv M' n) (hlk : Cond.methodLink M.1.cls idx M'.1 ∈ lw_gd) (hq : cls[k]? = some q) (hqc : q.1 = M'.1.cls) (hk : k < 12) (hi : i < cnt k) (hd : decode M.2.1 pc = .ok (.invokevirtual idx, 3)) (hst : stk = as.reverse ++ vR k i :: st) (hn : as.length = n) (hr : cats st ≤ 8) (hL : entP M'.2.2.1 (vR k i :: as) = L0) (hl0 : (entL (vR k i :: as)).length ≤ M'.2.2.1)
    (h : Ev none d M' 0 L0 [] σ (fun r σ' => Ev X (d + 1) M (pc + 3) L (r.toList ++ st) σ' post)) : Ev X (d + 1) M pc L stk σ post := by
  intro D ad aC p l e R s m args below meth c cells slots A Q C H locs ls w hl
  subst hL
  subst hst
  obtain ⟨f1, f2, f3, f4⟩ := C.2.2.2.2.2.2.2.1
  obtain ⟨gM, gi, gs⟩ := g
  have hmet := met_of_ev gM hl0 h l D ad aC H.size
  have hF := wld_free w.2.1 w.2.2 C.2.2.2.2.2.2.2.2.1
  have hkd : ∃ fs, kd k = .inl (k, fs) := by
    match k, hk with
    | 0, _ => exact ⟨_, rfl⟩
    | 1, _ => exact ⟨_, rfl⟩
    | 2, _ => exact ⟨_, rfl⟩
    | 3, _ => exact ⟨_, rfl⟩
    | 4, _ => exact ⟨_, rfl⟩
    | 5, _ => exact ⟨_, rfl⟩
    | 6, _ => exact ⟨_, rfl⟩
    | 7, _ => exact ⟨_, rfl⟩
    | 8, _ => exact ⟨_, rfl⟩
    | 9, _ => exact ⟨_, rfl⟩
    | 10, _ => exact ⟨_, rfl⟩
    | 11, _ => exact ⟨_, rfl⟩
    | k + 12, h => omega
  obtain ⟨fs, hkd⟩ := hkd
  obtain ⟨q0, hq0⟩ := wld_pos (show k < 63 by omega) hi
  have he := wld_get (ad := ad) (aC := aC) (σ := σ) hq0
  rw [cel_obj hkd] at he
  have hrecv := va_recv C.2.2.2.2.2.2.1 w.1 hq he
  rw [hqc] at hrecv
  have hT : GoodIn lw_gd (wsV M.1.cls idx M'.1.cls M'.1 (wsM M')) := by
    intro z hz
    unfold wsV at hz
    rcases List.mem_append.mp hz with hz | hz
    · simp only [List.mem_cons, List.not_mem_nil, or_false] at hz
      rcases hz with rfl | rfl | rfl | rfl
      · exact good_gd _ hlk
      · exact good_gd _ gi
      · exact good_gd _ gs
      · exact good_gd _ gM.2.1
    · exact good_M gM z hz
  have hrl := gM.2.2.2.2
  refine vg_call (va_runV (As := as.map (cv ad)) (rest := st.map (cv ad)) (nL := M.2.2.1) (Ts := lw_gd) (own := M.1.cls) ⟨C.1, C.2.1, C.2.2.1, C.2.2.2.1, C.2.2.2.2.1⟩ hmet (cwV (C := M'.1.cls) n C.2.2.2.2.1 hT rfl rfl rfl ⟨rfl, gM.2.2.2.1⟩ ⟨f1, ?_⟩) ⟨pcm_blind, hrecv, fun U hU hW => ?_⟩ rfl (by rw [List.length_map]; exact hn) hl.1 ?_ (lv_room (by rw [cats_eq]; exact hr)) hd ⟨f3, f4⟩) w.2.2 hF hF (fun r σ' H1 locs1 hp hw => ?_)
  · show 8 + (M'.2.2.1 + 11) + 64 * d ≤ R.locals
    omega
  · exact pcm_at (as := vR k i :: as) w.1 C.2.2.2.2.2.2.1 w.2.1 C.2.2.2.2.2.1 U hU hW
  · show ((as.reverse ++ vR k i :: st).map (cv ad)) = _
    rw [List.map_append, List.map_cons, List.map_reverse]
    rfl
  · have := hp.at C hw hl
    rw [List.map_append] at this
    cases r <;> exact this
set_option maxHeartbeats 1000000 in
theorem ev_callS {idx n : Nat} {as : List AV} (g : MGs M' n) (hlk : Cond.methodLink M.1.cls idx M'.1 ∈ lw_gd) (hd : decode M.2.1 pc = .ok (.invokestatic idx, 3)) (hst : stk = as.reverse ++ st) (hn : as.length = n) (hr : cats st ≤ 8) (hL : entP M'.2.2.1 as = L0) (hl0 : (entL as).length ≤ M'.2.2.1)
    (h : Ev none d M' 0 L0 [] σ (fun r σ' => Ev X (d + 1) M (pc + 3) L (r.toList ++ st) σ' post)) : Ev X (d + 1) M pc L stk σ post := by
  intro D ad aC p l e R s m args below meth c cells slots A Q C H locs ls w hl
  subst hL
  subst hst
  obtain ⟨f1, f2, f3, f4⟩ := C.2.2.2.2.2.2.2.1
  obtain ⟨gM, gi⟩ := g
  have hmet := met_of_ev gM hl0 h l D ad aC H.size
  have hF := wld_free w.2.1 w.2.2 C.2.2.2.2.2.2.2.2.1
  have hT : GoodIn lw_gd (va_wsS M.1.cls idx M'.1 (wsM M')) := by
    intro z hz
    unfold va_wsS at hz
    rcases List.mem_append.mp hz with hz | hz
    · simp only [List.mem_cons, List.not_mem_nil, or_false] at hz
      rcases hz with rfl | rfl | rfl
      · exact good_gd _ hlk
      · exact good_gd _ gi
      · exact good_gd _ gM.2.1
    · exact good_M gM z hz
  have hrl := gM.2.2.2.2
  refine vg_call (va_runS (As := as.map (cv ad)) (rest := st.map (cv ad)) (nL := M.2.2.1) (Ts := lw_gd) (own := M.1.cls) ⟨C.1, C.2.1, C.2.2.1, C.2.2.2.1, C.2.2.2.2.1⟩ hmet (va_cwS n C.2.2.2.2.1 hT rfl rfl rfl gM.2.2.2.1 ⟨f1, ?_⟩) ⟨pcm_blind, fun U hU hW => ?_⟩ rfl (by rw [List.length_map]; exact hn) hl.1 ?_ (lv_room (by rw [cats_eq]; exact hr)) hd ⟨f3, f4⟩) w.2.2 hF hF (fun r σ' H1 locs1 hp hw => ?_)
  · show 8 + (M'.2.2.1 + 11) + 64 * d ≤ R.locals
    omega
  · exact pcm_at (as := as) w.1 C.2.2.2.2.2.2.1 w.2.1 C.2.2.2.2.2.1 U hU hW
  · show ((as.reverse ++ st).map (cv ad)) = _
    rw [List.map_append, List.map_reverse]
  · have := hp.at C hw hl
    rw [List.map_append] at this
    cases r <;> exact this
set_option maxHeartbeats 1000000 in
theorem ev_callN {idx n : Nat} {as : List AV} {host : String} (g : MGs M' n) (hlk : Cond.methodLinkNest M.1.cls idx M'.1 host ∈ nests) (hd : decode M.2.1 pc = .ok (.invokestatic idx, 3)) (hst : stk = as.reverse ++ st) (hn : as.length = n) (hr : cats st ≤ 8) (hL : entP M'.2.2.1 as = L0) (hl0 : (entL as).length ≤ M'.2.2.1)
    (h : Ev none d M' 0 L0 [] σ (fun r σ' => Ev X (d + 1) M (pc + 3) L (r.toList ++ st) σ' post)) : Ev X (d + 1) M pc L stk σ post := by
  intro D ad aC p l e R s m args below meth c cells slots A Q C H locs ls w hl
  subst hL
  subst hst
  obtain ⟨f1, f2, f3, f4⟩ := C.2.2.2.2.2.2.2.1
  obtain ⟨gM, gi⟩ := g
  have hmet := met_of_ev gM hl0 h l D ad aC H.size
  have hF := wld_free w.2.1 w.2.2 C.2.2.2.2.2.2.2.2.1
  have hrl := gM.2.2.2.2
  refine vg_call (va_runSN (As := as.map (cv ad)) (rest := st.map (cv ad)) (nL := M.2.2.1) (Ts := lw_gd) (own := M.1.cls) ⟨C.1, C.2.1, C.2.2.1, C.2.2.2.1, C.2.2.2.2.1⟩ hmet ⟨va_cnB n C.2.2.2.2.1 (good_M gM) rfl rfl rfl (C.2.2.2.2.2.1 _ hlk) (C.2.2.2.2.1 _ gM.2.1) gM.2.2.2.1 ⟨f1, ?_⟩, C.2.2.2.2.1 _ gi, trivial⟩ ⟨pcm_blind, fun U hU hW => ?_⟩ rfl (by rw [List.length_map]; exact hn) hl.1 ?_ (lv_room (by rw [cats_eq]; exact hr)) hd ⟨f3, f4⟩) w.2.2 hF hF (fun r σ' H1 locs1 hp hw => ?_)
  · show 8 + (M'.2.2.1 + 11) + 64 * d ≤ R.locals
    omega
  · exact pcm_at (as := as) w.1 C.2.2.2.2.2.2.1 w.2.1 C.2.2.2.2.2.1 U hU hW
  · show ((as.reverse ++ st).map (cv ad)) = _
    rw [List.map_append, List.map_reverse]
  · have := hp.at C hw hl
    rw [List.map_append] at this
    cases r <;> exact this
end EVC
