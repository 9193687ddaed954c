-- the rules of Ev over the cells
theorem gd_self {w : Cond} (h : w ∈ lw_gd) : w ∈ lw_tbl ∧ goodWord w = true := List.mem_filter.mp h
theorem gd_of {w : Cond} (h : w ∈ lw_tbl) (hg : goodWord w = true) : w ∈ lw_gd := List.mem_filter.mpr ⟨h, hg⟩
theorem gd_t {w : Cond} (h : w ∈ tables_1) (hg : goodWord w = true) : w ∈ lw_gd := gd_of (List.mem_append_right _ h) hg
theorem good_gd : GoodIn lw_gd lw_gd := fun _ h => ⟨h, good_of_word (gd_self h).2⟩
def clsP (q : vw_C) (ty : Nat → FieldType) : Prop := (∀ w ∈ u_ws q.1 q.2.1 q.2.2, w ∈ tables_1) ∧ (∀ f, f < q.2.2 → parseFieldDescriptor (q.2.1 f).2.2.1 = some (ty f)) ∧ (∀ a, a < q.2.2 → ∀ b, b < q.2.2 → a ≠ b → (q.2.1 a).2.1 ≠ (q.2.1 b).2.1) ∧ (∀ f, f < q.2.2 → (q.2.1 f).1 = q.1)
theorem clsP_0 : clsP ("OneBook", kT0, 12) ky0 := ⟨by decide +kernel, by decide +kernel, by decide +kernel, by decide +kernel⟩
theorem clsP_1 : clsP ("OneBook$Book", kT1, 6) ky1 := ⟨by decide +kernel, by decide +kernel, by decide +kernel, by decide +kernel⟩
theorem clsP_2 : clsP ("OneBook$Company", kT2, 3) ky2 := ⟨by decide +kernel, by decide +kernel, by decide +kernel, by decide +kernel⟩
theorem clsP_3 : clsP ("OneBook$Reader", kT3, 3) ky3 := ⟨by decide +kernel, by decide +kernel, by decide +kernel, by decide +kernel⟩
theorem clsP_4 : clsP ("OneBook$Evening", kT4, 5) ky4 := ⟨by decide +kernel, by decide +kernel, by decide +kernel, by decide +kernel⟩
theorem clsP_5 : clsP ("OneBook$Plan", kT5, 11) ky5 := ⟨by decide +kernel, by decide +kernel, by decide +kernel, by decide +kernel⟩
theorem clsP_6 : clsP ("OneBook$Seeming", kT6, 5) ky6 := ⟨by decide +kernel, by decide +kernel, by decide +kernel, by decide +kernel⟩
theorem clsP_7 : clsP ("OneBook$Seating", kT7, 5) ky7 := ⟨by decide +kernel, by decide +kernel, by decide +kernel, by decide +kernel⟩
theorem clsP_8 : clsP ("OneBook$Turns", kT8, 5) ky8 := ⟨by decide +kernel, by decide +kernel, by decide +kernel, by decide +kernel⟩
theorem clsP_9 : clsP ("OneBook$Moods", kT9, 9) ky9 := ⟨by decide +kernel, by decide +kernel, by decide +kernel, by decide +kernel⟩
theorem clsP_10 : clsP ("OneBook$Sheet", kT10, 4) ky10 := ⟨by decide +kernel, by decide +kernel, by decide +kernel, by decide +kernel⟩
theorem clsP_11 : clsP ("OneBookModel", kT11, 34) ky11 := ⟨by decide +kernel, by decide +kernel, by decide +kernel, by decide +kernel⟩
theorem cls_ok : ∀ (k : Nat) (q : vw_C), cls[k]? = some q → ∃ ty, clsP q ty
  | 0, _, h => by cases h; exact ⟨_, clsP_0⟩
  | 1, _, h => by cases h; exact ⟨_, clsP_1⟩
  | 2, _, h => by cases h; exact ⟨_, clsP_2⟩
  | 3, _, h => by cases h; exact ⟨_, clsP_3⟩
  | 4, _, h => by cases h; exact ⟨_, clsP_4⟩
  | 5, _, h => by cases h; exact ⟨_, clsP_5⟩
  | 6, _, h => by cases h; exact ⟨_, clsP_6⟩
  | 7, _, h => by cases h; exact ⟨_, clsP_7⟩
  | 8, _, h => by cases h; exact ⟨_, clsP_8⟩
  | 9, _, h => by cases h; exact ⟨_, clsP_9⟩
  | 10, _, h => by cases h; exact ⟨_, clsP_10⟩
  | 11, _, h => by cases h; exact ⟨_, clsP_11⟩
  | k + 12, _, h => by cases h
theorem u_good {C : String} {T : u_T} {N : Nat} {w : Cond} (h : w ∈ u_ws C T N) : goodWord w = true := by
  obtain ⟨k, -, rfl⟩ := List.mem_map.mp h
  unfold u_lay
  split <;> rfl
def fldT (k f : Nat) : Option FL := match kd k with
  | .inl q => q.2[f]?
  | .inr _ => none
def arT (k : Nat) : Option (Nat × Nat × Nat) := match kd k with
  | .inl _ => none
  | .inr q => some q
theorem kd_inl {k : Nat} {q : Nat × List FL} (h : kd k = .inl q) : q.1 = k ∧ k < 12 := by
  unfold kd at h
  split at h <;> first | (cases h; exact ⟨rfl, by decide⟩) | cases h
theorem fldT_kd {k f : Nat} {t : FL} (h : fldT k f = some t) : ∃ fs : List FL, kd k = .inl (k, fs) ∧ fs[f]? = some t ∧ k < 63 := by
  unfold fldT at h
  split at h
  next q hq =>
    obtain ⟨e1, e2⟩ := kd_inl hq
    exact ⟨q.2, by rw [hq, ← e1], h, by omega⟩
  next => cases h
theorem arT_kd {k t n k' : Nat} (h : arT k = some (t, n, k')) : kd k = .inr (t, n, k') := by
  unfold arT at h
  split at h
  next => cases h
  next q hq => cases h; exact hq
theorem cel_obj {ad : AD} {aC : Nat → ClassId} {σ : ST} {k i : Nat} {fs : List FL} (h : kd k = .inl (k, fs)) : cel ad aC σ k i = .inr (k, fs.mapIdx (fun f t => fv ad σ k i f t)) := by
  unfold cel
  rw [h]
theorem cel_arr {ad : AD} {aC : Nat → ClassId} {σ : ST} {k i t n k' : Nat} (h : kd k = .inr (t, n, k')) : cel ad aC σ k i = .inl (aC t, n, arc ad σ k i t k') := by
  unfold cel
  rw [h]
theorem cel_fld {ad : AD} {σ : ST} {k i f : Nat} {fs : List FL} {t : FL} (h : fs[f]? = some t) : (fs.mapIdx (fun f t => fv ad σ k i f t))[f]? = some (fv ad σ k i f t) := by
  rw [List.getElem?_mapIdx, h]
  rfl
theorem setI_at (σ : ST) (k i f : Nat) (v : Int32) : (setI σ k i f v).1 k i f = v := by simp [setI]
theorem setI_ne (σ : ST) (k i f : Nat) (v : Int32) {a b g : Nat} (h : ¬ (a = k ∧ b = i ∧ g = f)) : (setI σ k i f v).1 a b g = σ.1 a b g := by simp only [setI]; rw [if_neg h]
theorem setJ_at (σ : ST) (k i f : Nat) (v : Int64) : (setJ σ k i f v).2 k i f = v := by simp [setJ]
theorem setJ_ne (σ : ST) (k i f : Nat) (v : Int64) {a b g : Nat} (h : ¬ (a = k ∧ b = i ∧ g = f)) : (setJ σ k i f v).2 a b g = σ.2 a b g := by simp only [setJ]; rw [if_neg h]
theorem setI_off (σ : ST) (k i f : Nat) (v : Int32) (a b : Nat) (h : ¬ (a = k ∧ b = i)) : (setI σ k i f v).1 a b = σ.1 a b ∧ (setI σ k i f v).2 a b = σ.2 a b :=
  ⟨funext fun g => setI_ne σ k i f v (fun q => h ⟨q.1, q.2.1⟩), rfl⟩
theorem setJ_off (σ : ST) (k i f : Nat) (v : Int64) (a b : Nat) (h : ¬ (a = k ∧ b = i)) : (setJ σ k i f v).1 a b = σ.1 a b ∧ (setJ σ k i f v).2 a b = σ.2 a b :=
  ⟨rfl, funext fun g => setJ_ne σ k i f v (fun q => h ⟨q.1, q.2.1⟩)⟩
/-- an object's cell behind a store to its field -/
theorem cel_setF {ad : AD} {aC : Nat → ClassId} {σ σ' : ST} {k i f : Nat} {fs : List FL} {t : FL} {v : Value} (h : kd k = .inl (k, fs)) (hf : fs[f]? = some t) (hv : fv ad σ' k i f t = v) (ho : ∀ g, g ≠ f → σ'.1 k i g = σ.1 k i g ∧ σ'.2 k i g = σ.2 k i g) :
    cel ad aC σ' k i = .inr (k, (fs.mapIdx (fun f t => fv ad σ k i f t)).set f v) := by
  rw [cel_obj h]
  congr 2
  apply List.ext_getElem?
  intro j
  by_cases hj : j = f
  · subst hj
    rw [List.getElem?_set_self (by rw [List.length_mapIdx]; exact (List.getElem?_eq_some_iff.mp hf).1), cel_fld hf, hv]
  · rw [List.getElem?_set_ne (Ne.symm hj), List.getElem?_mapIdx, List.getElem?_mapIdx]
    congr 1
    funext t'
    unfold fv
    rw [(ho j hj).1, (ho j hj).2]
/-- a field's link -/
def GF (own : String) (idx k f : Nat) : Prop := ∃ q : vw_C, cls[k]? = some q ∧ f < q.2.2 ∧ Cond.fieldLink own idx q.1 (q.2.1 f).2.1 (q.2.1 f).2.2.1 ∈ lw_gd
def GP (own : String) (idx k f : Nat) (dsc : String) : Prop := ∃ q : vw_C, cls[k]? = some q ∧ f < q.2.2 ∧ Cond.fieldLink own idx q.1 (q.2.1 f).2.1 (q.2.1 f).2.2.1 ∈ lw_gd ∧ (q.2.1 f).2.2.2 = false ∧ (q.2.1 f).2.2.1 = dsc
section EVH
variable {X : SX} {d : Nat} {M : MD} {pc : Nat} {L L' : List (Option AV)} {st : List AV} {σ : ST} {post : Option AV → ST → Prop}
theorem ev_getV {idx k f i : Nat} {t : FL} {v : AV} (g : GF M.1.cls idx k f) (ht : fldT k f = some t) (hi : i < cnt k) (hd : decode M.2.1 pc = .ok (.getfield idx, 3)) (hv : ∀ ad, fv ad σ k i f t = cv ad v) (kk : Ev X d M (pc + 3) L (v :: st) σ post) : Ev X d M pc L (vR k i :: st) σ post := by
  intro D ad aC p l e R s m args below meth c cells slots A Q C H locs ls w hl
  obtain ⟨q, hq, hf, hlk⟩ := g
  obtain ⟨ty, c1, c2, c3, c4⟩ := cls_ok k q hq
  obtain ⟨fs, hkd, hfs, hk⟩ := fldT_kd ht
  obtain ⟨q0, hq0⟩ := wld_pos hk hi
  have he := wld_get (ad := ad) (aC := aC) (σ := σ) hq0
  rw [cel_obj hkd] at he
  exact va_get (C := q.1) (T := q.2.1) (N := q.2.2) (ref := q.1) (D := D) C.1 C.2.1 C.2.2.2.2.1 (fun w hw => gd_t (c1 w hw) (u_good hw)) C.2.2.2.1 C.2.2.2.2.2.2.1 w.1 q0 he hq f hf (C.2.2.2.2.1 _ hlk) (fun x hx => by rw [← c4 f hf]; exact hx) (v := cv ad v) (by rw [cel_fld hfs, hv ad]) hd (kk.at C w hl)
theorem ev_getI {idx k f i : Nat} (g : GF M.1.cls idx k f) (ht : fldT k f = some fi) (hi : i < cnt k) (hd : decode M.2.1 pc = .ok (.getfield idx, 3)) (kk : Ev X d M (pc + 3) L (vI (σ.1 k i f) :: st) σ post) : Ev X d M pc L (vR k i :: st) σ post := ev_getV g ht hi hd (v := vI (σ.1 k i f)) (fun _ => rfl) kk
theorem ev_getZ {idx k f i : Nat} (g : GF M.1.cls idx k f) (ht : fldT k f = some fz) (hi : i < cnt k) (hd : decode M.2.1 pc = .ok (.getfield idx, 3)) (kk : Ev X d M (pc + 3) L (vI (σ.1 k i f) :: st) σ post) : Ev X d M pc L (vR k i :: st) σ post := ev_getV g ht hi hd (v := vI (σ.1 k i f)) (fun _ => rfl) kk
theorem ev_getJ {idx k f i : Nat} (g : GF M.1.cls idx k f) (ht : fldT k f = some fj) (hi : i < cnt k) (hd : decode M.2.1 pc = .ok (.getfield idx, 3)) (kk : Ev X d M (pc + 3) L (vJ (σ.2 k i f) :: st) σ post) : Ev X d M pc L (vR k i :: st) σ post := ev_getV g ht hi hd (v := vJ (σ.2 k i f)) (fun _ => rfl) kk
theorem ev_getR {idx k f i k' : Nat} (g : GF M.1.cls idx k f) (ht : fldT k f = some (fr k')) (hi : i < cnt k) (hd : decode M.2.1 pc = .ok (.getfield idx, 3)) (kk : Ev X d M (pc + 3) L (vR k' 0 :: st) σ post) : Ev X d M pc L (vR k i :: st) σ post := ev_getV g ht hi hd (v := vR k' 0) (fun _ => rfl) kk
theorem ev_getO {idx k f i k' : Nat} (g : GF M.1.cls idx k f) (ht : fldT k f = some (fo k')) (hi : i < cnt k) (hd : decode M.2.1 pc = .ok (.getfield idx, 3)) (kk : Ev X d M (pc + 3) L (vR k' i :: st) σ post) : Ev X d M pc L (vR k i :: st) σ post := ev_getV g ht hi hd (v := vR k' i) (fun _ => rfl) kk
theorem ev_putV {idx k f i : Nat} {t : FL} {v : AV} {σ' : ST} {dsc : String} {ty : FieldType} (g : GP M.1.cls idx k f dsc) (hdsc : parseFieldDescriptor dsc = some ty) (ht : fldT k f = some t) (hi : i < cnt k) (hd : decode M.2.1 pc = .ok (.putfield idx, 3)) (hv : ∀ ad, fv ad σ' k i f t = cv ad v) (hn : ∀ ad, narrow ty (cv ad v) = cv ad v ∧ fits ty (cv ad v) = true)
    (ho : ∀ a b : Nat, ¬ (a = k ∧ b = i) → σ'.1 a b = σ.1 a b ∧ σ'.2 a b = σ.2 a b) (ho2 : ∀ h, h ≠ f → σ'.1 k i h = σ.1 k i h ∧ σ'.2 k i h = σ.2 k i h) (kk : Ev X d M (pc + 3) L st σ' post) : Ev X d M pc L (v :: vR k i :: st) σ post := by
  intro D ad aC p l e R s m args below meth c cells slots A Q C H locs ls w hl
  obtain ⟨q, hq, hf, hlk, hfin, hds⟩ := g
  obtain ⟨ty0, c1, c2, c3, c4⟩ := cls_ok k q hq
  obtain ⟨fs, hkd, hfs, hk⟩ := fldT_kd ht
  obtain ⟨q0, hq0⟩ := wld_pos hk hi
  have he := wld_get (ad := ad) (aC := aC) (σ := σ) hq0
  rw [cel_obj hkd] at he
  refine va_put (C := q.1) (T := q.2.1) (N := q.2.2) (ref := q.1) (D := D) C.1 C.2.1 C.2.2.2.2.1 (fun w hw => gd_t (c1 w hw) (u_good hw)) ty0 c2 c3 C.2.2.2.1 C.2.2.2.2.2.2.1 w.1 w.2.1 w.2.2 q0 he hq f hf (C.2.2.2.2.1 _ hlk) (fun x hx => by rw [← c4 f hf]; exact hx) hfin (ty := ty) (v := cv ad v) (by rw [hds]; exact hdsc) (hn ad).1 (hn ad).2 (by rw [List.length_mapIdx]; exact (List.getElem?_eq_some_iff.mp hfs).1) hd (fun H1 locs1 hP hD hS => ?_)
  have E : (wld ad aC σ).set q0 (ad k i, .inr (k, (fs.mapIdx (fun f t => fv ad σ k i f t)).set f (cv ad v))) = wld ad aC σ' := wld_set hq0 ho (cel_setF hkd hfs (hv ad) ho2)
  rw [E] at hP hD
  exact kk.at C ⟨hP, hD, hS⟩ hl
theorem ev_putI {idx k f i : Nat} {x : Int32} (g : GP M.1.cls idx k f "I") (ht : fldT k f = some fi) (hi : i < cnt k) (hd : decode M.2.1 pc = .ok (.putfield idx, 3)) (kk : Ev X d M (pc + 3) L st (setI σ k i f x) post) : Ev X d M pc L (vI x :: vR k i :: st) σ post :=
  ev_putV g (ty := .int) (by decide +kernel) ht hi hd (v := vI x) (fun _ => by show Value.int _ = Value.int _; rw [setI_at]) (fun _ => ⟨rfl, rfl⟩) (setI_off σ k i f x) (fun h hh => ⟨setI_ne σ k i f x (fun q => hh q.2.2), rfl⟩) kk
theorem nar_fz {x : Int32} (hx : x = 0 ∨ x = 1) : narrow .boolean (.int x) = .int x ∧ fits .boolean (.int x) = true := by rcases hx with rfl | rfl <;> exact ⟨by decide +kernel, by decide +kernel⟩
theorem ev_putZ {idx k f i : Nat} {x : Int32} (g : GP M.1.cls idx k f "Z") (ht : fldT k f = some fz) (hi : i < cnt k) (hd : decode M.2.1 pc = .ok (.putfield idx, 3)) (hx : x = 0 ∨ x = 1) (kk : Ev X d M (pc + 3) L st (setI σ k i f x) post) : Ev X d M pc L (vI x :: vR k i :: st) σ post :=
  ev_putV g (ty := .boolean) (by decide +kernel) ht hi hd (v := vI x) (fun _ => by show Value.int _ = Value.int _; rw [setI_at]) (fun _ => nar_fz hx) (setI_off σ k i f x) (fun h hh => ⟨setI_ne σ k i f x (fun q => hh q.2.2), rfl⟩) kk
theorem ev_putJ {idx k f i : Nat} {x : Int64} (g : GP M.1.cls idx k f "J") (ht : fldT k f = some fj) (hi : i < cnt k) (hd : decode M.2.1 pc = .ok (.putfield idx, 3)) (kk : Ev X d M (pc + 3) L st (setJ σ k i f x) post) : Ev X d M pc L (vJ x :: vR k i :: st) σ post :=
  ev_putV g (ty := .long) (by decide +kernel) ht hi hd (v := vJ x) (fun _ => by show Value.long _ = Value.long _; rw [setJ_at]) (fun _ => ⟨rfl, rfl⟩) (setJ_off σ k i f x) (fun h hh => ⟨rfl, setJ_ne σ k i f x (fun q => hh q.2.2)⟩) kk
-- arrays
theorem ev_iald {k i n k' : Nat} {x : Int32} (ha : arT k = some (0, n, k')) (hk : k < 63) (hi : i < cnt k) (hin : vp_in x n) (hd : decode M.2.1 pc = .ok (.iaload, 1)) (kk : Ev X d M (pc + 1) L (vI (σ.1 k i x.toNatClampNeg) :: st) σ post) : Ev X d M pc L (vI x :: vR k i :: st) σ post := by
  intro D ad aC p l e R s m args below meth c cells slots A Q C H locs ls w hl
  obtain ⟨q0, hq0⟩ := wld_pos hk hi
  have he := wld_get (ad := ad) (aC := aC) (σ := σ) hq0
  rw [cel_arr (arT_kd ha)] at he
  exact va_iald C.1 C.2.1 C.2.2.2.2.2.2.1 w.1 q0 0 he rfl hin hd (kk.at C w hl)
theorem ev_zald {k i n k' : Nat} {x : Int32} (ha : arT k = some (1, n, k')) (hk : k < 63) (hi : i < cnt k) (hin : vp_in x n) (hd : decode M.2.1 pc = .ok (.baload, 1)) (kk : Ev X d M (pc + 1) L (vI (σ.1 k i x.toNatClampNeg) :: st) σ post) : Ev X d M pc L (vI x :: vR k i :: st) σ post := by
  intro D ad aC p l e R s m args below meth c cells slots A Q C H locs ls w hl
  obtain ⟨q0, hq0⟩ := wld_pos hk hi
  have he := wld_get (ad := ad) (aC := aC) (σ := σ) hq0
  rw [cel_arr (arT_kd ha)] at he
  exact va_zald C.1 C.2.1 C.2.2.2.2.2.2.1 w.1 q0 1 he rfl hin hd (kk.at C w hl)
theorem ev_lald {k i n k' : Nat} {x : Int32} (ha : arT k = some (2, n, k')) (hk : k < 63) (hi : i < cnt k) (hin : vp_in x n) (hd : decode M.2.1 pc = .ok (.laload, 1)) (kk : Ev X d M (pc + 1) L (vJ (σ.2 k i x.toNatClampNeg) :: st) σ post) : Ev X d M pc L (vI x :: vR k i :: st) σ post := by
  intro D ad aC p l e R s m args below meth c cells slots A Q C H locs ls w hl
  obtain ⟨q0, hq0⟩ := wld_pos hk hi
  have he := wld_get (ad := ad) (aC := aC) (σ := σ) hq0
  rw [cel_arr (arT_kd ha)] at he
  exact va_lald C.1 C.2.1 C.2.2.2.2.2.2.1 w.1 q0 2 he rfl hin hd (kk.at C w hl)
theorem ev_aald3 {k i n k' : Nat} {x : Int32} (ha : arT k = some (3, n, k')) (hk : k < 63) (hi : i < cnt k) (hin : vp_in x n) (hd : decode M.2.1 pc = .ok (.aaload, 1)) (kk : Ev X d M (pc + 1) L (vR k' x.toNatClampNeg :: st) σ post) : Ev X d M pc L (vI x :: vR k i :: st) σ post := by
  intro D ad aC p l e R s m args below meth c cells slots A Q C H locs ls w hl
  obtain ⟨q0, hq0⟩ := wld_pos hk hi
  have he := wld_get (ad := ad) (aC := aC) (σ := σ) hq0
  rw [cel_arr (arT_kd ha)] at he
  exact va_aldq C.1 C.2.1 C.2.2.2.2.2.2.1 w.1 q0 3 he rfl hin hd (kk.at C w hl)
theorem ev_aald4 {k i n k' : Nat} {x : Int32} (ha : arT k = some (4, n, k')) (hk : k < 63) (hi : i < cnt k) (hin : vp_in x n) (hd : decode M.2.1 pc = .ok (.aaload, 1)) (kk : Ev X d M (pc + 1) L (vR k' x.toNatClampNeg :: st) σ post) : Ev X d M pc L (vI x :: vR k i :: st) σ post := by
  intro D ad aC p l e R s m args below meth c cells slots A Q C H locs ls w hl
  obtain ⟨q0, hq0⟩ := wld_pos hk hi
  have he := wld_get (ad := ad) (aC := aC) (σ := σ) hq0
  rw [cel_arr (arT_kd ha)] at he
  exact va_aldq C.1 C.2.1 C.2.2.2.2.2.2.1 w.1 q0 4 he rfl hin hd (kk.at C w hl)
def setA (σ : ST) (k i : Nat) (g : Nat → Int32) : ST := (fun a b => if a = k ∧ b = i then g else σ.1 a b, σ.2)
theorem setA_at (σ : ST) (k i : Nat) (g : Nat → Int32) : (setA σ k i g).1 k i = g := by simp [setA]
theorem setA_off (σ : ST) (k i : Nat) (g : Nat → Int32) (a b : Nat) (h : ¬ (a = k ∧ b = i)) : (setA σ k i g).1 a b = σ.1 a b ∧ (setA σ k i g).2 a b = σ.2 a b := ⟨by simp only [setA]; rw [if_neg h], rfl⟩
theorem setI_A (σ : ST) (k i f : Nat) (v : Int32) : setI σ k i f v = setA σ k i (upd (σ.1 k i) f v) := by
  unfold setI setA
  congr 1
  funext a b c
  by_cases h : a = k ∧ b = i
  · obtain ⟨rfl, rfl⟩ := h
    simp [upd]
  · rw [if_neg (fun q => h ⟨q.1, q.2.1⟩), if_neg h]
theorem cel_setA {ad : AD} {aC : Nat → ClassId} {σ : ST} {k i t n k' : Nat} {g : Nat → Int32} (h : kd k = .inr (t, n, k')) (ht : t = 0 ∨ t = 1) : cel ad aC (setA σ k i g) k i = .inl (aC t, n, .inl g) := by
  rw [cel_arr h]
  rcases ht with rfl | rfl
  · show Sum.inl (aC 0, n, Sum.inl ((setA σ k i g).1 k i)) = _
    rw [setA_at]
  · show Sum.inl (aC 1, n, Sum.inl ((setA σ k i g).1 k i)) = _
    rw [setA_at]
theorem ev_iast {k i n k' : Nat} {x v : Int32} (ha : arT k = some (0, n, k')) (hk : k < 63) (hi : i < cnt k) (hin : vp_in x n) (hd : decode M.2.1 pc = .ok (.iastore, 1)) (kk : Ev X d M (pc + 1) L st (setI σ k i x.toNatClampNeg v) post) : Ev X d M pc L (vI v :: vI x :: vR k i :: st) σ post := by
  intro D ad aC p l e R s m args below meth c cells slots A Q C H locs ls w hl
  obtain ⟨q0, hq0⟩ := wld_pos hk hi
  have he := wld_get (ad := ad) (aC := aC) (σ := σ) hq0
  rw [cel_arr (arT_kd ha)] at he
  refine va_iast C.1 C.2.1 C.2.2.2.2.2.2.1 w.1 w.2.1 w.2.2 q0 0 he rfl hin hd (fun H1 locs1 hP hD hS => ?_)
  have E : (wld ad aC σ).set q0 (ad k i, .inl (aC 0, n, .inl (upd (σ.1 k i) x.toNatClampNeg v))) = wld ad aC (setI σ k i x.toNatClampNeg v) := by
    rw [setI_A]
    exact wld_set hq0 (setA_off σ k i _) (cel_setA (arT_kd ha) (Or.inl rfl))
  rw [E] at hP hD
  exact kk.at C ⟨hP, hD, hS⟩ hl
theorem nar_z {x : Int32} (hx : x = 0 ∨ x = 1) : vp_nar .boolean x = x := by rcases hx with rfl | rfl <;> decide +kernel
theorem ev_zast {k i n k' : Nat} {x v : Int32} (ha : arT k = some (1, n, k')) (hk : k < 63) (hi : i < cnt k) (hin : vp_in x n) (hv : v = 0 ∨ v = 1) (hd : decode M.2.1 pc = .ok (.bastore, 1)) (kk : Ev X d M (pc + 1) L st (setI σ k i x.toNatClampNeg v) post) : Ev X d M pc L (vI v :: vI x :: vR k i :: st) σ post := by
  intro D ad aC p l e R s m args below meth c cells slots A Q C H locs ls w hl
  obtain ⟨q0, hq0⟩ := wld_pos hk hi
  have he := wld_get (ad := ad) (aC := aC) (σ := σ) hq0
  rw [cel_arr (arT_kd ha)] at he
  refine va_zast C.1 C.2.1 C.2.2.2.2.2.2.1 w.1 w.2.1 w.2.2 q0 1 he rfl hin hd (fun H1 locs1 hP hD hS => ?_)
  rw [nar_z hv] at hP hD
  have E : (wld ad aC σ).set q0 (ad k i, .inl (aC 1, n, .inl (upd (σ.1 k i) x.toNatClampNeg v))) = wld ad aC (setI σ k i x.toNatClampNeg v) := by
    rw [setI_A]
    exact wld_set hq0 (setA_off σ k i _) (cel_setA (arT_kd ha) (Or.inr rfl))
  rw [E] at hP hD
  exact kk.at C ⟨hP, hD, hS⟩ hl
theorem ev_last {k i n k' : Nat} {x : Int32} {v : Int64} (ha : arT k = some (2, n, k')) (hk : k < 63) (hi : i < cnt k) (hin : vp_in x n) (hd : decode M.2.1 pc = .ok (.lastore, 1)) (kk : Ev X d M (pc + 1) L st (setJ σ k i x.toNatClampNeg v) post) : Ev X d M pc L (vJ v :: vI x :: vR k i :: st) σ post := by
  intro D ad aC p l e R s m args below meth c cells slots A Q C H locs ls w hl
  obtain ⟨q0, hq0⟩ := wld_pos hk hi
  have he := wld_get (ad := ad) (aC := aC) (σ := σ) hq0
  rw [cel_arr (arT_kd ha)] at he
  refine va_last C.1 C.2.1 C.2.2.2.2.2.2.1 w.1 w.2.1 w.2.2 q0 2 he rfl hin hd (fun H1 locs1 hP hD hS => ?_)
  have E : (wld ad aC σ).set q0 (ad k i, .inl (aC 2, n, .inr (.inl (vp_updL (σ.2 k i) x.toNatClampNeg v)))) = wld ad aC (setJ σ k i x.toNatClampNeg v) := by
    refine wld_set hq0 (setJ_off σ k i _ v) ?_
    rw [cel_arr (arT_kd ha)]
    show Sum.inl (aC 2, n, Sum.inr (Sum.inl ((setJ σ k i x.toNatClampNeg v).2 k i))) = _
    congr 5
    funext j
    simp [setJ, vp_updL]
  rw [E] at hP hD
  exact kk.at C ⟨hP, hD, hS⟩ hl
def cats (st : List AV) : Nat := (st.map (fun v => match isJ (some (some v)) with | true => 2 | false => 1)).sum
theorem cats_eq (ad : AD) : ∀ st : List AV, ((st.map (cv ad)).map fun v => v.category).sum = cats st
  | [] => rfl
  | v :: st => by
    have ih := cats_eq ad st
    have e : (cv ad v).category = (match isJ (some (some v)) with | true => 2 | false => 1) := by rcases v with x | x | ⟨k, i⟩ <;> rfl
    show (cv ad v).category + ((st.map (cv ad)).map fun v => v.category).sum = (match isJ (some (some v)) with | true => 2 | false => 1) + cats st
    rw [ih, e]
theorem fitInt (x : Int32) : fits .int (.int x) = true := rfl
theorem ev_copy {idx k0 i0 k1 i1 n0 n1 k0' k1' : Nat} {sp dp n : Int32} (hlk : Cond.methodLink M.1.cls idx arraycopyName ∈ lw_gd) (ha0 : arT k0 = some (0, n0, k0')) (hk0 : k0 < 63) (hi0 : i0 < cnt k0) (ha1 : arT k1 = some (0, n1, k1')) (hk1 : k1 < 63) (hi1 : i1 < cnt k1) (h1 : ¬ sp < 0) (h2 : ¬ dp < 0) (h3 : ¬ n < 0) (h4 : sp.toNatClampNeg + n.toNatClampNeg ≤ n0) (h5 : dp.toNatClampNeg + n.toNatClampNeg ≤ n1) (hr : cats st ≤ 8)
    (hd : decode M.2.1 pc = .ok (.invokestatic idx, 3)) (kk : Ev X (d + 1) M (pc + 3) L st (setA σ k1 i1 (va_cpy (σ.1 k0 i0) (σ.1 k1 i1) sp.toNatClampNeg dp.toNatClampNeg n.toNatClampNeg)) post) : Ev X (d + 1) M pc L (vI n :: vI dp :: vR k1 i1 :: vI sp :: vR k0 i0 :: st) σ post := by
  intro D ad aC p l e R s m args below meth c cells slots A Q C H locs ls w hl
  obtain ⟨q0, hq0⟩ := wld_pos hk0 hi0
  have he0 := wld_get (ad := ad) (aC := aC) (σ := σ) hq0
  rw [cel_arr (arT_kd ha0)] at he0
  obtain ⟨q1, hq1⟩ := wld_pos hk1 hi1
  have he1 := wld_get (ad := ad) (aC := aC) (σ := σ) hq1
  rw [cel_arr (arT_kd ha1)] at he1
  have hts := C.2.2.2.2.1
  refine va_copyi C.1 C.2.1 (C.2.2.1.trans hl.1.symm) C.2.2.2.1 (hts _ hlk) (hts _ (by decide +kernel)) (hts _ (by decide +kernel)) (hts _ (by decide +kernel)) C.2.2.2.2.2.2.1 w.1 w.2.1 w.2.2 q0 q1 0 0 he0 he1 rfl rfl rfl h1 h2 h3 h4 h5 (fun _ _ => rfl) ?_ ?_ hd (fun H1 locs1 hP hD hS => ?_)
  · have := C.2.2.2.2.2.2.2.1.1
    omega
  · have h9 := C.2.2.2.2.2.2.2.1.2.1
    rw [cats_eq]
    have h8 : nativeFrameWords "java/lang/System" "arraycopy" 5 + 11 ≤ 40 := by decide +kernel
    omega
  · have E : (wld ad aC σ).set q1 (ad k1 i1, .inl (aC 0, n1, .inl (va_cpy (σ.1 k0 i0) (σ.1 k1 i1) sp.toNatClampNeg dp.toNatClampNeg n.toNatClampNeg))) = wld ad aC (setA σ k1 i1 (va_cpy (σ.1 k0 i0) (σ.1 k1 i1) sp.toNatClampNeg dp.toNatClampNeg n.toNatClampNeg)) :=
      wld_set hq1 (setA_off σ k1 i1 _) (cel_setA (arT_kd ha1) (Or.inl rfl))
    have hP' := hP
    have hD' := hD
    change va_P D cls ((wld ad aC σ).set q1 (ad k1 i1, .inl (aC 0, n1, .inl (va_cpy (σ.1 k0 i0) (σ.1 k1 i1) sp.toNatClampNeg dp.toNatClampNeg n.toNatClampNeg)))) H1 at hP'
    change va_D A ((wld ad aC σ).set q1 (ad k1 i1, .inl (aC 0, n1, .inl (va_cpy (σ.1 k0 i0) (σ.1 k1 i1) sp.toNatClampNeg dp.toNatClampNeg n.toNatClampNeg)))) at hD'
    rw [E] at hP' hD'
    exact kk.at C ⟨hP', hD', hS⟩ hl
-- Math
theorem ev_mmax {idx : Nat} {x y : Int32} (hlk : Cond.methodLink M.1.cls idx Lib.Math.max.name ∈ lw_gd) (hr : cats st ≤ 8) (hd : decode M.2.1 pc = .ok (.invokestatic idx, 3)) (kk : Ev X (d + 1) M (pc + 3) L (vI (imax x y) :: st) σ post) : Ev X (d + 1) M pc L (vI y :: vI x :: st) σ post := by
  intro D ad aC p l e R s m args below meth c cells slots A Q C H locs ls w hl
  have hts := C.2.2.2.2.1
  obtain ⟨f1, f2, f3, f4⟩ := C.2.2.2.2.2.2.2.1
  exact va_mmax C.1 C.2.1 (C.2.2.1.trans hl.1.symm) C.2.2.2.1 (hts _ hlk) (hts _ (by decide +kernel)) (hts _ (by decide +kernel)) (hts _ (by decide +kernel)) (by omega) (by rw [cats_eq]; omega) f3 f4 hd (kk.at C w hl)
theorem ev_mmin {idx : Nat} {x y : Int32} (hlk : Cond.methodLink M.1.cls idx Lib.Math.min.name ∈ lw_gd) (hr : cats st ≤ 8) (hd : decode M.2.1 pc = .ok (.invokestatic idx, 3)) (kk : Ev X (d + 1) M (pc + 3) L (vI (imin x y) :: st) σ post) : Ev X (d + 1) M pc L (vI y :: vI x :: st) σ post := by
  intro D ad aC p l e R s m args below meth c cells slots A Q C H locs ls w hl
  have hts := C.2.2.2.2.1
  obtain ⟨f1, f2, f3, f4⟩ := C.2.2.2.2.2.2.2.1
  exact va_mmin C.1 C.2.1 (C.2.2.1.trans hl.1.symm) C.2.2.2.1 (hts _ hlk) (hts _ (by decide +kernel)) (hts _ (by decide +kernel)) (hts _ (by decide +kernel)) (by omega) (by rw [cats_eq]; omega) f3 f4 hd (kk.at C w hl)
theorem ev_mabs {idx : Nat} {x : Int32} (hlk : Cond.methodLink M.1.cls idx Lib.Math.abs.name ∈ lw_gd) (hr : cats st ≤ 8) (hd : decode M.2.1 pc = .ok (.invokestatic idx, 3)) (kk : Ev X (d + 1) M (pc + 3) L (vI (iabs x) :: st) σ post) : Ev X (d + 1) M pc L (vI x :: st) σ post := by
  intro D ad aC p l e R s m args below meth c cells slots A Q C H locs ls w hl
  have hts := C.2.2.2.2.1
  obtain ⟨f1, f2, f3, f4⟩ := C.2.2.2.2.2.2.2.1
  exact va_mabs C.1 C.2.1 (C.2.2.1.trans hl.1.symm) C.2.2.2.1 (hts _ hlk) (hts _ (by decide +kernel)) (hts _ (by decide +kernel)) (hts _ (by decide +kernel)) (by omega) (by rw [cats_eq]; omega) f3 f4 hd (kk.at C w hl)
-- the script
theorem ev_sld {n : Nat} {xs : Nat → Int32} {x : Int32} (hin : vp_in x n) (hd : decode M.2.1 pc = .ok (.iaload, 1)) (kk : Ev (some (n, xs)) d M (pc + 1) L (vI (xs x.toNatClampNeg) :: st) σ post) : Ev (some (n, xs)) d M pc L (vI x :: vR 63 0 :: st) σ post := by
  intro D ad aC p l e R s m args below meth c cells slots A Q C H locs ls w hl
  obtain ⟨x1, x2, x3⟩ := C.2.2.2.2.2.2.2.2.2.1
  exact va_sld C.1 C.2.1 x1 x2 x3 w.2.2 hin hd (kk.at C w hl)
theorem ev_slen {n : Nat} {xs : Nat → Int32} (hd : decode M.2.1 pc = .ok (.arraylength, 1)) (kk : Ev (some (n, xs)) d M (pc + 1) L (vI (Int32.ofNat n) :: st) σ post) : Ev (some (n, xs)) d M pc L (vR 63 0 :: st) σ post := by
  intro D ad aC p l e R s m args below meth c cells slots A Q C H locs ls w hl
  obtain ⟨x1, x2, x3⟩ := C.2.2.2.2.2.2.2.2.2.1
  exact va_slen C.1 C.2.1 x1 x2 x3 w.2.2 hd (kk.at C w hl)
end EVH
