-- the rules of Ev, an instruction each (by program: wip/gen/gen_rules.py)
def bi (p : Prop) [Decidable p] : Int32 := if p then 1 else 0
theorem bi_01 (p : Prop) [Decidable p] : bi p = 0 ∨ bi p = 1 := by
  unfold bi
  split
  · exact Or.inr rfl
  · exact Or.inl rfl
theorem bi_0 {p : Prop} [Decidable p] : bi p = 0 ↔ ¬ p := by
  unfold bi
  split
  next h => exact ⟨fun q => absurd q (by decide), fun q => absurd h q⟩
  next h => exact ⟨fun _ => h, fun _ => rfl⟩
theorem bi_t {p : Prop} [Decidable p] (h : p) : bi p = 1 := if_pos h
theorem bi_f {p : Prop} [Decidable p] (h : ¬ p) : bi p = 0 := if_neg h
def imax (x y : Int32) : Int32 := if x < y then y else x
def imin (x y : Int32) : Int32 := if y < x then y else x
def iabs (x : Int32) : Int32 := if 0 ≤ x then x else 0 - x
def irm (x y : Int32) : Int32 := x - x / y * y
def lrm (x y : Int64) : Int64 := x - x / y * y
def isl (x y : Int32) : Int32 := x <<< (y &&& 31)
def isr (x y : Int32) : Int32 := x >>> (y &&& 31)
def ius (x y : Int32) : Int32 := (x.toUInt32 >>> (y.toUInt32 &&& Int32.toUInt32 31)).toInt32
def lsl (x : Int64) (y : Int32) : Int64 := x <<< (y.toInt64 &&& 63)
section EVR
variable {X : SX} {d : Nat} {M : MD} {pc : Nat} {L L' : List (Option AV)} {st : List AV} {σ : ST} {post : Option AV → ST → Prop}
theorem ev_iconst {n : Int} {v : Int32} (hd : decode M.2.1 pc = .ok (.iconst n, 1)) (hv : Int32.ofInt n = v) (k : Ev X d M (pc + 1) L (vI v :: st) σ post) : Ev X d M pc L (st) σ post := by
  intro D ad aC p l e R s m args below meth c cells slots A Q C H locs ls w hl
  exact lv_iconst C.1 C.2.1 hd hv (k.at C w hl)
theorem ev_bipush {n : Int} {v : Int32} (hd : decode M.2.1 pc = .ok (.bipush n, 2)) (hv : (Int8.ofInt n).toInt32 = v) (k : Ev X d M (pc + 2) L (vI v :: st) σ post) : Ev X d M pc L (st) σ post := by
  intro D ad aC p l e R s m args below meth c cells slots A Q C H locs ls w hl
  exact lv_bipush C.1 C.2.1 hd hv (k.at C w hl)
theorem ev_sipush {n : Int} {v : Int32} (hd : decode M.2.1 pc = .ok (.sipush n, 3)) (hv : (Int16.ofInt n).toInt32 = v) (k : Ev X d M (pc + 3) L (vI v :: st) σ post) : Ev X d M pc L (st) σ post := by
  intro D ad aC p l e R s m args below meth c cells slots A Q C H locs ls w hl
  exact lv_sipush C.1 C.2.1 hd hv (k.at C w hl)
theorem ev_lconst {n : Fin 2} {v : Int64} (hd : decode M.2.1 pc = .ok (.lconst n, 1)) (hv : Int64.ofNat (n : Nat) = v) (k : Ev X d M (pc + 1) L (vJ v :: st) σ post) : Ev X d M pc L (st) σ post := by
  intro D ad aC p l e R s m args below meth c cells slots A Q C H locs ls w hl
  exact lv_lconst C.1 C.2.1 hd hv (k.at C w hl)
theorem ev_ldc {idx : Nat} {v : Int32} (hd : decode M.2.1 pc = .ok (.ldc idx, 2)) (hc : Cond.constant M.1.cls idx v ∈ lw_gd) (k : Ev X d M (pc + 2) L (vI v :: st) σ post) : Ev X d M pc L st σ post := by
  intro D ad aC p l e R s m args below meth c cells slots A Q C H locs ls w hl
  exact lv_ldc C.1 C.2.1 C.2.2.2.1 (C.2.2.2.2.1 _ hc) hd (k.at C w hl)
theorem ev_ldcw {idx : Nat} {v : Int32} (hd : decode M.2.1 pc = .ok (.ldc_w idx, 3)) (hc : Cond.constant M.1.cls idx v ∈ lw_gd) (k : Ev X d M (pc + 3) L (vI v :: st) σ post) : Ev X d M pc L st σ post := by
  intro D ad aC p l e R s m args below meth c cells slots A Q C H locs ls w hl
  exact lv_ldcw C.1 C.2.1 C.2.2.2.1 (C.2.2.2.2.1 _ hc) hd (k.at C w hl)
theorem ev_ldc2 {idx : Nat} {v : Int64} (hd : decode M.2.1 pc = .ok (.ldc2_w idx, 3)) (hc : Cond.constantLong M.1.cls idx v ∈ lw_gd) (k : Ev X d M (pc + 3) L (vJ v :: st) σ post) : Ev X d M pc L st σ post := by
  intro D ad aC p l e R s m args below meth c cells slots A Q C H locs ls w hl
  exact lv_ldc2 C.1 C.2.1 C.2.2.2.1 (C.2.2.2.2.1 _ hc) hd (k.at C w hl)
theorem ev_iload_n {j : Fin 4} {i : Nat} {x : Int32} (hd : decode M.2.1 pc = .ok (.iload_n j, 1)) (hi : (j : Nat) = i) (hx : L[i]? = some (some (vI x))) (k : Ev X d M (pc + 1) L (vI x :: st) σ post) : Ev X d M pc L st σ post := by
  intro D ad aC p l e R s m args below meth c cells slots A Q C H locs ls w hl
  exact lv_iload_n C.1 C.2.1 hd hi (hl.2.2 _ _ hx) (k.at C w hl)
theorem ev_iload {i : Nat} {x : Int32} (hd : decode M.2.1 pc = .ok (.iload i, 2)) (hx : L[i]? = some (some (vI x))) (k : Ev X d M (pc + 2) L (vI x :: st) σ post) : Ev X d M pc L st σ post := by
  intro D ad aC p l e R s m args below meth c cells slots A Q C H locs ls w hl
  exact lv_iload C.1 C.2.1 hd (hl.2.2 _ _ hx) (k.at C w hl)
theorem ev_lload_n {j : Fin 4} {i : Nat} {x : Int64} (hd : decode M.2.1 pc = .ok (.lload_n j, 1)) (hi : (j : Nat) = i) (hx : L[i]? = some (some (vJ x))) (k : Ev X d M (pc + 1) L (vJ x :: st) σ post) : Ev X d M pc L st σ post := by
  intro D ad aC p l e R s m args below meth c cells slots A Q C H locs ls w hl
  exact lv_lload_n C.1 C.2.1 hd hi (hl.2.2 _ _ hx) (k.at C w hl)
theorem ev_lload {i : Nat} {x : Int64} (hd : decode M.2.1 pc = .ok (.lload i, 2)) (hx : L[i]? = some (some (vJ x))) (k : Ev X d M (pc + 2) L (vJ x :: st) σ post) : Ev X d M pc L st σ post := by
  intro D ad aC p l e R s m args below meth c cells slots A Q C H locs ls w hl
  exact lv_lload C.1 C.2.1 hd (hl.2.2 _ _ hx) (k.at C w hl)
theorem ev_aload_n {j : Fin 4} {i a b : Nat} (hd : decode M.2.1 pc = .ok (.aload_n j, 1)) (hi : (j : Nat) = i) (hx : L[i]? = some (some (vR a b))) (k : Ev X d M (pc + 1) L (vR a b :: st) σ post) : Ev X d M pc L st σ post := by
  intro D ad aC p l e R s m args below meth c cells slots A Q C H locs ls w hl
  exact lv_aload_n C.1 C.2.1 hd hi (hl.2.2 _ _ hx) (k.at C w hl)
theorem ev_aload {i a b : Nat} (hd : decode M.2.1 pc = .ok (.aload i, 2)) (hx : L[i]? = some (some (vR a b))) (k : Ev X d M (pc + 2) L (vR a b :: st) σ post) : Ev X d M pc L st σ post := by
  intro D ad aC p l e R s m args below meth c cells slots A Q C H locs ls w hl
  exact lv_aload C.1 C.2.1 hd (hl.2.2 _ _ hx) (k.at C w hl)
theorem ev_istore_n {j : Fin 4} {i : Nat} {x : Int32} (hd : decode M.2.1 pc = .ok (.istore_n j, 1)) (hi : (j : Nat) = i) (hn : i < M.2.2.1) (hL : sto1 L i (vI x) = L') (k : Ev X d M (pc + 1) L' st σ post) : Ev X d M pc L (vI x :: st) σ post := by
  intro D ad aC p l e R s m args below meth c cells slots A Q C H locs ls w hl
  exact lv_istore_n C.1 C.2.1 hd hi hl.has hn rfl (fun ls' h' => k.at C w (hL ▸ Lc.of1 (v := vI x) h'))
theorem ev_istore {i : Nat} {x : Int32} (hd : decode M.2.1 pc = .ok (.istore i, 2)) (hn : i < M.2.2.1) (hL : sto1 L i (vI x) = L') (k : Ev X d M (pc + 2) L' st σ post) : Ev X d M pc L (vI x :: st) σ post := by
  intro D ad aC p l e R s m args below meth c cells slots A Q C H locs ls w hl
  exact lv_istore C.1 C.2.1 hd hl.has hn rfl (fun ls' h' => k.at C w (hL ▸ Lc.of1 (v := vI x) h'))
theorem ev_lstore_n {j : Fin 4} {i : Nat} {x : Int64} (hd : decode M.2.1 pc = .ok (.lstore_n j, 1)) (hi : (j : Nat) = i) (hn : i + 1 < M.2.2.1) (hL : sto2 L i (vJ x) = L') (k : Ev X d M (pc + 1) L' st σ post) : Ev X d M pc L (vJ x :: st) σ post := by
  intro D ad aC p l e R s m args below meth c cells slots A Q C H locs ls w hl
  exact lv_lstore_n C.1 C.2.1 hd hi hl.has hn rfl (fun ls' h' => k.at C w (hL ▸ Lc.of2 (v := vJ x) h'))
theorem ev_lstore {i : Nat} {x : Int64} (hd : decode M.2.1 pc = .ok (.lstore i, 2)) (hn : i + 1 < M.2.2.1) (hL : sto2 L i (vJ x) = L') (k : Ev X d M (pc + 2) L' st σ post) : Ev X d M pc L (vJ x :: st) σ post := by
  intro D ad aC p l e R s m args below meth c cells slots A Q C H locs ls w hl
  exact lv_lstore C.1 C.2.1 hd hl.has hn rfl (fun ls' h' => k.at C w (hL ▸ Lc.of2 (v := vJ x) h'))
theorem ev_astore_n {j : Fin 4} {i : Nat} {a b : Nat} (hd : decode M.2.1 pc = .ok (.astore_n j, 1)) (hi : (j : Nat) = i) (hn : i < M.2.2.1) (hL : sto1 L i (vR a b) = L') (k : Ev X d M (pc + 1) L' st σ post) : Ev X d M pc L (vR a b :: st) σ post := by
  intro D ad aC p l e R s m args below meth c cells slots A Q C H locs ls w hl
  exact lv_astore_n C.1 C.2.1 hd hi hl.has hn rfl (fun ls' h' => k.at C w (hL ▸ Lc.of1 (v := vR a b) h'))
theorem ev_astore {i : Nat} {a b : Nat} (hd : decode M.2.1 pc = .ok (.astore i, 2)) (hn : i < M.2.2.1) (hL : sto1 L i (vR a b) = L') (k : Ev X d M (pc + 2) L' st σ post) : Ev X d M pc L (vR a b :: st) σ post := by
  intro D ad aC p l e R s m args below meth c cells slots A Q C H locs ls w hl
  exact lv_astore C.1 C.2.1 hd hl.has hn rfl (fun ls' h' => k.at C w (hL ▸ Lc.of1 (v := vR a b) h'))
theorem ev_iinc {i : Nat} {n : Int} {x v : Int32} (hd : decode M.2.1 pc = .ok (.iinc i n, 3)) (hx : L[i]? = some (some (vI x))) (hv : x + Int32.ofInt n = v) (hn : i < M.2.2.1) (hL : sto1 L i (vI v) = L') (k : Ev X d M (pc + 3) L' st σ post) : Ev X d M pc L st σ post := by
  intro D ad aC p l e R s m args below meth c cells slots A Q C H locs ls w hl
  obtain ⟨q, hq⟩ := List.getElem?_of_mem (mem_prs.mpr ⟨vI x, hx, rfl⟩ : (i, cv ad (vI x)) ∈ prs ad L)
  exact lv_iinc C.1 C.2.1 hd hl.has hq hv hn rfl (fun ls' h' => k.at C w (hL ▸ Lc.of1 (v := vI v) h'))
theorem ev_iadd {x y : Int32} (hd : decode M.2.1 pc = .ok (.iadd, 1)) (k : Ev X d M (pc + 1) L (vI (x + y) :: st) σ post) : Ev X d M pc L (vI y :: vI x :: st) σ post := by
  intro D ad aC p l e R s m args below meth c cells slots A Q C H locs ls w hl
  exact lv_iadd C.1 C.2.1 hd (k.at C w hl)
theorem ev_isub {x y : Int32} (hd : decode M.2.1 pc = .ok (.isub, 1)) (k : Ev X d M (pc + 1) L (vI (x - y) :: st) σ post) : Ev X d M pc L (vI y :: vI x :: st) σ post := by
  intro D ad aC p l e R s m args below meth c cells slots A Q C H locs ls w hl
  exact lv_isub C.1 C.2.1 hd (k.at C w hl)
theorem ev_imul {x y : Int32} (hd : decode M.2.1 pc = .ok (.imul, 1)) (k : Ev X d M (pc + 1) L (vI (x * y) :: st) σ post) : Ev X d M pc L (vI y :: vI x :: st) σ post := by
  intro D ad aC p l e R s m args below meth c cells slots A Q C H locs ls w hl
  exact lv_imul C.1 C.2.1 hd (k.at C w hl)
theorem ev_iand {x y : Int32} (hd : decode M.2.1 pc = .ok (.iand, 1)) (k : Ev X d M (pc + 1) L (vI (x &&& y) :: st) σ post) : Ev X d M pc L (vI y :: vI x :: st) σ post := by
  intro D ad aC p l e R s m args below meth c cells slots A Q C H locs ls w hl
  exact lv_iand C.1 C.2.1 hd (k.at C w hl)
theorem ev_ior {x y : Int32} (hd : decode M.2.1 pc = .ok (.ior, 1)) (k : Ev X d M (pc + 1) L (vI (x ||| y) :: st) σ post) : Ev X d M pc L (vI y :: vI x :: st) σ post := by
  intro D ad aC p l e R s m args below meth c cells slots A Q C H locs ls w hl
  exact lv_ior C.1 C.2.1 hd (k.at C w hl)
theorem ev_ixor {x y : Int32} (hd : decode M.2.1 pc = .ok (.ixor, 1)) (k : Ev X d M (pc + 1) L (vI (x ^^^ y) :: st) σ post) : Ev X d M pc L (vI y :: vI x :: st) σ post := by
  intro D ad aC p l e R s m args below meth c cells slots A Q C H locs ls w hl
  exact lv_ixor C.1 C.2.1 hd (k.at C w hl)
theorem ev_ishl {x y : Int32} (hd : decode M.2.1 pc = .ok (.ishl, 1)) (k : Ev X d M (pc + 1) L (vI (isl x y) :: st) σ post) : Ev X d M pc L (vI y :: vI x :: st) σ post := by
  intro D ad aC p l e R s m args below meth c cells slots A Q C H locs ls w hl
  exact lv_ishl C.1 C.2.1 hd (k.at C w hl)
theorem ev_ishr {x y : Int32} (hd : decode M.2.1 pc = .ok (.ishr, 1)) (k : Ev X d M (pc + 1) L (vI (isr x y) :: st) σ post) : Ev X d M pc L (vI y :: vI x :: st) σ post := by
  intro D ad aC p l e R s m args below meth c cells slots A Q C H locs ls w hl
  exact lv_ishr C.1 C.2.1 hd (k.at C w hl)
theorem ev_iushr {x y : Int32} (hd : decode M.2.1 pc = .ok (.iushr, 1)) (k : Ev X d M (pc + 1) L (vI (ius x y) :: st) σ post) : Ev X d M pc L (vI y :: vI x :: st) σ post := by
  intro D ad aC p l e R s m args below meth c cells slots A Q C H locs ls w hl
  exact lv_iushr C.1 C.2.1 hd rfl (k.at C w hl)
theorem ev_idiv {x y : Int32} (hd : decode M.2.1 pc = .ok (.idiv, 1)) (hy : ¬ y = 0) (k : Ev X d M (pc + 1) L (vI (x / y) :: st) σ post) : Ev X d M pc L (vI y :: vI x :: st) σ post := by
  intro D ad aC p l e R s m args below meth c cells slots A Q C H locs ls w hl
  exact lv_idiv C.1 C.2.1 hd hy (k.at C w hl)
theorem ev_irem {x y : Int32} (hd : decode M.2.1 pc = .ok (.irem, 1)) (hy : ¬ y = 0) (k : Ev X d M (pc + 1) L (vI (irm x y) :: st) σ post) : Ev X d M pc L (vI y :: vI x :: st) σ post := by
  intro D ad aC p l e R s m args below meth c cells slots A Q C H locs ls w hl
  exact lv_irem C.1 C.2.1 hd hy (k.at C w hl)
theorem ev_ladd {x y : Int64} (hd : decode M.2.1 pc = .ok (.ladd, 1)) (k : Ev X d M (pc + 1) L (vJ (x + y) :: st) σ post) : Ev X d M pc L (vJ y :: vJ x :: st) σ post := by
  intro D ad aC p l e R s m args below meth c cells slots A Q C H locs ls w hl
  exact lv_ladd C.1 C.2.1 hd (k.at C w hl)
theorem ev_lsub {x y : Int64} (hd : decode M.2.1 pc = .ok (.lsub, 1)) (k : Ev X d M (pc + 1) L (vJ (x - y) :: st) σ post) : Ev X d M pc L (vJ y :: vJ x :: st) σ post := by
  intro D ad aC p l e R s m args below meth c cells slots A Q C H locs ls w hl
  exact lv_lsub C.1 C.2.1 hd (k.at C w hl)
theorem ev_lmul {x y : Int64} (hd : decode M.2.1 pc = .ok (.lmul, 1)) (k : Ev X d M (pc + 1) L (vJ (x * y) :: st) σ post) : Ev X d M pc L (vJ y :: vJ x :: st) σ post := by
  intro D ad aC p l e R s m args below meth c cells slots A Q C H locs ls w hl
  exact lv_lmul C.1 C.2.1 hd (k.at C w hl)
theorem ev_ldiv {x y : Int64} (hd : decode M.2.1 pc = .ok (.ldiv, 1)) (hy : ¬ y = 0) (k : Ev X d M (pc + 1) L (vJ (x / y) :: st) σ post) : Ev X d M pc L (vJ y :: vJ x :: st) σ post := by
  intro D ad aC p l e R s m args below meth c cells slots A Q C H locs ls w hl
  exact lv_ldiv C.1 C.2.1 hd hy (k.at C w hl)
theorem ev_lrem {x y : Int64} (hd : decode M.2.1 pc = .ok (.lrem, 1)) (hy : ¬ y = 0) (k : Ev X d M (pc + 1) L (vJ (lrm x y) :: st) σ post) : Ev X d M pc L (vJ y :: vJ x :: st) σ post := by
  intro D ad aC p l e R s m args below meth c cells slots A Q C H locs ls w hl
  exact lv_lrem C.1 C.2.1 hd hy (k.at C w hl)
theorem ev_lshl {x : Int64} {y : Int32} (hd : decode M.2.1 pc = .ok (.lshl, 1)) (k : Ev X d M (pc + 1) L (vJ (lsl x y) :: st) σ post) : Ev X d M pc L (vI y :: vJ x :: st) σ post := by
  intro D ad aC p l e R s m args below meth c cells slots A Q C H locs ls w hl
  exact lv_lshl C.1 C.2.1 hd rfl (k.at C w hl)
theorem ev_ineg {x : Int32} (hd : decode M.2.1 pc = .ok (.ineg, 1)) (k : Ev X d M (pc + 1) L (vI (-x) :: st) σ post) : Ev X d M pc L (vI x :: st) σ post := by
  intro D ad aC p l e R s m args below meth c cells slots A Q C H locs ls w hl
  exact lv_ineg C.1 C.2.1 hd (k.at C w hl)
theorem ev_i2l {x : Int32} (hd : decode M.2.1 pc = .ok (.i2l, 1)) (k : Ev X d M (pc + 1) L (vJ x.toInt64 :: st) σ post) : Ev X d M pc L (vI x :: st) σ post := by
  intro D ad aC p l e R s m args below meth c cells slots A Q C H locs ls w hl
  exact lv_i2l C.1 C.2.1 hd rfl (k.at C w hl)
theorem ev_i2b {x : Int32} (hd : decode M.2.1 pc = .ok (.i2b, 1)) (k : Ev X d M (pc + 1) L (vI x.toInt8.toInt32 :: st) σ post) : Ev X d M pc L (vI x :: st) σ post := by
  intro D ad aC p l e R s m args below meth c cells slots A Q C H locs ls w hl
  exact lv_i2b C.1 C.2.1 hd rfl (k.at C w hl)
theorem ev_i2s {x : Int32} (hd : decode M.2.1 pc = .ok (.i2s, 1)) (k : Ev X d M (pc + 1) L (vI x.toInt16.toInt32 :: st) σ post) : Ev X d M pc L (vI x :: st) σ post := by
  intro D ad aC p l e R s m args below meth c cells slots A Q C H locs ls w hl
  exact lv_i2s C.1 C.2.1 hd rfl (k.at C w hl)
theorem ev_lcmp {x y : Int64} (hd : decode M.2.1 pc = .ok (.lcmp, 1)) (k : Ev X d M (pc + 1) L (vI (lg_cmp x y) :: st) σ post) : Ev X d M pc L (vJ y :: vJ x :: st) σ post := by
  intro D ad aC p l e R s m args below meth c cells slots A Q C H locs ls w hl
  exact W.lcmp C.1 C.2.1 hd (k.at C w hl)
theorem cat1 {ad : AD} {v : AV} (h : isJ (some (some v)) = false) : (cv ad v).category = 1 := by
  rcases lv_cat (cv ad v) with q | q
  · exact q
  · rw [cv_cat2.mp q] at h; cases h
theorem ev_dup {v : AV} (hd : decode M.2.1 pc = .ok (.dup, 1)) (hc : isJ (some (some v)) = false) (k : Ev X d M (pc + 1) L (v :: v :: st) σ post) : Ev X d M pc L (v :: st) σ post := by
  intro D ad aC p l e R s m args below meth c cells slots A Q C H locs ls w hl
  exact lv_dup C.1 C.2.1 hd (cat1 hc) (k.at C w hl)
theorem ev_pop {v : AV} (hd : decode M.2.1 pc = .ok (.pop, 1)) (hc : isJ (some (some v)) = false) (k : Ev X d M (pc + 1) L (st) σ post) : Ev X d M pc L (v :: st) σ post := by
  intro D ad aC p l e R s m args below meth c cells slots A Q C H locs ls w hl
  exact lv_pop C.1 C.2.1 hd (cat1 hc) (k.at C w hl)
theorem ev_dup2 {u v : AV} (hd : decode M.2.1 pc = .ok (.dup2, 1)) (hc : isJ (some (some u)) = false) (hc2 : isJ (some (some v)) = false) (k : Ev X d M (pc + 1) L (u :: v :: u :: v :: st) σ post) : Ev X d M pc L (u :: v :: st) σ post := by
  intro D ad aC p l e R s m args below meth c cells slots A Q C H locs ls w hl
  exact lv_dup2_11 C.1 C.2.1 hd (cat1 hc) (cat1 hc2) (k.at C w hl)
theorem ev_if_eq {x : Int32} {off : Int} {tgt : Nat} (hd : decode M.2.1 pc = .ok (.ifCond .eq off, 3)) (ht : (pc : Int) + off = (tgt : Int)) (kt : x = 0 → Ev X d M tgt L st σ post) (kf : ¬ x = 0 → Ev X d M (pc + 3) L st σ post) : Ev X d M pc L (vI x :: st) σ post := by
  intro D ad aC p l e R s m args below meth c cells slots A Q C H locs ls w hl
  exact lv_if_eq C.1 C.2.1 hd ht (fun h => (kt h).at C w hl) (fun h => (kf h).at C w hl)
theorem ev_if_ne {x : Int32} {off : Int} {tgt : Nat} (hd : decode M.2.1 pc = .ok (.ifCond .ne off, 3)) (ht : (pc : Int) + off = (tgt : Int)) (kt : ¬ x = 0 → Ev X d M tgt L st σ post) (kf : x = 0 → Ev X d M (pc + 3) L st σ post) : Ev X d M pc L (vI x :: st) σ post := by
  intro D ad aC p l e R s m args below meth c cells slots A Q C H locs ls w hl
  exact lv_if_ne C.1 C.2.1 hd ht (fun h => (kt h).at C w hl) (fun h => (kf h).at C w hl)
theorem ev_if_lt {x : Int32} {off : Int} {tgt : Nat} (hd : decode M.2.1 pc = .ok (.ifCond .lt off, 3)) (ht : (pc : Int) + off = (tgt : Int)) (kt : x < 0 → Ev X d M tgt L st σ post) (kf : ¬ x < 0 → Ev X d M (pc + 3) L st σ post) : Ev X d M pc L (vI x :: st) σ post := by
  intro D ad aC p l e R s m args below meth c cells slots A Q C H locs ls w hl
  exact lv_if_lt C.1 C.2.1 hd ht (fun h => (kt h).at C w hl) (fun h => (kf h).at C w hl)
theorem ev_if_ge {x : Int32} {off : Int} {tgt : Nat} (hd : decode M.2.1 pc = .ok (.ifCond .ge off, 3)) (ht : (pc : Int) + off = (tgt : Int)) (kt : 0 ≤ x → Ev X d M tgt L st σ post) (kf : ¬ 0 ≤ x → Ev X d M (pc + 3) L st σ post) : Ev X d M pc L (vI x :: st) σ post := by
  intro D ad aC p l e R s m args below meth c cells slots A Q C H locs ls w hl
  exact lv_if_ge C.1 C.2.1 hd ht (fun h => (kt h).at C w hl) (fun h => (kf h).at C w hl)
theorem ev_if_gt {x : Int32} {off : Int} {tgt : Nat} (hd : decode M.2.1 pc = .ok (.ifCond .gt off, 3)) (ht : (pc : Int) + off = (tgt : Int)) (kt : 0 < x → Ev X d M tgt L st σ post) (kf : ¬ 0 < x → Ev X d M (pc + 3) L st σ post) : Ev X d M pc L (vI x :: st) σ post := by
  intro D ad aC p l e R s m args below meth c cells slots A Q C H locs ls w hl
  exact lv_if_gt C.1 C.2.1 hd ht (fun h => (kt h).at C w hl) (fun h => (kf h).at C w hl)
theorem ev_if_le {x : Int32} {off : Int} {tgt : Nat} (hd : decode M.2.1 pc = .ok (.ifCond .le off, 3)) (ht : (pc : Int) + off = (tgt : Int)) (kt : x ≤ 0 → Ev X d M tgt L st σ post) (kf : ¬ x ≤ 0 → Ev X d M (pc + 3) L st σ post) : Ev X d M pc L (vI x :: st) σ post := by
  intro D ad aC p l e R s m args below meth c cells slots A Q C H locs ls w hl
  exact lv_if_le C.1 C.2.1 hd ht (fun h => (kt h).at C w hl) (fun h => (kf h).at C w hl)
theorem ev_icmp_eq {x y : Int32} {off : Int} {tgt : Nat} (hd : decode M.2.1 pc = .ok (.if_icmp .eq off, 3)) (ht : (pc : Int) + off = (tgt : Int)) (kt : x = y → Ev X d M tgt L st σ post) (kf : ¬ x = y → Ev X d M (pc + 3) L st σ post) : Ev X d M pc L (vI y :: vI x :: st) σ post := by
  intro D ad aC p l e R s m args below meth c cells slots A Q C H locs ls w hl
  exact lv_icmp_eq C.1 C.2.1 hd ht (fun h => (kt h).at C w hl) (fun h => (kf h).at C w hl)
theorem ev_icmp_ne {x y : Int32} {off : Int} {tgt : Nat} (hd : decode M.2.1 pc = .ok (.if_icmp .ne off, 3)) (ht : (pc : Int) + off = (tgt : Int)) (kt : ¬ x = y → Ev X d M tgt L st σ post) (kf : x = y → Ev X d M (pc + 3) L st σ post) : Ev X d M pc L (vI y :: vI x :: st) σ post := by
  intro D ad aC p l e R s m args below meth c cells slots A Q C H locs ls w hl
  exact lv_icmp_ne C.1 C.2.1 hd ht (fun h => (kt h).at C w hl) (fun h => (kf h).at C w hl)
theorem ev_icmp_lt {x y : Int32} {off : Int} {tgt : Nat} (hd : decode M.2.1 pc = .ok (.if_icmp .lt off, 3)) (ht : (pc : Int) + off = (tgt : Int)) (kt : x < y → Ev X d M tgt L st σ post) (kf : ¬ x < y → Ev X d M (pc + 3) L st σ post) : Ev X d M pc L (vI y :: vI x :: st) σ post := by
  intro D ad aC p l e R s m args below meth c cells slots A Q C H locs ls w hl
  exact lv_icmp_lt C.1 C.2.1 hd ht (fun h => (kt h).at C w hl) (fun h => (kf h).at C w hl)
theorem ev_icmp_ge {x y : Int32} {off : Int} {tgt : Nat} (hd : decode M.2.1 pc = .ok (.if_icmp .ge off, 3)) (ht : (pc : Int) + off = (tgt : Int)) (kt : y ≤ x → Ev X d M tgt L st σ post) (kf : ¬ y ≤ x → Ev X d M (pc + 3) L st σ post) : Ev X d M pc L (vI y :: vI x :: st) σ post := by
  intro D ad aC p l e R s m args below meth c cells slots A Q C H locs ls w hl
  exact lv_icmp_ge C.1 C.2.1 hd ht (fun h => (kt h).at C w hl) (fun h => (kf h).at C w hl)
theorem ev_icmp_gt {x y : Int32} {off : Int} {tgt : Nat} (hd : decode M.2.1 pc = .ok (.if_icmp .gt off, 3)) (ht : (pc : Int) + off = (tgt : Int)) (kt : y < x → Ev X d M tgt L st σ post) (kf : ¬ y < x → Ev X d M (pc + 3) L st σ post) : Ev X d M pc L (vI y :: vI x :: st) σ post := by
  intro D ad aC p l e R s m args below meth c cells slots A Q C H locs ls w hl
  exact lv_icmp_gt C.1 C.2.1 hd ht (fun h => (kt h).at C w hl) (fun h => (kf h).at C w hl)
theorem ev_icmp_le {x y : Int32} {off : Int} {tgt : Nat} (hd : decode M.2.1 pc = .ok (.if_icmp .le off, 3)) (ht : (pc : Int) + off = (tgt : Int)) (kt : x ≤ y → Ev X d M tgt L st σ post) (kf : ¬ x ≤ y → Ev X d M (pc + 3) L st σ post) : Ev X d M pc L (vI y :: vI x :: st) σ post := by
  intro D ad aC p l e R s m args below meth c cells slots A Q C H locs ls w hl
  exact lv_icmp_le C.1 C.2.1 hd ht (fun h => (kt h).at C w hl) (fun h => (kf h).at C w hl)
theorem ev_goto {off : Int} {tgt : Nat} (hd : decode M.2.1 pc = .ok (.goto off, 3)) (ht : (pc : Int) + off = (tgt : Int)) (k : Ev X d M tgt L st σ post) : Ev X d M pc L st σ post := by
  intro D ad aC p l e R s m args below meth c cells slots A Q C H locs ls w hl
  exact lv_goto C.1 C.2.1 hd ht (k.at C w hl)
theorem ev_tableIn {dflt lo hi : Int} {offs : Array Int} {len : Nat} {x : Int32} {off : Int} {tgt : Nat} (hd : decode M.2.1 pc = .ok (.tableswitch dflt lo hi offs, len)) (h1 : ¬ x.toInt < lo) (h2 : ¬ hi < x.toInt) (ho : offs[(x.toInt - lo).toNat]? = some off) (ht : (pc : Int) + off = (tgt : Int)) (k : Ev X d M tgt L st σ post) : Ev X d M pc L (vI x :: st) σ post := by
  intro D ad aC p l e R s m args below meth c cells slots A Q C H locs ls w hl
  exact lv_tableIn C.1 C.2.1 hd h1 h2 ho ht (k.at C w hl)
theorem ev_tableOut {dflt lo hi : Int} {offs : Array Int} {len : Nat} {x : Int32} {tgt : Nat} (hd : decode M.2.1 pc = .ok (.tableswitch dflt lo hi offs, len)) (h : x.toInt < lo ∨ hi < x.toInt) (ht : (pc : Int) + dflt = (tgt : Int)) (k : Ev X d M tgt L st σ post) : Ev X d M pc L (vI x :: st) σ post := by
  intro D ad aC p l e R s m args below meth c cells slots A Q C H locs ls w hl
  exact lv_tableOut C.1 C.2.1 hd h ht (k.at C w hl)
theorem ev_lookup {dflt : Int} {ps : Array (Int × Int)} {len : Nat} {x : Int32} {off : Int} {tgt : Nat} (hd : decode M.2.1 pc = .ok (.lookupswitch dflt ps, len)) (hp : (ps.toList.zip (ps.toList.drop 1)).all (fun (a, next) => a.1 < next.1) = true) (ho : Op.lookupswitch.offset ps.toList dflt x.toInt = off) (ht : (pc : Int) + off = (tgt : Int)) (k : Ev X d M tgt L st σ post) : Ev X d M pc L (vI x :: st) σ post := by
  intro D ad aC p l e R s m args below meth c cells slots A Q C H locs ls w hl
  exact lv_lookup C.1 C.2.1 hd hp ho ht (k.at C w hl)
theorem ev_ret {r : Option AV} {op : Instr} (hd : decode M.2.1 pc = .ok (op, 1)) (hs : st = r.toList) (hr : rok M.2.2.2 r op) (h : post r σ) : Ev X d M pc L st σ post := by
  intro D ad aC p l e R s m args below meth c cells slots A Q C H locs ls w hl
  subst hs
  exact C.2.2.2.2.2.2.2.2.2.2 r σ H locs ls pc op h hr w hd
theorem ev_ifb_eq {P : Prop} [Decidable P] {off : Int} {tgt : Nat} (hd : decode M.2.1 pc = .ok (.ifCond .eq off, 3)) (ht : (pc : Int) + off = (tgt : Int)) (kt : ¬ P → Ev X d M tgt L st σ post) (kf : P → Ev X d M (pc + 3) L st σ post) : Ev X d M pc L (vI (bi P) :: st) σ post := ev_if_eq hd ht (fun h => kt (bi_0.mp h)) (fun h => kf (Decidable.of_not_not (fun q => h (bi_0.mpr q))))
theorem ev_ifb_ne {P : Prop} [Decidable P] {off : Int} {tgt : Nat} (hd : decode M.2.1 pc = .ok (.ifCond .ne off, 3)) (ht : (pc : Int) + off = (tgt : Int)) (kt : P → Ev X d M tgt L st σ post) (kf : ¬ P → Ev X d M (pc + 3) L st σ post) : Ev X d M pc L (vI (bi P) :: st) σ post := ev_if_ne hd ht (fun h => kt (Decidable.of_not_not (fun q => h (bi_0.mpr q)))) (fun h => kf (bi_0.mp h))
theorem lc_lt {x y : Int64} : lg_cmp x y < 0 ↔ x < y := lg_cmp_lt x y
theorem lc_ge {x y : Int64} : 0 ≤ lg_cmp x y ↔ y ≤ x := lg_cmp_ge x y
theorem lc_gt {x y : Int64} : 0 < lg_cmp x y ↔ y < x := lg_cmp_gt x y
theorem lc_le {x y : Int64} : lg_cmp x y ≤ 0 ↔ x ≤ y := lg_cmp_le x y
theorem lc_eq {x y : Int64} : lg_cmp x y = 0 ↔ x = y := by
  unfold lg_cmp
  split
  next h => exact ⟨fun q => absurd q (by decide), fun q => by subst q; exact absurd h Int64.lt_irrefl⟩
  next h =>
    split
    next h2 => exact ⟨fun _ => h2, fun _ => rfl⟩
    next h2 => exact ⟨fun q => absurd q (by decide), fun q => absurd q h2⟩
theorem ev_ifc_lt {x y : Int64} {off : Int} {tgt : Nat} (hd : decode M.2.1 pc = .ok (.ifCond .lt off, 3)) (ht : (pc : Int) + off = (tgt : Int)) (kt : x < y → Ev X d M tgt L st σ post) (kf : ¬ (x < y) → Ev X d M (pc + 3) L st σ post) : Ev X d M pc L (vI (lg_cmp x y) :: st) σ post := ev_if_lt hd ht (fun h => kt (lc_lt.mp h)) (fun h => kf (fun q => h (lc_lt.mpr q)))
theorem ev_ifc_ge {x y : Int64} {off : Int} {tgt : Nat} (hd : decode M.2.1 pc = .ok (.ifCond .ge off, 3)) (ht : (pc : Int) + off = (tgt : Int)) (kt : y ≤ x → Ev X d M tgt L st σ post) (kf : ¬ (y ≤ x) → Ev X d M (pc + 3) L st σ post) : Ev X d M pc L (vI (lg_cmp x y) :: st) σ post := ev_if_ge hd ht (fun h => kt (lc_ge.mp h)) (fun h => kf (fun q => h (lc_ge.mpr q)))
theorem ev_ifc_eq {x y : Int64} {off : Int} {tgt : Nat} (hd : decode M.2.1 pc = .ok (.ifCond .eq off, 3)) (ht : (pc : Int) + off = (tgt : Int)) (kt : x = y → Ev X d M tgt L st σ post) (kf : ¬ (x = y) → Ev X d M (pc + 3) L st σ post) : Ev X d M pc L (vI (lg_cmp x y) :: st) σ post := ev_if_eq hd ht (fun h => kt (lc_eq.mp h)) (fun h => kf (fun q => h (lc_eq.mpr q)))
theorem ev_ifc_gt {x y : Int64} {off : Int} {tgt : Nat} (hd : decode M.2.1 pc = .ok (.ifCond .gt off, 3)) (ht : (pc : Int) + off = (tgt : Int)) (kt : y < x → Ev X d M tgt L st σ post) (kf : ¬ (y < x) → Ev X d M (pc + 3) L st σ post) : Ev X d M pc L (vI (lg_cmp x y) :: st) σ post := ev_if_gt hd ht (fun h => kt (lc_gt.mp h)) (fun h => kf (fun q => h (lc_gt.mpr q)))
theorem ev_ifc_le {x y : Int64} {off : Int} {tgt : Nat} (hd : decode M.2.1 pc = .ok (.ifCond .le off, 3)) (ht : (pc : Int) + off = (tgt : Int)) (kt : x ≤ y → Ev X d M tgt L st σ post) (kf : ¬ (x ≤ y) → Ev X d M (pc + 3) L st σ post) : Ev X d M pc L (vI (lg_cmp x y) :: st) σ post := ev_if_le hd ht (fun h => kt (lc_le.mp h)) (fun h => kf (fun q => h (lc_le.mpr q)))
theorem ev_ifc_ne {x y : Int64} {off : Int} {tgt : Nat} (hd : decode M.2.1 pc = .ok (.ifCond .ne off, 3)) (ht : (pc : Int) + off = (tgt : Int)) (kt : ¬ x = y → Ev X d M tgt L st σ post) (kf : x = y → Ev X d M (pc + 3) L st σ post) : Ev X d M pc L (vI (lg_cmp x y) :: st) σ post := ev_if_ne hd ht (fun h => kt (fun q => h (lc_eq.mpr q))) (fun h => kf (lc_eq.mp h))
end EVR
