-- values, stores, the layout of the two objects' cells (by program: wip/gen/gen_lay.py)
abbrev AV : Type := Int32 ⊕ Int64 ⊕ (Nat × Nat)
abbrev vI (x : Int32) : AV := .inl x
abbrev vJ (x : Int64) : AV := .inr (.inl x)
abbrev vR (k i : Nat) : AV := .inr (.inr (k, i))
abbrev AD : Type := Nat → Nat → Nat
def cv (ad : AD) : AV → Value
  | .inl x => .int x
  | .inr (.inl y) => .long y
  | .inr (.inr (k, i)) => .ref (ad k i)
abbrev ST : Type := (Nat → Nat → Nat → Int32) × (Nat → Nat → Nat → Int64)
def setI (σ : ST) (k i f : Nat) (v : Int32) : ST := (fun a b c => if a = k ∧ b = i ∧ c = f then v else σ.1 a b c, σ.2)
def setJ (σ : ST) (k i f : Nat) (v : Int64) : ST := (σ.1, fun a b c => if a = k ∧ b = i ∧ c = f then v else σ.2 a b c)
/-- a field: its type (0 int, 1 long, 2 a reference, 3 boolean), the kind it points to, whether its index is the object's own -/
abbrev FL : Type := Nat × Nat × Nat
abbrev KD : Type := (Nat × List FL) ⊕ (Nat × Nat × Nat)
abbrev fi : FL := (0, 0, 0)
abbrev fj : FL := (1, 0, 0)
abbrev fz : FL := (3, 0, 0)
abbrev fr (k : Nat) : FL := (2, k, 0)
abbrev fo (k : Nat) : FL := (2, k, 1)
def kd (k : Nat) : KD := match k with
  | 0 => .inl (0, [fr 1, fr 2, fr 4, fr 5, fr 6, fr 7, fr 8, fr 9, fr 40, fi, fi, fi])
  | 1 => .inl (1, [fr 12, fr 13, fr 14, fi, fi, fi])
  | 2 => .inl (2, [fr 1, fr 15, fr 16])
  | 3 => .inl (3, [fo 17, fo 18, fo 19])
  | 4 => .inl (4, [fr 2, fr 20, fi, fi, fi])
  | 5 => .inl (5, [fr 2, fr 21, fr 22, fr 23, fr 24, fr 25, fi, fi, fi, fi, fi])
  | 6 => .inl (6, [fr 2, fr 26, fr 27, fr 28, fi])
  | 7 => .inl (7, [fr 2, fr 29, fr 30, fr 31, fi])
  | 8 => .inl (8, [fr 2, fr 32, fr 33, fr 34, fi])
  | 9 => .inl (9, [fr 2, fr 35, fr 36, fr 37, fr 38, fr 39, fi, fj, fj])
  | 10 => .inl (10, [fo 41, fz, fi, fi])
  | 11 => .inl (11, [fr 42, fr 43, fr 44, fr 45, fi, fr 46, fi, fi, fi, fr 47, fr 48, fi, fr 49, fr 50, fr 51, fr 52, fr 53, fr 54, fi, fi, fi, fr 55, fr 56, fr 57, fi, fi, fi, fr 58, fr 59, fi, fr 60, fr 61, fr 62, fj])
  | 12 => .inr (0, 60, 0)
  | 13 => .inr (0, 8, 0)
  | 14 => .inr (0, 8, 0)
  | 15 => .inr (3, 6, 3)
  | 16 => .inr (1, 8, 0)
  | 17 => .inr (0, 3, 0)
  | 18 => .inr (1, 8, 0)
  | 19 => .inr (0, 3, 0)
  | 20 => .inr (0, 6, 0)
  | 21 => .inr (0, 8, 0)
  | 22 => .inr (0, 8, 0)
  | 23 => .inr (0, 8, 0)
  | 24 => .inr (0, 8, 0)
  | 25 => .inr (0, 9, 0)
  | 26 => .inr (0, 16, 0)
  | 27 => .inr (0, 16, 0)
  | 28 => .inr (0, 16, 0)
  | 29 => .inr (0, 36, 0)
  | 30 => .inr (0, 64, 0)
  | 31 => .inr (0, 6, 0)
  | 32 => .inr (0, 8, 0)
  | 33 => .inr (0, 8, 0)
  | 34 => .inr (0, 8, 0)
  | 35 => .inr (2, 3169, 0)
  | 36 => .inr (0, 3, 0)
  | 37 => .inr (0, 3, 0)
  | 38 => .inr (0, 8, 0)
  | 39 => .inr (0, 8, 0)
  | 40 => .inr (4, 4, 10)
  | 41 => .inr (0, 60, 0)
  | 42 => .inr (0, 4, 0)
  | 43 => .inr (0, 4, 0)
  | 44 => .inr (0, 240, 0)
  | 45 => .inr (0, 60, 0)
  | 46 => .inr (0, 60, 0)
  | 47 => .inr (0, 8, 0)
  | 48 => .inr (0, 8, 0)
  | 49 => .inr (0, 18, 0)
  | 50 => .inr (0, 6, 0)
  | 51 => .inr (0, 6, 0)
  | 52 => .inr (0, 6, 0)
  | 53 => .inr (0, 6, 0)
  | 54 => .inr (0, 2, 0)
  | 55 => .inr (0, 6, 0)
  | 56 => .inr (0, 8, 0)
  | 57 => .inr (0, 8, 0)
  | 58 => .inr (0, 64, 0)
  | 59 => .inr (0, 64, 0)
  | 60 => .inr (0, 24, 0)
  | 61 => .inr (2, 3200, 0)
  | 62 => .inr (2, 3200, 0)
  | _ => .inr (0, 0, 0)
def cnt (k : Nat) : Nat := match k with
  | 3 => 6
  | 10 => 4
  | 17 => 6
  | 18 => 6
  | 19 => 6
  | 41 => 4
  | _ => 1
def kT0 : u_T := fun k => match k with
  | 0 => ("OneBook", "book", "LOneBook$Book;", true)
  | 1 => ("OneBook", "company", "LOneBook$Company;", true)
  | 2 => ("OneBook", "sitting", "LOneBook$Evening;", true)
  | 3 => ("OneBook", "plan", "LOneBook$Plan;", true)
  | 4 => ("OneBook", "seeming", "LOneBook$Seeming;", true)
  | 5 => ("OneBook", "seating", "LOneBook$Seating;", true)
  | 6 => ("OneBook", "turns", "LOneBook$Turns;", true)
  | 7 => ("OneBook", "moods", "LOneBook$Moods;", true)
  | 8 => ("OneBook", "sheets", "[LOneBook$Sheet;", true)
  | 9 => ("OneBook", "candle", "I", false)
  | 10 => ("OneBook", "day", "I", false)
  | _ => ("OneBook", "finding", "I", false)
def ky0 : Nat → FieldType := fun k => match k with
  | 0 => .object "OneBook$Book"
  | 1 => .object "OneBook$Company"
  | 2 => .object "OneBook$Evening"
  | 3 => .object "OneBook$Plan"
  | 4 => .object "OneBook$Seeming"
  | 5 => .object "OneBook$Seating"
  | 6 => .object "OneBook$Turns"
  | 7 => .object "OneBook$Moods"
  | 8 => .array (.object "OneBook$Sheet")
  | 9 => .int
  | 10 => .int
  | _ => .int
def kT1 : u_T := fun k => match k with
  | 0 => ("OneBook$Book", "bytes", "[I", true)
  | 1 => ("OneBook$Book", "kinds", "[I", true)
  | 2 => ("OneBook$Book", "lines", "[I", true)
  | 3 => ("OneBook$Book", "size", "I", false)
  | 4 => ("OneBook$Book", "chapters", "I", false)
  | _ => ("OneBook$Book", "fault", "I", false)
def ky1 : Nat → FieldType := fun k => match k with
  | 0 => .array .int
  | 1 => .array .int
  | 2 => .array .int
  | 3 => .int
  | 4 => .int
  | _ => .int
def kT2 : u_T := fun k => match k with
  | 0 => ("OneBook$Company", "book", "LOneBook$Book;", true)
  | 1 => ("OneBook$Company", "people", "[LOneBook$Reader;", true)
  | _ => ("OneBook$Company", "skipped", "[Z", true)
def ky2 : Nat → FieldType := fun k => match k with
  | 0 => .object "OneBook$Book"
  | 1 => .array (.object "OneBook$Reader")
  | _ => .array .boolean
def kT3 : u_T := fun k => match k with
  | 0 => ("OneBook$Reader", "speeds", "[I", true)
  | 1 => ("OneBook$Reader", "liked", "[Z", true)
  | _ => ("OneBook$Reader", "traits", "[I", true)
def ky3 : Nat → FieldType := fun k => match k with
  | 0 => .array .int
  | 1 => .array .boolean
  | _ => .array .int
def kT4 : u_T := fun k => match k with
  | 0 => ("OneBook$Evening", "company", "LOneBook$Company;", true)
  | 1 => ("OneBook$Evening", "waits", "[I", true)
  | 2 => ("OneBook$Evening", "chapters", "I", false)
  | 3 => ("OneBook$Evening", "minute", "I", false)
  | _ => ("OneBook$Evening", "next", "I", false)
def ky4 : Nat → FieldType := fun k => match k with
  | 0 => .object "OneBook$Company"
  | 1 => .array .int
  | 2 => .int
  | 3 => .int
  | _ => .int
def kT5 : u_T := fun k => match k with
  | 0 => ("OneBook$Plan", "company", "LOneBook$Company;", true)
  | 1 => ("OneBook$Plan", "timesA", "[I", true)
  | 2 => ("OneBook$Plan", "timesB", "[I", true)
  | 3 => ("OneBook$Plan", "row", "[I", true)
  | 4 => ("OneBook$Plan", "bestRow", "[I", true)
  | 5 => ("OneBook$Plan", "linesFrom", "[I", true)
  | 6 => ("OneBook$Plan", "candle", "I", false)
  | 7 => ("OneBook$Plan", "day", "I", false)
  | 8 => ("OneBook$Plan", "bestLines", "I", false)
  | 9 => ("OneBook$Plan", "bestWaits", "I", false)
  | _ => ("OneBook$Plan", "bestMinutes", "I", false)
def ky5 : Nat → FieldType := fun k => match k with
  | 0 => .object "OneBook$Company"
  | 1 => .array .int
  | 2 => .array .int
  | 3 => .array .int
  | 4 => .array .int
  | 5 => .array .int
  | 6 => .int
  | 7 => .int
  | 8 => .int
  | 9 => .int
  | _ => .int
def kT6 : u_T := fun k => match k with
  | 0 => ("OneBook$Seeming", "company", "LOneBook$Company;", true)
  | 1 => ("OneBook$Seeming", "gainsA", "[I", true)
  | 2 => ("OneBook$Seeming", "gainsB", "[I", true)
  | 3 => ("OneBook$Seeming", "restCases", "[I", true)
  | _ => ("OneBook$Seeming", "restCount", "I", false)
def ky6 : Nat → FieldType := fun k => match k with
  | 0 => .object "OneBook$Company"
  | 1 => .array .int
  | 2 => .array .int
  | 3 => .array .int
  | _ => .int
def kT7 : u_T := fun k => match k with
  | 0 => ("OneBook$Seating", "company", "LOneBook$Company;", true)
  | 1 => ("OneBook$Seating", "waits", "[I", true)
  | 2 => ("OneBook$Seating", "leastWaits", "[I", true)
  | 3 => ("OneBook$Seating", "partners", "[I", true)
  | _ => ("OneBook$Seating", "minutes", "I", false)
def ky7 : Nat → FieldType := fun k => match k with
  | 0 => .object "OneBook$Company"
  | 1 => .array .int
  | 2 => .array .int
  | 3 => .array .int
  | _ => .int
def kT8 : u_T := fun k => match k with
  | 0 => ("OneBook$Turns", "company", "LOneBook$Company;", true)
  | 1 => ("OneBook$Turns", "chapters", "[I", true)
  | 2 => ("OneBook$Turns", "sets", "[I", true)
  | 3 => ("OneBook$Turns", "minutes", "[I", true)
  | _ => ("OneBook$Turns", "size", "I", false)
def ky8 : Nat → FieldType := fun k => match k with
  | 0 => .object "OneBook$Company"
  | 1 => .array .int
  | 2 => .array .int
  | 3 => .array .int
  | _ => .int
def kT9 : u_T := fun k => match k with
  | 0 => ("OneBook$Moods", "company", "LOneBook$Company;", true)
  | 1 => ("OneBook$Moods", "ways", "[J", true)
  | 2 => ("OneBook$Moods", "times", "[I", true)
  | 3 => ("OneBook$Moods", "quarters", "[I", true)
  | 4 => ("OneBook$Moods", "lengths", "[I", true)
  | 5 => ("OneBook$Moods", "shares", "[I", true)
  | 6 => ("OneBook$Moods", "outcomes", "I", false)
  | 7 => ("OneBook$Moods", "above", "J", false)
  | _ => ("OneBook$Moods", "below", "J", false)
def ky9 : Nat → FieldType := fun k => match k with
  | 0 => .object "OneBook$Company"
  | 1 => .array .long
  | 2 => .array .int
  | 3 => .array .int
  | 4 => .array .int
  | 5 => .array .int
  | 6 => .int
  | 7 => .long
  | _ => .long
def kT10 : u_T := fun k => match k with
  | 0 => ("OneBook$Sheet", "items", "[I", true)
  | 1 => ("OneBook$Sheet", "lost", "Z", false)
  | 2 => ("OneBook$Sheet", "form", "I", false)
  | _ => ("OneBook$Sheet", "size", "I", false)
def ky10 : Nat → FieldType := fun k => match k with
  | 0 => .array .int
  | 1 => .boolean
  | 2 => .int
  | _ => .int
def kT11 : u_T := fun k => match k with
  | 0 => ("OneBookModel", "forms", "[I", true)
  | 1 => ("OneBookModel", "sizes", "[I", true)
  | 2 => ("OneBookModel", "items", "[I", true)
  | 3 => ("OneBookModel", "moved", "[I", true)
  | 4 => ("OneBookModel", "latest", "I", false)
  | 5 => ("OneBookModel", "text", "[I", true)
  | 6 => ("OneBookModel", "typed", "I", false)
  | 7 => ("OneBookModel", "at", "I", false)
  | 8 => ("OneBookModel", "chapters", "I", false)
  | 9 => ("OneBookModel", "kinds", "[I", true)
  | 10 => ("OneBookModel", "lines", "[I", true)
  | 11 => ("OneBookModel", "skipped", "I", false)
  | 12 => ("OneBookModel", "paceOf", "[I", true)
  | 13 => ("OneBookModel", "likes", "[I", true)
  | 14 => ("OneBookModel", "works", "[I", true)
  | 15 => ("OneBookModel", "joys", "[I", true)
  | 16 => ("OneBookModel", "moods", "[I", true)
  | 17 => ("OneBookModel", "settings", "[I", true)
  | 18 => ("OneBookModel", "readMany", "I", false)
  | 19 => ("OneBookModel", "minutes", "I", false)
  | 20 => ("OneBookModel", "nextOne", "I", false)
  | 21 => ("OneBookModel", "waits", "[I", true)
  | 22 => ("OneBookModel", "ways", "[I", true)
  | 23 => ("OneBookModel", "bestWays", "[I", true)
  | 24 => ("OneBookModel", "bestLines", "I", false)
  | 25 => ("OneBookModel", "bestWaits", "I", false)
  | 26 => ("OneBookModel", "bestMinutes", "I", false)
  | 27 => ("OneBookModel", "pairLeast", "[I", true)
  | 28 => ("OneBookModel", "pairWith", "[I", true)
  | 29 => ("OneBookModel", "turns", "I", false)
  | 30 => ("OneBookModel", "told", "[I", true)
  | 31 => ("OneBookModel", "byMinute", "[J", true)
  | 32 => ("OneBookModel", "nextByMinute", "[J", true)
  | _ => ("OneBookModel", "whole", "J", false)
def ky11 : Nat → FieldType := fun k => match k with
  | 0 => .array .int
  | 1 => .array .int
  | 2 => .array .int
  | 3 => .array .int
  | 4 => .int
  | 5 => .array .int
  | 6 => .int
  | 7 => .int
  | 8 => .int
  | 9 => .array .int
  | 10 => .array .int
  | 11 => .int
  | 12 => .array .int
  | 13 => .array .int
  | 14 => .array .int
  | 15 => .array .int
  | 16 => .array .int
  | 17 => .array .int
  | 18 => .int
  | 19 => .int
  | 20 => .int
  | 21 => .array .int
  | 22 => .array .int
  | 23 => .array .int
  | 24 => .int
  | 25 => .int
  | 26 => .int
  | 27 => .array .int
  | 28 => .array .int
  | 29 => .int
  | 30 => .array .int
  | 31 => .array .long
  | 32 => .array .long
  | _ => .long
abbrev cls : List vw_C := [("OneBook", kT0, 12), ("OneBook$Book", kT1, 6), ("OneBook$Company", kT2, 3), ("OneBook$Reader", kT3, 3), ("OneBook$Evening", kT4, 5), ("OneBook$Plan", kT5, 11), ("OneBook$Seeming", kT6, 5), ("OneBook$Seating", kT7, 5), ("OneBook$Turns", kT8, 5), ("OneBook$Moods", kT9, 9), ("OneBook$Sheet", kT10, 4), ("OneBookModel", kT11, 34)]
def fv (ad : AD) (σ : ST) (k i f : Nat) (t : FL) : Value := match t.1 with
  | 0 => .int (σ.1 k i f)
  | 1 => .long (σ.2 k i f)
  | 2 => .ref (ad t.2.1 (if t.2.2 = 0 then 0 else i))
  | _ => .int (σ.1 k i f)
def arc (ad : AD) (σ : ST) (k i t k' : Nat) : (Nat → Int32) ⊕ (Nat → Int64) ⊕ (Nat → UInt32) ⊕ (Nat → UInt64) ⊕ (Nat → Option Nat) := match t with
  | 0 => .inl (σ.1 k i)
  | 1 => .inl (σ.1 k i)
  | 2 => .inr (.inl (σ.2 k i))
  | _ => .inr (.inr (.inr (.inr (fun j => some (ad k' j)))))
def cel (ad : AD) (aC : Nat → ClassId) (σ : ST) (k i : Nat) : va_E := match kd k with
  | .inl (c, fs) => .inr (c, fs.mapIdx (fun f t => fv ad σ k i f t))
  | .inr (t, n, k') => .inl (aC t, n, arc ad σ k i t k')
def cellList : List (Nat × Nat) := (List.range 63).flatMap (fun k => (List.range (cnt k)).map (fun i => (k, i)))
def wld (ad : AD) (aC : Nat → ClassId) (σ : ST) : va_W := cellList.map (fun q => (ad q.1 q.2, cel ad aC σ q.1 q.2))
def tys (aC : Nat → ClassId) : List (ClassId × FieldType) := [(aC 0, .int), (aC 1, .boolean), (aC 2, .long), (aC 3, .object "OneBook$Reader"), (aC 4, .object "OneBook$Sheet")]
theorem mem_cells {k i : Nat} (hk : k < 63) (hi : i < cnt k) : (k, i) ∈ cellList :=
  List.mem_flatMap.mpr ⟨k, List.mem_range.mpr hk, List.mem_map.mpr ⟨i, List.mem_range.mpr hi, rfl⟩⟩
theorem cells_nodup : cellList.Nodup := by decide +kernel
theorem wld_pos {k i : Nat} (hk : k < 63) (hi : i < cnt k) : ∃ q0 : Nat, cellList[q0]? = some (k, i) := List.getElem?_of_mem (mem_cells hk hi)
theorem wld_get {ad : AD} {aC : Nat → ClassId} {σ : ST} {q0 k i : Nat} (h : cellList[q0]? = some (k, i)) : (wld ad aC σ)[q0]? = some (ad k i, cel ad aC σ k i) := by
  unfold wld
  rw [List.getElem?_map, h]
  rfl
theorem cel_other {ad : AD} {aC : Nat → ClassId} {σ σ' : ST} {a b : Nat} (h1 : σ'.1 a b = σ.1 a b) (h2 : σ'.2 a b = σ.2 a b) : cel ad aC σ' a b = cel ad aC σ a b := by
  unfold cel
  split
  · have e : (fun f t => fv ad σ' a b f t) = (fun f t => fv ad σ a b f t) := by
      funext f t
      unfold fv
      rw [h1, h2]
    rw [e]
  · congr 3
    unfold arc
    rw [h1, h2]
theorem nodup_pos {α : Type} : ∀ {l : List α} {i j : Nat} {a : α}, l.Nodup → l[i]? = some a → l[j]? = some a → i = j
  | [], i, j, a, _, h, _ => by simp at h
  | b :: l, i, j, a, hn, h1, h2 => by
    obtain ⟨n1, n2⟩ := List.nodup_cons.mp hn
    cases i with
    | zero =>
      cases j with
      | zero => rfl
      | succ j =>
        rw [List.getElem?_cons_zero] at h1
        rw [List.getElem?_cons_succ] at h2
        cases h1
        exact absurd (List.mem_of_getElem? h2) n1
    | succ i =>
      rw [List.getElem?_cons_succ] at h1
      cases j with
      | zero =>
        rw [List.getElem?_cons_zero] at h2
        cases h2
        exact absurd (List.mem_of_getElem? h1) n1
      | succ j =>
        rw [List.getElem?_cons_succ] at h2
        rw [nodup_pos n2 h1 h2]
theorem wld_set {ad : AD} {aC : Nat → ClassId} {σ σ' : ST} {q0 k i : Nat} {E : va_E} (h : cellList[q0]? = some (k, i)) (hσ : ∀ a b : Nat, ¬ (a = k ∧ b = i) → σ'.1 a b = σ.1 a b ∧ σ'.2 a b = σ.2 a b) (e : cel ad aC σ' k i = E) : (wld ad aC σ).set q0 (ad k i, E) = wld ad aC σ' := by
  have hl : q0 < cellList.length := (List.getElem?_eq_some_iff.mp h).1
  apply List.ext_getElem?
  intro j
  by_cases hj : j = q0
  · subst hj
    rw [List.getElem?_set_self (by simpa [wld] using hl), wld_get h, e]
  · rw [List.getElem?_set_ne (Ne.symm hj)]
    unfold wld
    rw [List.getElem?_map, List.getElem?_map]
    cases hc : cellList[j]? with
    | none => rfl
    | some q =>
      have hq : ¬ (q.1 = k ∧ q.2 = i) := by
        rintro ⟨e1, e2⟩
        have hq' : q = (k, i) := Prod.ext e1 e2
        rw [hq'] at hc
        exact hj (nodup_pos cells_nodup hc h)
      obtain ⟨z1, z2⟩ := hσ q.1 q.2 hq
      show some (ad q.1 q.2, cel ad aC σ q.1 q.2) = some (ad q.1 q.2, cel ad aC σ' q.1 q.2)
      rw [cel_other z1 z2]
