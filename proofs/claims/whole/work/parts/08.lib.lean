/-! numbers: a machine word is the image of an Int -/
abbrev Mem : Type := Nat → Nat → Int
def iN (x : Int) : Int32 := Int32.ofInt x
def jN (x : Int) : Int64 := Int64.ofInt x
def rg (x : Int) : Prop := -2147483648 ≤ x ∧ x ≤ 2147483647
def rgL (x : Int) : Prop := -9223372036854775808 ≤ x ∧ x ≤ 9223372036854775807
def inb (x : Int) (n : Nat) : Prop := 0 ≤ x ∧ x < (n : Int) ∧ x ≤ 2147483647
def b01 (x : Int) : Prop := x = 0 ∨ x = 1
/-- one place of one cell becomes v -/
def up2 (σ : Mem) (k j : Nat) (v : Int) : Mem := fun a b => if a = k then (if b = j then v else σ a b) else σ a b
theorem rg_c (x : Int) (h : (decide (-2147483648 ≤ x) && decide (x ≤ 2147483647)) = true) : rg x := by
  simp only [Bool.and_eq_true, decide_eq_true_eq] at h
  exact h
theorem inb_c (x : Int) (n : Nat) (h : (decide (0 ≤ x) && (decide (x < (n : Int)) && decide (x ≤ 2147483647))) = true) : inb x n := by
  simp only [Bool.and_eq_true, decide_eq_true_eq] at h
  exact h
theorem inb.rg {x : Int} {n : Nat} (h : inb x n) : rg x := ⟨by have := h.1; omega, h.2.2⟩
theorem iN_add (a b : Int) : iN a + iN b = iN (a + b) := (Int32.ofInt_add a b).symm
theorem iN_sub (a b : Int) : iN a - iN b = iN (a - b) := (Int32.ofInt_sub a b).symm
theorem iN_mul (a b : Int) : iN a * iN b = iN (a * b) := (Int32.ofInt_mul a b).symm
theorem iN_neg (a : Int) : - iN a = iN (-a) := (Int32.ofInt_neg a).symm
theorem jN_add (a b : Int) : jN a + jN b = jN (a + b) := (Int64.ofInt_add a b).symm
theorem jN_sub (a b : Int) : jN a - jN b = jN (a - b) := (Int64.ofInt_sub a b).symm
theorem jN_mul (a b : Int) : jN a * jN b = jN (a * b) := (Int64.ofInt_mul a b).symm
theorem iN_toInt {x : Int} (h : rg x) : (iN x).toInt = x := Int32.toInt_ofInt_of_le (by have := h.1; omega) (by have := h.2; omega)
theorem jN_toInt {x : Int} (h : rgL x) : (jN x).toInt = x := Int64.toInt_ofInt_of_le (by have := h.1; omega) (by have := h.2; omega)
theorem iN_of (x : Int32) : iN x.toInt = x := Int32.ofInt_toInt x
theorem rg_toInt (x : Int32) : rg x.toInt := ⟨Int32.le_toInt x, by have := Int32.toInt_lt x; omega⟩
theorem iN_lt {a b : Int} (ha : rg a) (hb : rg b) : iN a < iN b ↔ a < b := by rw [Int32.lt_iff_toInt_lt, iN_toInt ha, iN_toInt hb]
theorem iN_le {a b : Int} (ha : rg a) (hb : rg b) : iN a ≤ iN b ↔ a ≤ b := by rw [Int32.le_iff_toInt_le, iN_toInt ha, iN_toInt hb]
theorem iN_eq {a b : Int} (ha : rg a) (hb : rg b) : iN a = iN b ↔ a = b := by rw [← Int32.toInt_inj, iN_toInt ha, iN_toInt hb]
theorem jN_lt {a b : Int} (ha : rgL a) (hb : rgL b) : jN a < jN b ↔ a < b := by rw [Int64.lt_iff_toInt_lt, jN_toInt ha, jN_toInt hb]
theorem jN_eq {a b : Int} (ha : rgL a) (hb : rgL b) : jN a = jN b ↔ a = b := by rw [← Int64.toInt_inj, jN_toInt ha, jN_toInt hb]
theorem iN_0 : iN 0 = 0 := rfl
theorem iN_clamp {a : Int} (ha : rg a) : (iN a).toNatClampNeg = a.toNat := by
  show (iN a).toInt.toNat = a.toNat
  rw [iN_toInt ha]
theorem iN_in {a : Int} {n : Nat} (h : inb a n) : vp_in (iN a) n := by
  rw [vp_in_iff, iN_toInt h.rg]
  exact ⟨h.1, h.2.1⟩
theorem iN_j {a : Int} (ha : rg a) : (iN a).toInt64 = jN a := by
  apply Int64.toInt_inj.mp
  rw [Int32.toInt_toInt64, iN_toInt ha, jN_toInt ⟨by have := ha.1; omega, by have := ha.2; omega⟩]
theorem iN_len (n : Nat) : Int32.ofNat n = iN (n : Int) := rfl
/-! shapes: what a cell is; the world as a list of cells, all numbers in one memory -/
/-- a field: 0 a number, 1 null, 2 a reference to the cell whose number stands in the memory, q + 3 a reference to the cell q -/
abbrev Fld : Type := Nat
abbrev Shp : Type := (Nat × Nat) ⊕ (Nat × List Fld)
abbrev Gt : Type := ClassId × ClassId × va_G
def gA (G : Gt) (t : Nat) : ClassId := if t = 0 then G.1 else G.2.1
def fv1 (ad : Nat → Nat) (σ : Mem) (k j : Nat) (f : Fld) : Value := if f = 0 then .int (iN (σ k j)) else if f = 1 then .null else if f = 2 then .ref (ad (σ k j).toNat) else .ref (ad (f - 3))
def fv (ad : Nat → Nat) (σ : Mem) (k : Nat) : Nat → List Fld → List Value
  | _, [] => []
  | j, f :: r => fv1 ad σ k j f :: fv ad σ k (j + 1) r
def ce (G : Gt) (ad : Nat → Nat) (σ : Mem) (k : Nat) : Shp → va_E
  | .inl (t, n) => .inl (gA G t, n, .inl (fun j => iN (σ k j)))
  | .inr (ci, fs) => .inr (ci, fv ad σ k 0 fs)
def wl (G : Gt) (ad : Nat → Nat) (σ : Mem) : Nat → List Shp → va_W
  | _, [] => []
  | k, c :: r => (ad k, ce G ad σ k c) :: wl G ad σ (k + 1) r
theorem fv_get (ad : Nat → Nat) (σ : Mem) (k : Nat) (fs : List Fld) (i j : Nat) : (fv ad σ k i fs)[j]? = (fs[j]?).map (fv1 ad σ k (i + j)) := by
  induction fs generalizing i j with
  | nil => simp [fv]
  | cons f r ih =>
    cases j with
    | zero => simp [fv]
    | succ j => simp only [fv, List.getElem?_cons_succ, ih]; rw [show i + 1 + j = i + (j + 1) by omega]
theorem fv_len (ad : Nat → Nat) (σ : Mem) (k : Nat) (fs : List Fld) (i : Nat) : (fv ad σ k i fs).length = fs.length := by
  induction fs generalizing i with
  | nil => rfl
  | cons f r ih => simp [fv, ih]
theorem wl_get (G : Gt) (ad : Nat → Nat) (σ : Mem) (sh : List Shp) (i k : Nat) : (wl G ad σ i sh)[k]? = (sh[k]?).map (fun c => (ad (i + k), ce G ad σ (i + k) c)) := by
  induction sh generalizing i k with
  | nil => simp [wl]
  | cons c r ih =>
    cases k with
    | zero => simp [wl]
    | succ k => simp only [wl, List.getElem?_cons_succ, ih]; rw [show i + 1 + k = i + (k + 1) by omega]
theorem wl_len (G : Gt) (ad : Nat → Nat) (σ : Mem) (sh : List Shp) (i : Nat) : (wl G ad σ i sh).length = sh.length := by
  induction sh generalizing i with
  | nil => rfl
  | cons c r ih => simp [wl, ih]
theorem up2_k {σ : Mem} {k j : Nat} {v : Int} {a : Nat} (h : a ≠ k) : up2 σ k j v a = σ a := by
  funext b
  simp [up2, h]
theorem ce_ne (G : Gt) (ad : Nat → Nat) {σ τ : Mem} {k : Nat} (h : τ k = σ k) (c : Shp) : ce G ad τ k c = ce G ad σ k c := by
  rcases c with ⟨t, n⟩ | ⟨ci, fs⟩
  · simp [ce, h]
  · simp only [ce]
    congr 2
    apply List.ext_getElem?
    intro j
    rw [fv_get, fv_get]
    congr 1
    funext f
    simp only [fv1, h]
theorem wl_set (G : Gt) (ad : Nat → Nat) {σ τ : Mem} {sh : List Shp} {k : Nat} {c : Shp} (hk : sh[k]? = some c) (h : ∀ a, a ≠ k → τ a = σ a) : (wl G ad σ 0 sh).set k (ad k, ce G ad τ k c) = wl G ad τ 0 sh := by
  apply List.ext_getElem?
  intro i
  rw [List.getElem?_set, wl_get, wl_get, wl_len]
  have hl : k < sh.length := (List.getElem?_eq_some_iff.mp hk).1
  by_cases hi : k = i
  · subst hi
    rw [if_pos rfl, if_pos hl, hk, Option.map_some, Nat.zero_add]
  · rw [if_neg hi]
    congr 1
    funext c
    simp only [Nat.zero_add]
    rw [ce_ne G ad (h i (fun e => hi e.symm))]
theorem fv_set (ad : Nat → Nat) {σ : Mem} {k : Nat} {fs : List Fld} {j : Nat} {v : Int} (hj : fs[j]? = some 0) : (fv ad σ k 0 fs).set j (.int (iN v)) = fv ad (up2 σ k j v) k 0 fs := by
  apply List.ext_getElem?
  intro i
  have hl : j < fs.length := (List.getElem?_eq_some_iff.mp hj).1
  rw [List.getElem?_set, fv_get, fv_get, fv_len]
  by_cases hi : j = i
  · subst hi
    rw [if_pos rfl, if_pos hl, hj, Option.map_some]
    simp [fv1, up2]
  · rw [if_neg hi]
    congr 1
    funext f
    have hi' : i ≠ j := fun e => hi e.symm
    simp [fv1, up2, hi']
theorem fv_setr (ad : Nat → Nat) {σ : Mem} {k : Nat} {fs : List Fld} {j : Nat} {q : Nat} (hj : fs[j]? = some 2) : (fv ad σ k 0 fs).set j (.ref (ad q)) = fv ad (up2 σ k j (q : Int)) k 0 fs := by
  apply List.ext_getElem?
  intro i
  have hl : j < fs.length := (List.getElem?_eq_some_iff.mp hj).1
  rw [List.getElem?_set, fv_get, fv_get, fv_len]
  by_cases hi : j = i
  · subst hi
    rw [if_pos rfl, if_pos hl, hj, Option.map_some]
    simp [fv1, up2]
  · rw [if_neg hi]
    congr 1
    funext f
    have hi' : i ≠ j := fun e => hi e.symm
    simp [fv1, up2, hi']
theorem ar_set {σ : Mem} {k j : Nat} {v : Int} : upd (fun i => iN (σ k i)) j (iN v) = (fun i => iN (up2 σ k j v k i)) := by
  funext i
  by_cases hi : i = j
  · subst hi
    simp [upd, up2]
  · simp [upd, up2, hi]
/-- the cells that a method may change -/
def Aw (ad : Nat → Nat) (n sz : Nat) : Nat → Prop := fun q => (∃ k, k < n ∧ ad k = q) ∨ sz ≤ q
theorem Aw_mono {ad : Nat → Nat} {n sz sz' : Nat} (h : sz ≤ sz') : ∀ q, Aw ad n sz' q → Aw ad n sz q := fun q hq => hq.elim Or.inl (fun e => Or.inr (Nat.le_trans h e))
theorem Aw_new {ad : Nat → Nat} {n sz : Nat} : ∀ q, sz ≤ q → Aw ad n sz q := fun _ h => Or.inr h
/-- the world: all cells of the shape sh, at the addresses ad, with the numbers σ -/
def Wd (G : Gt) (sh : List Shp) (ad : Nat → Nat) (σ : Mem) (A : Nat → Prop) (H0 H : Heap) (locs : List Loc) : Prop :=
  va_P G.2.2 vwCl (wl G ad σ 0 sh) H ∧ va_D A (wl G ad σ 0 sh) ∧ va_S A H0 H locs
def Kx (G : Gt) (s : State) : Prop := va_K G.2.2 vwCl [(G.1, .int), (G.2.1, .boolean)] s
