abbrev Mem : Type := Nat → Nat → Int
def iN (x : Int) : Int32 := Int32.ofInt x
def jN (x : Int) : Int64 := Int64.ofInt x
def rg (x : Int) : Prop := -2147483648 ≤ x ∧ x ≤ 2147483647
def rgL (x : Int) : Prop := -9223372036854775808 ≤ x ∧ x ≤ 9223372036854775807
def inb (x : Int) (n : Nat) : Prop := 0 ≤ x ∧ x < (n : Int) ∧ x ≤ 2147483647
def b01 (x : Int) : Prop := x = 0 ∨ x = 1
def up2 (σ : Mem) (k j : Nat) (v : Int) : Mem := fun a b => if a = k then (if b = j then v else σ a b) else σ a b
theorem rg_c (x : Int) (h : (decide (-2147483648 ≤ x) && decide (x ≤ 2147483647)) = true) : rg x := by
  simp only [Bool.and_eq_true, decide_eq_true_eq] at h
  exact h
theorem inb_c (x : Int) (n : Nat) (h : (decide (0 ≤ x) && (decide (x < (n : Int)) && decide (x ≤ 2147483647))) = true) : inb x n := by
  simp only [Bool.and_eq_true, decide_eq_true_eq] at h
  exact h
theorem inb.rg {x : Int} {n : Nat} (h : inb x n) : rg x := ⟨by have := h.1; omega, h.2.2⟩
theorem iN_add (a b : Int) : iN a + iN b = iN (a + b) := (Int32.ofInt_add a b).symm
theorem iN_sub (a b : Int) : iN a - iN b = iN (a - b) := (Int32.ofInt_sub a b).symm
theorem iN_mul (a b : Int) : iN a * iN b = iN (a * b) := (Int32.ofInt_mul a b).symm
theorem iN_toInt {x : Int} (h : rg x) : (iN x).toInt = x := Int32.toInt_ofInt_of_le (by have := h.1; omega) (by have := h.2; omega)
theorem iN_of (x : Int32) : iN x.toInt = x := Int32.ofInt_toInt x
theorem rg_toInt (x : Int32) : rg x.toInt := ⟨Int32.le_toInt x, by have := Int32.toInt_lt x; omega⟩
theorem iN_lt {a b : Int} (ha : rg a) (hb : rg b) : iN a < iN b ↔ a < b := by rw [Int32.lt_iff_toInt_lt, iN_toInt ha, iN_toInt hb]
theorem iN_le {a b : Int} (ha : rg a) (hb : rg b) : iN a ≤ iN b ↔ a ≤ b := by rw [Int32.le_iff_toInt_le, iN_toInt ha, iN_toInt hb]
theorem iN_eq {a b : Int} (ha : rg a) (hb : rg b) : iN a = iN b ↔ a = b := by rw [← Int32.toInt_inj, iN_toInt ha, iN_toInt hb]
abbrev Fld : Type := Nat
abbrev Shp : Type := (Nat × Nat) ⊕ (Nat × List Fld)
theorem up2_k {σ : Mem} {k j : Nat} {v : Int} {a : Nat} (h : a ≠ k) : up2 σ k j v a = σ a := by
  funext b
  simp [up2, h]
def tb_notes (j : Nat) : Int := ([3, 3, 1, 1, 2] : List Int).getD j 0
def tb_from (j : Nat) : Int := ([0, 1, 0, 0, 0, 0, 0, 0, 0, 0] : List Int).getD j 0
def tb_to (j : Nat) : Int := ([100, 2000, 200, 127, 127, 100, 127, 127, 127, 127] : List Int).getD j 0
def tb_part (j : Nat) : Int := ([12, 19, 24, 28, 31, 34, 36, 38, 40] : List Int).getD j 0
def andI (x y : Int) : Int := (iN x &&& iN y).toInt
def shrI (x y : Int) : Int := (iN x >>> (iN y &&& 31)).toInt
def ushI (x y : Int) : Int := ((iN x).toUInt32 >>> ((iN y).toUInt32 &&& Int32.toUInt32 31)).toInt32.toInt
def orI (x y : Int) : Int := (iN x ||| iN y).toInt
def wd : Nat → Nat
  | 0 => 10
  | 1 => 48
  | 2 => 40
  | 3 => 7
  | _ => 80
def ciK : Nat → Nat
  | 0 => 0
  | 1 => 5
  | 2 => 7
  | 3 => 3
  | _ => 4
def shT (κ : Nat) (tl : Bool) : List Shp := match tl with
  | false => []
  | true => [.inr (6, [2, 2, 2, 2, 41, 0]), .inl (0, 301), .inl (0, 301), .inl (0, 301), .inl (0, wd κ * 301), .inl (0, wd κ * 301)]
def shW (κ : Nat) (tl : Bool) : List Shp := [.inr (8, [0, 4, 17, match tl with | false => 1 | true => 38]),
  .inr (ciK κ, [5, 0, 13, 14, 15, 16, 0]),
  .inr (1, [6, 7, 8, 9, 10, 11, 12, 0]), .inl (0, 10), .inl (0, 40), .inl (0, 40), .inl (0, 40), .inl (0, 40), .inl (0, 40), .inl (0, 120),
  .inl (0, 40), .inl (0, 40 * wd κ), .inl (0, 40 * wd κ), .inl (0, 40 * wd κ),
  .inr (2, [0, 19, 18, 0, 0, 0]), .inl (0, 40), .inl (0, 40 * wd κ),
  .inr (9, [0, 0, 21, 22, 23, 24, 25, 26, 27, 0, 28, 29, 30, 31, 32, 33, 34, 35, 36, 37]), .inl (0, 40), .inl (0, 40), .inl (0, 40), .inl (0, 40), .inl (0, 120), .inl (0, 40), .inl (0, 10), .inl (0, 40), .inl (0, 3200), .inl (0, 3200), .inl (0, 3200), .inl (0, 3200), .inl (0, 40), .inl (1, 3200), .inl (0, 48160), .inl (0, 301), .inl (0, 301)] ++ shT κ tl
theorem k5 {κ : Nat} (h : κ < 5) {P : Nat → Prop} (h0 : P 0) (h1 : P 1) (h2 : P 2) (h3 : P 3) (h4 : P 4) : P κ := by
  match κ, h with
  | 0, _ => exact h0
  | 1, _ => exact h1
  | 2, _ => exact h2
  | 3, _ => exact h3
  | 4, _ => exact h4
