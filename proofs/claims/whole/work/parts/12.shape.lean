/-! the world of the law: which cell is what, in the order in which they are made; κ the instrument, tl whether the Tally is there -/
def wd : Nat → Nat
  | 0 => 10
  | 1 => 48
  | 2 => 40
  | 3 => 7
  | _ => 80
def ciK : Nat → Nat
  | 0 => 0
  | 1 => 5
  | 2 => 7
  | 3 => 3
  | _ => 4
def clK : Nat → String
  | 0 => RX0
  | 1 => RX6
  | 2 => RX8
  | 3 => RX4
  | _ => RX5
def shT (κ : Nat) (tl : Bool) : List Shp := match tl with
  | false => []
  | true => [.inr (6, [2, 2, 2, 2, 41, 0]), .inl (0, 301), .inl (0, 301), .inl (0, 301), .inl (0, wd κ * 301), .inl (0, wd κ * 301)]
def shW (κ : Nat) (tl : Bool) : List Shp := [.inr (8, [0, 4, 17, match tl with | false => 1 | true => 38]),
  .inr (ciK κ, [5, 0, 13, 14, 15, 16, 0]),
  .inr (1, [6, 7, 8, 9, 10, 11, 12, 0]), .inl (0, 10), .inl (0, 40), .inl (0, 40), .inl (0, 40), .inl (0, 40), .inl (0, 40), .inl (0, 120),
  .inl (0, 40), .inl (0, 40 * wd κ), .inl (0, 40 * wd κ), .inl (0, 40 * wd κ),
  .inr (2, [0, 19, 18, 0, 0, 0]), .inl (0, 40), .inl (0, 40 * wd κ),
  .inr (9, [0, 0, 21, 22, 23, 24, 25, 26, 27, 0, 28, 29, 30, 31, 32, 33, 34, 35, 36, 37]), .inl (0, 40), .inl (0, 40), .inl (0, 40), .inl (0, 40), .inl (0, 120), .inl (0, 40), .inl (0, 10), .inl (0, 40), .inl (0, 3200), .inl (0, 3200), .inl (0, 3200), .inl (0, 3200), .inl (0, 40), .inl (1, 3200), .inl (0, 48160), .inl (0, 301), .inl (0, 301)] ++ shT κ tl
theorem k5 {κ : Nat} (h : κ < 5) {P : Nat → Prop} (h0 : P 0) (h1 : P 1) (h2 : P 2) (h3 : P 3) (h4 : P 4) : P κ := by
  match κ, h with
  | 0, _ => exact h0
  | 1, _ => exact h1
  | 2, _ => exact h2
  | 3, _ => exact h3
  | 4, _ => exact h4
theorem hcP {κ : Nat} (h : κ < 5) : vwCl[ciK κ]? = some (clK κ, TX0, 7) := k5 (P := fun κ => vwCl[ciK κ]? = some (clK κ, TX0, 7)) h rfl rfl rfl rfl rfl
theorem uwP {κ : Nat} (h : κ < 5) : ∀ w ∈ u_ws (clK κ) TX0 7, w ∈ ALL := k5 (P := fun κ => ∀ w ∈ u_ws (clK κ) TX0 7, w ∈ ALL) h uw_X0 uw_X6 uw_X8 uw_X4 uw_X5
theorem iniP {κ : Nat} (h : κ < 5) : Cond.initialized (clK κ) ∈ ALL := k5 (P := fun κ => Cond.initialized (clK κ) ∈ ALL) h al_4 al_6 al_7 al_8 al_9
