theorem tn0 : Int.toNat 0 = 0 := rfl
theorem tn1 : Int.toNat 1 = 1 := rfl
theorem tn2 : Int.toNat 2 = 2 := rfl
theorem tn3 : Int.toNat 3 = 3 := rfl
theorem tn4 : Int.toNat 4 = 4 := rfl
theorem tn5 : Int.toNat 5 = 5 := rfl
theorem tn6 : Int.toNat 6 = 6 := rfl
theorem tn7 : Int.toNat 7 = 7 := rfl
theorem tn8 : Int.toNat 8 = 8 := rfl
theorem tn9 : Int.toNat 9 = 9 := rfl
/-! the piece, as a memory ε of its own: cells 2 .. 9 -/
def SP (σ ε : Mem) : Prop := σ 2 = ε 2 ∧ σ 3 = ε 3 ∧ σ 4 = ε 4 ∧ σ 5 = ε 5 ∧ σ 6 = ε 6 ∧ σ 7 = ε 7 ∧ σ 8 = ε 8 ∧ σ 9 = ε 9
def nE (ε : Mem) : Nat := (ε 2 7).toNat
def pit (ε : Mem) (i j : Nat) : Int := ε 9 (3 * i + j)
/-- an event is as the document allows it -/
def EV (κ : Nat) (ε : Mem) (i : Nat) : Prop := (ε 4 i = 0 ∨ (ε 4 i = 1 ∧ κ = 0)) ∧ (0 ≤ ε 5 i ∧ ε 5 i ≤ 100000) ∧ (1 ≤ ε 6 i ∧ ε 6 i ≤ 1000) ∧ (1 ≤ ε 7 i ∧ ε 7 i ≤ 3) ∧ (κ = 2 ∨ κ = 3 → ε 7 i = 1) ∧ (κ = 4 → ε 7 i ≤ 2) ∧ (ε 8 i = -2 ∨ (0 ≤ ε 8 i ∧ ε 8 i ≤ 99)) ∧ (0 ≤ pit ε i 0 ∧ pit ε i 0 ≤ 127) ∧ (-1 ≤ pit ε i 1 ∧ pit ε i 1 ≤ 127) ∧ (-1 ≤ pit ε i 2 ∧ pit ε i 2 ≤ 127) ∧ (ε 7 i = 1 → pit ε i 1 = -1) ∧ (2 ≤ ε 7 i → pit ε i 0 < pit ε i 1) ∧ (ε 7 i ≤ 2 → pit ε i 2 = -1) ∧ (ε 7 i = 3 → pit ε i 1 < pit ε i 2)
def VE (κ : Nat) (ε : Mem) : Prop := (0 ≤ ε 2 7 ∧ ε 2 7 ≤ 40) ∧ (∀ i : Nat, (i : Int) < ε 2 7 → EV κ ε i) ∧ (∀ w, w < 10 → tb_from w ≤ ε 3 w ∧ ε 3 w ≤ tb_to w)
theorem VE.b0 {κ : Nat} {ε : Mem} (h : VE κ ε) : 0 ≤ ε 3 0 ∧ ε 3 0 ≤ 100 := h.2.2 0 (by decide)
theorem VE.b1 {κ : Nat} {ε : Mem} (h : VE κ ε) : 1 ≤ ε 3 1 ∧ ε 3 1 ≤ 2000 := h.2.2 1 (by decide)
theorem VE.b2 {κ : Nat} {ε : Mem} (h : VE κ ε) : 0 ≤ ε 3 2 ∧ ε 3 2 ≤ 200 := h.2.2 2 (by decide)
theorem VE.b3 {κ : Nat} {ε : Mem} (h : VE κ ε) : 0 ≤ ε 3 3 ∧ ε 3 3 ≤ 127 := h.2.2 3 (by decide)
theorem VE.b4 {κ : Nat} {ε : Mem} (h : VE κ ε) : 0 ≤ ε 3 4 ∧ ε 3 4 ≤ 127 := h.2.2 4 (by decide)
theorem VE.b5 {κ : Nat} {ε : Mem} (h : VE κ ε) : 0 ≤ ε 3 5 ∧ ε 3 5 ≤ 100 := h.2.2 5 (by decide)
theorem VE.bw {κ : Nat} {ε : Mem} (h : VE κ ε) (w : Nat) (hw : w < 10) : 0 ≤ ε 3 w ∧ ε 3 w ≤ 2000 := by
  have q := h.2.2 w hw
  match w, hw with
  | 0, _ => exact ⟨q.1, Int.le_trans q.2 (by decide)⟩
  | 1, _ => exact ⟨Int.le_trans (by decide) q.1, q.2⟩
  | 2, _ => exact ⟨q.1, Int.le_trans q.2 (by decide)⟩
  | 3, _ => exact ⟨q.1, Int.le_trans q.2 (by decide)⟩
  | 4, _ => exact ⟨q.1, Int.le_trans q.2 (by decide)⟩
  | 5, _ => exact ⟨q.1, Int.le_trans q.2 (by decide)⟩
  | 6, _ => exact ⟨q.1, Int.le_trans q.2 (by decide)⟩
  | 7, _ => exact ⟨q.1, Int.le_trans q.2 (by decide)⟩
  | 8, _ => exact ⟨q.1, Int.le_trans q.2 (by decide)⟩
  | 9, _ => exact ⟨q.1, Int.le_trans q.2 (by decide)⟩
theorem VE.ev {κ : Nat} {ε : Mem} (h : VE κ ε) {v : Int} (h0 : 0 ≤ v) (h1 : v < ε 2 7) : EV κ ε v.toNat := h.2.1 _ (by omega)
section PIECE
variable {κ : Nat} {σ ε : Mem} {post : Int → Prop}
theorem s_X1_has (hS : SP σ ε) (hV : VE κ ε) {v : Int} (hv : rg v) (h : post (if 0 ≤ v ∧ v < ε 2 7 then 1 else 0)) : w_X1_has σ v post := by
  obtain ⟨h2, -⟩ := hS
  have hn := hV.1
  simp only [w_X1_has_B17, w_X1_has_B16, w_X1_has, rg, h2] at *
  refine ⟨hv, fun a => ?_, fun a => ⟨hv, by omega, fun b => ?_, fun b => ?_⟩⟩
  · rw [if_neg (by omega)] at h; exact ⟨Or.inl rfl, h⟩
  · rw [if_neg (by omega)] at h; exact ⟨Or.inl rfl, h⟩
  · rw [if_pos (by omega)] at h; exact ⟨Or.inr rfl, h⟩
theorem s_X1_boundOf (hS : SP σ ε) {v : Int} (h0 : 0 ≤ v) (h1 : v < 10) (h : post (ε 3 v.toNat)) : w_X1_boundOf σ v post := by
  obtain ⟨h2, h3, -⟩ := hS
  simp only [w_X1_boundOf_B23, w_X1_boundOf_B22, w_X1_boundOf, rg, inb, h3]
  repeat' (first | apply And.intro | intro _ | omega | exact h)
theorem s_X1_handOf (hS : SP σ ε) (hV : VE κ ε) {v : Int} (h0 : 0 ≤ v) (h1 : v < ε 2 7) (h : post (ε 4 v.toNat)) : w_X1_handOf σ v post := by
  obtain ⟨h2, h3, h4, h5, h6, h7, h8, h9⟩ := hS
  have hn := hV.1
  simp only [w_X1_handOf_B22, w_X1_handOf_B21, w_X1_handOf, rg, inb, h2, h4]
  repeat' (first | apply And.intro | intro _ | omega | exact h)
theorem s_X1_timeOf (hS : SP σ ε) (hV : VE κ ε) {v : Int} (h0 : 0 ≤ v) (h1 : v < ε 2 7) (h : post (ε 5 v.toNat)) : w_X1_timeOf σ v post := by
  obtain ⟨h2, h3, h4, h5, h6, h7, h8, h9⟩ := hS
  have hn := hV.1
  simp only [w_X1_timeOf_B22, w_X1_timeOf_B21, w_X1_timeOf, rg, inb, h2, h5]
  repeat' (first | apply And.intro | intro _ | omega | exact h)
theorem s_X1_lengthOf (hS : SP σ ε) (hV : VE κ ε) {v : Int} (h0 : 0 ≤ v) (h1 : v < ε 2 7) (h : post (ε 6 v.toNat)) : w_X1_lengthOf σ v post := by
  obtain ⟨h2, h3, h4, h5, h6, h7, h8, h9⟩ := hS
  have hn := hV.1
  simp only [w_X1_lengthOf_B22, w_X1_lengthOf_B21, w_X1_lengthOf, rg, inb, h2, h6]
  repeat' (first | apply And.intro | intro _ | omega | exact h)
theorem s_X1_sizeOf (hS : SP σ ε) (hV : VE κ ε) {v : Int} (h0 : 0 ≤ v) (h1 : v < ε 2 7) (h : post (ε 7 v.toNat)) : w_X1_sizeOf σ v post := by
  obtain ⟨h2, h3, h4, h5, h6, h7, h8, h9⟩ := hS
  have hn := hV.1
  simp only [w_X1_sizeOf_B22, w_X1_sizeOf_B21, w_X1_sizeOf, rg, inb, h2, h7]
  repeat' (first | apply And.intro | intro _ | omega | exact h)
theorem s_X1_pinOf (hS : SP σ ε) (hV : VE κ ε) {v : Int} (h0 : 0 ≤ v) (h1 : v < ε 2 7) (h : post (ε 8 v.toNat)) : w_X1_pinOf σ v post := by
  obtain ⟨h2, h3, h4, h5, h6, h7, h8, h9⟩ := hS
  have hn := hV.1
  simp only [w_X1_pinOf_B23, w_X1_pinOf_B21, w_X1_pinOf, rg, inb, h2, h8]
  repeat' (first | apply And.intro | intro _ | omega | exact h)
theorem s_X1_pitchOf (hS : SP σ ε) (hV : VE κ ε) {v u : Int} (h0 : 0 ≤ v) (h1 : v < ε 2 7) (h3 : 0 ≤ u) (h4 : u < 3) (h : post (pit ε v.toNat u.toNat)) : w_X1_pitchOf σ v u post := by
  obtain ⟨h2, -, -, -, -, -, -, h9⟩ := hS
  have hn := hV.1
  have e : (v * 3 + u).toNat = 3 * v.toNat + u.toNat := by omega
  simp only [w_X1_pitchOf_B45, w_X1_pitchOf_B26, w_X1_pitchOf_B25, w_X1_pitchOf, rg, inb, h2, h9, e]
  repeat' (first | apply And.intro | intro _ | omega | exact h)
theorem s_X1_lowestOf (hS : SP σ ε) (hV : VE κ ε) {v : Int} (h0 : 0 ≤ v) (h1 : v < ε 2 7) (h : post (pit ε v.toNat 0)) : w_X1_lowestOf σ v post := by
  obtain ⟨h2, -, -, -, -, -, -, h9⟩ := hS
  have hn := hV.1
  have e : (v * 3).toNat = 3 * v.toNat + 0 := by omega
  simp only [w_X1_lowestOf_B24, w_X1_lowestOf_B23, w_X1_lowestOf, rg, inb, h2, h9, e]
  repeat' (first | apply And.intro | intro _ | omega | exact h)
theorem s_X1_highestOf (hS : SP σ ε) (hV : VE κ ε) {v : Int} (h0 : 0 ≤ v) (h1 : v < ε 2 7) (h : post (pit ε v.toNat ((ε 7 v.toNat).toNat - 1))) : w_X1_highestOf σ v post := by
  obtain ⟨h2, -, -, -, -, h7, -, h9⟩ := hS
  have hn := hV.1
  have hs := (hV.ev h0 h1).2.2.2.1
  have e : (v * 3 + ε 7 v.toNat - 1).toNat = 3 * v.toNat + ((ε 7 v.toNat).toNat - 1) := by omega
  simp only [w_X1_highestOf_B52, w_X1_highestOf_B51, w_X1_highestOf_B28, w_X1_highestOf_B27, w_X1_highestOf, rg, inb, h2, h9, h7, e]
  repeat' (first | apply And.intro | intro _ | omega | exact h)
/-- whether the event's notes lie between LOW and HIGH -/
def inC (ε : Mem) (i : Nat) : Prop := ε 3 3 ≤ pit ε i 0 ∧ pit ε i ((ε 7 i).toNat - 1) ≤ ε 3 4
theorem EV.hi {i : Nat} (h : EV κ ε i) : 0 ≤ pit ε i ((ε 7 i).toNat - 1) ∧ pit ε i ((ε 7 i).toNat - 1) ≤ 127 := by
  obtain ⟨-, -, -, h7, -, -, -, p0, p1, p2, q1, q2, q3, q4⟩ := h
  rcases (show ε 7 i = 1 ∨ ε 7 i = 2 ∨ ε 7 i = 3 by omega) with e | e | e <;> rw [e] at q1 q2 q3 q4 ⊢
  · exact p0
  · have := q2 (by decide); exact ⟨by show 0 ≤ pit ε i 1; omega, p1.2⟩
  · have := q2 (by decide); have := q4 rfl; exact ⟨by show 0 ≤ pit ε i 2; omega, p2.2⟩
theorem s_X1_inCompass (hS : SP σ ε) (hV : VE κ ε) {v : Int} (h0 : 0 ≤ v) (h1 : v < ε 2 7) (hT : inC ε v.toNat → post 1) (hF : ¬ inC ε v.toNat → post 0) : w_X1_inCompass σ v post := by
  have hev := hV.ev h0 h1
  have hb3 := hV.b3
  have hb4 := hV.b4
  have hhi := hev.hi
  have hp0 := hev.2.2.2.2.2.2.2.1
  simp only [w_X1_inCompass_B33, w_X1_inCompass_B32, w_X1_inCompass, rg, hS.2.1, tn0, tn1, tn2, tn3, tn4, tn5, tn6, tn7, tn8, tn9]
  refine s_X1_lowestOf hS hV h0 h1 ⟨by omega, ⟨by omega, by omega⟩, fun a => ⟨Or.inl rfl, hF (fun q => ?_)⟩, fun a => ?_⟩
  · have := q.1; omega
  · refine s_X1_highestOf hS hV h0 h1 ⟨by omega, ⟨by omega, by omega⟩, fun b => ⟨Or.inl rfl, hF (fun q => ?_)⟩, fun b => ⟨Or.inr rfl, hT ⟨a, b⟩⟩⟩
    have := q.2; omega
/-- the last before i with x in the row, -1: none -/
def lastH (h : Nat → Int) (x : Int) : Nat → Int
  | 0 => -1
  | i + 1 => if h i = x then (i : Int) else lastH h x i
/-- the first of d from i on with x in the row, -1: none -/
def firstH (h : Nat → Int) (x : Int) : Nat → Nat → Int
  | _, 0 => -1
  | i, d + 1 => if h i = x then (i : Int) else firstH h x (i + 1) d
theorem lastH_spec (h : Nat → Int) (x : Int) (i : Nat) : (lastH h x i = -1 ∧ ∀ j, j < i → h j ≠ x) ∨ ∃ j : Nat, j < i ∧ lastH h x i = j ∧ h j = x ∧ ∀ q, j < q → q < i → h q ≠ x := by
  induction i with
  | zero => exact Or.inl ⟨rfl, fun j hj => absurd hj (Nat.not_lt_zero _)⟩
  | succ i ih =>
    by_cases e : h i = x
    · exact Or.inr ⟨i, Nat.lt_succ_self i, by simp [lastH, e], e, fun q a b => absurd b (by omega)⟩
    · simp only [lastH, if_neg e]
      rcases ih with ⟨a, b⟩ | ⟨j, a, b, c, d⟩
      · exact Or.inl ⟨a, fun j hj => (by rcases Nat.lt_succ_iff_lt_or_eq.mp hj with q | q; exact b j q; subst q; exact e)⟩
      · exact Or.inr ⟨j, by omega, b, c, fun q q1 q2 => (by rcases Nat.lt_succ_iff_lt_or_eq.mp q2 with z | z; exact d q q1 z; subst z; exact e)⟩
theorem firstH_spec (h : Nat → Int) (x : Int) (d i : Nat) : (firstH h x i d = -1 ∧ ∀ j, i ≤ j → j < i + d → h j ≠ x) ∨ ∃ j : Nat, i ≤ j ∧ j < i + d ∧ firstH h x i d = j ∧ h j = x ∧ ∀ q, i ≤ q → q < j → h q ≠ x := by
  induction d generalizing i with
  | zero => exact Or.inl ⟨rfl, fun j a b => absurd b (by omega)⟩
  | succ d ih =>
    by_cases e : h i = x
    · exact Or.inr ⟨i, Nat.le_refl i, by omega, by simp [firstH, e], e, fun q a b => absurd b (by omega)⟩
    · simp only [firstH, if_neg e]
      rcases ih (i + 1) with ⟨a, b⟩ | ⟨j, a1, a, b, c, g⟩
      · refine Or.inl ⟨a, fun j j1 j2 => ?_⟩
        by_cases q : j = i
        · subst q; exact e
        · exact b j (by omega) (by omega)
      · refine Or.inr ⟨j, by omega, by omega, b, c, fun q q1 q2 => ?_⟩
        by_cases z : q = i
        · subst z; exact e
        · exact g q (by omega) q2
theorem EV.h01 {i : Nat} (h : EV κ ε i) : ε 4 i = 0 ∨ ε 4 i = 1 := h.1.elim Or.inl (fun q => Or.inr q.1)
/-- Piece.firstOfHand -/
theorem s_X1_firstOfHand (hS : SP σ ε) (hV : VE κ ε) {x v : Int} (hx : rg x) (h0 : 0 ≤ v) (h1 : v ≤ ε 2 7) (h : post (firstH (ε 4) x v.toNat ((ε 2 7).toNat - v.toNat))) : w_X1_firstOfHand σ x v post := by
  obtain ⟨h2, -, h4, -⟩ := hS
  have hn := hV.1
  refine ⟨by simp only [rg]; omega, ?_⟩
  rw [show max 0 v = v by omega]
  refine lp1 (w_X1_firstOfHand_L6 σ x post) (fun u => 0 ≤ u ∧ u ≤ ε 2 7 ∧ post (firstH (ε 4) x u.toNat ((ε 2 7).toNat - u.toNat))) (fun u => (ε 2 7 - u).toNat) ?_ v ⟨h0, h1, h⟩
  intro n u ⟨u0, u1, hp⟩ ih
  show w_X1_firstOfHand_L6_body σ x post _ u
  simp only [w_X1_firstOfHand_L6_body, h2, h4]
  refine ⟨by simp only [rg]; omega, by simp only [rg]; omega, fun a => ?_, fun a => ?_⟩
  · rw [show (ε 2 7).toNat - u.toNat = 0 by omega] at hp
    exact hp
  · have hd : (ε 2 7).toNat - u.toNat = ((ε 2 7).toNat - (u + 1).toNat) + 1 := by omega
    have he := (hV.ev u0 a).h01
    rw [hd] at hp
    refine ⟨by simp only [inb]; omega, by simp only [rg]; omega, hx, fun b => ?_, fun b => ?_⟩
    · refine ih (u + 1) ⟨by omega, by omega, ?_⟩ (by omega)
      simp only [firstH, if_neg b] at hp
      rw [show (u + 1).toNat = u.toNat + 1 by omega]
      rw [show (u + 1).toNat = u.toNat + 1 by omega] at hp
      exact hp
    · simp only [firstH, if_pos b] at hp
      rw [show ((u.toNat : Nat) : Int) = u by omega] at hp
      exact hp
theorem s_X1_lastOfHand (hS : SP σ ε) (hV : VE κ ε) {x v : Int} (hx : rg x) (h0 : 0 ≤ v) (h1 : v ≤ ε 2 7) (h : post (lastH (ε 4) x v.toNat)) : w_X1_lastOfHand σ x v post := by
  obtain ⟨h2, -, h4, -⟩ := hS
  have hn := hV.1
  refine ⟨by simp only [rg]; omega, by simp only [rg, h2]; omega, ?_⟩
  rw [h2, show min v (ε 2 7) - 1 = v - 1 by omega]
  refine lp1 (w_X1_lastOfHand_L11 σ x post) (fun u => -1 ≤ u ∧ u < ε 2 7 ∧ post (lastH (ε 4) x (u + 1).toNat)) (fun u => (u + 1).toNat) ?_ (v - 1) ⟨by omega, by omega, by rw [show v - 1 + 1 = v by omega]; exact h⟩
  intro n u ⟨u0, u1, hp⟩ ih
  show w_X1_lastOfHand_L11_body σ x post _ u
  simp only [w_X1_lastOfHand_L11_body, h4]
  refine ⟨by simp only [rg]; omega, fun a => ?_, fun a => ?_⟩
  · rw [show (u + 1).toNat = 0 by omega] at hp
    exact hp
  · have he := (hV.ev a u1).h01
    rw [show (u + 1).toNat = u.toNat + 1 by omega] at hp
    refine ⟨by simp only [inb]; omega, by simp only [rg]; omega, hx, fun b => ?_, fun b => ?_⟩
    · refine ih (u + (-1)) ⟨by omega, by omega, ?_⟩ (by omega)
      simp only [lastH, if_neg b] at hp
      rw [show (u + -1 + 1).toNat = u.toNat by omega]
      exact hp
    · simp only [lastH, if_pos b] at hp
      rw [show ((u.toNat : Nat) : Int) = u by omega] at hp
      exact hp
/-- the next, the one before, in the chain -/
def nxt (ε : Mem) (i : Nat) : Int := firstH (ε 4) (ε 4 i) (i + 1) ((ε 2 7).toNat - (i + 1))
def prv (ε : Mem) (i : Nat) : Int := lastH (ε 4) (ε 4 i) i
theorem s_X1_after (hS : SP σ ε) (hV : VE κ ε) {v : Int} (h0 : 0 ≤ v) (h1 : v < ε 2 7) (h : post (nxt ε v.toNat)) : w_X1_after σ v post := by
  have he := (hV.ev h0 h1).h01
  refine s_X1_handOf hS hV h0 h1 (s_X1_firstOfHand hS hV (by simp only [rg]; omega) (by omega) (by omega) ?_)
  rw [show (v + 1).toNat = v.toNat + 1 by omega]
  exact h
theorem s_X1_before (hS : SP σ ε) (hV : VE κ ε) {v : Int} (h0 : 0 ≤ v) (h1 : v < ε 2 7) (h : post (prv ε v.toNat)) : w_X1_before σ v post := by
  have he := (hV.ev h0 h1).h01
  exact s_X1_handOf hS hV h0 h1 (s_X1_lastOfHand hS hV (by simp only [rg]; omega) (by omega) (by omega) h)
/-- whether the pin lets state k -/
def lets (ε : Mem) (i : Nat) (k : Int) : Prop := ε 8 i = -2 ∨ ε 8 i = k
theorem s_X1_allows (hS : SP σ ε) (hV : VE κ ε) {v k : Int} (h0 : 0 ≤ v) (h1 : v < ε 2 7) (hk : rg k) (hT : lets ε v.toNat k → post 1) (hF : ¬ lets ε v.toNat k → post 0) : w_X1_allows σ v k post := by
  have hp := (hV.ev h0 h1).2.2.2.2.2.2.1
  refine s_X1_pinOf hS hV h0 h1 ?_
  simp only [w_X1_allows_B22, w_X1_allows_B17, w_X1_allows]
  refine ⟨by simp only [rg]; omega, fun a => ⟨Or.inr rfl, hT (Or.inl a)⟩, fun a => ⟨by simp only [rg]; omega, hk, fun b => ⟨Or.inl rfl, hF (fun q => q.elim a b)⟩, fun b => ⟨Or.inr rfl, hT (Or.inr b)⟩⟩⟩
/-- how many of the first i are so -/
def cntP (P : Nat → Bool) : Nat → Int
  | 0 => 0
  | i + 1 => cntP P i + (if P i then 1 else 0)
theorem cntP_le (P : Nat → Bool) (i : Nat) : 0 ≤ cntP P i ∧ cntP P i ≤ i := by
  induction i with
  | zero => exact ⟨Int.le_refl 0, Int.le_refl 0⟩
  | succ i ih => simp only [cntP]; split <;> omega
theorem s_X1_countOfHand (hS : SP σ ε) (hV : VE κ ε) {x : Int} (hx : rg x) (h : post (cntP (fun i => decide (ε 4 i = x)) (ε 2 7).toNat)) : w_X1_countOfHand σ x post := by
  obtain ⟨h2, -, h4, -⟩ := hS
  have hn := hV.1
  refine lp2 (w_X1_countOfHand_L4 σ x post) (fun c u => 0 ≤ u ∧ u ≤ ε 2 7 ∧ c = cntP (fun i => decide (ε 4 i = x)) u.toNat) (fun c u => (ε 2 7 - u).toNat) ?_ 0 0 ⟨by omega, by omega, rfl⟩
  intro n c u ⟨u0, u1, hc⟩ ih
  have hcl := cntP_le (fun i => decide (ε 4 i = x)) u.toNat
  show w_X1_countOfHand_L4_body σ x post _ c u
  simp only [w_X1_countOfHand_B28, w_X1_countOfHand_L4_body, w_X1_countOfHand, h2, h4]
  refine ⟨by simp only [rg]; omega, by simp only [rg]; omega, fun a => ?_, fun a => ?_⟩
  · rw [show (ε 2 7).toNat = u.toNat by omega, ← hc] at h
    exact h
  · have he := (hV.ev u0 a).h01
    have hd : (u + 1).toNat = u.toNat + 1 := by omega
    refine ⟨by simp only [inb]; omega, by simp only [rg]; omega, hx, fun b => ?_, fun b => ?_⟩
    · refine ih _ (u + 1) ⟨by omega, by omega, ?_⟩ (by omega)
      rw [hd, hc]; simp [cntP, b]
    · refine ih _ (u + 1) ⟨by omega, by omega, ?_⟩ (by omega)
      rw [hd, hc]; simp [cntP, b]
theorem s_X1_countPinned (hS : SP σ ε) (hV : VE κ ε) (h : post (cntP (fun i => decide (ε 8 i ≠ -2)) (ε 2 7).toNat)) : w_X1_countPinned σ post := by
  obtain ⟨h2, -, -, -, -, -, h8, -⟩ := hS
  have hn := hV.1
  refine lp2 (w_X1_countPinned_L4 σ post) (fun c u => 0 ≤ u ∧ u ≤ ε 2 7 ∧ c = cntP (fun i => decide (ε 8 i ≠ -2)) u.toNat) (fun c u => (ε 2 7 - u).toNat) ?_ 0 0 ⟨by omega, by omega, rfl⟩
  intro n c u ⟨u0, u1, hc⟩ ih
  have hcl := cntP_le (fun i => decide (ε 8 i ≠ -2)) u.toNat
  show w_X1_countPinned_L4_body σ post _ c u
  simp only [w_X1_countPinned_B29, w_X1_countPinned_L4_body, w_X1_countPinned, h2, h8]
  refine ⟨by simp only [rg]; omega, by simp only [rg]; omega, fun a => ?_, fun a => ?_⟩
  · rw [show (ε 2 7).toNat = u.toNat by omega, ← hc] at h
    exact h
  · have he := (hV.ev u0 a).2.2.2.2.2.2.1
    have hd : (u + 1).toNat = u.toNat + 1 := by omega
    refine ⟨by simp only [inb]; omega, by simp only [rg]; omega, fun b => ?_, fun b => ?_⟩
    · refine ih _ (u + 1) ⟨by omega, by omega, ?_⟩ (by omega)
      rw [hd, hc]; simp [cntP, b]
    · refine ih _ (u + 1) ⟨by omega, by omega, ?_⟩ (by omega)
      rw [hd, hc]; simp [cntP, b]
end PIECE
