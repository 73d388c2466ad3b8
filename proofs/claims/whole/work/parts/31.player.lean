/-! the states of an event: rows of the class, and the list that they stand for -/
abbrev T3 : Type := Int × Int × Int
def e0 (L : List T3) (k : Nat) : Int := (L.getD k (0, 0, 0)).1
def e1 (L : List T3) (k : Nat) : Int := (L.getD k (0, 0, 0)).2.1
def e2 (L : List T3) (k : Nat) : Int := (L.getD k (0, 0, 0)).2.2
def RowC (w : Nat) (σ : Mem) (i : Nat) (L : List T3) : Prop := σ 10 i = L.length ∧ ∀ k, k < L.length → σ 11 (i * w + k) = e0 L k ∧ σ 12 (i * w + k) = e1 L k ∧ σ 13 (i * w + k) = e2 L k
/-- only the rows of the states change, and of them event i's alone -/
def Lsr (w : Nat) (σ τ : Mem) (i : Nat) : Prop := (∀ c, c ≠ 10 → c ≠ 11 → c ≠ 12 → c ≠ 13 → τ c = σ c) ∧ ∀ j L, j ≠ i → L.length ≤ w → RowC w σ j L → RowC w τ j L
theorem Lsr.rf {w : Nat} {σ : Mem} {i : Nat} : Lsr w σ σ i := ⟨fun _ _ _ _ _ => rfl, fun _ _ _ _ h => h⟩
theorem Lsr.tr {w : Nat} {σ τ υ : Mem} {i : Nat} (h : Lsr w σ τ i) (g : Lsr w τ υ i) : Lsr w σ υ i := ⟨fun c a b d e => (g.1 c a b d e).trans (h.1 c a b d e), fun j L a b c => g.2 j L a b (h.2 j L a b c)⟩
theorem Lsr.sp {w : Nat} {σ τ ε : Mem} {i : Nat} (h : Lsr w σ τ i) (hS : SP σ ε) : SP τ ε := by
  obtain ⟨h2, h3, h4, h5, h6, h7, h8, h9⟩ := hS
  have q := fun c (hc : c ≠ 10 ∧ c ≠ 11 ∧ c ≠ 12 ∧ c ≠ 13) => h.1 c hc.1 hc.2.1 hc.2.2.1 hc.2.2.2
  exact ⟨(q 2 (by decide)).trans h2, (q 3 (by decide)).trans h3, (q 4 (by decide)).trans h4, (q 5 (by decide)).trans h5, (q 6 (by decide)).trans h6, (q 7 (by decide)).trans h7, (q 8 (by decide)).trans h8, (q 9 (by decide)).trans h9⟩
theorem ixw {v c : Int} {w : Nat} (h0 : 0 ≤ v) (h1 : v < 40) (c0 : 0 ≤ c) (c1 : c < w) : 0 ≤ v * (w : Int) + c ∧ v * (w : Int) + c < ((40 * w : Nat) : Int) ∧ (v * (w : Int) + c).toNat = v.toNat * w + c.toNat := by
  obtain ⟨i, rfl⟩ : ∃ i : Nat, v = (i : Int) := ⟨v.toNat, by omega⟩
  obtain ⟨k, rfl⟩ : ∃ k : Nat, c = (k : Int) := ⟨c.toNat, by omega⟩
  have hi : i < 40 := by omega
  have hk : k < w := by omega
  have e : (i : Int) * (w : Int) + (k : Int) = ((i * w + k : Nat) : Int) := by simp
  have hb : i * w + k < 40 * w := by
    have : (i + 1) * w ≤ 40 * w := Nat.mul_le_mul_right w (by omega)
    rw [Nat.add_mul] at this
    omega
  rw [e]
  exact ⟨by omega, by omega, by rw [Int.toNat_natCast, Int.toNat_natCast, Int.toNat_natCast]⟩
theorem ix_ne {i j k l w : Nat} (hij : i ≠ j) (hk : k < w) (hl : l < w) : i * w + k ≠ j * w + l := by
  intro e
  rcases Nat.lt_or_gt_of_ne hij with h | h
  · have : (i + 1) * w ≤ j * w := Nat.mul_le_mul_right w h
    rw [Nat.add_mul] at this
    omega
  · have : (j + 1) * w ≤ i * w := Nat.mul_le_mul_right w h
    rw [Nat.add_mul] at this
    omega
theorem wd_le (κ : Nat) : 1 ≤ wd κ ∧ wd κ ≤ 80 := by
  unfold wd
  split <;> decide
theorem gd_app_lt {L : List T3} {t : T3} {k : Nat} (h : k < L.length) : (L ++ [t]).getD k (0, 0, 0) = L.getD k (0, 0, 0) := by
  simp only [List.getD_eq_getElem?_getD, List.getElem?_append_left h]
theorem gd_app_eq {L : List T3} {t : T3} : (L ++ [t]).getD L.length (0, 0, 0) = t := by
  simp [List.getD_eq_getElem?_getD]
section PLAYER
variable {κ : Nat} {σ ε : Mem}
theorem s_X2_addState {post : Mem → Prop} {v1 v2 v3 v4 : Int} {L : List T3} (hw : σ 1 1 = (wd κ : Int)) (h0 : 0 ≤ v1) (h1 : v1 < 40) (hR : RowC (wd κ) σ v1.toNat L) (hL : L.length < wd κ) (h : ∀ τ, Lsr (wd κ) σ τ v1.toNat → RowC (wd κ) τ v1.toNat (L ++ [(v2, v3, v4)]) → post τ) : w_X2_addState κ σ v1 v2 v3 v4 post := by
  have hwd := wd_le κ
  have hc := hR.1
  obtain ⟨i0, i1, i2⟩ := ixw (w := wd κ) h0 h1 (c := (L.length : Int)) (by omega) (by omega)
  rw [Int.toNat_natCast] at i2
  have ib : inb (v1 * (wd κ : Int) + (L.length : Int)) (40 * wd κ) := ⟨i0, i1, by omega⟩
  have ia : inb v1 40 := ⟨h0, by omega, by omega⟩
  simp only [w_X2_addState_B32, w_X2_addState, hw, hc, i2]
  refine ⟨by simp only [rg]; omega, fun a => by omega, fun _ => ⟨by simp only [rg]; omega, fun a => by omega, fun _ => ⟨ia, by simp only [rg]; omega, fun a => by omega, fun _ => ⟨ia, by simp only [rg]; omega, by simp only [rg]; omega, fun _ => ⟨ia, ib, fun τ1 e1' => ⟨ib, fun τ2 e2' => ⟨ib, fun τ3 e3' => ⟨ia, ia, fun τ4 e4' => ?_⟩⟩⟩⟩, fun a => by omega⟩⟩⟩⟩
  refine h τ4 ⟨fun c a b d e => ?_, fun j M hj hM hRj => ?_⟩ ?_
  · rw [e4', up2_k a, e3', up2_k e, e2', up2_k d, e1', up2_k b]
  · refine ⟨?_, fun k hk => ?_⟩
    · rw [e4']; simp only [up2, if_true, if_neg hj]
      rw [e3', up2_k (by decide), e2', up2_k (by decide), e1', up2_k (by decide)]
      exact hRj.1
    · have hne : j * wd κ + k ≠ v1.toNat * wd κ + L.length := ix_ne hj (by omega) hL
      obtain ⟨q1, q2, q3⟩ := hRj.2 k hk
      refine ⟨?_, ?_, ?_⟩
      · rw [e4', up2_k (by decide), e3', up2_k (by decide), e2', up2_k (by decide), e1']; simp only [up2, if_true, if_neg hne]; exact q1
      · rw [e4', up2_k (by decide), e3', up2_k (by decide), e2']; simp only [up2, if_true, if_neg hne]; rw [e1', up2_k (by decide)]; exact q2
      · rw [e4', up2_k (by decide), e3']; simp only [up2, if_true, if_neg hne]; rw [e2', up2_k (by decide), e1', up2_k (by decide)]; exact q3
  · have hc3 : τ3 10 v1.toNat = (L.length : Int) := by rw [e3', up2_k (by decide), e2', up2_k (by decide), e1', up2_k (by decide)]; exact hc
    refine ⟨?_, fun k hk => ?_⟩
    · rw [e4', hc3]; simp [up2]
    · have hk' : k ≤ L.length := by simp at hk; omega
      rcases Nat.lt_or_eq_of_le hk' with q | q
      · have hne : v1.toNat * wd κ + k ≠ v1.toNat * wd κ + L.length := by omega
        obtain ⟨q1, q2, q3⟩ := hR.2 k q
        refine ⟨?_, ?_, ?_⟩
        · rw [e4', up2_k (by decide), e3', up2_k (by decide), e2', up2_k (by decide), e1']; simp only [up2, if_true, if_neg hne, e0, gd_app_lt q]; exact q1
        · rw [e4', up2_k (by decide), e3', up2_k (by decide), e2']; simp only [up2, if_true, if_neg hne, e1, gd_app_lt q]; rw [e1', up2_k (by decide)]; exact q2
        · rw [e4', up2_k (by decide), e3']; simp only [up2, if_true, if_neg hne, e2, gd_app_lt q]; rw [e2', up2_k (by decide), e1', up2_k (by decide)]; exact q3
      · subst q
        refine ⟨?_, ?_, ?_⟩
        · rw [e4', up2_k (by decide), e3', up2_k (by decide), e2', up2_k (by decide), e1']; simp only [up2, if_true, e0, gd_app_eq]
        · rw [e4', up2_k (by decide), e3', up2_k (by decide), e2']; simp only [up2, if_true, e1, gd_app_eq]
        · rw [e4', up2_k (by decide), e3']; simp only [up2, if_true, e2, gd_app_eq]
theorem s_X2_countOf {post : Int → Prop} {v : Int} {L : List T3} (h0 : 0 ≤ v) (h1 : v < 40) (hR : RowC (wd κ) σ v.toNat L) (h : post L.length) : w_X2_countOf κ σ v post := by
  simp only [w_X2_countOf_B20, w_X2_countOf_B19, w_X2_countOf, rg, inb, hR.1]
  repeat' (first | apply And.intro | intro _ | omega | exact h)
theorem s_X2_priceOf {post : Int → Prop} {v u : Int} {L : List T3} (hw : σ 1 1 = (wd κ : Int)) (h0 : 0 ≤ v) (h1 : v < 40) (hR : RowC (wd κ) σ v.toNat L) (hL : L.length ≤ wd κ) (u0 : 0 ≤ u) (u1 : u < L.length) (h : post (e0 L u.toNat)) : w_X2_priceOf κ σ v u post := by
  have hwd := wd_le κ
  obtain ⟨i0, i1, i2⟩ := ixw (w := wd κ) h0 h1 (c := u) u0 (by omega)
  simp only [w_X2_priceOf_B32, w_X2_priceOf_B31, w_X2_priceOf, hw, i2, (hR.2 u.toNat (by omega)).1]
  exact ⟨by simp only [rg]; omega, fun a => by omega, fun _ => ⟨by simp only [rg]; omega, by simp only [rg]; omega, fun a => by omega, fun _ => ⟨⟨i0, i1, by omega⟩, h⟩⟩⟩
theorem s_X2_firstOf {post : Int → Prop} {v u : Int} {L : List T3} (hw : σ 1 1 = (wd κ : Int)) (h0 : 0 ≤ v) (h1 : v < 40) (hR : RowC (wd κ) σ v.toNat L) (hL : L.length ≤ wd κ) (u0 : 0 ≤ u) (u1 : u < L.length) (h : post (e1 L u.toNat)) : w_X2_firstOf κ σ v u post := by
  have hwd := wd_le κ
  obtain ⟨i0, i1, i2⟩ := ixw (w := wd κ) h0 h1 (c := u) u0 (by omega)
  simp only [w_X2_firstOf_B32, w_X2_firstOf_B31, w_X2_firstOf, hw, i2, (hR.2 u.toNat (by omega)).2.1]
  exact ⟨by simp only [rg]; omega, fun a => by omega, fun _ => ⟨by simp only [rg]; omega, by simp only [rg]; omega, fun a => by omega, fun _ => ⟨⟨i0, i1, by omega⟩, h⟩⟩⟩
theorem s_X2_secondOf {post : Int → Prop} {v u : Int} {L : List T3} (hw : σ 1 1 = (wd κ : Int)) (h0 : 0 ≤ v) (h1 : v < 40) (hR : RowC (wd κ) σ v.toNat L) (hL : L.length ≤ wd κ) (u0 : 0 ≤ u) (u1 : u < L.length) (h : post (e2 L u.toNat)) : w_X2_secondOf κ σ v u post := by
  have hwd := wd_le κ
  obtain ⟨i0, i1, i2⟩ := ixw (w := wd κ) h0 h1 (c := u) u0 (by omega)
  simp only [w_X2_secondOf_B32, w_X2_secondOf_B31, w_X2_secondOf, hw, i2, (hR.2 u.toNat (by omega)).2.2]
  exact ⟨by simp only [rg]; omega, fun a => by omega, fun _ => ⟨by simp only [rg]; omega, by simp only [rg]; omega, fun a => by omega, fun _ => ⟨⟨i0, i1, by omega⟩, h⟩⟩⟩
/-- the step is too long for its time -/
def far (ε : Mem) (x : Int) (i j : Nat) : Prop := ε 5 j - ε 5 i < x * ε 3 0
theorem mulb {x y a b : Int} (h0 : 0 ≤ x) (h1 : x ≤ a) (h2 : 0 ≤ y) (h3 : y ≤ b) : 0 ≤ x * y ∧ x * y ≤ a * b := ⟨Int.mul_nonneg h0 h2, Int.le_trans (Int.mul_le_mul_of_nonneg_left h3 h0) (Int.mul_le_mul_of_nonneg_right h1 (by omega))⟩
theorem s_X2_tooFar {post : Int → Prop} (hS : SP σ ε) (hV : VE κ ε) {x v u : Int} (x0 : 0 ≤ x) (x1 : x ≤ 1000) (h0 : 0 ≤ v) (h1 : v < ε 2 7) (u0 : 0 ≤ u) (u1 : u < ε 2 7) (hT : far ε x v.toNat u.toNat → post 1) (hF : ¬ far ε x v.toNat u.toNat → post 0) : w_X2_tooFar κ σ x v u post := by
  have hb := hV.b0
  have t1 := (hV.ev h0 h1).2.1
  have t2 := (hV.ev u0 u1).2.1
  have hm := mulb x0 x1 hb.1 hb.2
  refine s_X1_boundOf hS (by omega) (by omega) (s_X1_timeOf hS hV u0 u1 (s_X1_timeOf hS hV h0 h1 ?_))
  rw [tn0]
  refine ⟨by simp only [rg]; omega, by simp only [rg]; omega, fun a => ⟨Or.inl rfl, hF (fun q => ?_)⟩, fun a => ⟨Or.inr rfl, hT a⟩⟩
  simp only [far] at q
  omega
end PLAYER
/-! lists made by a loop -/
def o2l (o : Option T3) : List T3 := match o with
  | none => []
  | some t => [t]
def fm (f : Nat → Option T3) : Nat → List T3
  | 0 => []
  | n + 1 => fm f n ++ o2l (f n)
def fj (g : Nat → List T3) : Nat → List T3
  | 0 => []
  | n + 1 => fj g n ++ g n
theorem fm_none {f : Nat → Option T3} {n : Nat} (h : f n = none) : fm f (n + 1) = fm f n := by simp [fm, o2l, h]
theorem fm_some {f : Nat → Option T3} {n : Nat} {t : T3} (h : f n = some t) : fm f (n + 1) = fm f n ++ [t] := by simp [fm, o2l, h]
theorem fm_len (f : Nat → Option T3) (n : Nat) : (fm f n).length ≤ n := by
  induction n with
  | zero => simp [fm]
  | succ n ih =>
    cases h : f n with
    | none => rw [fm_none h]; omega
    | some t => rw [fm_some h, List.length_append, List.length_singleton]; omega
theorem fm_cnt (f : Nat → Option T3) (P : Nat → Bool) (h : ∀ x, f x ≠ none → P x = true) (n : Nat) : ((fm f n).length : Int) ≤ cntP P n := by
  induction n with
  | zero => simp [fm, cntP]
  | succ n ih =>
    cases e : f n with
    | none => rw [fm_none e]; simp only [cntP]; split <;> omega
    | some t => rw [fm_some e, List.length_append, List.length_singleton]; simp only [cntP]; rw [if_pos (h n (by rw [e]; simp))]; push_cast; omega
theorem cntP_mono (P : Nat → Bool) {a b : Nat} (h : a ≤ b) : cntP P a ≤ cntP P b := by
  induction b with
  | zero => rw [show a = 0 by omega]; exact Int.le_refl _
  | succ b ih =>
    rcases Nat.lt_or_eq_of_le h with q | q
    · have := ih (by omega); simp only [cntP]; split <;> omega
    · rw [q]; exact Int.le_refl _
theorem fm_pre {f : Nat → Option T3} {a : Nat} (h : ∀ x, x < a → f x = none) : fm f a = [] := by
  induction a with
  | zero => rfl
  | succ a ih => rw [fm_none (h a (Nat.lt_succ_self a)), ih (fun x hx => h x (by omega))]
theorem fj_len (g : Nat → List T3) (m n : Nat) (h : ∀ x, x < n → (g x).length ≤ m) : (fj g n).length ≤ n * m := by
  induction n with
  | zero => simp [fj]
  | succ n ih =>
    have := ih (fun x hx => h x (by omega))
    have := h n (Nat.lt_succ_self n)
    simp only [fj, List.length_append, Nat.add_mul]
    omega
