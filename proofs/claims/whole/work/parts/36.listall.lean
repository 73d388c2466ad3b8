/-! all events listed -/
def LstC (κ : Nat) (ε τ : Mem) : Prop := ∀ i : Nat, (i : Int) < ε 2 7 → RowC (wd κ) τ i (SL κ ε i)
/-- what listAll leaves as it was -/
def FrL (σ τ : Mem) : Prop := (∀ c, c ≠ 1 → c ≠ 10 → c ≠ 11 → c ≠ 12 → c ≠ 13 → τ c = σ c) ∧ ∀ j, j ≠ 6 → τ 1 j = σ 1 j
theorem FrL.sp {σ τ ε : Mem} (h : FrL σ τ) (hS : SP σ ε) : SP τ ε := by
  obtain ⟨h2, h3, h4, h5, h6, h7, h8, h9⟩ := hS
  have q := fun c (hc : c ≠ 1 ∧ c ≠ 10 ∧ c ≠ 11 ∧ c ≠ 12 ∧ c ≠ 13) => h.1 c hc.1 hc.2.1 hc.2.2.1 hc.2.2.2.1 hc.2.2.2.2
  exact ⟨(q 2 (by decide)).trans h2, (q 3 (by decide)).trans h3, (q 4 (by decide)).trans h4, (q 5 (by decide)).trans h5, (q 6 (by decide)).trans h6, (q 7 (by decide)).trans h7, (q 8 (by decide)).trans h8, (q 9 (by decide)).trans h9⟩
section LISTALL
variable {κ : Nat} {σ ε : Mem} {post : Mem → Prop}
theorem s_X2_listAll (hκ : κ < 5) (hS : SP σ ε) (hV : VE κ ε) (hw : σ 1 1 = (wd κ : Int)) (h6 : 0 ≤ σ 1 6 ∧ σ 1 6 ≤ ε 2 7) (hrow : ∀ i : Nat, (i : Int) < σ 1 6 → RowC (wd κ) σ i (SL κ ε i)) (h : ∀ τ, FrL σ τ → τ 1 6 = ε 2 7 → LstC κ ε τ → post τ) : w_X2_listAll κ σ post := by
  have hn := hV.1
  refine ⟨by simp only [rg]; omega, ?_⟩
  rw [show max 0 (σ 1 6) = σ 1 6 by omega]
  refine lp2 (w_X2_listAll_L9 κ post) (fun a τ => ∃ i : Nat, a = (i : Int) ∧ (i : Int) ≤ ε 2 7 ∧ (∀ c, c ≠ 10 → c ≠ 11 → c ≠ 12 → c ≠ 13 → τ c = σ c) ∧ ∀ j : Nat, j < i → RowC (wd κ) τ j (SL κ ε j)) (fun a τ => (ε 2 7 - a).toNat) ?_ _ _ ⟨(σ 1 6).toNat, by omega, by omega, fun _ _ _ _ _ => rfl, fun j hj => hrow j (by omega)⟩
  intro n a τ ⟨i, ha, hi, hfr, hrs⟩ ih
  subst ha
  have hL : Lsr (wd κ) σ τ 41 → True := fun _ => trivial
  have hSt : SP τ ε := by
    obtain ⟨h2, h3, h4, h5, h6', h7, h8, h9⟩ := hS
    have q := fun c (hc : c ≠ 10 ∧ c ≠ 11 ∧ c ≠ 12 ∧ c ≠ 13) => hfr c hc.1 hc.2.1 hc.2.2.1 hc.2.2.2
    exact ⟨(q 2 (by decide)).trans h2, (q 3 (by decide)).trans h3, (q 4 (by decide)).trans h4, (q 5 (by decide)).trans h5, (q 6 (by decide)).trans h6', (q 7 (by decide)).trans h7, (q 8 (by decide)).trans h8, (q 9 (by decide)).trans h9⟩
  show w_X2_listAll_L9_body κ post _ _ _
  simp only [w_X2_listAll_L9_body, w_X2_listAll_B55, w_X2_listAll_B49, hSt.1]
  have hend : ε 2 7 ≤ (i : Int) → ∀ σ1 : Mem, σ1 = up2 τ 1 6 (ε 2 7) → post σ1 := by
    intro q σ1 e
    refine h σ1 ⟨fun c c1 c2 c3 c4 c5 => ?_, fun j hj => ?_⟩ ?_ (fun j hj => ?_)
    · rw [e, up2_k c1]; exact hfr c c2 c3 c4 c5
    · rw [e]; simp only [up2, if_true, if_neg hj]; rw [hfr 1 (by decide) (by decide) (by decide) (by decide)]
    · rw [e]; simp [up2]
    · have := hrs j (by omega)
      refine ⟨?_, fun k hk => ?_⟩
      · rw [e, up2_k (by decide)]; exact this.1
      · rw [e, up2_k (by decide), up2_k (by decide), up2_k (by decide)]; exact this.2 k hk
  refine ⟨by simp only [rg]; omega, by simp only [rg]; omega, fun q => hend q, fun q => ⟨by simp only [rg]; omega, fun z => by omega, fun _ => ⟨by simp only [inb]; omega, fun τ2 e2 => ?_⟩⟩⟩
  rw [Int.toNat_natCast] at e2
  have hc2 : ∀ c, c ≠ 10 → τ2 c = τ c := fun c hc => by rw [e2, up2_k hc]
  have hS2 : SP τ2 ε := by
    obtain ⟨g2, g3, g4, g5, g6, g7, g8, g9⟩ := hSt
    exact ⟨(hc2 2 (by decide)).trans g2, (hc2 3 (by decide)).trans g3, (hc2 4 (by decide)).trans g4, (hc2 5 (by decide)).trans g5, (hc2 6 (by decide)).trans g6, (hc2 7 (by decide)).trans g7, (hc2 8 (by decide)).trans g8, (hc2 9 (by decide)).trans g9⟩
  have hR0 : RowC (wd κ) τ2 i [] := ⟨by rw [e2]; simp [up2], fun k hk => by simp at hk⟩
  have hR2 : ∀ j : Nat, j < i → RowC (wd κ) τ2 j (SL κ ε j) := by
    intro j hj
    have := hrs j hj
    refine ⟨?_, fun k hk => ?_⟩
    · rw [e2]; simp only [up2, if_true, if_neg (show j ≠ i by omega)]; exact this.1
    · rw [hc2 11 (by decide), hc2 12 (by decide), hc2 13 (by decide)]; exact this.2 k hk
  have hw2 : τ2 1 1 = (wd κ : Int) := by rw [hc2 1 (by decide), hfr 1 (by decide) (by decide) (by decide) (by decide)]; exact hw
  have hlast : ∀ υ L, Lsr (wd κ) τ2 υ i → RowC (wd κ) υ i L → SL κ ε i = L → w_X2_listAll_L9 κ post n ((i : Int) + 1) υ := by
    intro υ L hL2 hRi he
    refine ih _ _ ⟨i + 1, by push_cast; rfl, by omega, fun c c1 c2 c3 c4 => ?_, fun j hj => ?_⟩ (by omega)
    · rw [hL2.1 c c1 c2 c3 c4, hc2 c c1]; exact hfr c c1 c2 c3 c4
    · rcases Nat.lt_or_eq_of_le (Nat.le_of_lt_succ hj) with z | z
      · exact hL2.2 j _ (by omega) (by have := SL_len hκ hV (v := (j : Int)) (by omega) (by omega); rw [Int.toNat_natCast] at this; exact this) (hR2 j z)
      · rw [z, he]; exact hRi
  refine s_X1_inCompass hS2 hV (by omega) (by omega) (fun z => ⟨rg_c _ rfl, fun y => absurd y (by decide), fun _ => ?_⟩) (fun z => ⟨rg_c _ rfl, fun _ => ?_, fun y => absurd rfl y⟩)
  · rw [Int.toNat_natCast] at z
    refine s_listOne hκ hS2 hV hw2 (by omega) (by omega) (by rw [Int.toNat_natCast]; exact hR0) (fun υ hL2 hRi => ?_)
    rw [Int.toNat_natCast] at hL2 hRi
    exact hlast υ _ hL2 hRi (by unfold SL; rw [if_pos z])
  · rw [Int.toNat_natCast] at z
    exact hlast τ2 _ Lsr.rf hR0 (by unfold SL; rw [if_neg z])
end LISTALL
/-! course-of-values recursion -/
def cov {α : Type} (F : (Nat → α) → Nat → α) (d : α) : Nat → Nat → α
  | 0 => fun _ => d
  | m + 1 => fun i => if i = m then F (cov F d m) m else cov F d m i
def cv {α : Type} (F : (Nat → α) → Nat → α) (d : α) (i : Nat) : α := cov F d (i + 1) i
theorem cov_st {α : Type} (F : (Nat → α) → Nat → α) (d : α) {i m : Nat} (h : i < m) : cov F d m i = cv F d i := by
  induction m with
  | zero => omega
  | succ m ih =>
    by_cases e : i = m
    · subst e; rfl
    · show (if i = m then _ else cov F d m i) = _
      rw [if_neg e]
      exact ih (by omega)
theorem cv_eq {α : Type} {F : (Nat → α) → Nat → α} {d : α} (hF : ∀ i f g, (∀ j, j < i → f j = g j) → F f i = F g i) (i : Nat) : cv F d i = F (cv F d) i := by
  have : cv F d i = F (cov F d i) i := by
    show (if i = i then F (cov F d i) i else cov F d i i) = _
    rw [if_pos rfl]
  rw [this]
  exact hF i _ _ (fun j hj => cov_st F d hj)
/-! the chain -/
theorem nxt_spec {ε : Mem} {i : Nat} : (nxt ε i = -1 ∧ ∀ j : Nat, i < j → (j : Int) < ε 2 7 → ε 4 j ≠ ε 4 i) ∨ ∃ j : Nat, i < j ∧ (j : Int) < ε 2 7 ∧ nxt ε i = j ∧ ε 4 j = ε 4 i ∧ ∀ q, i < q → q < j → ε 4 q ≠ ε 4 i := by
  rcases firstH_spec (ε 4) (ε 4 i) ((ε 2 7).toNat - (i + 1)) (i + 1) with ⟨a, b⟩ | ⟨j, a, b, c, d, e⟩
  · exact Or.inl ⟨a, fun j h1 h2 => b j (by omega) (by omega)⟩
  · exact Or.inr ⟨j, by omega, by omega, c, d, fun q h1 h2 => e q (by omega) h2⟩
theorem prv_spec {ε : Mem} {i : Nat} : (prv ε i = -1 ∧ ∀ j : Nat, j < i → ε 4 j ≠ ε 4 i) ∨ ∃ j : Nat, j < i ∧ prv ε i = j ∧ ε 4 j = ε 4 i ∧ ∀ q, j < q → q < i → ε 4 q ≠ ε 4 i := lastH_spec (ε 4) (ε 4 i) i
theorem nxt_prv {ε : Mem} {i j : Nat} (h : nxt ε i = (j : Int)) : i < j ∧ (j : Int) < ε 2 7 ∧ prv ε j = (i : Int) := by
  rcases nxt_spec (ε := ε) (i := i) with ⟨a, b⟩ | ⟨j', a, b, c, d, e⟩
  · rw [h] at a; omega
  · have : j' = j := by rw [h] at c; omega
    subst this
    refine ⟨a, b, ?_⟩
    rcases prv_spec (ε := ε) (i := j') with ⟨p, q⟩ | ⟨k, k1, k2, k3, k4⟩
    · exact absurd d.symm (fun z => q i a z)
    · rw [k2]
      have : k = i := by
        rcases Nat.lt_trichotomy k i with z | z | z
        · exact absurd d.symm (k4 i z a)
        · exact z
        · exact absurd (k3.trans d) (e k z k1)
      rw [this]
theorem prv_nxt {ε : Mem} {i p : Nat} (hi : (i : Int) < ε 2 7) (h : prv ε i = (p : Int)) : p < i ∧ nxt ε p = (i : Int) := by
  rcases prv_spec (ε := ε) (i := i) with ⟨a, b⟩ | ⟨p', a, c, d, e⟩
  · rw [h] at a; omega
  · have : p' = p := by rw [h] at c; omega
    subst this
    refine ⟨a, ?_⟩
    rcases nxt_spec (ε := ε) (i := p') with ⟨q, r⟩ | ⟨k, k1, k2, k3, k4, k5⟩
    · exact absurd d.symm (r i a hi)
    · rw [k3]
      have : k = i := by
        rcases Nat.lt_trichotomy k i with z | z | z
        · exact absurd (k4.trans d) (e k k1 z)
        · exact z
        · exact absurd d.symm (k5 i a z)
      rw [this]
theorem prv_neg {ε : Mem} {i : Nat} (h : prv ε i < 0) : prv ε i = -1 := by
  rcases prv_spec (ε := ε) (i := i) with ⟨a, -⟩ | ⟨p', -, c, -⟩
  · exact a
  · omega
theorem nxt_neg {ε : Mem} {i : Nat} (h : nxt ε i < 0) : nxt ε i = -1 := by
  rcases nxt_spec (ε := ε) (i := i) with ⟨a, -⟩ | ⟨p', -, -, c, -⟩
  · exact a
  · omega
/-! the graph of states and steps -/
noncomputable def cS (κ : Nat) (ε : Mem) (i : Nat) : Nat := (SL κ ε i).length
noncomputable def pS (κ : Nat) (ε : Mem) (i k : Nat) : Int := (ent (SL κ ε i) k).1
noncomputable def sS (κ : Nat) (ε : Mem) (i k j l : Nat) : Int := stE κ ε i (ent (SL κ ε i) k) j (ent (SL κ ε j) l)
/-- a row of states leads to this one -/
def rchF (κ : Nat) (ε : Mem) (f : Nat → Nat → Prop) (i k : Nat) : Prop := lets ε i (k : Int) ∧ (prv ε i < 0 ∨ ∃ j, j < cS κ ε (prv ε i).toNat ∧ f (prv ε i).toNat j ∧ sS κ ε (prv ε i).toNat j i k ≠ -2)
noncomputable def rch (κ : Nat) (ε : Mem) : Nat → Nat → Prop := cv (rchF κ ε) (fun _ => False)
theorem rch_eq (κ : Nat) (ε : Mem) (i k : Nat) : rch κ ε i k ↔ (lets ε i (k : Int) ∧ (prv ε i < 0 ∨ ∃ j, j < cS κ ε (prv ε i).toNat ∧ rch κ ε (prv ε i).toNat j ∧ sS κ ε (prv ε i).toNat j i k ≠ -2)) := by
  have := cv_eq (F := rchF κ ε) (d := fun _ => False) (fun i f g h => by
    funext k
    unfold rchF
    rcases prv_spec (ε := ε) (i := i) with ⟨a, -⟩ | ⟨p', a, c, -⟩
    · rw [a]; simp
    · rw [c, Int.toNat_natCast, h p' a]) i
  have e := congrFun this k
  exact iff_of_eq e
def rchd (κ : Nat) (ε : Mem) (i : Nat) : Prop := ∃ k, k < cS κ ε i ∧ rch κ ε i k
/-- the least price from a state on to the end of its chain; 1000000000: none -/
def mnL (f : Nat → Int) : Nat → Int
  | 0 => 1000000000
  | c + 1 => min (mnL f c) (f c)
theorem mnL_le (f : Nat → Int) (c : Nat) : mnL f c ≤ 1000000000 := by
  induction c with
  | zero => exact Int.le_refl _
  | succ c ih => simp only [mnL]; omega
theorem mnL_at (f : Nat → Int) {c k : Nat} (h : k < c) : mnL f c ≤ f k := by
  induction c with
  | zero => omega
  | succ c ih =>
    simp only [mnL]
    rcases Nat.lt_or_eq_of_le (Nat.le_of_lt_succ h) with q | q
    · have := ih q; omega
    · rw [q]; omega
theorem mnL_is (f : Nat → Int) (c : Nat) : mnL f c = 1000000000 ∨ ∃ k, k < c ∧ mnL f c = f k := by
  induction c with
  | zero => exact Or.inl rfl
  | succ c ih =>
    simp only [mnL]
    by_cases q : f c < mnL f c
    · exact Or.inr ⟨c, by omega, by omega⟩
    · rcases ih with h | ⟨k, h1, h2⟩
      · exact Or.inl (by omega)
      · exact Or.inr ⟨k, by omega, by omega⟩
theorem mnL_congr {f g : Nat → Int} {c : Nat} (h : ∀ k, k < c → f k = g k) : mnL f c = mnL g c := by
  induction c with
  | zero => rfl
  | succ c ih => simp only [mnL]; rw [ih (fun k hk => h k (by omega)), h c (by omega)]
/-- the step onward to l, with what is left from there -/
noncomputable def onw (κ : Nat) (ε : Mem) (R : Nat → Int) (i k j l : Nat) : Int := if sS κ ε i k j l = -2 ∨ R l ≥ 1000000000 then 1000000000 else sS κ ε i k j l + R l
noncomputable def rstF (κ : Nat) (ε : Mem) (f : Nat → Nat → Int) (d k : Nat) : Int := by
  classical
  exact
    if lets ε ((ε 2 7).toNat - 1 - d) (k : Int) then
      (if nxt ε ((ε 2 7).toNat - 1 - d) < 0 then pS κ ε ((ε 2 7).toNat - 1 - d) k
       else if mnL (onw κ ε (f ((ε 2 7).toNat - 1 - (nxt ε ((ε 2 7).toNat - 1 - d)).toNat)) ((ε 2 7).toNat - 1 - d) k (nxt ε ((ε 2 7).toNat - 1 - d)).toNat) (cS κ ε (nxt ε ((ε 2 7).toNat - 1 - d)).toNat) ≥ 1000000000 then 1000000000
       else mnL (onw κ ε (f ((ε 2 7).toNat - 1 - (nxt ε ((ε 2 7).toNat - 1 - d)).toNat)) ((ε 2 7).toNat - 1 - d) k (nxt ε ((ε 2 7).toNat - 1 - d)).toNat) (cS κ ε (nxt ε ((ε 2 7).toNat - 1 - d)).toNat) + pS κ ε ((ε 2 7).toNat - 1 - d) k)
    else 1000000000
noncomputable def rst (κ : Nat) (ε : Mem) (i k : Nat) : Int := cv (rstF κ ε) (fun _ => 0) ((ε 2 7).toNat - 1 - i) k
/-- what is left behind state k of i, its own price apart -/
noncomputable def bst (κ : Nat) (ε : Mem) (i k : Nat) : Int := if nxt ε i < 0 then 0 else mnL (onw κ ε (rst κ ε (nxt ε i).toNat) i k (nxt ε i).toNat) (cS κ ε (nxt ε i).toNat)
theorem rst_eq (κ : Nat) (ε : Mem) {i : Nat} (hi : (i : Int) < ε 2 7) (k : Nat) : (lets ε i (k : Int) → bst κ ε i k < 1000000000 → rst κ ε i k = bst κ ε i k + pS κ ε i k) ∧ (¬ (lets ε i (k : Int) ∧ bst κ ε i k < 1000000000) → rst κ ε i k = 1000000000) := by
  have e := congrFun (cv_eq (F := rstF κ ε) (d := fun _ => (0 : Int)) (fun d f g h => by
    funext k
    unfold rstF
    rcases nxt_spec (ε := ε) (i := (ε 2 7).toNat - 1 - d) with ⟨a, -⟩ | ⟨j, a, b, c, -⟩
    · rw [a]; simp
    · rw [c, Int.toNat_natCast, h ((ε 2 7).toNat - 1 - j) (by omega)]) ((ε 2 7).toNat - 1 - i)) k
  have hd : (ε 2 7).toNat - 1 - ((ε 2 7).toNat - 1 - i) = i := by omega
  obtain ⟨Q, hQ⟩ : ∃ Q, Q = cv (rstF κ ε) (fun _ => (0 : Int)) := ⟨_, rfl⟩
  have e2 : rst κ ε i k = rstF κ ε Q ((ε 2 7).toNat - 1 - i) k := by rw [hQ]; exact e
  unfold rstF at e2
  rw [hd] at e2
  unfold bst
  rw [e2]
  by_cases hl : lets ε i (k : Int)
  · rw [if_pos hl]
    by_cases hx : nxt ε i < 0
    · rw [if_pos hx, if_pos hx]
      exact ⟨fun _ _ => by omega, fun z => absurd ⟨hl, by omega⟩ z⟩
    · rw [if_neg hx, if_neg hx]
      have er : Q ((ε 2 7).toNat - 1 - (nxt ε i).toNat) = rst κ ε (nxt ε i).toNat := by rw [hQ]; rfl
      rw [er]
      generalize mnL (onw κ ε (rst κ ε (nxt ε i).toNat) i k (nxt ε i).toNat) (cS κ ε (nxt ε i).toNat) = M
      by_cases hM : M ≥ 1000000000
      · rw [if_pos hM]; exact ⟨fun _ z => by omega, fun _ => rfl⟩
      · rw [if_neg hM]; exact ⟨fun _ _ => rfl, fun z => absurd ⟨hl, by omega⟩ z⟩
  · rw [if_neg hl]
    exact ⟨fun z => absurd z hl, fun _ => rfl⟩
