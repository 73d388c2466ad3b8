/-! the search of the class -/
def SC (κ : Nat) (ε σ : Mem) : Prop := SP σ ε ∧ σ 1 1 = (wd κ : Int) ∧ σ 14 0 = (wd κ : Int) ∧ LstC κ ε σ
def K14 (σ τ : Mem) : Prop := (∀ c, c < 14 → τ c = σ c) ∧ τ 14 0 = σ 14 0
theorem K14.rf {σ : Mem} : K14 σ σ := ⟨fun _ _ => rfl, rfl⟩
theorem K14.tr {σ τ υ : Mem} (h : K14 σ τ) (g : K14 τ υ) : K14 σ υ := ⟨fun c hc => (g.1 c hc).trans (h.1 c hc), g.2.trans h.2⟩
theorem SC.k {κ : Nat} {ε σ τ : Mem} (h : SC κ ε σ) (k : K14 σ τ) : SC κ ε τ := by
  obtain ⟨⟨h2, h3, h4, h5, h6, h7, h8, h9⟩, a, b, c⟩ := h
  refine ⟨⟨(k.1 2 (by decide)).trans h2, (k.1 3 (by decide)).trans h3, (k.1 4 (by decide)).trans h4, (k.1 5 (by decide)).trans h5, (k.1 6 (by decide)).trans h6, (k.1 7 (by decide)).trans h7, (k.1 8 (by decide)).trans h8, (k.1 9 (by decide)).trans h9⟩, ?_, ?_, fun i hi => ?_⟩
  · rw [k.1 1 (by decide)]; exact a
  · rw [k.2]; exact b
  · have := c i hi
    refine ⟨?_, fun q hq => ?_⟩
    · rw [k.1 10 (by decide)]; exact this.1
    · rw [k.1 11 (by decide), k.1 12 (by decide), k.1 13 (by decide)]; exact this.2 q hq
theorem cS_le {κ : Nat} {ε : Mem} (hκ : κ < 5) (hV : VE κ ε) {i : Nat} (hi : (i : Int) < ε 2 7) : cS κ ε i ≤ wd κ := by
  have := SL_len hκ hV (v := (i : Int)) (by omega) hi
  rw [Int.toNat_natCast] at this
  exact this
theorem SL_eb' {κ : Nat} {ε : Mem} (hκ : κ < 5) (hV : VE κ ε) {i k : Nat} (hi : (i : Int) < ε 2 7) (hk : k < cS κ ε i) : EB κ i (ent (SL κ ε i) k) := by
  have := SL_eb hκ hV (v := (i : Int)) (by omega) hi (k := k)
  rw [Int.toNat_natCast] at this
  exact this hk
theorem pS_b {κ : Nat} {ε : Mem} (hκ : κ < 5) (hV : VE κ ε) {i k : Nat} (hi : (i : Int) < ε 2 7) (hk : k < cS κ ε i) : 0 ≤ pS κ ε i k ∧ pS κ ε i k ≤ 300 := (SL_eb' hκ hV hi hk).1
theorem sS_b {κ : Nat} {ε : Mem} (hκ : κ < 5) (hV : VE κ ε) {i k j l : Nat} (hi : (i : Int) < ε 2 7) (hk : k < cS κ ε i) (hj : (j : Int) < ε 2 7) (hl : l < cS κ ε j) : sS κ ε i k j l = -2 ∨ (0 ≤ sS κ ε i k j l ∧ sS κ ε i k j l ≤ 2001) := stE_b hκ hV hi hj (SL_eb' hκ hV hi hk) (SL_eb' hκ hV hj hl)
/-- every price that is left is small -/
theorem rst_b {κ : Nat} {ε : Mem} (hκ : κ < 5) (hV : VE κ ε) (d : Nat) : ∀ i : Nat, (i : Int) < ε 2 7 → (ε 2 7).toNat - i ≤ d → ∀ k, k < cS κ ε i → (rst κ ε i k = 1000000000 ∨ (0 ≤ rst κ ε i k ∧ rst κ ε i k ≤ 2301 * d)) ∧ (bst κ ε i k = 1000000000 ∨ (0 ≤ bst κ ε i k ∧ bst κ ε i k ≤ 2301 * d)) := by
  induction d with
  | zero => intro i hi hd; omega
  | succ d ih =>
    intro i hi hd k hk
    have hp := pS_b hκ hV hi hk
    have hb : bst κ ε i k = 1000000000 ∨ (0 ≤ bst κ ε i k ∧ bst κ ε i k ≤ 2301 * d + 2001) := by
      unfold bst
      split
      · right; omega
      · rcases mnL_is (onw κ ε (rst κ ε (nxt ε i).toNat) i k (nxt ε i).toNat) (cS κ ε (nxt ε i).toNat) with h | ⟨l, hl, h⟩
        · exact Or.inl h
        · rw [h]
          rename_i hx
          obtain ⟨j, hj⟩ : ∃ j : Nat, nxt ε i = (j : Int) := ⟨(nxt ε i).toNat, by omega⟩
          obtain ⟨a, b, c⟩ := nxt_prv hj
          rw [hj, Int.toNat_natCast] at hl ⊢
          have hs := sS_b hκ hV hi hk b hl
          have hr := (ih j b (by omega) l hl).1
          unfold onw
          split
          · exact Or.inl rfl
          · right; omega
    refine ⟨?_, by rcases hb with h | h; exact Or.inl h; right; push_cast; omega⟩
    have he := rst_eq κ ε hi k
    by_cases hl : lets ε i (k : Int) ∧ bst κ ε i k < 1000000000
    · rw [he.1 hl.1 hl.2]; right; push_cast; omega
    · exact Or.inl (he.2 hl)
theorem rst_b40 {κ : Nat} {ε : Mem} (hκ : κ < 5) (hV : VE κ ε) {i k : Nat} (hi : (i : Int) < ε 2 7) (hk : k < cS κ ε i) : (rst κ ε i k = 1000000000 ∨ (0 ≤ rst κ ε i k ∧ rst κ ε i k ≤ 92040)) ∧ (bst κ ε i k = 1000000000 ∨ (0 ≤ bst κ ε i k ∧ bst κ ε i k ≤ 92040)) := by
  have := hV.1
  exact rst_b hκ hV 40 i hi (by omega) k hk
section SEARCH
variable {κ : Nat} {σ ε : Mem}
theorem s_cnt {post : Int → Prop} (hV : VE κ ε) (hC : SC κ ε σ) {i : Nat} (hi : (i : Int) < ε 2 7) (h : post (cS κ ε i)) : w_X2_countOf κ σ (i : Int) post := by
  have hn := hV.1
  refine s_X2_countOf (by omega) (by omega) (L := SL κ ε i) ?_ h
  rw [Int.toNat_natCast]
  exact hC.2.2.2 i hi
theorem s_pr {post : Int → Prop} (hκ : κ < 5) (hV : VE κ ε) (hC : SC κ ε σ) {i k : Nat} (hi : (i : Int) < ε 2 7) (hk : k < cS κ ε i) (h : post (pS κ ε i k)) : w_X2_priceOf κ σ (i : Int) (k : Int) post := by
  have hn := hV.1
  refine s_X2_priceOf hC.2.1 (by omega) (by omega) (L := SL κ ε i) ?_ (cS_le hκ hV hi) (by omega) (by have := hk; unfold cS at this; omega) ?_
  · rw [Int.toNat_natCast]; exact hC.2.2.2 i hi
  · rw [Int.toNat_natCast]; exact h
theorem s_st {post : Int → Prop} (hκ : κ < 5) (hV : VE κ ε) (hC : SC κ ε σ) {i k j l : Nat} (hi : (i : Int) < ε 2 7) (hk : k < cS κ ε i) (hj : (j : Int) < ε 2 7) (hl : l < cS κ ε j) (h : post (sS κ ε i k j l)) : w_stepPrice κ σ (i : Int) (k : Int) (j : Int) (l : Int) post :=
  s_stepPrice hκ hC.1 hV hC.2.1 hi hj (hC.2.2.2 i hi) (hC.2.2.2 j hj) (cS_le hκ hV hi) (cS_le hκ hV hj) hk hl (SL_eb' hκ hV hi hk) (SL_eb' hκ hV hj hl) h
theorem s_X3_painsOf {post : Int → Prop} (hw : σ 14 0 = (wd κ : Int)) {i k : Nat} (hi : i < 40) (hk : k < wd κ) (h : post (σ 16 (i * wd κ + k))) : w_X3_painsOf κ σ (i : Int) (k : Int) post := by
  have hwd := wd_le κ
  obtain ⟨i0, i1, i2⟩ := ixw (w := wd κ) (v := (i : Int)) (by omega) (by omega) (c := (k : Int)) (by omega) (by omega)
  rw [Int.toNat_natCast, Int.toNat_natCast] at i2
  simp only [w_X3_painsOf_B33, w_X3_painsOf_B31, w_X3_painsOf, hw, i2]
  exact ⟨by simp only [rg]; omega, fun a => by omega, fun _ => ⟨by simp only [rg]; omega, by simp only [rg]; omega, fun a => by omega, fun _ => ⟨⟨i0, i1, by omega⟩, h⟩⟩⟩
theorem s_X3_setPains {post : Mem → Prop} (hw : σ 14 0 = (wd κ : Int)) {i k : Nat} (hi : i < 40) (hk : k < wd κ) {v : Int} (h : ∀ τ, τ = up2 σ 16 (i * wd κ + k) v → post τ) : w_X3_setPains κ σ (i : Int) (k : Int) v post := by
  have hwd := wd_le κ
  obtain ⟨i0, i1, i2⟩ := ixw (w := wd κ) (v := (i : Int)) (by omega) (by omega) (c := (k : Int)) (by omega) (by omega)
  rw [Int.toNat_natCast, Int.toNat_natCast] at i2
  simp only [w_X3_setPains_B33, w_X3_setPains, hw, i2]
  exact ⟨by simp only [rg]; omega, fun a => by omega, fun _ => ⟨by simp only [rg]; omega, by simp only [rg]; omega, fun a => by omega, fun _ => ⟨⟨i0, i1, by omega⟩, h⟩⟩⟩
theorem s_X3_chosenOf {post : Int → Prop} {i : Nat} (hi : i < 40) (h : post (σ 15 i)) : w_X3_chosenOf κ σ (i : Int) post := by
  simp only [w_X3_chosenOf_B21, w_X3_chosenOf_B19, w_X3_chosenOf, Int.toNat_natCast, rg, inb]
  repeat' (first | apply And.intro | intro _ | omega | exact h)
def PRow (κ : Nat) (ε σ : Mem) (i : Nat) : Prop := ∀ k, k < cS κ ε i → (rch κ ε i k → σ 16 (i * wd κ + k) = 0) ∧ (¬ rch κ ε i k → σ 16 (i * wd κ + k) = 1000000000)
theorem s_X3_canCome {post : Int → Prop} (hκ : κ < 5) (hV : VE κ ε) (hC : SC κ ε σ) {p i k : Nat} (hp : (p : Int) < ε 2 7) (hi : (i : Int) < ε 2 7) (hk : k < cS κ ε i) (hR : PRow κ ε σ p) (hT : (∃ j, j < cS κ ε p ∧ rch κ ε p j ∧ sS κ ε p j i k ≠ -2) → post 1) (hF : ¬ (∃ j, j < cS κ ε p ∧ rch κ ε p j ∧ sS κ ε p j i k ≠ -2) → post 0) : w_X3_canCome κ σ (p : Int) (i : Int) (k : Int) post := by
  have hn := hV.1
  have hc := cS_le hκ hV hp
  have hwd := wd_le κ
  refine lp1 (w_X3_canCome_L3 κ σ (p : Int) (i : Int) (k : Int) post) (fun u => ∃ q : Nat, u = (q : Int) ∧ q ≤ cS κ ε p ∧ ∀ j, j < q → ¬ (rch κ ε p j ∧ sS κ ε p j i k ≠ -2)) (fun u => (cS κ ε p - u).toNat) ?_ _ ⟨0, rfl, by omega, fun j hj => by omega⟩
  intro n u ⟨q, hu, hq, hno⟩ ih
  subst hu
  show w_X3_canCome_L3_body κ σ _ _ _ post _ _
  simp only [w_X3_canCome_L3_body, w_X3_canCome_B40]
  refine s_cnt hV hC hp ⟨by simp only [rg]; omega, by simp only [rg]; omega, fun z => hF (fun y => ?_), fun z => ?_⟩
  · obtain ⟨j, j1, j2⟩ := y
    exact hno j (by omega) j2
  · have hnx : ¬ (rch κ ε p q ∧ sS κ ε p q i k ≠ -2) → w_X3_canCome_L3 κ σ (p : Int) (i : Int) (k : Int) post n ((q : Int) + 1) := by
      intro y
      refine ih _ ⟨q + 1, by push_cast; rfl, by omega, fun j hj => ?_⟩ (by omega)
      rcases Nat.lt_or_eq_of_le (Nat.le_of_lt_succ hj) with w | w
      · exact hno j w
      · rw [w]; exact y
    have hr := hR q (by omega)
    have hs := sS_b hκ hV hp (show q < cS κ ε p by omega) hi hk
    refine s_X3_painsOf hC.2.2.1 (by omega) (by omega) ?_
    by_cases hrq : rch κ ε p q
    · rw [hr.1 hrq]
      refine ⟨rg_c _ rfl, fun y => absurd rfl y, fun _ => s_st hκ hV hC hp (by omega) hi hk ⟨by simp only [rg]; omega, fun y => hnx (fun x => x.2 y), fun y => hT ⟨q, by omega, hrq, y⟩⟩⟩
    · rw [hr.2 hrq]
      exact ⟨rg_c _ rfl, fun _ => hnx (fun x => hrq x.1), fun y => absurd y (by decide)⟩
/-- only the pains change -/
theorem up16 {τ υ : Mem} {x : Nat} {v : Int} (e : υ = up2 τ 16 x v) : (∀ c, c ≠ 16 → υ c = τ c) ∧ υ 16 x = v ∧ ∀ y, y ≠ x → υ 16 y = τ 16 y := by
  subst e
  exact ⟨fun c hc => up2_k hc, by simp [up2], fun y hy => by simp [up2, hy]⟩
theorem s_X3_isReached {post : Int → Mem → Prop} (hκ : κ < 5) (hV : VE κ ε) (hC : SC κ ε σ) {i : Nat} (hi : (i : Int) < ε 2 7) (hR : ∀ j, j < i → PRow κ ε σ j) (h : ∀ τ, (∀ c, c ≠ 16 → τ c = σ c) → (∀ j, j < i + 1 → PRow κ ε τ j) → (rchd κ ε i → post 1 τ) ∧ (¬ rchd κ ε i → post 0 τ)) : w_X3_isReached κ σ (i : Int) post := by
  have hn := hV.1
  have hc := cS_le hκ hV hi
  have hwd := wd_le κ
  refine s_X1_before hC.1 hV (by omega) hi ?_
  rw [Int.toNat_natCast]
  refine lp3 (w_X3_isReached_L15 κ (i : Int) (prv ε i) post) (fun a u τ => ∃ q : Nat, u = (q : Int) ∧ q ≤ cS κ ε i ∧ (∀ c, c ≠ 16 → τ c = σ c) ∧ (∀ j, j < i → PRow κ ε τ j) ∧ (∀ k, k < q → (rch κ ε i k → τ 16 (i * wd κ + k) = 0) ∧ (¬ rch κ ε i k → τ 16 (i * wd κ + k) = 1000000000)) ∧ ((a = 1 ∧ ∃ k, k < q ∧ rch κ ε i k) ∨ (a = 0 ∧ ∀ k, k < q → ¬ rch κ ε i k))) (fun a u τ => (cS κ ε i - u).toNat) ?_ _ _ _ ⟨0, rfl, by omega, fun _ _ => rfl, hR, fun k hk => by omega, Or.inr ⟨rfl, fun k hk => by omega⟩⟩
  intro n a u τ ⟨q, hu, hq, hfr, hRt, hrow, hac⟩ ih
  subst hu
  have hCt : SC κ ε τ := hC.k ⟨fun c hc => hfr c (by omega), by rw [hfr 14 (by decide)]⟩
  show w_X3_isReached_L15_body κ _ _ post _ _ _ _
  simp only [w_X3_isReached_L15_body]
  refine s_cnt hV hCt hi ⟨by simp only [rg]; omega, by simp only [rg]; omega, fun z => ?_, fun z => ?_⟩
  · have hqe : q = cS κ ε i := by omega
    subst hqe
    have hh := h τ hfr (fun j hj => by
      rcases Nat.lt_or_eq_of_le (Nat.le_of_lt_succ hj) with w | w
      · exact hRt j w
      · rw [w]; exact hrow)
    rcases hac with ⟨rfl, e⟩ | ⟨rfl, e⟩
    · exact ⟨Or.inr rfl, hh.1 e⟩
    · exact ⟨Or.inl rfl, hh.2 (fun y => by obtain ⟨k, k1, k2⟩ := y; exact e k k1 k2)⟩
  · have hqc : q < cS κ ε i := by omega
    have hset : ∀ (v y : Int), (rch κ ε i q → v = 0 ∧ y = 1) → (¬ rch κ ε i q → v = 1000000000 ∧ y = 0) → w_X3_isReached_B76 κ τ (i : Int) (prv ε i) a (q : Int) y v (q : Int) (i : Int) post (w_X3_isReached_L15 κ (i : Int) (prv ε i) post n) := by
      intro v y hv hv2
      refine s_X3_setPains hCt.2.2.1 (by omega) (by omega) (fun υ e => ?_)
      obtain ⟨f1, f2, f3⟩ := up16 e
      have hgo : ∀ a' : Int, ((a' = 1 ∧ ∃ k, k < q + 1 ∧ rch κ ε i k) ∨ (a' = 0 ∧ ∀ k, k < q + 1 → ¬ rch κ ε i k)) → w_X3_isReached_L15 κ (i : Int) (prv ε i) post n a' ((q : Int) + 1) υ := by
        intro a' ha'
        refine ih _ _ _ ⟨q + 1, by push_cast; rfl, by omega, fun c hc => by rw [f1 c hc, hfr c hc], fun j hj k hk => ?_, fun k hk => ?_, ha'⟩ (by omega)
        · rw [f3 _ (ix_ne (by omega) (by have := cS_le hκ hV (i := j) (by omega); omega) (by omega))]
          exact hRt j hj k hk
        · rcases Nat.lt_or_eq_of_le (Nat.le_of_lt_succ hk) with w | w
          · rw [f3 _ (by omega)]; exact hrow k w
          · rw [w, f2]; exact ⟨fun r => (hv r).1, fun r => (hv2 r).1⟩
      have h1 : (∃ k, k < q + 1 ∧ rch κ ε i k) → w_X3_isReached_L15 κ (i : Int) (prv ε i) post n 1 ((q : Int) + 1) υ := fun x => hgo 1 (Or.inl ⟨rfl, x⟩)
      rcases hac with ⟨rfl, k, k1, k2⟩ | ⟨rfl, e0⟩
      · exact ⟨rg_c _ rfl, fun _ => h1 ⟨k, by omega, k2⟩, fun x => absurd x (by decide)⟩
      · refine ⟨rg_c _ rfl, fun x => absurd rfl x, fun _ => ?_⟩
        by_cases hr : rch κ ε i q
        · rw [(hv hr).2]
          exact ⟨rg_c _ rfl, fun x => absurd x (by decide), fun _ => h1 ⟨q, by omega, hr⟩⟩
        · rw [(hv2 hr).2]
          refine ⟨rg_c _ rfl, fun _ => hgo 0 (Or.inr ⟨rfl, fun k hk => ?_⟩), fun x => absurd rfl x⟩
          rcases Nat.lt_or_eq_of_le (Nat.le_of_lt_succ hk) with w | w
          · exact e0 k w
          · rw [w]; exact hr
    have h54 : rch κ ε i q → w_X3_isReached_B54 κ τ (i : Int) (prv ε i) a (q : Int) post (w_X3_isReached_L15 κ (i : Int) (prv ε i) post n) := fun r => ⟨rg_c _ rfl, fun x => absurd x (by decide), fun _ => hset 0 1 (fun _ => ⟨rfl, rfl⟩) (fun x => absurd r x)⟩
    have h58 : ¬ rch κ ε i q → w_X3_isReached_B58 κ τ (i : Int) (prv ε i) a (q : Int) post (w_X3_isReached_L15 κ (i : Int) (prv ε i) post n) := fun r => ⟨rg_c _ rfl, fun _ => hset 1000000000 0 (fun x => absurd x r) (fun _ => ⟨rfl, rfl⟩), fun x => absurd rfl x⟩
    have hre := rch_eq κ ε i q
    refine s_X1_allows hCt.1 hV (by omega) hi (by simp only [rg]; omega) (fun x => ⟨rg_c _ rfl, fun y => absurd y (by decide), fun _ => ?_⟩) (fun x => ⟨rg_c _ rfl, fun _ => h58 (fun y => ?_), fun y => absurd rfl y⟩)
    · rw [Int.toNat_natCast] at x
      refine ⟨?_, fun y => h54 (hre.mpr ⟨x, Or.inl y⟩), fun y => ?_⟩
      · rcases prv_spec (ε := ε) (i := i) with ⟨b, -⟩ | ⟨b, b1, b2, -⟩
        · rw [b]; exact rg_c _ rfl
        · rw [b2]; simp only [rg]; omega
      · obtain ⟨p, hp⟩ : ∃ p : Nat, prv ε i = (p : Int) := ⟨(prv ε i).toNat, by omega⟩
        have hpi := (prv_nxt hi hp).1
        rw [hp, Int.toNat_natCast] at hre
        rw [hp] at h54 h58 ⊢
        refine s_X3_canCome hκ hV hCt (by omega) hi hqc (hRt p hpi) (fun w => ⟨rg_c _ rfl, fun t => absurd t (by decide), fun _ => h54 (hre.mpr ⟨x, Or.inr w⟩)⟩) (fun w => ⟨rg_c _ rfl, fun _ => h58 (fun t => ?_), fun t => absurd rfl t⟩)
        rcases (hre.mp t).2 with e | e
        · omega
        · exact w e
    · rw [Int.toNat_natCast] at x
      exact x (hre.mp y).1
/-- the least event that no row of states reaches -/
def IsStk (κ : Nat) (ε : Mem) (r : Int) : Prop := (r = -2 ∧ ∀ i : Nat, (i : Int) < ε 2 7 → rchd κ ε i) ∨ ∃ i : Nat, (i : Int) < ε 2 7 ∧ r = (i : Int) ∧ ¬ rchd κ ε i ∧ ∀ j, j < i → rchd κ ε j
theorem IsStk.uq {r s : Int} (h : IsStk κ ε r) (g : IsStk κ ε s) : r = s := by
  rcases h with ⟨a, b⟩ | ⟨i, a, b, c, d⟩ <;> rcases g with ⟨e, f⟩ | ⟨j, e, f, g, k⟩
  · rw [a, e]
  · exact absurd (b j e) g
  · exact absurd (f i a) c
  · rcases Nat.lt_trichotomy i j with z | z | z
    · exact absurd (k i z) c
    · rw [b, f, z]
    · exact absurd (d j z) g
theorem s_X3_firstStuck {post : Int → Mem → Prop} (hκ : κ < 5) (hV : VE κ ε) (hC : SC κ ε σ) (h : ∀ r τ, (∀ c, c ≠ 16 → τ c = σ c) → IsStk κ ε r → post r τ) : w_X3_firstStuck κ σ post := by
  have hn := hV.1
  refine lp2 (w_X3_firstStuck_L2 κ post) (fun a τ => ∃ i : Nat, a = (i : Int) ∧ (i : Int) ≤ ε 2 7 ∧ (∀ c, c ≠ 16 → τ c = σ c) ∧ (∀ j, j < i → PRow κ ε τ j) ∧ ∀ j, j < i → rchd κ ε j) (fun a τ => (ε 2 7 - a).toNat) ?_ _ _ ⟨0, rfl, by omega, fun _ _ => rfl, fun j hj => by omega, fun j hj => by omega⟩
  intro n a τ ⟨i, ha, hi, hfr, hR, hd⟩ ih
  subst ha
  have hCt : SC κ ε τ := hC.k ⟨fun c hc => hfr c (by omega), by rw [hfr 14 (by decide)]⟩
  show w_X3_firstStuck_L2_body κ post _ _ _
  simp only [w_X3_firstStuck_L2_body, hCt.1.1]
  refine ⟨by simp only [rg]; omega, by simp only [rg]; omega, fun z => h _ _ hfr (Or.inl ⟨rfl, fun j hj => hd j (by omega)⟩), fun z => s_X3_isReached hκ hV hCt z hR (fun υ hfu hRu => ⟨fun y => ⟨rg_c _ rfl, fun _ => ?_, fun x => absurd x (by decide)⟩, fun y => ⟨rg_c _ rfl, fun x => absurd rfl x, fun _ => ?_⟩⟩)⟩
  · refine ih _ _ ⟨i + 1, by push_cast; rfl, by omega, fun c hc => by rw [hfu c hc, hfr c hc], hRu, fun j hj => ?_⟩ (by omega)
    rcases Nat.lt_or_eq_of_le (Nat.le_of_lt_succ hj) with w | w
    · exact hd j w
    · rw [w]; exact y
  · exact h _ _ (fun c hc => by rw [hfu c hc, hfr c hc]) (Or.inr ⟨i, z, rfl, y, hd⟩)
end SEARCH
