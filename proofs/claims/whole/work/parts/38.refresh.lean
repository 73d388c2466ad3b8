/-! what is left, the way, the sum -/
def WRow (κ : Nat) (ε σ : Mem) (i : Nat) : Prop := ∀ k, k < cS κ ε i → σ 16 (i * wd κ + k) = rst κ ε i k
/-- the first of the least -/
def amL (f : Nat → Int) : Nat → Nat
  | 0 => 0
  | c + 1 => if f c < mnL f c then c else amL f c
theorem amL_lt (f : Nat → Int) {c : Nat} (h : 0 < c) : amL f c < c := by
  induction c with
  | zero => omega
  | succ c ih =>
    simp only [amL]
    split
    · omega
    · by_cases z : c = 0
      · subst z; simp [amL]
      · have := ih (by omega); omega
theorem amL_is (f : Nat → Int) {c : Nat} (h : mnL f c < 1000000000) : f (amL f c) = mnL f c ∧ ∀ j, j < amL f c → mnL f c < f j := by
  induction c with
  | zero => simp [mnL] at h
  | succ c ih =>
    simp only [mnL] at h ⊢
    simp only [amL]
    by_cases q : f c < mnL f c
    · rw [if_pos q]
      exact ⟨by omega, fun j hj => by have := mnL_at f hj; omega⟩
    · rw [if_neg q]
      have := ih (by omega)
      exact ⟨by rw [this.1]; omega, fun j hj => by have := this.2 j hj; omega⟩
theorem amL_congr {f g : Nat → Int} {c : Nat} (h : ∀ k, k < c → f k = g k) : amL f c = amL g c := by
  induction c with
  | zero => rfl
  | succ c ih => simp only [amL]; rw [ih (fun k hk => h k (by omega)), h c (by omega), mnL_congr (fun k hk => h k (by omega))]
/-- the state of an event in THE WAY -/
noncomputable def chsF (κ : Nat) (ε : Mem) (f : Nat → Nat) (i : Nat) : Nat := if prv ε i < 0 then amL (rst κ ε i) (cS κ ε i) else amL (onw κ ε (rst κ ε i) (prv ε i).toNat (f (prv ε i).toNat) i) (cS κ ε i)
noncomputable def chs (κ : Nat) (ε : Mem) : Nat → Nat := cv (chsF κ ε) 0
theorem chs_eq (κ : Nat) (ε : Mem) (i : Nat) : chs κ ε i = if prv ε i < 0 then amL (rst κ ε i) (cS κ ε i) else amL (onw κ ε (rst κ ε i) (prv ε i).toNat (chs κ ε (prv ε i).toNat) i) (cS κ ε i) :=
  cv_eq (F := chsF κ ε) (d := 0) (fun i f g h => by
    unfold chsF
    rcases prv_spec (ε := ε) (i := i) with ⟨a, -⟩ | ⟨p', a, c, -⟩
    · rw [a]; simp
    · rw [c, Int.toNat_natCast, h p' a]) i
/-- the first event of a hand -/
def fst (ε : Mem) (h : Int) : Int := firstH (ε 4) h 0 (ε 2 7).toNat
theorem fst_spec {ε : Mem} {h : Int} : (fst ε h = -1 ∧ ∀ j : Nat, (j : Int) < ε 2 7 → ε 4 j ≠ h) ∨ ∃ j : Nat, (j : Int) < ε 2 7 ∧ fst ε h = j ∧ ε 4 j = h ∧ ∀ q, q < j → ε 4 q ≠ h := by
  rcases firstH_spec (ε 4) h (ε 2 7).toNat 0 with ⟨a, b⟩ | ⟨j, a, b, c, d, e⟩
  · exact Or.inl ⟨a, fun j h1 => b j (by omega) (by omega)⟩
  · exact Or.inr ⟨j, by omega, c, d, fun q h1 => e q (by omega) h1⟩
noncomputable def hsum (κ : Nat) (ε : Mem) (h : Int) : Int := if fst ε h < 0 then 0 else rst κ ε (fst ε h).toNat (chs κ ε (fst ε h).toNat)
section REFRESH
variable {κ : Nat} {σ ε : Mem}
theorem s_X3_cheapestOnward {post : Int → Prop} (hκ : κ < 5) (hV : VE κ ε) (hC : SC κ ε σ) {i k j : Nat} (hi : (i : Int) < ε 2 7) (hk : k < cS κ ε i) (hj : (j : Int) < ε 2 7) (hR : WRow κ ε σ j) (h : post (mnL (onw κ ε (rst κ ε j) i k j) (cS κ ε j))) : w_X3_cheapestOnward κ σ (i : Int) (k : Int) (j : Int) post := by
  have hn := hV.1
  have hc := cS_le hκ hV hj
  have hwd := wd_le κ
  refine lp2 (w_X3_cheapestOnward_L7 κ σ (i : Int) (k : Int) (j : Int) post) (fun a u => ∃ q : Nat, u = (q : Int) ∧ q ≤ cS κ ε j ∧ a = mnL (onw κ ε (rst κ ε j) i k j) q ∧ 0 ≤ a) (fun a u => (cS κ ε j - u).toNat) ?_ _ _ ⟨0, rfl, by omega, rfl, by omega⟩
  intro n a u ⟨q, hu, hq, ha, ha0⟩ ih
  subst hu
  have hle := mnL_le (onw κ ε (rst κ ε j) i k j) q
  show w_X3_cheapestOnward_L7_body κ σ _ _ _ post _ _ _
  simp only [w_X3_cheapestOnward_L7_body, w_X3_cheapestOnward_B55]
  refine s_cnt hV hC hj ⟨by simp only [rg]; omega, by simp only [rg]; omega, fun z => ?_, fun z => ?_⟩
  · rw [show cS κ ε j = q by omega, ← ha] at h
    exact h
  · have hqc : q < cS κ ε j := by omega
    have hs := sS_b hκ hV hi hk hj hqc
    have hr := (rst_b40 hκ hV hj hqc).1
    have hon : onw κ ε (rst κ ε j) i k j q = if sS κ ε i k j q = -2 ∨ rst κ ε j q ≥ 1000000000 then 1000000000 else sS κ ε i k j q + rst κ ε j q := rfl
    refine s_st hκ hV hC hi hk hj hqc ⟨by simp only [rg]; omega, fun y => ?_, fun y => ?_⟩
    · refine ih _ _ ⟨q + 1, by push_cast; rfl, by omega, ?_, ha0⟩ (by omega)
      rw [if_pos (Or.inl y)] at hon
      simp only [mnL, hon]
      omega
    · refine s_X3_painsOf hC.2.2.1 (by omega) (by omega) ?_
      rw [hR q hqc]
      refine ⟨by simp only [rg]; omega, by simp only [rg]; omega, ?_⟩
      refine ih _ _ ⟨q + 1, by push_cast; rfl, by omega, ?_, by omega⟩ (by omega)
      simp only [mnL, hon]
      by_cases x : rst κ ε j q ≥ 1000000000
      · rw [if_pos (Or.inr x)]; omega
      · rw [if_neg (fun w => w.elim y x)]; omega
theorem s_X3_weighRests {post : Mem → Prop} (hκ : κ < 5) (hV : VE κ ε) (hC : SC κ ε σ) (h : ∀ τ, (∀ c, c ≠ 16 → τ c = σ c) → (∀ i : Nat, (i : Int) < ε 2 7 → WRow κ ε τ i) → post τ) : w_X3_weighRests κ σ post := by
  have hn := hV.1
  have hwd := wd_le κ
  show ∃ n, w_X3_weighRests_L10 κ post n (σ 2 7 - 1) σ
  rw [hC.1.1]
  refine lp2 (w_X3_weighRests_L10 κ post) (fun a τ => ∃ i : Nat, a = (i : Int) - 1 ∧ (i : Int) ≤ ε 2 7 ∧ (∀ c, c ≠ 16 → τ c = σ c) ∧ ∀ j : Nat, i ≤ j → (j : Int) < ε 2 7 → WRow κ ε τ j) (fun a τ => (a + 1).toNat) ?_ _ _ ⟨(ε 2 7).toNat, by omega, by omega, fun _ _ => rfl, fun j hj => by omega⟩
  intro n a τ ⟨i1, ha, hi1, hfr, hR⟩ ih
  subst ha
  have hCt : SC κ ε τ := hC.k ⟨fun c hc => hfr c (by omega), by rw [hfr 14 (by decide)]⟩
  show w_X3_weighRests_L10_body κ post _ _ _
  simp only [w_X3_weighRests_L10_body]
  refine ⟨by simp only [rg]; omega, fun z => h τ hfr (fun j hj => hR j (by omega) hj), fun z => ?_⟩
  obtain ⟨i, rfl⟩ : ∃ i : Nat, i1 = i + 1 := ⟨i1 - 1, by omega⟩
  rw [show (((i + 1 : Nat) : Int) - 1) = (i : Int) by omega]
  have hi : (i : Int) < ε 2 7 := by omega
  have hc := cS_le hκ hV hi
  refine s_X1_after hCt.1 hV (by omega) hi ?_
  rw [Int.toNat_natCast]
  refine lp2 (w_X3_weighRests_L26 κ (i : Int) (nxt ε i) post (w_X3_weighRests_L10 κ post n)) (fun u υ => ∃ q : Nat, u = (q : Int) ∧ q ≤ cS κ ε i ∧ (∀ c, c ≠ 16 → υ c = σ c) ∧ (∀ j : Nat, i + 1 ≤ j → (j : Int) < ε 2 7 → WRow κ ε υ j) ∧ ∀ k, k < q → υ 16 (i * wd κ + k) = rst κ ε i k) (fun u υ => (cS κ ε i - u).toNat) ?_ _ _ ⟨0, rfl, by omega, hfr, hR, fun k hk => by omega⟩
  intro n2 u υ ⟨q, hu, hq, hf2, hR2, hrow⟩ ih2
  subst hu
  have hCu : SC κ ε υ := hC.k ⟨fun c hc => hf2 c (by omega), by rw [hf2 14 (by decide)]⟩
  show w_X3_weighRests_L26_body κ _ _ post _ _ _ _
  simp only [w_X3_weighRests_L26_body]
  refine s_cnt hV hCu hi ⟨by simp only [rg]; omega, by simp only [rg]; omega, fun y => ?_, fun y => ?_⟩
  · refine ih _ _ ⟨i, by omega, by omega, hf2, fun j hj1 hj2 => ?_⟩ (by omega)
    by_cases e : j = i
    · subst e; exact fun k hk => hrow k (by omega)
    · exact hR2 j (by omega) hj2
  · have hqc : q < cS κ ε i := by omega
    have hp := pS_b hκ hV hi hqc
    have hb := rst_b40 hκ hV hi hqc
    have he := rst_eq κ ε hi q
    have h72 : ∀ v : Int, (0 ≤ v ∧ v ≤ 1000000000) → min 1000000000 (v + pS κ ε i q) = rst κ ε i q → w_X3_weighRests_B72 κ υ (i : Int) (nxt ε i) (q : Int) v post (w_X3_weighRests_L10 κ post n) (w_X3_weighRests_L26 κ (i : Int) (nxt ε i) post (w_X3_weighRests_L10 κ post n) n2) := by
      intro v hv hvr
      refine s_pr hκ hV hCu hi hqc ⟨by simp only [rg]; omega, s_X3_setPains hCu.2.2.1 (by omega) (by omega) (fun ω e => ?_)⟩
      obtain ⟨f1, f2, f3⟩ := up16 e
      refine ih2 _ _ ⟨q + 1, by push_cast; rfl, by omega, fun c hc => by rw [f1 c hc, hf2 c hc], fun j hj1 hj2 k hk => ?_, fun k hk => ?_⟩ (by omega)
      · rw [f3 _ (ix_ne (by omega) (by have := cS_le hκ hV (i := j) hj2; omega) (by omega))]
        exact hR2 j hj1 hj2 k hk
      · rcases Nat.lt_or_eq_of_le (Nat.le_of_lt_succ hk) with w | w
        · rw [f3 _ (by omega)]; exact hrow k w
        · rw [w, f2]; exact hvr
    have hbst : lets ε i (q : Int) → min 1000000000 (bst κ ε i q + pS κ ε i q) = rst κ ε i q := by
      intro x
      by_cases w : bst κ ε i q < 1000000000
      · rw [he.1 x w]; omega
      · rw [he.2 (fun t => w t.2)]; omega
    refine s_X1_allows hCu.1 hV (by omega) hi (by simp only [rg]; omega) (fun x => ⟨rg_c _ rfl, fun t => absurd t (by decide), fun _ => ?_⟩) (fun x => ⟨rg_c _ rfl, fun _ => h72 _ (by omega) ?_, fun t => absurd rfl t⟩)
    · rw [Int.toNat_natCast] at x
      have hx := hbst x
      unfold bst at hx
      refine ⟨?_, fun t => ?_, fun t => ?_⟩
      · rcases nxt_spec (ε := ε) (i := i) with ⟨b, -⟩ | ⟨b, b1, b2, b3, -⟩
        · rw [b]; exact rg_c _ rfl
        · rw [b3]; simp only [rg]; omega
      · obtain ⟨j, hj⟩ : ∃ j : Nat, nxt ε i = (j : Int) := ⟨(nxt ε i).toNat, by omega⟩
        obtain ⟨j1, j2, j3⟩ := nxt_prv hj
        have hb2 := hb.2
        unfold bst at hb2
        rw [if_neg (show ¬ nxt ε i < 0 by omega)] at hx hb2
        rw [hj, Int.toNat_natCast] at hx hb2
        rw [hj] at h72 ⊢
        refine s_X3_cheapestOnward hκ hV hCu hi hqc j2 (hR2 j (by omega) j2) ?_
        exact h72 _ (by omega) hx
      · rw [if_pos t] at hx
        exact h72 0 (by omega) hx
    · rw [Int.toNat_natCast] at x
      rw [he.2 (fun t => x t.1)]
      omega
theorem s_X3_bestState {post : Int → Prop} (hκ : κ < 5) (hV : VE κ ε) (hC : SC κ ε σ) {i : Nat} (hi : (i : Int) < ε 2 7) (hR : WRow κ ε σ i) {b : Int} {f : Nat → Int} (hb : (b = -1 ∧ ∀ k, k < cS κ ε i → f k = rst κ ε i k) ∨ ∃ p c : Nat, b = (p : Int) ∧ (p : Int) < ε 2 7 ∧ σ 15 p = (c : Int) ∧ c < cS κ ε p ∧ ∀ k, k < cS κ ε i → f k = onw κ ε (rst κ ε i) p c i k) (h : post (amL f (cS κ ε i))) : w_X3_bestState κ σ b (i : Int) post := by
  have hn := hV.1
  have hc := cS_le hκ hV hi
  have hwd := wd_le κ
  have hfb : ∀ k, k < cS κ ε i → 0 ≤ f k := by
    intro k hk
    have hr := (rst_b40 hκ hV hi hk).1
    rcases hb with ⟨-, e⟩ | ⟨p, c, -, p1, -, c1, e⟩
    · rw [e k hk]; omega
    · rw [e k hk]
      have hs := sS_b hκ hV p1 c1 hi hk
      unfold onw
      split <;> omega
  refine lp3 (w_X3_bestState_L10 κ σ b (i : Int) post) (fun a d u => ∃ q : Nat, u = (q : Int) ∧ q ≤ cS κ ε i ∧ a = (amL f q : Nat) ∧ d = mnL f q ∧ 0 ≤ d) (fun a d u => (cS κ ε i - u).toNat) ?_ _ _ _ ⟨0, rfl, by omega, rfl, rfl, by omega⟩
  intro n a d u ⟨q, hu, hq, ha, hd, hd0⟩ ih
  subst hu ha
  have hle := mnL_le f q
  show w_X3_bestState_L10_body κ σ _ _ post _ _ _ _
  simp only [w_X3_bestState_L10_body]
  refine s_cnt hV hC hi ⟨by simp only [rg]; omega, by simp only [rg]; omega, fun z => ?_, fun z => ?_⟩
  · rw [show cS κ ε i = q by omega] at h
    exact h
  · have hqc : q < cS κ ε i := by omega
    have hr := (rst_b40 hκ hV hi hqc).1
    have hf0 := hfb q hqc
    have h41 : ∀ s : Int, (s = -2 ∨ (0 ≤ s ∧ s ≤ 2001)) → (s = -2 → f q ≥ 1000000000) → (s ≠ -2 → (rst κ ε i q ≥ 1000000000 → f q ≥ 1000000000) ∧ (rst κ ε i q < 1000000000 → f q = s + rst κ ε i q)) → w_X3_bestState_B41 κ σ b (i : Int) ((amL f q : Nat) : Int) d (q : Int) s post (w_X3_bestState_L10 κ σ b (i : Int) post n) := by
      intro s hs hs1 hs2
      have hkeep : f q ≥ d → w_X3_bestState_L10 κ σ b (i : Int) post n ((amL f q : Nat) : Int) d ((q : Int) + 1) := by
        intro w
        refine ih _ _ _ ⟨q + 1, by push_cast; rfl, by omega, ?_, ?_, hd0⟩ (by omega)
        · simp only [amL]; rw [if_neg (by omega)]
        · simp only [mnL]; omega
      refine ⟨by simp only [rg]; omega, fun y => hkeep (by have := hs1 y; omega), fun y => ?_⟩
      obtain ⟨g1, g2⟩ := hs2 y
      refine s_X3_painsOf hC.2.2.1 (by omega) (by omega) ?_
      rw [hR q hqc]
      refine ⟨by simp only [rg]; omega, by simp only [rg]; omega, fun w => hkeep ?_, fun w => ?_⟩
      · by_cases t : rst κ ε i q ≥ 1000000000
        · have := g1 t; omega
        · have := g2 (by omega); omega
      · have t : rst κ ε i q < 1000000000 := by omega
        have hfq := g2 t
        refine s_X3_painsOf hC.2.2.1 (by omega) (by omega) ?_
        rw [hR q hqc]
        refine ih _ _ _ ⟨q + 1, by push_cast; rfl, by omega, ?_, ?_, by omega⟩ (by omega)
        · simp only [amL]; rw [if_pos (by omega)]
        · simp only [mnL]; omega
    rcases hb with ⟨hb, e⟩ | ⟨p, c, hb, p1, hch, c1, e⟩
    · subst hb
      exact ⟨rg_c _ rfl, fun y => absurd y (by decide), fun _ => h41 0 (by omega) (fun y => by omega) (fun _ => ⟨fun y => by rw [e q hqc]; exact y, fun _ => by rw [e q hqc]; omega⟩)⟩
    · subst hb
      have hs := sS_b hκ hV p1 c1 hi hqc
      have hon : f q = if sS κ ε p c i q = -2 ∨ rst κ ε i q ≥ 1000000000 then 1000000000 else sS κ ε p c i q + rst κ ε i q := e q hqc
      refine ⟨by simp only [rg]; omega, fun _ => s_X3_chosenOf (by omega) ?_, fun y => by omega⟩
      rw [hch]
      refine s_st hκ hV hC p1 c1 hi hqc (h41 _ hs (fun y => ?_) (fun y => ⟨fun w => ?_, fun w => ?_⟩))
      · rw [if_pos (Or.inl y)] at hon; omega
      · rw [if_pos (Or.inr w)] at hon; omega
      · rw [if_neg (fun t => t.elim y (by omega))] at hon; exact hon
theorem s_X3_chooseWay {post : Mem → Prop} (hκ : κ < 5) (hV : VE κ ε) (hC : SC κ ε σ) (hR : ∀ i : Nat, (i : Int) < ε 2 7 → WRow κ ε σ i) (hne : ∀ i : Nat, (i : Int) < ε 2 7 → 0 < cS κ ε i) (h : ∀ τ, (∀ c, c ≠ 15 → τ c = σ c) → (∀ i : Nat, (i : Int) < ε 2 7 → τ 15 i = ((chs κ ε i : Nat) : Int)) → post τ) : w_X3_chooseWay κ σ post := by
  have hn := hV.1
  refine lp2 (w_X3_chooseWay_L2 κ post) (fun a τ => ∃ i : Nat, a = (i : Int) ∧ (i : Int) ≤ ε 2 7 ∧ (∀ c, c ≠ 15 → τ c = σ c) ∧ ∀ j, j < i → τ 15 j = ((chs κ ε j : Nat) : Int)) (fun a τ => (ε 2 7 - a).toNat) ?_ _ _ ⟨0, rfl, by omega, fun _ _ => rfl, fun j hj => by omega⟩
  intro n a τ ⟨i, ha, hi, hfr, hch⟩ ih
  subst ha
  have hCt : SC κ ε τ := hC.k ⟨fun c hc => hfr c (by omega), by rw [hfr 14 (by decide)]⟩
  show w_X3_chooseWay_L2_body κ post _ _ _
  simp only [w_X3_chooseWay_L2_body, w_X3_chooseWay_B45, hCt.1.1]
  refine ⟨by simp only [rg]; omega, by simp only [rg]; omega, fun z => h τ hfr (fun j hj => hch j (by omega)), fun z => ⟨by simp only [rg]; omega, fun y => by omega, fun _ => ?_⟩⟩
  refine s_X1_before hCt.1 hV (by omega) z ?_
  rw [Int.toNat_natCast]
  have hRt : WRow κ ε τ i := fun k hk => by rw [hfr 16 (by decide)]; exact hR i z k hk
  have hnext : inb (i : Int) 40 ∧ ∀ σ5 : Mem, σ5 = up2 τ 15 ((i : Int)).toNat ((chs κ ε i : Nat) : Int) → w_X3_chooseWay_L2 κ post n ((i : Int) + 1) σ5 := by
    refine ⟨by simp only [inb]; omega, fun υ e => ?_⟩
    rw [Int.toNat_natCast] at e
    refine ih _ _ ⟨i + 1, by push_cast; rfl, by omega, fun c hc => by rw [e, up2_k hc, hfr c hc], fun j hj => ?_⟩ (by omega)
    rcases Nat.lt_or_eq_of_le (Nat.le_of_lt_succ hj) with w | w
    · rw [e]; simp only [up2, if_true, if_neg (show j ≠ i by omega)]; exact hch j w
    · rw [w, e]; simp [up2]
  have hce := chs_eq κ ε i
  rcases prv_spec (ε := ε) (i := i) with ⟨b, -⟩ | ⟨p, b1, b2, -⟩
  · rw [b, if_pos (by decide)] at hce
    rw [b]
    refine s_X3_bestState hκ hV hCt z hRt (f := rst κ ε i) (Or.inl ⟨rfl, fun _ _ => rfl⟩) ?_
    rw [← hce]; exact hnext
  · rw [b2, if_neg (by omega), Int.toNat_natCast] at hce
    rw [b2]
    have hcp : chs κ ε p < cS κ ε p := by
      have := hne p (by omega)
      rw [chs_eq]
      split <;> exact amL_lt _ this
    refine s_X3_bestState hκ hV hCt z hRt (f := onw κ ε (rst κ ε i) p (chs κ ε p) i) (Or.inr ⟨p, chs κ ε p, rfl, by omega, hch p b1, hcp, fun _ _ => rfl⟩) ?_
    rw [← hce]; exact hnext
theorem s_X3_sumOfChains {post : Int → Prop} (hκ : κ < 5) (hV : VE κ ε) (hC : SC κ ε σ) (hR : ∀ i : Nat, (i : Int) < ε 2 7 → WRow κ ε σ i) (hch : ∀ i : Nat, (i : Int) < ε 2 7 → σ 15 i = ((chs κ ε i : Nat) : Int)) (hne : ∀ i : Nat, (i : Int) < ε 2 7 → 0 < cS κ ε i) (h : post (hsum κ ε 0 + hsum κ ε 1)) : w_X3_sumOfChains κ σ post := by
  have hn := hV.1
  refine lp2 (w_X3_sumOfChains_L4 κ σ post) (fun a u => (u = 0 ∧ a = 0) ∨ (u = 1 ∧ a = hsum κ ε 0) ∨ (u = 2 ∧ a = hsum κ ε 0 + hsum κ ε 1)) (fun a u => (2 - u).toNat) ?_ _ _ (Or.inl ⟨rfl, rfl⟩)
  intro n a u hau ih
  have hu : 0 ≤ u ∧ u ≤ 2 := by omega
  show w_X3_sumOfChains_L4_body κ σ post _ _ _
  simp only [w_X3_sumOfChains_L4_body, w_X3_sumOfChains_B39]
  refine ⟨by simp only [rg]; omega, fun z => ?_, fun z => ?_⟩
  · rcases hau with ⟨e, -⟩ | ⟨e, -⟩ | ⟨e, ea⟩
    · omega
    · omega
    · rw [ea]; exact h
  · have hgo : w_X3_sumOfChains_L4 κ σ post n (a + hsum κ ε u) (u + 1) := by
      refine ih _ _ ?_ (by omega)
      rcases hau with ⟨e, ea⟩ | ⟨e, ea⟩ | ⟨e, ea⟩
      · subst e ea; right; left; exact ⟨rfl, by omega⟩
      · subst e ea; right; right; exact ⟨rfl, rfl⟩
      · omega
    refine s_X1_firstOfHand hC.1 hV (by simp only [rg]; omega) (by omega) (by omega) ?_
    rw [tn0, Nat.sub_zero]
    rw [show firstH (ε 4) u 0 (ε 2 7).toNat = fst ε u from rfl]
    unfold hsum at hgo
    rcases fst_spec (ε := ε) (h := u) with ⟨b, -⟩ | ⟨j, j1, j2, -⟩
    · rw [b] at hgo ⊢
      exact ⟨rg_c _ rfl, fun y => absurd y (by decide), fun _ => hgo⟩
    · rw [j2] at hgo ⊢
      rw [if_neg (by omega), Int.toNat_natCast] at hgo
      refine ⟨by simp only [rg]; omega, fun _ => s_X3_chosenOf (by omega) ?_, fun y => by omega⟩
      rw [hch j j1]
      have hcp : chs κ ε j < cS κ ε j := by
        have := hne j j1
        rw [chs_eq]
        split <;> exact amL_lt _ this
      have := cS_le hκ hV j1
      refine s_X3_painsOf hC.2.2.1 (by omega) (by omega) ?_
      rw [hR j j1 _ hcp]
      exact hgo
/-- the answers that the search keeps -/
def SrOk (κ : Nat) (ε τ : Mem) : Prop := IsStk κ ε (τ 14 4) ∧ (τ 14 4 ≠ -2 → τ 14 3 = -2) ∧ (τ 14 4 = -2 → τ 14 3 = hsum κ ε 0 + hsum κ ε 1 ∧ ∀ i : Nat, (i : Int) < ε 2 7 → τ 15 i = ((chs κ ε i : Nat) : Int))
def FrR (σ τ : Mem) : Prop := (∀ c, c ≠ 1 → c ≠ 10 → c ≠ 11 → c ≠ 12 → c ≠ 13 → c ≠ 14 → c ≠ 15 → c ≠ 16 → τ c = σ c) ∧ (∀ j, j ≠ 6 → τ 1 j = σ 1 j) ∧ τ 14 0 = σ 14 0
theorem rchd_c {i : Nat} (h : rchd κ ε i) : 0 < cS κ ε i := by
  obtain ⟨k, hk, -⟩ := h
  omega
theorem s_X3_refresh {post : Mem → Prop} (hκ : κ < 5) (hS : SP σ ε) (hV : VE κ ε) (hw : σ 1 1 = (wd κ : Int)) (hw2 : σ 14 0 = (wd κ : Int)) (h6 : 0 ≤ σ 1 6 ∧ σ 1 6 ≤ ε 2 7) (hrow : ∀ i : Nat, (i : Int) < σ 1 6 → RowC (wd κ) σ i (SL κ ε i)) (hcur : σ 14 5 = 0 ∨ σ 14 5 = 1) (hold : σ 14 5 = 1 → post σ) (h : ∀ τ, FrR σ τ → τ 1 6 = ε 2 7 → LstC κ ε τ → τ 14 5 = 1 → SrOk κ ε τ → post τ) : w_X3_refresh κ σ post := by
  refine ⟨by simp only [rg]; omega, fun z => ?_, fun z => hold (by omega)⟩
  refine s_X2_listAll hκ hS hV hw h6 hrow (fun σ2 f2 e6 l2 => ?_)
  have hC2 : SC κ ε σ2 := ⟨f2.sp hS, by rw [f2.2 1 (by decide)]; exact hw, by rw [f2.1 14 (by decide) (by decide) (by decide) (by decide) (by decide)]; exact hw2, l2⟩
  refine s_X3_firstStuck hκ hV hC2 (fun r σ4 f4 hr => ?_)
  intro σ5 e5 σ6 e6'
  have g5 : ∀ c, c ≠ 14 → σ6 c = σ4 c := fun c hc => by rw [e6', up2_k hc, e5, up2_k hc]
  have g144 : σ6 14 4 = r := by rw [e6', e5]; simp [up2]
  have g143 : σ6 14 3 = -2 := by rw [e6']; simp [up2]
  have g140 : σ6 14 0 = σ4 14 0 := by rw [e6', e5]; simp [up2]
  have hC6 : SC κ ε σ6 := hC2.k ⟨fun c hc => by rw [g5 c (by omega), f4 c (by omega)], by rw [g140, f4 14 (by decide)]⟩
  have hFr6 : FrR σ σ6 := ⟨fun c c1 c2 c3 c4 c5 c6 c7 c8 => by rw [g5 c c6, f4 c c8, f2.1 c c1 c2 c3 c4 c5], fun j hj => by rw [g5 1 (by decide), f4 1 (by decide), f2.2 j hj], by rw [g140, f4 14 (by decide), f2.1 14 (by decide) (by decide) (by decide) (by decide) (by decide)]⟩
  have h616 : σ6 1 6 = ε 2 7 := by rw [g5 1 (by decide), f4 1 (by decide)]; exact e6
  have hrg : rg (σ6 14 4) := by
    rw [g144]
    have := hV.1
    rcases hr with ⟨a, -⟩ | ⟨i, a, b, -⟩
    · rw [a]; exact rg_c _ rfl
    · rw [b]; simp only [rg]; omega
  refine ⟨hrg, fun y => ?_, fun y => ?_⟩
  · intro σ7 e7
    refine h σ7 ⟨fun c c1 c2 c3 c4 c5 c6 c7 c8 => by rw [e7, up2_k c6]; exact hFr6.1 c c1 c2 c3 c4 c5 c6 c7 c8, fun j hj => by rw [e7, up2_k (by decide)]; exact hFr6.2.1 j hj, by rw [e7]; simp [up2]; exact hFr6.2.2⟩ (by rw [e7, up2_k (by decide)]; exact h616) ?_ (by rw [e7]; simp [up2]) ?_
    · exact (hC6.k ⟨fun c hc => by rw [e7, up2_k (by omega)], by rw [e7]; simp [up2]⟩).2.2.2
    · have a4 : σ7 14 4 = σ6 14 4 := by rw [e7]; simp [up2]
      have a3 : σ7 14 3 = σ6 14 3 := by rw [e7]; simp [up2]
      exact ⟨by rw [a4, g144]; exact hr, fun _ => by rw [a3]; exact g143, fun w => absurd (a4 ▸ w) y⟩
  · rw [g144] at y
    have hall : ∀ i : Nat, (i : Int) < ε 2 7 → rchd κ ε i := by
      rcases hr with ⟨a, b⟩ | ⟨i, a, b, -⟩
      · exact b
      · omega
    have hne := fun i hi => rchd_c (hall i hi)
    refine s_X3_weighRests hκ hV hC6 (fun σ9 f9 r9 => ?_)
    have hC9 : SC κ ε σ9 := hC6.k ⟨fun c hc => f9 c (by omega), by rw [f9 14 (by decide)]⟩
    refine s_X3_chooseWay hκ hV hC9 r9 hne (fun σ11 f11 c11 => ?_)
    have hC11 : SC κ ε σ11 := hC9.k ⟨fun c hc => f11 c (by omega), by rw [f11 14 (by decide)]⟩
    refine s_X3_sumOfChains hκ hV hC11 (fun i hi k hk => by rw [f11 16 (by decide)]; exact r9 i hi k hk) c11 hne ?_
    intro σ14 e14 σ7 e7
    have t : ∀ c, c ≠ 14 → σ7 c = σ11 c := fun c hc => by rw [e7, up2_k hc, e14, up2_k hc]
    have a4 : σ7 14 4 = -2 := by
      rw [e7, e14]
      simp only [up2]
      simp
      rw [f11 14 (by decide), f9 14 (by decide), g144]
      exact y
    refine h σ7 ⟨fun c c1 c2 c3 c4 c5 c6 c7 c8 => by rw [t c c6, f11 c c7, f9 c c8]; exact hFr6.1 c c1 c2 c3 c4 c5 c6 c7 c8, fun j hj => by rw [t 1 (by decide), f11 1 (by decide), f9 1 (by decide)]; exact hFr6.2.1 j hj, ?_⟩ (by rw [t 1 (by decide), f11 1 (by decide), f9 1 (by decide)]; exact h616) ?_ (by rw [e7]; simp [up2]) ?_
    · rw [e7, e14]
      simp only [up2]
      simp
      rw [f11 14 (by decide), f9 14 (by decide)]
      exact hFr6.2.2
    · exact (hC11.k ⟨fun c hc => t c (by omega), by rw [e7, e14]; simp [up2]⟩).2.2.2
    · refine ⟨by rw [a4]; exact y ▸ hr, fun w => absurd a4 w, fun _ => ⟨by rw [e7, e14]; simp [up2], fun i hi => by rw [t 15 (by decide)]; exact c11 i hi⟩⟩
end REFRESH
