section TALLY2
variable {κ : Nat} {σ ε : Mem}
theorem s_X7_cheapestOf {post : Int → Prop} {H k m : Nat} (hk : k < wd κ) (hm : m ≤ 300) (hH : (σ 35 0).toNat = H) (hHc : H = 39 ∨ H = 40) (hv : ∀ p, p ≤ m → 0 ≤ σ H (k * 301 + p) ∧ σ H (k * 301 + p) ≤ 1000000000) (h : ∀ r : Nat, r ≤ m + 1 → (∀ p, p < r → p ≤ m → σ H (k * 301 + p) = 0) → post r) : w_X7_cheapestOf κ σ (k : Int) (m : Int) post := by
  have hwd := wd_le κ
  refine lp1 (w_X7_cheapestOf_L2 κ σ (k : Int) (m : Int) post) (fun u => ∃ q : Nat, u = (q : Int) ∧ q ≤ m + 1 ∧ ∀ p, p < q → p ≤ m → σ H (k * 301 + p) = 0) (fun u => (m + 1 - u).toNat) ?_ _ ⟨0, rfl, by omega, fun p hp => by omega⟩
  intro n u ⟨q, hu, hq, hz⟩ ih
  subst hu
  show w_X7_cheapestOf_L2_body κ σ _ _ post _ _
  have e : ((k : Int) * 301 + (q : Int)) = ((k * 301 + q : Nat) : Int) := by omega
  simp only [w_X7_cheapestOf_L2_body, w_X7_cheapestOf_B43, hH, e, Int.toNat_natCast]
  refine ⟨by simp only [rg]; omega, by simp only [rg]; omega, fun z => ?_, fun z => ?_⟩
  · have := h (m + 1) (by omega) (fun p hp1 hp2 => hz p (by omega) hp2)
    rw [show ((m + 1 : Nat) : Int) = (m : Int) + 1 by omega] at this
    exact this
  · have hix := ix3 (k := k) (p := q) (w := wd κ) hk (by omega)
    have hvq := hv q (by omega)
    refine ⟨by simp only [rg]; omega, fun t => by omega, fun _ => ⟨sh39 hHc, by simp only [rg]; omega, by simp only [rg]; omega, fun t => by omega, fun _ => ⟨sh39 hHc, by simp only [inb]; omega, by simp only [rg]; omega, fun t => ?_, fun t => h q (by omega) hz⟩⟩⟩
    refine ih _ ⟨q + 1, by omega, by omega, fun p hp1 hp2 => ?_⟩ (by omega)
    rcases Nat.lt_or_eq_of_le (Nat.le_of_lt_succ hp1) with w | w
    · exact hz p w hp2
    · rw [w]; exact t
theorem s_X7_dearestOf {post : Int → Prop} {H k m : Nat} (hk : k < wd κ) (hm : m ≤ 300) (hH : (σ 35 0).toNat = H) (hHc : H = 39 ∨ H = 40) (hv : ∀ p, p ≤ m → 0 ≤ σ H (k * 301 + p) ∧ σ H (k * 301 + p) ≤ 1000000000) (h : ∀ r : Nat, r ≤ m + 1 → (∀ p, r ≤ p → p ≤ m → σ H (k * 301 + p) = 0) → post ((r : Int) - 1)) : w_X7_dearestOf κ σ (k : Int) (m : Int) post := by
  have hwd := wd_le κ
  refine lp1 (w_X7_dearestOf_L2 κ σ (k : Int) post) (fun u => ∃ q : Nat, u = (q : Int) - 1 ∧ q ≤ m + 1 ∧ ∀ p, q ≤ p → p ≤ m → σ H (k * 301 + p) = 0) (fun u => (u + 1).toNat) ?_ _ ⟨m + 1, by omega, by omega, fun p hp => by omega⟩
  intro n u ⟨q, hu, hq, hz⟩ ih
  subst hu
  show w_X7_dearestOf_L2_body κ σ _ post _ _
  simp only [w_X7_dearestOf_L2_body, w_X7_dearestOf_B42, hH]
  refine ⟨by simp only [rg]; omega, fun z => ?_, fun z => ?_⟩
  · have := h q hq hz
    rw [show (q : Int) - 1 = -1 by omega] at this
    exact this
  · have hix := ix3 (k := k) (p := q - 1) (w := wd κ) hk (by omega)
    have e : ((k : Int) * 301 + ((q : Int) - 1)) = ((k * 301 + (q - 1) : Nat) : Int) := by omega
    rw [e, Int.toNat_natCast]
    have hvq := hv (q - 1) (by omega)
    refine ⟨by simp only [rg]; omega, fun t => by omega, fun _ => ⟨sh39 hHc, by simp only [rg]; omega, by simp only [rg]; omega, fun t => by omega, fun _ => ⟨sh39 hHc, by simp only [inb]; omega, by simp only [rg]; omega, fun t => ?_, fun t => h q hq hz⟩⟩⟩
    refine ih _ ⟨q - 1, by omega, by omega, fun p hp1 hp2 => ?_⟩ (by omega)
    by_cases w : p = q - 1
    · rw [w]; exact t
    · exact hz p (by omega) hp2
/-- here's row k goes into there's row l, more prices on; the window lo .. hi holds all that isn't 0 -/
theorem s_X7_carry {post : Mem → Prop} {H T k l m more lo hi1 : Nat} {hi : Int} (hk : k < wd κ) (hl : l < wd κ) (hm : m ≤ 300) (hmore : more ≤ 3000) (hH : (σ 35 0).toNat = H) (hT : (σ 35 1).toNat = T) (hHc : H = 39 ∨ H = 40) (hTc : T = 39 ∨ T = 40) (hne : H ≠ T) (hlo : lo ≤ m + 1) (hhi1 : hi1 ≤ m + 1) (hhi : hi = min ((hi1 : Int) - 1) ((m : Int) - (more : Int))) (zlo : ∀ p, p < lo → p ≤ m → σ H (k * 301 + p) = 0) (zhi : ∀ p, hi1 ≤ p → p ≤ m → σ H (k * 301 + p) = 0) (hv : ∀ p, p ≤ m → 0 ≤ σ H (k * 301 + p) ∧ σ H (k * 301 + p) ≤ 1000000000) (hw : ∀ p, p ≤ m → 0 ≤ σ T (l * 301 + p) ∧ σ T (l * 301 + p) ≤ 1000000000)
    (h : ∀ τ, (∀ c, c ≠ T → τ c = σ c) → (∀ l' p, l' ≠ l → p ≤ 300 → τ T (l' * 301 + p) = σ T (l' * 301 + p)) → (∀ p, p ≤ m → τ T (l * 301 + p) = min 1000000000 (σ T (l * 301 + p) + if more ≤ p then σ H (k * 301 + (p - more)) else 0)) → post τ) : w_X7_carry κ σ ((k : Int) * 301) ((l : Int) * 301 + (more : Int)) (lo : Int) hi post := by
  have hwd := wd_le κ
  have hkx := ix3 (k := k) (p := 300) (w := wd κ) hk (by omega)
  have hlx := ix3 (k := l) (p := 300) (w := wd κ) hl (by omega)
  have hnone : hi < (lo : Int) → post σ := by
    intro z
    refine h σ (fun _ _ => rfl) (fun _ _ _ _ => rfl) (fun p hp => ?_)
    have hb := hw p hp
    by_cases c : more ≤ p
    · rw [if_pos c]
      have : σ H (k * 301 + (p - more)) = 0 := by
        by_cases d : p - more < lo
        · exact zlo _ d (by omega)
        · exact zhi _ (by omega) (by omega)
      rw [this]; omega
    · rw [if_neg c]; omega
  have hB36 : hi < (lo : Int) → w_X7_carry_B36 κ σ post := fun z => hnone z
  refine ⟨by simp only [rg]; omega, fun t => by omega, fun _ => ⟨by simp only [rg]; omega, fun t => by omega, fun _ => ⟨by simp only [rg]; omega, fun t => by omega, fun _ => ⟨by rw [hH]; exact sh39 hHc, by simp only [rg]; omega, by simp only [rg]; omega, fun t => hB36 (by omega), fun t => ⟨by rw [hT]; exact sh39 hTc, by simp only [rg]; omega, by simp only [rg]; omega, fun t2 => ?_, fun t2 => hB36 (by omega)⟩⟩⟩⟩⟩
  by_cases hlh : hi < (lo : Int)
  · refine ⟨1, ?_⟩
    show w_X7_carry_L40_body κ _ _ _ post _ _ _
    exact ⟨by simp only [rg]; omega, by simp only [rg]; omega, fun _ => hnone hlh, fun z => by omega⟩
  obtain ⟨top, htop⟩ : ∃ top : Nat, hi = (top : Int) := ⟨hi.toNat, by omega⟩
  subst htop
  refine lp2 (w_X7_carry_L40 κ ((k : Int) * 301) ((l : Int) * 301 + (more : Int)) (top : Int) post) (fun a τ => ∃ q : Nat, a = (q : Int) ∧ lo ≤ q ∧ q ≤ top + 1 ∧ (∀ c, c ≠ T → τ c = σ c) ∧ (∀ x, (∀ p, lo ≤ p → p < q → x ≠ l * 301 + more + p) → τ T x = σ T x) ∧ ∀ p, lo ≤ p → p < q → τ T (l * 301 + more + p) = min 1000000000 (σ T (l * 301 + more + p) + σ H (k * 301 + p))) (fun a τ => (top + 1 - a).toNat) ?_ _ _ ⟨lo, rfl, Nat.le_refl lo, by omega, fun _ _ => rfl, fun _ _ => rfl, fun p hp1 hp2 => by omega⟩
  intro n a τ ⟨q, ha, hq1, hq2, hf, hsame, hnew⟩ ih
  subst ha
  have h35 : τ 35 = σ 35 := hf 35 (by omega)
  have e1 : ((l : Int) * 301 + (more : Int) + (q : Int)) = ((l * 301 + more + q : Nat) : Int) := by omega
  have e2 : ((k : Int) * 301 + (q : Int)) = ((k * 301 + q : Nat) : Int) := by omega
  show w_X7_carry_L40_body κ _ _ _ post _ _ _
  simp only [w_X7_carry_L40_body, h35, hH, hT, e1, e2, Int.toNat_natCast]
  refine ⟨by simp only [rg]; omega, by simp only [rg]; omega, fun z => ?_, fun z => ?_⟩
  · refine h τ hf (fun l' p hl' hp => hsame _ (fun p' a1 a2 => ?_)) (fun p hp => ?_)
    · have := ix3_ne (k := l') (l := l) (p := p) (q := more + p') (by omega) (by omega) (by omega)
      rw [Nat.add_assoc]
      exact this
    · have hb := hw p hp
      by_cases c : more ≤ p
      · rw [if_pos c]
        by_cases d : lo ≤ p - more ∧ p - more < q
        · have := hnew (p - more) d.1 d.2
          rw [show l * 301 + more + (p - more) = l * 301 + p by omega] at this
          exact this
        · rw [hsame _ (fun p' a1 a2 => by omega)]
          have : σ H (k * 301 + (p - more)) = 0 := by
            by_cases d2 : p - more < lo
            · exact zlo _ d2 (by omega)
            · exact zhi _ (by omega) (by omega)
          rw [this]; omega
      · rw [if_neg c, hsame _ (fun p' a1 a2 => by omega)]; omega
  · have b1 := hv q (by omega)
    have hTq : τ T (l * 301 + more + q) = σ T (l * 301 + more + q) := hsame _ (fun p' a1 a2 => by omega)
    have hHq : τ H (k * 301 + q) = σ H (k * 301 + q) := by rw [hf H hne]
    have b2 := hw (more + q) (by omega)
    rw [show l * 301 + (more + q) = l * 301 + more + q by omega] at b2
    rw [hTq, hHq]
    refine ⟨sh39 hTc, by simp only [inb]; omega, sh39 hHc, by simp only [inb]; omega, by simp only [rg]; omega, sh39 hTc, by simp only [inb]; omega, fun υ eu => ?_⟩
    refine ih _ _ ⟨q + 1, by omega, by omega, by omega, fun c hc => by rw [eu, up2_k hc, hf c hc], fun x hx => ?_, fun p hp1 hp2 => ?_⟩ (by omega)
    · rw [eu]; simp only [up2, if_true, if_neg (show x ≠ l * 301 + more + q from hx q hq1 (by omega))]; exact hsame x (fun p' a1 a2 => hx p' a1 (by omega))
    · rcases Nat.lt_or_eq_of_le (Nat.le_of_lt_succ hp2) with w | w
      · rw [eu]; simp only [up2, if_true, if_neg (show l * 301 + more + p ≠ l * 301 + more + q by omega)]; exact hnew p hp1 w
      · rw [w, eu]; simp [up2]
/-- what row q of event i gives to state l of event j -/
noncomputable def ctr (κ : Nat) (ε : Mem) (i j l p q : Nat) : Nat := by
  classical
  exact if lets ε j (l : Int) then nwS κ ε (nw κ ε i) i j l p q else 0
theorem ctr_nw {i j l p : Nat} (h : prv ε j = (i : Int)) : sN (ctr κ ε i j l p) (cS κ ε i) = nw κ ε j l p := by
  obtain ⟨a, -, c⟩ := nw_eq κ ε j l p
  by_cases hl : lets ε j (l : Int)
  · rw [c hl i h]
    exact sN_congr (fun q _ => by unfold ctr; rw [if_pos hl])
  · rw [a hl]
    exact sN_zero (fun q _ => by unfold ctr; rw [if_neg hl])
theorem s_X7_advance {post : Mem → Prop} (hκ : κ < 5) (hV : VE κ ε) (hC : SC κ ε σ) (hT : TW σ) {i j m : Nat} (hi : (i : Int) < ε 2 7) (hj : (j : Int) < ε 2 7) (hij : prv ε j = (i : Int)) (hm : m ≤ 300) (hN : NRow κ ε σ (σ 35 0).toNat i m) (h : ∀ τ, FrT σ τ → TW τ → (∀ c, c ≠ 35 → c ≠ 39 → c ≠ 40 → τ c = σ c) → (∀ x, 2 ≤ x → τ 35 x = σ 35 x) → NRow κ ε τ (τ 35 0).toNat j m → post τ) : w_X7_advance κ σ (i : Int) (j : Int) (m : Int) post := by
  have hn := hV.1
  have hci := cS_le hκ hV hi
  have hcj := cS_le hκ hV hj
  have hwd := wd_le κ
  obtain ⟨H, T, hH, hTh, hHc, hTc, hne⟩ : ∃ H T : Nat, (σ 35 0).toNat = H ∧ (σ 35 1).toNat = T ∧ (H = 39 ∨ H = 40) ∧ (T = 39 ∨ T = 40) ∧ H ≠ T := ⟨(σ 35 0).toNat, (σ 35 1).toNat, rfl, rfl, by rcases hT.1 with ⟨a, b⟩ | ⟨a, b⟩ <;> rw [a] <;> decide, by rcases hT.1 with ⟨a, b⟩ | ⟨a, b⟩ <;> rw [b] <;> decide, by rcases hT.1 with ⟨a, b⟩ | ⟨a, b⟩ <;> rw [a, b] <;> decide⟩
  rw [hH] at hN
  refine s_cnt hV hC hj ⟨by rw [hTh]; exact sh39 hTc, ?_⟩
  rw [hTh]
  refine s_X7_clearRows hcj (fun τ0 f0 z0 => ?_)
  refine lp2 (w_X7_advance_L15 κ (i : Int) (j : Int) (m : Int) post) (fun a τ => ∃ k : Nat, a = (k : Int) ∧ k ≤ cS κ ε i ∧ (∀ c, c ≠ T → τ c = σ c) ∧ ∀ l, l < cS κ ε j → ∀ p, p ≤ m → τ T (l * 301 + p) = cp (sN (ctr κ ε i j l p) k)) (fun a τ => (cS κ ε i - a).toNat) ?_ _ _ ⟨0, rfl, by omega, f0, fun l hl p hp => z0 _ (ix3 hl (by omega))⟩
  intro n a τ ⟨k, ha, hk, hf, hrow⟩ ih
  subst ha
  have hFr : FrT σ τ := fun c hc => hf c (by omega)
  have hCt := hC.t hFr
  have h35 : τ 35 = σ 35 := hf 35 (by omega)
  have hNt : ∀ k, k < cS κ ε i → ∀ p, p ≤ m → τ H (k * 301 + p) = cp (nw κ ε i k p) := fun k hk p hp => by rw [hf H hne]; exact hN k hk p hp
  show w_X7_advance_L15_body κ _ _ _ post _ _ _
  simp only [w_X7_advance_L15_body]
  refine s_cnt hV hCt hi ⟨by simp only [rg]; omega, by simp only [rg]; omega, fun z => ?_, fun z => ?_⟩
  · intro σ7 e7 σ8 e8
    rw [h35] at e7 e8
    rw [hTh] at e7
    rw [hH] at e8
    have g : ∀ c, c ≠ 35 → σ8 c = τ c := fun c hc => by rw [e8, up2_k hc, e7, up2_k hc]
    have a0 : σ8 35 0 = (T : Int) := by rw [e8, e7]; simp [up2]
    have a1 : σ8 35 1 = (H : Int) := by rw [e8]; simp [up2]
    have ax : ∀ x, 2 ≤ x → σ8 35 x = σ 35 x := fun x hx => by rw [e8, e7, ← h35]; simp only [up2, if_true, if_neg (show x ≠ 1 by omega), if_neg (show x ≠ 0 by omega)]
    refine h σ8 (fun c hc => by rw [g c (by omega), hFr c hc]) ⟨?_, by rw [ax 2 (by decide), ax 3 (by decide)]; exact hT.2⟩ (fun c c1 c2 c3 => by rw [g c c1, hf c (by omega)]) ax ?_
    · rw [a0, a1]; omega
    · rw [a0, Int.toNat_natCast]
      intro l hl p hp
      rw [g T (by omega), hrow l hl p hp, show k = cS κ ε i by omega, ctr_nw hij]
  · have hkc : k < cS κ ε i := by omega
    have hvk : ∀ p, p ≤ m → 0 ≤ τ H (k * 301 + p) ∧ τ H (k * 301 + p) ≤ 1000000000 := fun p hp => by rw [hNt k hkc p hp]; exact cp_b _
    have hH' : (τ 35 0).toNat = H := by rw [h35]; exact hH
    have hT' : (τ 35 1).toNat = T := by rw [h35]; exact hTh
    refine s_X7_cheapestOf (by omega) hm hH' hHc hvk (fun lo hlo zlo => s_X7_dearestOf (by omega) hm hH' hHc hvk (fun hi1 hhi1 zhi => ?_))
    have hnextk : ∀ υ, (∀ c, c ≠ T → υ c = σ c) → (∀ l, l < cS κ ε j → ∀ p, p ≤ m → υ T (l * 301 + p) = cp (sN (ctr κ ε i j l p) (k + 1))) → w_X7_advance_L15 κ (i : Int) (j : Int) (m : Int) post n ((k : Int) + 1) υ := fun υ h1 h2 => ih _ _ ⟨k + 1, by omega, by omega, h1, h2⟩ (by omega)
    refine lp2 (w_X7_advance_L48 κ (i : Int) (j : Int) (m : Int) (k : Int) (lo : Int) ((hi1 : Int) - 1) post (w_X7_advance_L15 κ (i : Int) (j : Int) (m : Int) post n)) (fun b υ => ∃ l : Nat, b = (l : Int) ∧ l ≤ cS κ ε j ∧ (∀ c, c ≠ T → υ c = σ c) ∧ (∀ l', l' < l → ∀ p, p ≤ m → υ T (l' * 301 + p) = cp (sN (ctr κ ε i j l' p) (k + 1))) ∧ ∀ l', l ≤ l' → l' < cS κ ε j → ∀ p, p ≤ m → υ T (l' * 301 + p) = cp (sN (ctr κ ε i j l' p) k)) (fun b υ => (cS κ ε j - b).toNat) ?_ _ _ ⟨0, rfl, by omega, hf, fun l' hl' => by omega, fun l' _ hl' p hp => hrow l' hl' p hp⟩
    intro n2 b υ ⟨l, hb, hl, hf2, hdone, htodo⟩ ih2
    subst hb
    have hFu : FrT σ υ := fun c hc => hf2 c (by omega)
    have hCu := hC.t hFu
    have h35u : υ 35 = σ 35 := hf2 35 (by omega)
    have hNu : ∀ p, p ≤ m → υ H (k * 301 + p) = cp (nw κ ε i k p) := fun p hp => by rw [hf2 H hne]; exact hN k hkc p hp
    show w_X7_advance_L48_body κ _ _ _ _ _ _ post _ _ _ _
    simp only [w_X7_advance_L48_body, w_X7_advance_B151]
    refine ⟨by simp only [rg]; omega, by simp only [rg]; omega, fun y => ?_, fun y => ?_⟩
    · have hz0 : ∀ p, p ≤ m → nw κ ε i k p = 0 := by
        intro p hp
        have : τ H (k * 301 + p) = 0 := by
          by_cases c : p < lo
          · exact zlo p c hp
          · exact zhi p (by omega) hp
        rw [hNt k hkc p hp] at this
        exact cp_eq0.mp this
      refine hnextk υ hf2 (fun l' hl' p hp => ?_)
      by_cases c : l' < l
      · exact hdone l' c p hp
      · rw [htodo l' (by omega) hl' p hp]
        simp only [sN]
        have : ctr κ ε i j l' p k = 0 := by
          unfold ctr nwS
          split
          · split
            · exact hz0 _ (by omega)
            · rfl
          · rfl
        rw [this, Nat.add_zero]
    · refine s_cnt hV hCu hj ⟨by simp only [rg]; omega, by simp only [rg]; omega, fun x => hnextk υ hf2 (fun l' hl' p hp => hdone l' (by omega) p hp), fun x => ?_⟩
      have hlc : l < cS κ ε j := by omega
      have hpb := pS_b hκ hV hj hlc
      have hsb := sS_b hκ hV hi hkc hj hlc
      have hnextl : ∀ ω, (∀ c, c ≠ T → ω c = σ c) → (∀ l' p, l' ≠ l → p ≤ 300 → ω T (l' * 301 + p) = υ T (l' * 301 + p)) → (∀ p, p ≤ m → ω T (l * 301 + p) = cp (sN (ctr κ ε i j l p) (k + 1))) → w_X7_advance_L48 κ (i : Int) (j : Int) (m : Int) (k : Int) (lo : Int) ((hi1 : Int) - 1) post (w_X7_advance_L15 κ (i : Int) (j : Int) (m : Int) post n) n2 ((l : Int) + 1) ω := by
        intro ω h1 h2 h3
        refine ih2 _ _ ⟨l + 1, by omega, by omega, h1, fun l' hl' p hp => ?_, fun l' hl1 hl2 p hp => ?_⟩ (by omega)
        · by_cases c : l' = l
          · rw [c]; exact h3 p hp
          · rw [h2 l' p c (by omega)]; exact hdone l' (by omega) p hp
        · rw [h2 l' p (by omega) (by omega)]; exact htodo l' (by omega) hl2 p hp
      have hskip : (∀ p, p ≤ m → ctr κ ε i j l p k = 0) → w_X7_advance_L48 κ (i : Int) (j : Int) (m : Int) (k : Int) (lo : Int) ((hi1 : Int) - 1) post (w_X7_advance_L15 κ (i : Int) (j : Int) (m : Int) post n) n2 ((l : Int) + 1) υ := by
        intro w
        refine hnextl υ hf2 (fun _ _ _ _ => rfl) (fun p hp => ?_)
        rw [htodo l (Nat.le_refl l) hlc p hp]
        simp only [sN, w p hp, Nat.add_zero]
      have h93 : ∀ s : Int, (s = -2 → ∀ p, p ≤ m → ctr κ ε i j l p k = 0) → (s ≠ -2 → s = sS κ ε i k j l ∧ lets ε j (l : Int)) → w_X7_advance_B93 κ υ (i : Int) (j : Int) (m : Int) (k : Int) (lo : Int) ((hi1 : Int) - 1) (l : Int) s post (w_X7_advance_L15 κ (i : Int) (j : Int) (m : Int) post n) (w_X7_advance_L48 κ (i : Int) (j : Int) (m : Int) (k : Int) (lo : Int) ((hi1 : Int) - 1) post (w_X7_advance_L15 κ (i : Int) (j : Int) (m : Int) post n) n2) := by
        intro s hs1 hs2
        have hrgs : rg s := by
          by_cases c : s = -2
          · rw [c]; exact rg_c _ rfl
          · rw [(hs2 c).1]; simp only [rg]; omega
        refine ⟨hrgs, fun c => hskip (hs1 c), fun c => ?_⟩
        obtain ⟨hse, hlet⟩ := hs2 c
        rw [hse] at c ⊢
        refine s_pr hκ hV hCu hj hlc ?_
        obtain ⟨more, hmore⟩ : ∃ more : Nat, sS κ ε i k j l + pS κ ε j l = (more : Int) := ⟨(sS κ ε i k j l + pS κ ε j l).toNat, by omega⟩
        rw [hmore]
        refine ⟨by simp only [rg]; omega, by simp only [rg]; omega, ?_⟩
        refine s_X7_carry (H := H) (T := T) (m := m) (lo := lo) (hi1 := hi1) (by omega) (by omega) hm (by omega) (by rw [h35u]; exact hH) (by rw [h35u]; exact hTh) hHc hTc hne hlo hhi1 rfl (fun p p1 p2 => by rw [hNu p p2]; have := zlo p p1 p2; rw [hNt k hkc p p2] at this; exact this) (fun p p1 p2 => by rw [hNu p p2]; have := zhi p p1 p2; rw [hNt k hkc p p2] at this; exact this) (fun p hp => by rw [hNu p hp]; exact cp_b _) (fun p hp => by rw [htodo l (Nat.le_refl l) hlc p hp]; exact cp_b _) (fun ω h1 h2 h3 => ?_)
        refine hnextl ω (fun c hc => by rw [h1 c hc, hf2 c hc]) h2 (fun p hp => ?_)
        rw [h3 p hp, htodo l (Nat.le_refl l) hlc p hp]
        simp only [sN]
        have hct : (if more ≤ p then υ H (k * 301 + (p - more)) else 0) = cp (ctr κ ε i j l p k) := by
          unfold ctr nwS
          rw [if_pos hlet, hmore]
          by_cases d : more ≤ p
          · rw [if_pos d, if_pos ⟨c, by omega⟩, hNu _ (by omega), Int.toNat_natCast]
          · rw [if_neg d, if_neg (fun t => by omega)]; rfl
        rw [hct]
        exact cp_add _ _
      refine s_X1_allows hCu.1 hV (by omega) hj (by simp only [rg]; omega) (fun w => ⟨rg_c _ rfl, fun t => absurd t (by decide), fun _ => ?_⟩) (fun w => ⟨rg_c _ rfl, fun _ => h93 (-2) (fun _ p _ => ?_) (fun t => absurd rfl t), fun t => absurd rfl t⟩)
      · rw [Int.toNat_natCast] at w
        refine s_st hκ hV hCu hi hkc hj hlc (h93 _ (fun t p _ => ?_) (fun t => ⟨rfl, w⟩))
        unfold ctr nwS
        rw [if_pos w, if_neg (fun u => u.1 t)]
      · rw [Int.toNat_natCast] at w
        unfold ctr
        rw [if_neg w]
end TALLY2
