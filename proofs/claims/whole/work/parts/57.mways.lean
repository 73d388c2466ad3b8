/-! the reference: ways -/
section MWAYS
variable {κ : Nat} {σ ε : Mem}
def NM (κ : Nat) (ε σ : Mem) (s i : Nat) : Prop := ∀ k, k < cS κ ε i → ∀ p, p ≤ 300 → σ 32 (24080 * s + 301 * k + p) = cp (nw κ ε i k p)
theorem up32 {τ υ : Mem} {x : Nat} {v : Int} (e : υ = up2 τ 32 x v) : (∀ c, c ≠ 32 → υ c = τ c) ∧ υ 32 x = v ∧ ∀ y, y ≠ x → υ 32 y = τ 32 y := by
  refine ⟨fun c hc => by rw [e, up2_k hc], by rw [e]; simp [up2], fun y hy => by rw [e]; simp [up2, hy]⟩
theorem s_more {post : Int → Prop} {a b : Nat} (h : post (cp (a + b))) : w_X10_more σ (cp a) (cp b) post := by
  have := cp_b a
  have := cp_b b
  have := cp_add a b
  simp only [w_X10_more_B16, w_X10_more]
  refine ⟨by simp only [rg]; omega, fun c => ?_, fun c => ?_⟩
  · rw [show cp a + cp b = cp (a + b) by omega]; exact h
  · rw [show (1000000000 : Int) = cp (a + b) by omega]; exact h
theorem s_mbegin {post : Mem → Prop} (hκ : κ < 5) (hV : VE κ ε) (hC : MC κ ε σ) {i : Nat} (hi : (i : Int) < ε 2 7) (hp : prv ε i < 0) (h : ∀ τ, (∀ c, c ≠ 32 → τ c = σ c) → NM κ ε τ 0 i → post τ) : w_X10_beginCounts σ (i : Int) post := by
  have hn := hV.1
  have h80 := cS80 hκ hV hi
  refine lp2 (w_X10_beginCounts_L2 (i : Int) post) (fun u τ => ∃ k : Nat, u = (k : Int) ∧ k ≤ cS κ ε i ∧ (∀ c, c ≠ 32 → τ c = σ c) ∧ ∀ k', k' < k → ∀ p, p ≤ 300 → τ 32 (301 * k' + p) = cp (nw κ ε i k' p)) (fun u τ => (100 - u).toNat) ?_ _ _ ⟨0, rfl, by omega, fun _ _ => rfl, fun k' hk' => by omega⟩
  intro n u τ ⟨k, hu, hk, hfr, hrow⟩ ih
  subst hu
  have hCt : MC κ ε τ := hC.k (fun c c1 c2 => hfr c (by omega))
  show w_X10_beginCounts_L2_body (i : Int) post _ _ _
  simp only [w_X10_beginCounts_L2_body, Int.toNat_natCast, hCt.cn hi]
  refine ⟨by simp only [inb]; omega, by simp only [rg]; omega, by simp only [rg]; omega, fun a => ?_, fun a => ?_⟩
  · refine h τ hfr (fun k' hk' p hpp => ?_)
    rw [show 24080 * 0 + 301 * k' + p = 301 * k' + p by omega]
    exact hrow k' (by omega) p hpp
  · have hkc : k < cS κ ε i := by omega
    refine lp2 (w_X10_beginCounts_L14 (i : Int) (k : Int) post (w_X10_beginCounts_L2 (i : Int) post n)) (fun u υ => ∃ p : Nat, u = (p : Int) ∧ p ≤ 301 ∧ (∀ c, c ≠ 32 → υ c = σ c) ∧ (∀ k', k' < k → ∀ q, q ≤ 300 → υ 32 (301 * k' + q) = cp (nw κ ε i k' q)) ∧ ∀ q, q < p → υ 32 (301 * k + q) = cp (nw κ ε i k q)) (fun u υ => (301 - u).toNat) ?_ _ _ ⟨0, rfl, by omega, hfr, hrow, fun q hq => by omega⟩
    intro n2 u υ ⟨p, hu, hpp, hfu, hold, hnew⟩ ih2
    subst hu
    have hCu : MC κ ε υ := hC.k (fun c c1 c2 => hfu c (by omega))
    have hpb := pS_b hκ hV hi hkc
    have hnw := nw_eq κ ε i k p
    have ex : (301 * (k : Int) + (p : Int)).toNat = 301 * k + p := by omega
    have exi : (80 * (i : Int) + (k : Int)).toNat = 80 * i + k := by omega
    have pr : υ 28 (80 * i + k) = pS κ ε i k := (hCu.at hi hkc).1
    have put : ∀ v : Int, p < 301 → v = cp (nw κ ε i k p) → w_X10_beginCounts_B61 υ (i : Int) (k : Int) (p : Int) v (301 * (k : Int) + (p : Int)) post (w_X10_beginCounts_L2 (i : Int) post n) (w_X10_beginCounts_L14 (i : Int) (k : Int) post (w_X10_beginCounts_L2 (i : Int) post n) n2) := by
      intro v hp3 hv
      refine ⟨⟨by omega, by omega, by omega⟩, fun ω e => ?_⟩
      rw [ex] at e
      obtain ⟨e1, e2, e3⟩ := up32 e
      refine ih2 _ _ ⟨p + 1, by push_cast; rfl, by omega, fun c hc => by rw [e1 c hc, hfu c hc], fun k' hk' q hq => ?_, fun q hq => ?_⟩ (by omega)
      · rw [e3 _ (by omega)]; exact hold k' hk' q hq
      · rcases Nat.lt_or_eq_of_le (Nat.le_of_lt_succ hq) with z | z
        · rw [e3 _ (by omega)]; exact hnew q z
        · rw [z, e2, hv]
    show w_X10_beginCounts_L14_body (i : Int) (k : Int) post _ _ _ _
    simp only [w_X10_beginCounts_L14_body, w_X10_beginCounts_B60, exi, pr]
    refine ⟨by simp only [rg]; omega, fun b => ?_, fun b => s_isLet hCu.1 hV hi (by simp only [rg]; omega) (fun c => ⟨rg_c _ rfl, fun z => absurd z (by decide), fun _ => ⟨by simp only [inb]; omega, by simp only [rg]; omega, by simp only [rg]; omega, fun d => put 0 (by omega) ?_, fun d => put 1 (by omega) ?_⟩⟩) (fun c => ⟨rg_c _ rfl, fun _ => put 0 (by omega) ?_, fun z => absurd rfl z⟩)⟩
    · obtain rfl : p = 301 := by omega
      refine ih _ _ ⟨k + 1, by push_cast; rfl, by omega, hfu, fun k' hk' q hq => ?_⟩ (by omega)
      rcases Nat.lt_or_eq_of_le (Nat.le_of_lt_succ hk') with z | z
      · exact hold k' z q hq
      · rw [z]; exact hnew q (by omega)
    · rw [hnw.2.1 c hp, if_neg d]; rfl
    · rw [hnw.2.1 c hp, if_pos d]; rfl
    · rw [hnw.1 c]; rfl
theorem s_mgoOn {post : Mem → Prop} (hκ : κ < 5) (hV : VE κ ε) (hC : MC κ ε σ) {i j s : Nat} (hi : (i : Int) < ε 2 7) (hj : (j : Int) < ε 2 7) (hij : prv ε j = (i : Int)) (hs : s = 0 ∨ s = 1) (hN : NM κ ε σ s i) (h : ∀ τ, (∀ c, c ≠ 32 → τ c = σ c) → NM κ ε τ (1 - s) j → post τ) : w_X10_goOn σ (i : Int) (j : Int) (s : Int) post := by
  have hn := hV.1
  have h80 := cS80 hκ hV hi
  have h81 := cS80 hκ hV hj
  unfold w_X10_goOn
  rw [show (24080 : Int) * (1 - (s : Int)) = ((24080 * (1 - s) : Nat) : Int) by rcases hs with rfl | rfl <;> rfl, show (24080 : Int) * (s : Int) = ((24080 * s : Nat) : Int) by omega]
  have hF : 24080 * s ≤ 24080 := by omega
  have hT : 24080 * (1 - s) ≤ 24080 := by omega
  have hFT : (24080 * s = 0 ∧ 24080 * (1 - s) = 24080) ∨ (24080 * s = 24080 ∧ 24080 * (1 - s) = 0) := by rcases hs with rfl | rfl <;> simp
  unfold NM at hN h
  generalize 24080 * s = F at *
  generalize 24080 * (1 - s) = T at *
  refine lp2 (w_X10_goOn_L19 (i : Int) (j : Int) (F : Int) (T : Int) post) (fun u τ => ∃ l : Nat, u = (l : Int) ∧ l ≤ cS κ ε j ∧ (∀ c, c ≠ 32 → τ c = σ c) ∧ (∀ k, k < cS κ ε i → ∀ p, p ≤ 300 → τ 32 (F + 301 * k + p) = cp (nw κ ε i k p)) ∧ ∀ l', l' < l → ∀ p, p ≤ 300 → τ 32 (T + 301 * l' + p) = cp (nw κ ε j l' p)) (fun u τ => (100 - u).toNat) ?_ _ _ ⟨0, rfl, by omega, fun _ _ => rfl, hN, fun l' hl' => by omega⟩
  intro n u τ ⟨l, hu, hl, hfr, hfrom, hto⟩ ih
  subst hu
  have hCt : MC κ ε τ := hC.k (fun c c1 c2 => hfr c (by omega))
  show w_X10_goOn_L19_body (i : Int) (j : Int) (F : Int) (T : Int) post _ _ _
  simp only [w_X10_goOn_L19_body, Int.toNat_natCast, hCt.cn hj]
  refine ⟨by simp only [inb]; omega, by simp only [rg]; omega, by simp only [rg]; omega, fun a => ?_, fun a => ?_⟩
  · exact h τ hfr (fun k' hk' p hpp => hto k' (by omega) p hpp)
  · have hlc : l < cS κ ε j := by omega
    -- clear the row
    refine lp2 (w_X10_goOn_L33 (i : Int) (j : Int) (F : Int) (T : Int) (l : Int) post (w_X10_goOn_L19 (i : Int) (j : Int) (F : Int) (T : Int) post n)) (fun u υ => ∃ p : Nat, u = (p : Int) ∧ p ≤ 301 ∧ (∀ c, c ≠ 32 → υ c = σ c) ∧ (∀ k, k < cS κ ε i → ∀ p, p ≤ 300 → υ 32 (F + 301 * k + p) = cp (nw κ ε i k p)) ∧ (∀ l', l' < l → ∀ p, p ≤ 300 → υ 32 (T + 301 * l' + p) = cp (nw κ ε j l' p)) ∧ ∀ q, q < p → υ 32 (T + 301 * l + q) = 0) (fun u υ => (301 - u).toNat) ?_ _ _ ⟨0, rfl, by omega, hfr, hfrom, hto, fun q hq => by omega⟩
    intro n2 u υ ⟨p, hu, hpp, hfu, hfromu, htou, hz⟩ ih2
    subst hu
    show w_X10_goOn_L33_body (i : Int) (j : Int) (F : Int) (T : Int) (l : Int) post _ _ _ _
    refine ⟨by simp only [rg]; omega, fun b => ?_, fun b => ⟨⟨by omega, by omega, by omega⟩, fun ω e => ?_⟩⟩
    · obtain rfl : p = 301 := by omega
      -- all states of the one before
      have fin : ∀ ω, (∀ c, c ≠ 32 → ω c = σ c) → (∀ k, k < cS κ ε i → ∀ p, p ≤ 300 → ω 32 (F + 301 * k + p) = cp (nw κ ε i k p)) → (∀ l', l' < l → ∀ p, p ≤ 300 → ω 32 (T + 301 * l' + p) = cp (nw κ ε j l' p)) → (∀ q, q ≤ 300 → ω 32 (T + 301 * l + q) = cp (nw κ ε j l q)) → w_X10_goOn_B209 ω (i : Int) (j : Int) (F : Int) (T : Int) (l : Int) post (w_X10_goOn_L19 (i : Int) (j : Int) (F : Int) (T : Int) post n) := by
        intro ω f1 f2 f3 f4
        refine ih _ _ ⟨l + 1, by push_cast; rfl, by omega, f1, f2, fun l' hl' q hq => ?_⟩ (by omega)
        rcases Nat.lt_or_eq_of_le (Nat.le_of_lt_succ hl') with z | z
        · exact f3 l' z q hq
        · rw [z]; exact f4 q hq
      by_cases hlet : lets ε j (l : Int)
      · refine lp2 (w_X10_goOn_L68 (i : Int) (j : Int) (F : Int) (T : Int) (l : Int) post (w_X10_goOn_L19 (i : Int) (j : Int) (F : Int) (T : Int) post n)) (fun u ω => ∃ k : Nat, u = (k : Int) ∧ k ≤ cS κ ε i ∧ (∀ c, c ≠ 32 → ω c = σ c) ∧ (∀ k, k < cS κ ε i → ∀ p, p ≤ 300 → ω 32 (F + 301 * k + p) = cp (nw κ ε i k p)) ∧ (∀ l', l' < l → ∀ p, p ≤ 300 → ω 32 (T + 301 * l' + p) = cp (nw κ ε j l' p)) ∧ ∀ q, q ≤ 300 → ω 32 (T + 301 * l + q) = cp (sN (nwS κ ε (nw κ ε i) i j l q) k)) (fun u ω => (100 - u).toNat) ?_ _ _ ⟨0, rfl, by omega, hfu, hfromu, htou, fun q hq => hz q (by omega)⟩
        intro n3 u ω ⟨k, hu, hk, f1, f2, f3, f4⟩ ih3
        subst hu
        have hCo : MC κ ε ω := hC.k (fun c c1 c2 => f1 c (by omega))
        show w_X10_goOn_L68_body (i : Int) (j : Int) (F : Int) (T : Int) (l : Int) post _ _ _ _
        simp only [w_X10_goOn_L68_body, Int.toNat_natCast, hCo.cn hi]
        refine ⟨by simp only [inb]; omega, by simp only [rg]; omega, by simp only [rg]; omega, fun c => fin ω f1 f2 f3 (fun q hq => ?_), fun c => s_isLet hCo.1 hV hj (by simp only [rg]; omega) (fun _ => ⟨rg_c _ rfl, fun z => absurd z (by decide), fun _ => ?_⟩) (fun z => absurd hlet z)⟩
        · rw [f4 q hq, show k = cS κ ε i by omega, (nw_eq κ ε j l q).2.2 hlet i hij]
        · have hkc : k < cS κ ε i := by omega
          have hsb := sS_b hκ hV hi hkc hj hlc
          have hpb := pS_b hκ hV hj hlc
          have pr : ω 28 (80 * j + l) = pS κ ε j l := (hCo.at hj hlc).1
          refine s_mst hκ hV hCo hi hkc hj hlc ⟨by simp only [inb]; omega, ?_⟩
          rw [show (80 * (j : Int) + (l : Int)).toNat = 80 * j + l by omega, pr]
          rcases hsb with hs2 | hs2
          · refine ⟨1, ?_⟩
            show w_X10_goOn_L121_body (i : Int) (j : Int) (F : Int) (T : Int) (l : Int) (k : Int) _ _ post _ _ _ 0 ω
            refine ⟨by simp only [rg]; omega, fun _ => ih3 _ _ ⟨k + 1, by push_cast; rfl, by omega, f1, f2, f3, fun q hq => ?_⟩ (by omega), fun z => by omega⟩
            rw [f4 q hq]
            show cp _ = cp (sN _ k + nwS κ ε (nw κ ε i) i j l q k)
            rw [show nwS κ ε (nw κ ε i) i j l q k = 0 by unfold nwS; rw [if_neg (fun z => z.1 hs2)]]
            rfl
          · obtain ⟨C, hC'⟩ : ∃ C : Nat, sS κ ε i k j l + pS κ ε j l = (C : Int) := ⟨(sS κ ε i k j l + pS κ ε j l).toNat, by omega⟩
            have hns : ∀ q, nwS κ ε (nw κ ε i) i j l q k = if C ≤ q then nw κ ε i k (q - C) else 0 := by
              intro q
              unfold nwS
              rw [hC', Int.toNat_natCast]
              by_cases z : C ≤ q
              · rw [if_pos z, if_pos ⟨by omega, by omega⟩]
              · rw [if_neg z, if_neg (fun y => by omega)]
            rw [hC']
            refine lp2 (w_X10_goOn_L121 (i : Int) (j : Int) (F : Int) (T : Int) (l : Int) (k : Int) (sS κ ε i k j l) (C : Int) post (w_X10_goOn_L19 (i : Int) (j : Int) (F : Int) (T : Int) post n) (w_X10_goOn_L68 (i : Int) (j : Int) (F : Int) (T : Int) (l : Int) post (w_X10_goOn_L19 (i : Int) (j : Int) (F : Int) (T : Int) post n) n3)) (fun u ζ => ∃ p : Nat, u = (p : Int) ∧ p ≤ 301 ∧ (∀ c, c ≠ 32 → ζ c = σ c) ∧ (∀ k, k < cS κ ε i → ∀ p, p ≤ 300 → ζ 32 (F + 301 * k + p) = cp (nw κ ε i k p)) ∧ (∀ l', l' < l → ∀ p, p ≤ 300 → ζ 32 (T + 301 * l' + p) = cp (nw κ ε j l' p)) ∧ ∀ q, q ≤ 300 → ζ 32 (T + 301 * l + q) = cp (sN (nwS κ ε (nw κ ε i) i j l q) k + (if C ≤ q ∧ q < p + C then nw κ ε i k (q - C) else 0))) (fun u ζ => (301 - u).toNat) ?_ _ _ ⟨0, rfl, by omega, f1, f2, f3, fun q hq => by rw [if_neg (by omega)]; exact f4 q hq⟩
            intro n4 u ζ ⟨p, hu, hp3, g1, g2, g3, g4⟩ ih4
            subst hu
            have done : (301 : Int) ≤ (p : Int) + (C : Int) → w_X10_goOn_B203 ζ (i : Int) (j : Int) (F : Int) (T : Int) (l : Int) (k : Int) post (w_X10_goOn_L19 (i : Int) (j : Int) (F : Int) (T : Int) post n) (w_X10_goOn_L68 (i : Int) (j : Int) (F : Int) (T : Int) (l : Int) post (w_X10_goOn_L19 (i : Int) (j : Int) (F : Int) (T : Int) post n) n3) := by
              intro z
              refine ih3 _ _ ⟨k + 1, by push_cast; rfl, by omega, g1, g2, g3, fun q hq => ?_⟩ (by omega)
              rw [g4 q hq]
              show _ = cp (sN _ k + nwS κ ε (nw κ ε i) i j l q k)
              rw [hns q]
              by_cases y : C ≤ q
              · rw [if_pos y, if_pos ⟨y, by omega⟩]
              · rw [if_neg y, if_neg (fun x => y x.1)]
            show w_X10_goOn_L121_body (i : Int) (j : Int) (F : Int) (T : Int) (l : Int) (k : Int) _ _ post _ _ _ _ ζ
            refine ⟨by simp only [rg]; omega, fun z => by omega, fun _ => ⟨by simp only [rg]; omega, done, fun d => ⟨⟨by omega, by omega, by omega⟩, ⟨by omega, by omega, by omega⟩, ?_⟩⟩⟩
            rw [show ((T : Int) + 301 * (l : Int) + (p : Int) + (C : Int)).toNat = T + 301 * l + (p + C) by omega, show ((F : Int) + 301 * (k : Int) + (p : Int)).toNat = F + 301 * k + p by omega, g4 (p + C) (by omega), g2 k hkc p (by omega), if_neg (by omega)]
            refine s_more ⟨⟨by omega, by omega, by omega⟩, fun η e => ?_⟩
            obtain ⟨e1, e2, e3⟩ := up32 e
            refine ih4 _ _ ⟨p + 1, by push_cast; rfl, by omega, fun c hc => by rw [e1 c hc, g1 c hc], fun k' hk' q hq => ?_, fun l' hl' q hq => ?_, fun q hq => ?_⟩ (by omega)
            · rw [e3 _ (by omega)]; exact g2 k' hk' q hq
            · rw [e3 _ (by omega)]; exact g3 l' hl' q hq
            · by_cases y : q = p + C
              · subst y
                rw [e2, if_pos ⟨by omega, by omega⟩, show p + C - C = p by omega]
                rfl
              · rw [e3 _ (by omega), g4 q hq]
                by_cases x : C ≤ q ∧ q < p + C
                · rw [if_pos x, if_pos ⟨x.1, by omega⟩]
                · rw [if_neg x, if_neg (fun w => x ⟨w.1, by omega⟩)]
      · refine ⟨1, ?_⟩
        have hCo : MC κ ε υ := hC.k (fun c c1 c2 => hfu c (by omega))
        have hrow : ∀ q, q ≤ 300 → υ 32 (T + 301 * l + q) = cp (nw κ ε j l q) := fun q hq => by rw [hz q (by omega), (nw_eq κ ε j l q).1 hlet]; rfl
        show w_X10_goOn_L68_body (i : Int) (j : Int) (F : Int) (T : Int) (l : Int) post _ _ 0 υ
        simp only [w_X10_goOn_L68_body, Int.toNat_natCast, hCo.cn hi]
        exact ⟨by simp only [inb]; omega, by simp only [rg]; omega, by simp only [rg]; omega, fun c => fin υ hfu hfromu htou hrow, fun c => s_isLet hCo.1 hV hj (by simp only [rg]; omega) (fun z => absurd z hlet) (fun z => ⟨rg_c _ rfl, fun _ => fin υ hfu hfromu htou hrow, fun z => absurd rfl z⟩)⟩
    · rw [show ((T : Int) + 301 * (l : Int) + (p : Int)).toNat = T + 301 * l + p by omega] at e
      obtain ⟨e1, e2, e3⟩ := up32 e
      refine ih2 _ _ ⟨p + 1, by push_cast; rfl, by omega, fun c hc => by rw [e1 c hc, hfu c hc], fun k' hk' q hq => ?_, fun l' hl' q hq => ?_, fun q hq => ?_⟩ (by omega)
      · rw [e3 _ (by omega)]; exact hfromu k' hk' q hq
      · rw [e3 _ (by omega)]; exact htou l' hl' q hq
      · rcases Nat.lt_or_eq_of_le (Nat.le_of_lt_succ hq) with z | z
        · rw [e3 _ (by omega)]; exact hz q z
        · rw [z, e2]
theorem up33 {τ υ : Mem} {x : Nat} {v : Int} (e : υ = up2 τ 33 x v) : (∀ c, c ≠ 33 → υ c = τ c) ∧ υ 33 x = v ∧ ∀ y, y ≠ x → υ 33 y = τ 33 y := by
  refine ⟨fun c hc => by rw [e, up2_k hc], by rw [e]; simp [up2], fun y hy => by rw [e]; simp [up2, hy]⟩
theorem s_mcount {post : Mem → Prop} (hκ : κ < 5) (hV : VE κ ε) (hC : MC κ ε σ) {h : Int} (hh : rg h) (hp : ∀ τ, (∀ c, c ≠ 32 → c ≠ 33 → τ c = σ c) → (∀ p, p ≤ 300 → τ 33 p = cp (tot κ ε h p)) → post τ) : w_X10_countChain σ h post := by
  have hn := hV.1
  refine lp2 (w_X10_countChain_L2 h post) (fun u τ => ∃ p : Nat, u = (p : Int) ∧ p ≤ 301 ∧ (∀ c, c ≠ 33 → τ c = σ c) ∧ ∀ q, q < p → τ 33 q = 0) (fun u τ => (301 - u).toNat) ?_ _ _ ⟨0, rfl, by omega, fun _ _ => rfl, fun q hq => by omega⟩
  intro n u τ ⟨p, hu, hpp, hfr, hz⟩ ih
  subst hu
  have hCt : MC κ ε τ := hC.k (fun c c1 c2 => hfr c (by omega))
  show w_X10_countChain_L2_body h post _ _ _
  refine ⟨by simp only [rg]; omega, fun a => ?_, fun a => ⟨⟨by omega, by omega, by omega⟩, fun ω e => ?_⟩⟩
  · obtain rfl : p = 301 := by omega
    refine s_mfirst hCt.1 hV hh (fun e => ⟨rg_c _ rfl, fun z => absurd z (by decide), fun _ ω e2 => ?_⟩) (fun f e => ?_)
    · rw [tn0] at e2
      obtain ⟨e3, e4, e5⟩ := up33 e2
      refine hp ω (fun c c1 c2 => by rw [e3 c c2, hfr c c2]) (fun q hq => ?_)
      unfold tot
      rw [lst_neg (by omega), if_pos (by omega)]
      by_cases y : q = 0
      · rw [y, e4, if_pos rfl]; rfl
      · rw [e5 q y, hz q (by omega), if_neg y]; rfl
    · obtain ⟨hf, hfh, hfp⟩ := fst_prv e
      refine ⟨by simp only [rg]; omega, fun _ => s_mbegin hκ hV hCt hf hfp (fun υ hfu hNu => ?_), fun z => by omega⟩
      have hCu : MC κ ε υ := hCt.k (fun c c1 c2 => hfu c (by omega))
      have hzu : ∀ q, q ≤ 300 → υ 33 q = 0 := fun q hq => by rw [hfu 33 (by decide)]; exact hz q (by omega)
      have hfru : ∀ c, c ≠ 32 → c ≠ 33 → υ c = σ c := fun c c1 c2 => by rw [hfu c c1, hfr c c2]
      have loop : ∀ j : Int, ((j = -2 ∧ nxt ε f = -1) ∨ (j = nxt ε f ∧ 0 ≤ j)) → ∃ n, w_X10_countChain_L54 post n (f : Int) 0 j υ := by
        intro j0 hj0
        refine lp4 (w_X10_countChain_L54 post) (fun iv sv j ω => ∃ i s : Nat, iv = (i : Int) ∧ sv = (s : Int) ∧ (s = 0 ∨ s = 1) ∧ (i : Int) < ε 2 7 ∧ ε 4 i = h ∧ ((j = -2 ∧ nxt ε i = -1) ∨ (j = nxt ε i ∧ 0 ≤ j)) ∧ (∀ c, c ≠ 32 → c ≠ 33 → ω c = σ c) ∧ (∀ q, q ≤ 300 → ω 33 q = 0) ∧ NM κ ε ω s i) (fun iv sv j ω => (41 - iv).toNat) ?_ _ _ _ _ ⟨f, 0, rfl, rfl, Or.inl rfl, hf, hfh, hj0, hfru, hzu, hNu⟩
        intro n5 iv sv j ω ⟨i, s, hiv, hsv, hs, hi, hih, hj, g1, g2, g3⟩ ih5
        subst hiv hsv
        have hCo : MC κ ε ω := hC.k (fun c c1 c2 => g1 c (by omega) (by omega))
        have h80 := cS80 hκ hV hi
        have nr := nxt_rg (ε := ε) (i := i)
        show w_X10_countChain_L54_body post _ _ _ _ _
        refine ⟨by simp only [rg]; omega, fun z => ?_, fun z => ?_⟩
        · have hnx : nxt ε i = -1 := by omega
          have hl : lst ε h = (i : Int) := lst_of hi hih (fun q q1 q2 => by
            rcases nxt_spec (ε := ε) (i := i) with ⟨-, x⟩ | ⟨j', -, -, x, -⟩
            · rw [← hih]; exact x q q1 q2
            · omega)
          refine lp2 (w_X10_countChain_L88 (i : Int) (s : Int) post) (fun u ζ => ∃ k : Nat, u = (k : Int) ∧ k ≤ cS κ ε i ∧ (∀ c, c ≠ 33 → ζ c = ω c) ∧ ∀ q, q ≤ 300 → ζ 33 q = cp (sN (fun k => nw κ ε i k q) k)) (fun u ζ => (100 - u).toNat) ?_ _ _ ⟨0, rfl, by omega, fun _ _ => rfl, fun q hq => g2 q hq⟩
          intro n6 u ζ ⟨k, hu, hk, k1, k2⟩ ih6
          subst hu
          have hCz : MC κ ε ζ := hCo.k (fun c c1 c2 => k1 c (by omega))
          show w_X10_countChain_L88_body (i : Int) (s : Int) post _ _ _
          simp only [w_X10_countChain_L88_body, Int.toNat_natCast, hCz.cn hi]
          refine ⟨by simp only [inb]; omega, by simp only [rg]; omega, by simp only [rg]; omega, fun b => ?_, fun b => ?_⟩
          · refine hp ζ (fun c c1 c2 => by rw [k1 c c2, g1 c c1 c2]) (fun q hq => ?_)
            rw [k2 q hq, show k = cS κ ε i by omega]
            unfold tot chN
            rw [if_neg (by omega), hl, Int.toNat_natCast]
          · have hkc : k < cS κ ε i := by omega
            refine lp2 (w_X10_countChain_L102 (i : Int) (s : Int) (k : Int) post (w_X10_countChain_L88 (i : Int) (s : Int) post n6)) (fun u η => ∃ p : Nat, u = (p : Int) ∧ p ≤ 301 ∧ (∀ c, c ≠ 33 → η c = ω c) ∧ ∀ q, q ≤ 300 → η 33 q = cp (sN (fun k => nw κ ε i k q) k + (if q < p then nw κ ε i k q else 0))) (fun u η => (301 - u).toNat) ?_ _ _ ⟨0, rfl, by omega, k1, fun q hq => by rw [if_neg (by omega)]; exact k2 q hq⟩
            intro n7 u η ⟨p, hu, hp3, l1, l2⟩ ih7
            subst hu
            show w_X10_countChain_L102_body (i : Int) (s : Int) (k : Int) post _ _ _ _
            refine ⟨by simp only [rg]; omega, fun d => ?_, fun d => ⟨⟨by omega, by omega, by omega⟩, ⟨by omega, by omega, by omega⟩, ?_⟩⟩
            · refine ih6 _ _ ⟨k + 1, by push_cast; rfl, by omega, l1, fun q hq => ?_⟩ (by omega)
              rw [l2 q hq, if_pos (by omega)]; rfl
            · have gg := g3 k hkc p (by omega)
              rw [Int.toNat_natCast, l2 p (by omega), if_neg (by omega), show (24080 * (s : Int) + 301 * (k : Int) + (p : Int)).toNat = 24080 * s + 301 * k + p by omega, l1 32 (by decide), gg]
              refine s_more ⟨⟨by omega, by omega, by omega⟩, fun θ e => ?_⟩
              obtain ⟨e1, e2, e3⟩ := up33 e
              refine ih7 _ _ ⟨p + 1, by push_cast; rfl, by omega, fun c hc => by rw [e1 c hc, l1 c hc], fun q hq => ?_⟩ (by omega)
              by_cases y : q = p
              · subst y
                rw [e2, if_pos (by omega)]
                rfl
              · rw [e3 q y, l2 q hq]
                by_cases x : q < p
                · rw [if_pos x, if_pos (by omega)]
                · rw [if_neg x, if_neg (by omega)]
        · obtain ⟨q, hq⟩ : ∃ q : Nat, nxt ε i = (q : Int) := ⟨(nxt ε i).toNat, by omega⟩
          obtain rfl : j = (q : Int) := by omega
          obtain ⟨hiq, hqn, hqp⟩ := nxt_prv hq
          have hqh : ε 4 q = h := by
            rcases nxt_spec (ε := ε) (i := i) with ⟨x, -⟩ | ⟨j', -, -, x, y, -⟩
            · omega
            · obtain rfl : j' = q := by omega
              rw [y, hih]
          refine s_mgoOn hκ hV hCo hi hqn hqp hs g3 (fun ζ z1 z2 => ?_)
          have hCz : MC κ ε ζ := hCo.k (fun c c1 c2 => z1 c (by omega))
          have nx : ∀ j' : Int, ((j' = -2 ∧ nxt ε q = -1) ∨ (j' = nxt ε q ∧ 0 ≤ j')) → w_X10_countChain_L54 post n5 (q : Int) (1 - (s : Int)) j' ζ := by
            intro j' hj'
            refine ih5 _ _ _ _ ⟨q, 1 - s, rfl, by omega, by omega, hqn, hqh, hj', fun c c1 c2 => by rw [z1 c c1, g1 c c1 c2], fun x hx => by rw [z1 33 (by decide)]; exact g2 x hx, z2⟩ (by omega)
          exact s_mafter hCz.1 hV hqn (fun e => nx _ (Or.inl ⟨rfl, e⟩)) (fun j e => nx _ (Or.inr ⟨e.symm, by omega⟩))
      exact s_mafter hCu.1 hV hf (fun e => loop _ (Or.inl ⟨rfl, e⟩)) (fun j e => loop _ (Or.inr ⟨e.symm, by omega⟩))
  · rw [Int.toNat_natCast] at e
    obtain ⟨e1, e2, e3⟩ := up33 e
    refine ih _ _ ⟨p + 1, by push_cast; rfl, by omega, fun c hc => by rw [e1 c hc, hfr c hc], fun q hq => ?_⟩ (by omega)
    rcases Nat.lt_or_eq_of_le (Nat.le_of_lt_succ hq) with z | z
    · rw [e3 _ (by omega)]; exact hz q z
    · rw [z, e2]
theorem cp_am (A a b : Nat) : min 1000000000 (cp A + cp a * cp b) = cp (A + a * b) := by
  have h1 := cp_mul a b
  have h2 := cp_add A (a * b)
  have h3 := (cp_mb a b).1
  have h4 := cp_b A
  generalize cp a * cp b = y at *
  omega
theorem s_mways {post : Int → Mem → Prop} (hκ : κ < 5) (hV : VE κ ε) (hI : MIv κ ε σ) {m : Int} (hm : rg m) (h1 : ¬ (0 ≤ m ∧ m ≤ 300) → post (-1) σ) (h2 : 0 ≤ m → m ≤ 300 → ∀ τ, KC σ τ → MIv κ ε τ → post (cp (waysN κ ε m.toNat)) τ) : w_X10_ways σ m post := by
  have hn := hV.1
  refine s_in hm (rg_c _ rfl) (rg_c _ rfl) (fun a1 a2 => ⟨rg_c _ rfl, fun _ => ?_, fun z => absurd z (by decide)⟩) (fun a => ⟨rg_c _ rfl, fun z => absurd rfl z, fun _ => h1 a⟩)
  obtain ⟨M, rfl⟩ : ∃ M : Nat, m = (M : Int) := ⟨m.toNat, by omega⟩
  refine s_mfind hκ hV hI (fun τ kc hIt hC => ?_)
  refine s_mcount hκ hV hC (rg_c _ rfl) (fun υ f1 f2 => ?_)
  refine lp2 (w_X10_ways_L24 (M : Int) post) (fun u ω => ∃ p : Nat, u = (p : Int) ∧ p ≤ 301 ∧ (∀ c, c ≠ 34 → ω c = υ c) ∧ ∀ q, q < p → ω 34 q = cp (tot κ ε 0 q)) (fun u ω => (301 - u).toNat) ?_ _ _ ⟨0, rfl, by omega, fun _ _ => rfl, fun q hq => by omega⟩
  intro n u ω ⟨p, hu, hp, g1, g2⟩ ih
  subst hu
  show w_X10_ways_L24_body (M : Int) post _ _ _
  refine ⟨by simp only [rg]; omega, fun b => ?_, fun b => ⟨⟨by omega, by omega, by omega⟩, ⟨by omega, by omega, by omega⟩, fun ζ e => ?_⟩⟩
  · obtain rfl : p = 301 := by omega
    have hCo : MC κ ε ω := hC.k (fun c c1 c2 => by rw [g1 c (by omega), f1 c (by omega) (by omega)])
    refine s_mcount hκ hV hCo (rg_c _ rfl) (fun ζ z1 z2 => ?_)
    have hb : ∀ q, q ≤ 300 → ζ 34 q = cp (tot κ ε 0 q) := fun q hq => by rw [z1 34 (by decide) (by decide)]; exact g2 q (by omega)
    have hend : post (cp (waysN κ ε M)) ζ := by
      have := h2 a1 a2 ζ (fun c hc => by rw [z1 c (by omega) (by omega), g1 c (by omega), f1 c (by omega) (by omega), kc c hc]) (hIt.up (fun c c1 c2 => by rw [z1 c (by omega) (by omega), g1 c (by omega), f1 c (by omega) (by omega)]))
      rw [Int.toNat_natCast] at this
      exact this
    refine lp2 (w_X10_ways_L59 ζ (M : Int) post) (fun c u => ∃ p : Nat, u = (p : Int) ∧ p ≤ M + 1 ∧ c = cp (sN (fun p => conv (tot κ ε 0) (tot κ ε 1) p) p)) (fun c u => (400 - u).toNat) ?_ _ _ ⟨0, rfl, by omega, rfl⟩
    intro n2 c u ⟨p, hu, hp2, hc⟩ ih2
    subst hu
    show w_X10_ways_L59_body ζ (M : Int) post _ _ _
    refine ⟨by simp only [rg]; omega, by simp only [rg]; omega, fun d => ?_, fun d => ?_⟩
    · rw [hc, show p = M + 1 by omega]
      exact hend
    · refine lp2 (w_X10_ways_L68 ζ (M : Int) (p : Int) post (w_X10_ways_L59 ζ (M : Int) post n2)) (fun c u => ∃ q : Nat, u = (q : Int) ∧ q ≤ p + 1 ∧ c = cp (sN (fun p => conv (tot κ ε 0) (tot κ ε 1) p) p + sN (fun q => tot κ ε 0 q * tot κ ε 1 (p - q)) q)) (fun c u => (400 - u).toNat) ?_ _ _ ⟨0, rfl, by omega, hc⟩
      intro n3 c' u ⟨q, hu, hq, hc'⟩ ih3
      subst hu
      show w_X10_ways_L68_body ζ (M : Int) (p : Int) post _ _ _ _
      simp only [w_X10_ways_L68_body, w_X10_ways_B113]
      refine ⟨by simp only [rg]; omega, by simp only [rg]; omega, fun e => ?_, fun e => ?_⟩
      · refine ih2 _ _ ⟨p + 1, by push_cast; rfl, by omega, ?_⟩ (by omega)
        rw [hc', show q = p + 1 by omega]
        rfl
      · rw [Int.toNat_natCast, show ((p : Int) - (q : Int)).toNat = p - q by omega, hb q (by omega), z2 (p - q) (by omega), hc']
        have am := cp_am (sN (fun p => conv (tot κ ε 0) (tot κ ε 1) p) p + sN (fun q => tot κ ε 0 q * tot κ ε 1 (p - q)) q) (tot κ ε 0 q) (tot κ ε 1 (p - q))
        have mb := cp_mb (tot κ ε 0 q) (tot κ ε 1 (p - q))
        have b0 := cp_b (tot κ ε 0 q)
        have b1 := cp_b (tot κ ε 1 (p - q))
        have b2 := cp_b (sN (fun p => conv (tot κ ε 0) (tot κ ε 1) p) p + sN (fun q => tot κ ε 0 q * tot κ ε 1 (p - q)) q)
        have nx : ∀ x : Int, x = cp (sN (fun p => conv (tot κ ε 0) (tot κ ε 1) p) p + sN (fun q => tot κ ε 0 q * tot κ ε 1 (p - q)) q + tot κ ε 0 q * tot κ ε 1 (p - q)) → w_X10_ways_L68 ζ (M : Int) (p : Int) post (w_X10_ways_L59 ζ (M : Int) post n2) n3 x ((q : Int) + 1) := by
          intro x hx
          refine ih3 _ _ ⟨q + 1, by push_cast; rfl, by omega, ?_⟩ (by omega)
          rw [hx, Nat.add_assoc]
          rfl
        generalize cp (tot κ ε 0 q) * cp (tot κ ε 1 (p - q)) = y at *
        refine ⟨⟨by omega, by omega, by omega⟩, by simp only [rg]; omega, ⟨by omega, by omega, by omega⟩, by simp only [rg]; omega, by simp only [rgL]; omega, by simp only [rgL]; omega, fun f => nx _ (by omega), fun f => nx _ (by omega)⟩
  · rw [Int.toNat_natCast] at e
    have e1 : ∀ c, c ≠ 34 → ζ c = ω c := fun c hc => by rw [e, up2_k hc]
    refine ih _ _ ⟨p + 1, by push_cast; rfl, by omega, fun c hc => by rw [e1 c hc, g1 c hc], fun q hq => ?_⟩ (by omega)
    rcases Nat.lt_or_eq_of_le (Nat.le_of_lt_succ hq) with z | z
    · rw [e]; simp only [up2, if_true, if_neg (show q ≠ p by omega)]; exact g2 q z
    · rw [z, e]; simp only [up2, if_true]; rw [g1 33 (by decide)]; exact f2 p (by omega)
end MWAYS
