/-! the reference: strings, wind, slide, sticks -/
section MLISTS
variable {κ : Nat} {σ ε : Mem} {post : Mem → Prop}
theorem s_mstrings (hM : MP κ ε σ) (hV : VE κ ε) {i : Nat} (hi : (i : Int) < ε 2 7) {p t : Nat} (hp : p < 12) (ht : (t : Int) + ε 7 i ≤ 4) {L : List T3} (hR : RowM σ i L) (hL : L.length < 80) (h1 : stF ε i p t = none → post σ) (h2 : ∀ x, stF ε i p t = some x → ∀ τ, LsM σ τ i → RowM τ i (L ++ [x]) → post τ) : w_X10_strings σ (i : Int) (p : Int) (t : Int) post := by
  obtain ⟨m0, m1, m18, m19, m20, m21, m22, m23, m24⟩ := id hM
  have hn40 := hV.1
  have hev := hV.2.1 i hi
  have h7 := hev.2.2.2.1
  refine lp2 (w_X10_strings_L6 σ (i : Int) (p : Int) (t : Int) post) (fun c u => ∃ k : Nat, u = (k : Int) ∧ (k : Int) ≤ ε 7 i ∧ c = stSum ε i p t k ∧ stAll ε i p t k) (fun c u => (5 - u).toNat) ?_ 0 0 ⟨0, rfl, by omega, rfl, trivial⟩
  intro n c u ⟨k, hu, hk, hc, hA⟩ ih
  subst hu
  have hcb := stSum_b ε i p t k
  show w_X10_strings_L6_body σ (i : Int) (p : Int) (t : Int) post _ _ _
  simp only [w_X10_strings_L6_body, w_X10_strings_B63, w_X10_strings_B87, m21, m22, m24, Int.toNat_natCast]
  refine ⟨by simp only [inb]; omega, by simp only [rg]; omega, by simp only [rg]; omega, fun a => ?_, fun a => ?_⟩
  · have ek : k = (ε 7 i).toNat := by omega
    rw [ek] at hc hA
    refine s_madd (by omega) hR hL (fun τ hLs hRt => h2 (c, (p : Int), (t : Int)) ?_ τ hLs hRt)
    simp only [stF]; rw [if_pos hA, hc]
  · have hpn := hev.pn (n := k) (by omega)
    have hbw := hV.bw (6 + t + k) (by omega)
    have ex : ε 9 (3 * (i : Int) + (k : Int)).toNat - ε 3 (6 + (t : Int) + (k : Int)).toNat = stX ε i t k := by
      unfold stX pit
      rw [show (3 * (i : Int) + (k : Int)).toNat = 3 * i + k by omega, show (6 + (t : Int) + (k : Int)).toNat = 6 + t + k by omega]
    rw [ex]
    have hxb : -2100 ≤ stX ε i t k ∧ stX ε i t k ≤ 200 := by unfold stX; omega
    have fin : ∀ x : Int, x = stC (p : Int) (stX ε i t k) → stOk (p : Int) (stX ε i t k) → w_X10_strings_L6 σ (i : Int) (p : Int) (t : Int) post n (c + x) ((k : Int) + 1) := by
      intro x hx hok
      refine ih _ _ ⟨k + 1, by push_cast; rfl, by push_cast; omega, ?_, hA, hok⟩ (by omega)
      rw [hx, hc]; rfl
    have h63 : stOk (p : Int) (stX ε i t k) → rg (stX ε i t k) ∧ (stX ε i t k ≠ 0 → rg (stX ε i t k) ∧ rg ((p : Int) + 4) ∧ (stX ε i t k ≠ (p : Int) + 4 → w_X10_strings_L6 σ (i : Int) (p : Int) (t : Int) post n (c + 1) ((k : Int) + 1)) ∧ (stX ε i t k = (p : Int) + 4 → w_X10_strings_L6 σ (i : Int) (p : Int) (t : Int) post n (c + 2) ((k : Int) + 1))) ∧ (stX ε i t k = 0 → w_X10_strings_L6 σ (i : Int) (p : Int) (t : Int) post n (c + 0) ((k : Int) + 1)) := by
      intro hok
      refine ⟨by simp only [rg]; omega, fun b => ⟨by simp only [rg]; omega, by simp only [rg]; omega, fun d => fin 1 ?_ hok, fun d => fin 2 ?_ hok⟩, fun b => fin 0 ?_ hok⟩
      · unfold stC; rw [if_neg b, if_neg (by omega)]
      · unfold stC; rw [if_neg b, if_pos (by omega)]
      · unfold stC; rw [if_pos b]
    refine ⟨by simp only [inb]; omega, by simp only [inb]; omega, by simp only [rg]; omega, fun b => h63 (Or.inl b), fun b => ?_⟩
    refine s_in (by simp only [rg]; omega) (by simp only [rg]; omega) (by simp only [rg]; omega) (fun d1 d2 => ⟨rg_c _ rfl, fun _ => h63 (Or.inr (by omega)), fun z => absurd z (by decide)⟩) (fun d => ⟨rg_c _ rfl, fun z => absurd rfl z, fun _ => h1 ?_⟩)
    simp only [stF]
    rw [if_neg (fun z => ?_)]
    have := stAll_le (m := k) (by omega) z
    unfold stOk at this
    omega
theorem s_mbreaths (hM : MP κ ε σ) (hV : VE κ ε) {i : Nat} (hi : (i : Int) < ε 2 7) (hR : RowM σ i []) (h : ∀ τ, LsM σ τ i → RowM τ i (fm (wnF ε i) (i + 1)) → post τ) : w_X10_breaths σ (i : Int) post := by
  have hn40 := hV.1
  have hb1 := hV.b1
  refine lp2 (w_X10_breaths_L2 (i : Int) post) (fun u τ => ∃ j : Nat, u = (j : Int) ∧ j ≤ i + 1 ∧ LsM σ τ i ∧ RowM τ i (fm (wnF ε i) j)) (fun u τ => (41 - u).toNat) ?_ _ _ ⟨0, rfl, by omega, LsM.rf, hR⟩
  intro n u τ ⟨j, hu, hj, hLs, hRt⟩ ih
  subst hu
  show w_X10_breaths_L2_body (i : Int) post _ _ _
  refine ⟨by simp only [rg]; omega, by simp only [rg]; omega, fun a => ?_, fun a => ?_⟩
  · rw [show j = i + 1 by omega] at hRt
    exact h τ hLs hRt
  · have hMt := hLs.mp hM
    obtain ⟨m0, m1, m18, m19, m20, m21, m22, m23, m24⟩ := id hMt
    refine lp2 (w_X10_breaths_L12 τ (i : Int) (j : Int) post (w_X10_breaths_L2 (i : Int) post n)) (fun c u => ∃ k : Nat, u = (k : Int) ∧ j ≤ k ∧ k ≤ i + 1 ∧ c = psum (ε 6) k - psum (ε 6) j) (fun c u => (41 - u).toNat) ?_ _ _ ⟨j, rfl, by omega, by omega, by omega⟩
    intro n2 c u ⟨k, hu, hk1, hk2, hc⟩ ih2
    subst hu
    have p1 := psum_b (f := ε 6) (n := (ε 2 7).toNat) (fun q hq => by have := hV.len q hq; omega) (b := k) (by omega)
    have p2 := psum_b (f := ε 6) (n := (ε 2 7).toNat) (fun q hq => by have := hV.len q hq; omega) (b := j) (by omega)
    show w_X10_breaths_L12_body τ (i : Int) (j : Int) post _ _ _ _
    simp only [w_X10_breaths_L12_body, w_X10_breaths_B52, m20, m24, Int.toNat_natCast, tn1]
    refine ⟨by simp only [rg]; omega, by simp only [rg]; omega, fun b => ⟨by simp only [rg]; omega, by simp only [rg]; omega, fun d => ?_, fun d => ?_⟩, fun b => ⟨by simp only [inb]; omega, ?_⟩⟩
    · rw [show k = i + 1 by omega] at hc
      refine ih _ _ ⟨j + 1, by push_cast; rfl, by omega, hLs, ?_⟩ (by omega)
      rw [fm_none (by unfold wnF; rw [if_neg (by omega)])]
      exact hRt
    · rw [show k = i + 1 by omega] at hc
      refine s_madd (by omega) hRt (by have := fm_len (wnF ε i) j; omega) (fun υ hLu hRu => ?_)
      refine ih _ _ ⟨j + 1, by push_cast; rfl, by omega, hLs.tr hLu, ?_⟩ (by omega)
      rw [fm_some (t := (0, (j : Int), 0)) (by unfold wnF; rw [if_pos (by omega)])]
      exact hRu
    · refine ih2 _ _ ⟨k + 1, by push_cast; rfl, by omega, by omega, ?_⟩ (by omega)
      rw [hc]
      simp only [psum]
      omega
theorem s_mpartial {post : Int → Prop} {x : Int} (hx : rg x) (hT : isP x → post 1) (hF : ¬ isP x → post 0) : w_X10_isPartial σ x post := by
  simp only [w_X10_isPartial_B59, w_X10_isPartial_B54, w_X10_isPartial]
  unfold isP at hT hF
  repeat' (first | exact hx | exact Or.inr rfl | exact Or.inl rfl | exact hT (by omega) | exact hF (by omega) | apply And.intro | intro _)
theorem s_mslide (hM : MP 3 ε σ) (hV : VE κ ε) {i : Nat} (hi : (i : Int) < ε 2 7) (hR : RowM σ i []) (h : ∀ τ, LsM σ τ i → RowM τ i (fm (slF ε i) 7) → post τ) : ∃ n, w_X10_findOf_L126 (i : Int) post n 0 σ := by
  have hn40 := hV.1
  have hb5 := hV.b5
  have hp0 := (hV.2.1 i hi).2.2.2.2.2.2.2.1
  refine lp2 (w_X10_findOf_L126 (i : Int) post) (fun u τ => ∃ p : Nat, u = (p : Int) ∧ p ≤ 7 ∧ LsM σ τ i ∧ RowM τ i (fm (slF ε i) p)) (fun u τ => (7 - u).toNat) ?_ _ _ ⟨0, rfl, by omega, LsM.rf, hR⟩
  intro n u τ ⟨p, hu, hp, hLs, hRt⟩ ih
  subst hu
  have hMt := hLs.mp hM
  obtain ⟨m0, m1, m18, m19, m20, m21, m22, m23, m24⟩ := id hMt
  show w_X10_findOf_L126_body (i : Int) post _ _ _
  simp only [w_X10_findOf_L126_body, w_X10_findOf_B188, w_X10_findOf_B174, w_X10_findOf_B171, m22, m24, tn5]
  refine ⟨by simp only [rg]; omega, fun a => ?_, fun a => ⟨by simp only [inb]; omega, ?_⟩⟩
  · rw [show p = 7 by omega] at hRt
    exact h τ hLs hRt
  · have ex : ε 9 (3 * (i : Int)).toNat = pit ε i 0 := by unfold pit; rw [show (3 * (i : Int)).toNat = 3 * i + 0 by omega]
    rw [ex]
    refine s_mpartial (by simp only [rg]; omega) (fun b => ⟨rg_c _ rfl, fun z => absurd z (by decide), fun _ => ⟨by simp only [rg]; omega, fun d => ?_, fun d => ?_⟩⟩) (fun b => ⟨rg_c _ rfl, fun _ => ?_, fun z => absurd rfl z⟩)
    · refine s_madd (by omega) hRt (by have := fm_len (slF ε i) p; omega) (fun υ hLu hRu => ?_)
      refine ih _ _ ⟨p + 1, by push_cast; rfl, by omega, hLs.tr hLu, ?_⟩ (by omega)
      rw [fm_some (t := (max 0 ((p : Int) - 4), (p : Int), 0)) (by simp only [slF]; rw [if_pos b]), show max 0 ((p : Int) - 4) = (p : Int) - 4 by omega]
      exact hRu
    · refine s_madd (by omega) hRt (by have := fm_len (slF ε i) p; omega) (fun υ hLu hRu => ?_)
      refine ih _ _ ⟨p + 1, by push_cast; rfl, by omega, hLs.tr hLu, ?_⟩ (by omega)
      rw [fm_some (t := (max 0 ((p : Int) - 4), (p : Int), 0)) (by simp only [slF]; rw [if_pos b]), show max 0 ((p : Int) - 4) = 0 by omega]
      exact hRu
    · refine ih _ _ ⟨p + 1, by push_cast; rfl, by omega, hLs, ?_⟩ (by omega)
      rw [fm_none (by simp only [slF]; rw [if_neg b])]
      exact hRt
/-- sticks -/
theorem s_mplayed {post : Int → Prop} (hM : MP 4 ε σ) (hV : VE 4 ε) {i : Nat} (hi : (i : Int) < ε 2 7) {h : Int} (hh : h = 0 ∨ h = 1) (hp : post (pb ε h i)) : w_X10_played σ (i : Int) h post := by
  obtain ⟨m0, m1, m18, m19, m20, m21, m22, m23, m24⟩ := id hM
  have hn40 := hV.1
  have hev := hV.2.1 i hi
  have h7 := hev.2.2.2.1
  have h72 := hev.2.2.2.2.2.1 rfl
  simp only [w_X10_played, w_X10_played_B31, m21, m22, Int.toNat_natCast]
  refine ⟨by simp only [inb]; omega, by simp only [rg]; omega, fun a => ⟨by simp only [inb]; omega, ?_⟩, fun a => ⟨by simp only [inb]; omega, ?_⟩⟩
  · have : pb ε h i = ε 9 (3 * (i : Int)).toNat := by
      unfold pb pit
      rw [show (ε 7 i).toNat - 1 = 0 by omega, show (3 * (i : Int)).toNat = 3 * i + 0 by omega]
      split <;> rfl
    rw [← this]; exact hp
  · have : pb ε h i = ε 9 (3 * (i : Int) + h).toNat := by
      unfold pb pit
      rw [a]
      rcases hh with rfl | rfl
      · rw [if_pos rfl, show (3 * (i : Int) + 0).toNat = 3 * i + 0 by omega]
      · rw [if_neg (by decide), show (3 * (i : Int) + 1).toNat = 3 * i + 1 by omega]; rfl
    rw [← this]; exact hp
theorem s_mother {post : Int → Prop} (hM : MP κ ε σ) (hV : VE κ ε) {i x : Nat} (hi : (i : Int) < ε 2 7) (hx : x ≤ i) (hT : all1 ε x i → post 1) (hF : ¬ all1 ε x i → post 0) : w_X10_isOther σ ((x : Int) - 1) (i : Int) post := by
  obtain ⟨m0, m1, m18, m19, m20, m21, m22, m23, m24⟩ := id hM
  have hn40 := hV.1
  refine lp2 (w_X10_isOther_L7 σ (i : Int) post) (fun c u => ∃ k : Nat, u = (k : Int) ∧ x ≤ k ∧ k ≤ i ∧ ((c = 1 ∧ all1 ε x k) ∨ (c = 0 ∧ ¬ all1 ε x k))) (fun c u => (41 - u).toNat) ?_ _ _ ⟨x, by omega, Nat.le_refl x, hx, Or.inl ⟨rfl, fun q a b => by omega⟩⟩
  intro n c u ⟨k, hu, hk1, hk2, hc⟩ ih
  subst hu
  show w_X10_isOther_L7_body σ (i : Int) post _ _ _
  simp only [w_X10_isOther_L7_body, w_X10_isOther_B33, w_X10_isOther_B32, m21, Int.toNat_natCast]
  refine ⟨by simp only [rg]; omega, by simp only [rg]; omega, fun a => ?_, fun a => ?_⟩
  · rw [show k = i by omega] at hc
    rcases hc with ⟨e, y⟩ | ⟨e, y⟩
    · rw [e]; exact ⟨Or.inr rfl, hT y⟩
    · rw [e]; exact ⟨Or.inl rfl, hF y⟩
  · have h7 := (hV.2.1 k (by omega)).2.2.2.1
    have no : ¬ all1 ε x (k + 1) → w_X10_isOther_L7 σ (i : Int) post n 0 ((k : Int) + 1) := fun y => ih _ _ ⟨k + 1, by push_cast; rfl, by omega, by omega, Or.inr ⟨rfl, y⟩⟩ (by omega)
    refine ⟨by simp only [rg]; omega, fun b => no (fun z => ?_), fun b => ⟨by simp only [inb]; omega, by simp only [rg]; omega, fun d => no (fun z => d (z k (by omega) (by omega))), fun d => ?_⟩⟩
    · rcases hc with ⟨e, y⟩ | ⟨e, y⟩
      · omega
      · exact y (fun q q1 q2 => z q q1 (by omega))
    · rcases hc with ⟨e, y⟩ | ⟨e, y⟩
      · refine ih _ _ ⟨k + 1, by push_cast; rfl, by omega, by omega, Or.inl ⟨rfl, fun q q1 q2 => ?_⟩⟩ (by omega)
        rcases Nat.lt_or_eq_of_le (Nat.le_of_lt_succ q2) with z | z
        · exact y q q1 z
        · rw [z]; exact d
      · omega
theorem s_msticks (hM : MP 4 ε σ) (hV : VE 4 ε) {i : Nat} (hi : (i : Int) < ε 2 7) (hR : RowM σ i []) (h : ∀ τ, LsM σ τ i → RowM τ i (skL ε i) → post τ) : w_X10_sticks σ (i : Int) post := by
  obtain ⟨m0, m1, m18, m19, m20, m21, m22, m23, m24⟩ := id hM
  have hn40 := hV.1
  have hev := hV.2.1 i hi
  have h7 := hev.2.2.2.1
  have hp0 := hev.2.2.2.2.2.2.2.1
  unfold skL at h
  simp only [w_X10_sticks, m21, Int.toNat_natCast]
  refine ⟨by simp only [inb]; omega, by simp only [rg]; omega, fun a => ?_, fun a => ?_⟩
  · rw [if_neg a] at h
    refine lp2 (w_X10_sticks_L21 (i : Int) post) (fun u τ => ∃ g : Nat, u = (g : Int) ∧ g ≤ 2 ∧ LsM σ τ i ∧ RowM τ i (fj (fun h => fm (skF ε i h) (i + 1)) g)) (fun u τ => (2 - u).toNat) ?_ _ _ ⟨0, rfl, by omega, LsM.rf, hR⟩
    intro n u τ ⟨g, hu, hg, hLs, hRt⟩ ih
    subst hu
    show w_X10_sticks_L21_body (i : Int) post _ _ _
    refine ⟨by simp only [rg]; omega, fun b => ?_, fun b => ?_⟩
    · rw [show g = 2 by omega] at hRt
      exact h τ hLs hRt
    · refine lp2 (w_X10_sticks_L28 (i : Int) (g : Int) post (w_X10_sticks_L21 (i : Int) post n)) (fun u υ => ∃ x : Nat, u = (x : Int) - 1 ∧ x ≤ i + 1 ∧ LsM σ υ i ∧ RowM υ i (fj (fun h => fm (skF ε i h) (i + 1)) g ++ fm (skF ε i g) x)) (fun u υ => (41 - u).toNat) ?_ _ _ ⟨0, rfl, by omega, hLs, by simp only [fm, List.append_nil]; exact hRt⟩
      intro n2 u υ ⟨x, hu, hx, hL2, hR2⟩ ih2
      subst hu
      have hMt := hL2.mp hM
      obtain ⟨t0, t1, t18, t19, t20, t21, t22, t23, t24⟩ := id hMt
      have ex : ε 9 (3 * (i : Int)).toNat = pit ε i 0 := by unfold pit; rw [show (3 * (i : Int)).toNat = 3 * i + 0 by omega]
      show w_X10_sticks_L28_body (i : Int) (g : Int) post _ _ _ _
      simp only [w_X10_sticks_L28_body, w_X10_sticks_B72, w_X10_sticks_B89, w_X10_sticks_B101, w_X10_sticks_B105, w_X10_sticks_B106, w_X10_sticks_B109, t22, ex]
      refine ⟨by simp only [rg]; omega, by simp only [rg]; omega, fun d => ?_, fun d => ?_⟩
      · refine ih _ _ ⟨g + 1, by push_cast; rfl, by omega, hL2, ?_⟩ (by omega)
        rw [show x = i + 1 by omega] at hR2
        exact hR2
      · have put : ∀ e : Int, all1 ε x i → e = skP ε i g x → w_X10_add υ (i : Int) (g : Int) ((x : Int) - 1) e (fun σ6 => w_X10_sticks_L28 (i : Int) (g : Int) post (w_X10_sticks_L21 (i : Int) post n) n2 ((x : Int) - 1 + 1) σ6) := by
          intro e hall he
          refine s_madd (by omega) hR2 ?_ (fun ω hLu hRu => ?_)
          · have l1 := fj_len (fun h => fm (skF ε i h) (i + 1)) 40 g (fun y _ => Nat.le_trans (fm_len _ _) (by omega))
            have l2 := fm_len (skF ε i g) x
            rw [List.length_append]
            omega
          · refine ih2 _ _ ⟨x + 1, by push_cast; omega, by omega, hL2.tr hLu, ?_⟩ (by omega)
            rw [fm_some (t := (e, (g : Int), (x : Int) - 1)) (by simp only [skF]; rw [if_pos hall, he]), ← List.append_assoc]
            exact hRu
        refine s_mother hMt hV hi (by omega) (fun y => ⟨rg_c _ rfl, fun _ => ⟨by simp only [inb]; omega, by simp only [rg]; omega, fun f => ?_, fun f => ?_⟩, fun z => absurd z (by decide)⟩) (fun y => ⟨rg_c _ rfl, fun z => absurd rfl z, fun _ => ?_⟩)
        · have hq := pb_b hV (v := (x : Int) - 1) f (by omega) (1 - (g : Int))
          have ez : (x : Int) - 1 = ((x - 1 : Nat) : Int) := by omega
          rw [ez, Int.toNat_natCast] at hq
          have hplay : ∀ P : Int → Prop, P (pb ε (1 - (g : Int)) (x - 1)) → w_X10_played υ ((x : Int) - 1) (1 - (g : Int)) P := by
            intro P hP
            rw [ez]
            exact s_mplayed hMt hV (by omega) (by omega) hP
          refine hplay _ ?_
          have hsk : skP ε i g x = if (g = 0 ∧ 0 < pit ε i 0 - pb ε (1 - (g : Int)) (x - 1)) ∨ (g ≠ 0 ∧ pit ε i 0 - pb ε (1 - (g : Int)) (x - 1) < 0) then 4 else 0 := by
            simp only [skP]
            rw [if_neg (by omega)]
          refine ⟨by simp only [rg]; omega, fun k => ⟨by simp only [rg]; omega, fun l => put 0 y ?_, fun l => ⟨by simp only [rg]; omega, by simp only [rg]; omega, fun m => put 0 y ?_, fun m => put 4 y ?_⟩⟩, fun k => ⟨by simp only [rg]; omega, by simp only [rg]; omega, fun l => put 4 y ?_, fun l => ⟨by simp only [rg]; omega, fun m => put 0 y ?_, fun m => by omega⟩⟩⟩
          · omega
          · rw [hsk, if_neg (by omega)]
          · rw [hsk, if_pos (by omega)]
          · rw [hsk, if_pos (by omega)]
          · rw [hsk, if_neg (by omega)]
        · have hsk : skP ε i g x = 0 := by
            simp only [skP]
            rw [if_pos (by omega)]
          refine ⟨by simp only [rg]; omega, fun k => ⟨by simp only [rg]; omega, fun l => put 0 y hsk.symm, fun l => ⟨by simp only [rg]; omega, by simp only [rg]; omega, fun m => put 0 y hsk.symm, fun m => by omega⟩⟩, fun k => ⟨by simp only [rg]; omega, by simp only [rg]; omega, fun l => by omega, fun l => ⟨by simp only [rg]; omega, fun m => put 0 y hsk.symm, fun m => ⟨by simp only [rg]; omega, by simp only [rg]; omega, fun o => put 0 y hsk.symm, fun o => by omega⟩⟩⟩⟩
        · refine ih2 _ _ ⟨x + 1, by push_cast; omega, by omega, hL2, ?_⟩ (by omega)
          rw [fm_none (by simp only [skF]; rw [if_neg y])]
          exact hR2
  · rw [if_pos a] at h
    exact s_madd (by omega) hR (by simp) (fun τ hLs hRt => h τ hLs hRt)
/-- the states of one event -/
theorem s_mfindOf (hκ : κ < 5) (hM : MP κ ε σ) (hV : VE κ ε) {i : Nat} (hi : (i : Int) < ε 2 7) (hR : RowM σ i []) (h : ∀ τ, LsM σ τ i → RowM τ i (SLk κ ε i) → post τ) : w_X10_findOf σ (i : Int) post := by
  have hn40 := hV.1
  have hev := hV.2.1 i hi
  have h7 := hev.2.2.2.1
  have m0 := hM.1
  unfold w_X10_findOf
  rw [m0]
  refine ⟨by simp only [rg]; omega, fun a => ?_, fun a => ?_, fun a => ?_, fun a => ?_, fun a => ?_⟩
  · obtain rfl : κ = 4 := by omega
    exact s_msticks hM hV hi hR h
  · obtain rfl : κ = 0 := by omega
    refine lp2 (w_X10_findOf_L38 (i : Int) post) (fun u τ => ∃ s : Nat, u = (s : Int) ∧ 1 ≤ s ∧ s ≤ 32 ∧ LsM σ τ i ∧ RowM τ i (fm (kbF ε i) s)) (fun u τ => (32 - u).toNat) ?_ _ _ ⟨1, rfl, by omega, by omega, LsM.rf, ?_⟩
    · intro n u τ ⟨s, hu, s1, s2, hLs, hRt⟩ ih
      subst hu
      have hMt := hLs.mp hM
      have t21 := hMt.2.2.2.2.2.1
      show w_X10_findOf_L38_body (i : Int) post _ _ _
      simp only [w_X10_findOf_L38_body, w_X10_findOf_B188, w_X10_findOf_B63, t21, Int.toNat_natCast]
      refine ⟨by simp only [rg]; omega, fun b => ?_, fun b => ?_⟩
      · rw [show s = 32 by omega] at hRt
        exact h τ hLs hRt
      · have hs : s < 32 := by omega
        have hsm := kb_small s hs
        have hnx : kbF ε i s = none → w_X10_findOf_L38 (i : Int) post n ((s : Int) + 1) τ := by
          intro z
          refine ih _ _ ⟨s + 1, by push_cast; rfl, by omega, by omega, hLs, ?_⟩ (by omega)
          rw [fm_none z]; exact hRt
        refine s_mbits hs ⟨by simp only [inb]; omega, by simp only [rg]; omega, by simp only [rg]; omega, fun d => hnx ?_, fun d => ?_⟩
        · simp only [kbF]; rw [if_neg (fun z => d z.1)]
        · have hlt := kb_lt hV (v := (i : Int)) (by omega) hi s hs (by rw [Int.toNat_natCast]; exact d)
          rw [Int.toNat_natCast] at hlt
          refine s_mfingers hMt hV hi hs d hRt (by omega) hnx (fun t ht υ hLu hRu => ?_)
          refine ih _ _ ⟨s + 1, by push_cast; rfl, by omega, by omega, hLs.tr hLu, ?_⟩ (by omega)
          rw [fm_some ht]; exact hRu
    · rw [show fm (kbF ε i) 1 = [] from fm_pre (fun x hx => by
        rw [show x = 0 by omega]
        simp only [kbF]
        rw [if_neg (fun y => by have e : (nbits 0 : Int) = 0 := rfl; rw [e] at y; omega)])]
      exact hR
  · obtain rfl : κ = 1 := by omega
    refine lp2 (w_X10_findOf_L74 (i : Int) post) (fun u τ => ∃ p : Nat, u = (p : Int) ∧ p ≤ 12 ∧ LsM σ τ i ∧ RowM τ i (fj (fun p => fm (stF ε i p) (5 - (ε 7 i).toNat)) p)) (fun u τ => (12 - u).toNat) ?_ _ _ ⟨0, rfl, by omega, LsM.rf, hR⟩
    intro n u τ ⟨p, hu, hp, hLs, hRt⟩ ih
    subst hu
    show w_X10_findOf_L74_body (i : Int) post _ _ _
    refine ⟨by simp only [rg]; omega, fun b => ?_, fun b => ?_⟩
    · rw [show p = 12 by omega] at hRt
      exact h τ hLs hRt
    · refine lp2 (w_X10_findOf_L82 (i : Int) (p : Int) post (w_X10_findOf_L74 (i : Int) post n)) (fun u υ => ∃ t : Nat, u = (t : Int) ∧ t ≤ 5 - (ε 7 i).toNat ∧ LsM σ υ i ∧ RowM υ i (fj (fun p => fm (stF ε i p) (5 - (ε 7 i).toNat)) p ++ fm (stF ε i p) t)) (fun u υ => (10 - u).toNat) ?_ _ _ ⟨0, rfl, by omega, hLs, by simp only [fm, List.append_nil]; exact hRt⟩
      intro n2 u υ ⟨t, hu, ht, hL2, hR2⟩ ih2
      subst hu
      have hMt := hL2.mp hM
      have t21 := hMt.2.2.2.2.2.1
      show w_X10_findOf_L82_body (i : Int) (p : Int) post _ _ _ _
      simp only [w_X10_findOf_L82_body, t21, Int.toNat_natCast]
      refine ⟨by simp only [inb]; omega, by simp only [rg]; omega, fun d => ?_, fun d => ?_⟩
      · refine ih _ _ ⟨p + 1, by push_cast; rfl, by omega, hL2, ?_⟩ (by omega)
        rw [show t = 5 - (ε 7 i).toNat by omega] at hR2
        exact hR2
      · refine s_mstrings hMt hV hi (by omega) d hR2 ?_ (fun z => ?_) (fun x hx ω hLu hRu => ?_)
        · have l1 := fj_len (fun p => fm (stF ε i p) (5 - (ε 7 i).toNat)) 4 p (fun x _ => Nat.le_trans (fm_len _ _) (by omega))
          have l2 := fm_len (stF ε i p) t
          rw [List.length_append]
          omega
        · refine ih2 _ _ ⟨t + 1, by push_cast; rfl, by omega, hL2, ?_⟩ (by omega)
          rw [fm_none z]; exact hR2
        · refine ih2 _ _ ⟨t + 1, by push_cast; rfl, by omega, hL2.tr hLu, ?_⟩ (by omega)
          rw [fm_some hx, ← List.append_assoc]; exact hRu
  · obtain rfl : κ = 2 := by omega
    exact s_mbreaths hM hV hi hR h
  · obtain rfl : κ = 3 := by omega
    exact s_mslide hM hV hi hR h
def MC (κ : Nat) (ε σ : Mem) : Prop := MP κ ε σ ∧ ∀ i : Nat, (i : Int) < ε 2 7 → RowM σ i (SL κ ε i)
theorem MC.k {τ : Mem} (h : MC κ ε σ) (e : ∀ c, 17 ≤ c → c ≤ 28 → τ c = σ c) : MC κ ε τ :=
  ⟨h.1.k (fun c c1 c2 => e c (by omega) (by omega)) (by rw [e 17 (by omega) (by omega)]) (by rw [e 17 (by omega) (by omega)]), fun i hi => (h.2 i hi).k (fun c c1 c2 => e c (by omega) (by omega))⟩
theorem s_mfind (hκ : κ < 5) (hV : VE κ ε) (hI : MIv κ ε σ) (h : ∀ τ, KC σ τ → MIv κ ε τ → MC κ ε τ → post τ) : w_X10_find σ post := by
  have hn40 := hV.1
  obtain ⟨hM, hF⟩ := id hI
  unfold w_X10_find
  refine ⟨by simp only [rg]; omega, fun a σ1 e1 => ?_, fun a => ?_⟩
  · have f1 : ∀ c, c ≠ 17 → σ1 c = σ c := fun c hc => by rw [e1, up2_k hc]
    have hM1 : MP κ ε σ1 := hM.k (fun c c1 c2 => f1 c (by omega)) (by rw [e1]; simp [up2]) (by rw [e1]; simp [up2])
    have h9 : σ1 17 9 = 1 := by rw [e1]; simp [up2]
    refine lp2 (w_X10_find_L15 post) (fun u τ => ∃ i : Nat, u = (i : Int) ∧ (i : Int) ≤ ε 2 7 ∧ (∀ c, c ≠ 25 → c ≠ 26 → c ≠ 27 → c ≠ 28 → τ c = σ1 c) ∧ ∀ j, j < i → RowM τ j (SL κ ε j)) (fun u τ => (ε 2 7 - u).toNat) ?_ _ _ ⟨0, rfl, by omega, fun _ _ _ _ _ => rfl, fun j hj => by omega⟩
    intro n u τ ⟨i, hu, hi, hfr, hrs⟩ ih
    subst hu
    have hMt : MP κ ε τ := hM1.k (fun c c1 c2 => hfr c (by omega) (by omega) (by omega) (by omega)) (by rw [hfr 17 (by decide) (by decide) (by decide) (by decide)]) (by rw [hfr 17 (by decide) (by decide) (by decide) (by decide)])
    show w_X10_find_L15_body post _ _ _
    simp only [w_X10_find_L15_body, hMt.2.1, Int.toNat_natCast]
    refine ⟨by simp only [rg]; omega, by simp only [rg]; omega, fun b => ?_, fun b => ⟨by simp only [inb]; omega, fun τ2 e2 => ?_⟩⟩
    · refine h τ (fun c hc => ?_) ⟨hMt, Or.inr ⟨?_, fun j hj => hrs j (by omega)⟩⟩ ⟨hMt, fun j hj => hrs j (by omega)⟩
      · rw [hfr c (by omega) (by omega) (by omega) (by omega), f1 c (by omega)]
      · rw [hfr 17 (by decide) (by decide) (by decide) (by decide), h9]
    · have f2 : ∀ c, c ≠ 25 → τ2 c = τ c := fun c hc => by rw [e2, up2_k hc]
      have hM2 : MP κ ε τ2 := hMt.k (fun c c1 c2 => f2 c (by omega)) (by rw [f2 17 (by decide)]) (by rw [f2 17 (by decide)])
      have hR0 : RowM τ2 i [] := ⟨by rw [e2]; simp [up2], fun k hk => by simp at hk⟩
      have hR2 : ∀ j, j < i → RowM τ2 j (SL κ ε j) := by
        intro j hj
        have := hrs j hj
        refine ⟨?_, fun k hk => ?_⟩
        · rw [e2]; simp only [up2, if_true, if_neg (show j ≠ i by omega)]; exact this.1
        · rw [f2 26 (by decide), f2 27 (by decide), f2 28 (by decide)]; exact this.2 k hk
      have hlast : ∀ υ L, LsM τ2 υ i → RowM υ i L → SL κ ε i = L → w_X10_find_L15 post n ((i : Int) + 1) υ := by
        intro υ L hL2 hRi he
        refine ih _ _ ⟨i + 1, by push_cast; rfl, by omega, fun c c1 c2 c3 c4 => ?_, fun j hj => ?_⟩ (by omega)
        · rw [hL2.1 c c1 c2 c3 c4, f2 c c1]; exact hfr c c1 c2 c3 c4
        · rcases Nat.lt_or_eq_of_le (Nat.le_of_lt_succ hj) with z | z
          · refine hL2.2 j _ (by omega) ?_ (hR2 j z)
            have := SL_len hκ hV (v := (j : Int)) (by omega) (by omega)
            rw [Int.toNat_natCast] at this
            have := wd_le κ
            omega
          · rw [z, he]; exact hRi
      have hev := hV.2.1 i b
      have h7 := hev.2.2.2.1
      have hinc : inC ε i ↔ ∀ k : Nat, (k : Int) < ε 7 i → ε 3 3 ≤ pit ε i k ∧ pit ε i k ≤ ε 3 4 := by
        obtain ⟨-, -, -, -, -, -, -, p0, p1, p2, q1, q2, q3, q4⟩ := hev
        unfold inC
        constructor
        · intro ⟨z1, z2⟩ k hk
          rcases (show ε 7 i = 1 ∨ ε 7 i = 2 ∨ ε 7 i = 3 by omega) with e | e | e <;> rw [e] at z2 hk q2 q4
          · rw [show k = 0 by omega]; exact ⟨z1, z2⟩
          · have := q2 (by decide)
            have z2' : pit ε i 1 ≤ ε 3 4 := z2
            rcases (show k = 0 ∨ k = 1 by omega) with rfl | rfl <;> omega
          · have := q2 (by decide)
            have := q4 rfl
            have z2' : pit ε i 2 ≤ ε 3 4 := z2
            rcases (show k = 0 ∨ k = 1 ∨ k = 2 by omega) with rfl | rfl | rfl <;> omega
        · intro z
          exact ⟨(z 0 (by omega)).1, (z ((ε 7 i).toNat - 1) (by omega)).2⟩
      obtain ⟨t0, t1, t18, t19, t20, t21, t22, t23, t24⟩ := id hM2
      refine lp2 (w_X10_find_L34 τ2 (i : Int) post (w_X10_find_L15 post n)) (fun c u => ∃ k : Nat, u = (k : Int) ∧ (k : Int) ≤ ε 7 i ∧ ((c = 1 ∧ ∀ q, q < k → ε 3 3 ≤ pit ε i q ∧ pit ε i q ≤ ε 3 4) ∨ (c = 0 ∧ ¬ ∀ q, q < k → ε 3 3 ≤ pit ε i q ∧ pit ε i q ≤ ε 3 4))) (fun c u => (5 - u).toNat) ?_ _ _ ⟨0, rfl, by omega, Or.inl ⟨rfl, fun q hq => by omega⟩⟩
      intro n2 c u ⟨k, hu, hk, hc⟩ ih2
      subst hu
      show w_X10_find_L34_body τ2 (i : Int) post _ _ _ _
      simp only [w_X10_find_L34_body, w_X10_find_B97, w_X10_find_B81, w_X10_find_B80, t21, t22, t24, Int.toNat_natCast, tn0, tn1, tn2, tn3, tn4, tn5, tn6, tn7, tn8, tn9]
      refine ⟨by simp only [inb]; omega, by simp only [rg]; omega, by simp only [rg]; omega, fun d => ⟨by simp only [rg]; omega, fun e => ?_, fun e => ?_⟩, fun d => ?_⟩
      · rcases hc with ⟨z, y⟩ | ⟨z, y⟩
        · omega
        · refine hlast τ2 [] LsM.rf hR0 ?_
          unfold SL
          rw [if_neg (fun x => y (fun q hq => hinc.mp x q (by omega)))]
      · rcases hc with ⟨z, y⟩ | ⟨z, y⟩
        · refine s_mfindOf hκ hM2 hV b hR0 (fun υ hLu hRu => hlast υ _ hLu hRu ?_)
          unfold SL
          rw [if_pos (hinc.mpr (fun q hq => y q (by omega)))]
        · omega
      · have hpn := hev.pn (n := k) (by omega)
        have hb3 := hV.b3
        have hb4 := hV.b4
        have ex : ε 9 (3 * (i : Int) + (k : Int)).toNat = pit ε i k := by unfold pit; rw [show (3 * (i : Int) + (k : Int)).toNat = 3 * i + k by omega]
        have no : (¬ ∀ q, q < k + 1 → ε 3 3 ≤ pit ε i q ∧ pit ε i q ≤ ε 3 4) → w_X10_find_L34 τ2 (i : Int) post (w_X10_find_L15 post n) n2 0 ((k : Int) + 1) := fun y => ih2 _ _ ⟨k + 1, by push_cast; rfl, by push_cast; omega, Or.inr ⟨rfl, y⟩⟩ (by omega)
        rw [ex]
        refine ⟨by simp only [rg]; omega, fun e => no (fun z => ?_), fun e => ⟨by simp only [inb]; omega, s_in (by simp only [rg]; omega) (by simp only [rg]; omega) (by simp only [rg]; omega) (fun f1 f2 => ⟨rg_c _ rfl, fun z => absurd z (by decide), fun _ => ?_⟩) (fun f => ⟨rg_c _ rfl, fun _ => no (fun z => f (z k (by omega))), fun z => absurd rfl z⟩)⟩⟩
        · rcases hc with ⟨y, x⟩ | ⟨y, x⟩
          · omega
          · exact x (fun q hq => z q (by omega))
        · rcases hc with ⟨y, x⟩ | ⟨y, x⟩
          · refine ih2 _ _ ⟨k + 1, by push_cast; rfl, by push_cast; omega, Or.inl ⟨rfl, fun q hq => ?_⟩⟩ (by omega)
            rcases Nat.lt_or_eq_of_le (Nat.le_of_lt_succ hq) with z | z
            · exact x q z
            · rw [z]; exact ⟨f1, f2⟩
          · omega
  · rcases hF with z | ⟨z, y⟩
    · exact absurd z a
    · exact h σ KC.rf hI ⟨hM, y⟩
end MLISTS
