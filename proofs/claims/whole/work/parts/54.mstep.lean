/-! the reference: states and steps -/
section MSTEP
variable {κ : Nat} {σ ε : Mem}
theorem MC.cn {i : Nat} (hC : MC κ ε σ) (hi : (i : Int) < ε 2 7) : σ 25 i = (cS κ ε i : Int) := (hC.2 i hi).1
theorem MC.at {i k : Nat} (hC : MC κ ε σ) (hi : (i : Int) < ε 2 7) (hk : k < cS κ ε i) : σ 28 (80 * i + k) = (ent (SL κ ε i) k).1 ∧ σ 26 (80 * i + k) = (ent (SL κ ε i) k).2.1 ∧ σ 27 (80 * i + k) = (ent (SL κ ε i) k).2.2 := (hC.2 i hi).2 k hk
theorem cS80 (hκ : κ < 5) (hV : VE κ ε) {i : Nat} (hi : (i : Int) < ε 2 7) : cS κ ε i ≤ 80 := Nat.le_trans (cS_le hκ hV hi) (wd_le κ).2
theorem s_mnoState {post : Int → Prop} (hκ : κ < 5) (hV : VE κ ε) (hC : MC κ ε σ) {i k : Int} (hi : rg i) (hk : rg k) (hT : isE ε i → 0 ≤ k → k < cS κ ε i.toNat → post 0) (hF : ¬ (isE ε i ∧ 0 ≤ k ∧ k < cS κ ε i.toNat) → post 1) : w_X10_noState σ i k post := by
  have hn := hV.1
  simp only [w_X10_noState_B33, w_X10_noState_B28, w_X10_noState, hC.1.2.1]
  refine s_in hi (rg_c _ rfl) (by simp only [rg]; omega) (fun a1 a2 => ⟨rg_c _ rfl, fun z => absurd z (by decide), fun _ => ⟨hk, fun b => ⟨Or.inr rfl, hF (fun z => by omega)⟩, fun b => ?_⟩⟩) (fun a => ⟨rg_c _ rfl, fun _ => ⟨Or.inr rfl, hF (fun z => a ⟨z.1.1, by have := z.1.2; omega⟩)⟩, fun z => absurd rfl z⟩)
  have hE : isE ε i := ⟨a1, by omega⟩
  have h80 := cS80 hκ hV (i := i.toNat) (by omega)
  rw [hC.cn (i := i.toNat) (by omega)]
  exact ⟨by simp only [inb]; omega, hk, by simp only [rg]; omega, fun c => ⟨Or.inl rfl, hT hE b c⟩, fun c => ⟨Or.inr rfl, hF (fun z => by omega)⟩⟩
theorem s_mstates {post : Int → Mem → Prop} (hκ : κ < 5) (hV : VE κ ε) (hI : MIv κ ε σ) {i : Int} (hi : rg i) (h1 : ∀ τ, KC σ τ → MIv κ ε τ → ¬ isE ε i → post (-1) τ) (h2 : ∀ τ, KC σ τ → MIv κ ε τ → isE ε i → post (cS κ ε i.toNat) τ) : w_X10_states σ i post := by
  have hn := hV.1
  refine s_mfind hκ hV hI (fun τ kc hIt hC => ?_)
  simp only [w_X10_states_B28, hC.1.2.1]
  refine s_in hi (rg_c _ rfl) (by simp only [rg]; omega) (fun a1 a2 => ⟨rg_c _ rfl, fun z => absurd z (by decide), fun _ => ⟨by simp only [inb]; omega, ?_⟩⟩) (fun a => ⟨rg_c _ rfl, fun _ => h1 τ kc hIt (fun z => a ⟨z.1, by have := z.2; omega⟩), fun z => absurd rfl z⟩)
  rw [hC.cn (i := i.toNat) (by omega)]
  exact h2 τ kc hIt ⟨a1, by omega⟩
theorem s_mstate {post : Int → Mem → Prop} (hκ : κ < 5) (hV : VE κ ε) (hI : MIv κ ε σ) {i k w : Int} (hi : rg i) (hk : rg k) (hw : rg w) (h1 : ∀ τ, KC σ τ → MIv κ ε τ → ¬ (isE ε i ∧ 0 ≤ k ∧ k < cS κ ε i.toNat ∧ 0 ≤ w ∧ w ≤ 2) → post (-1) τ) (h2 : ∀ τ, KC σ τ → MIv κ ε τ → isE ε i → 0 ≤ k → k < cS κ ε i.toNat → 0 ≤ w → w ≤ 2 → post (if w = 0 then e0 (SL κ ε i.toNat) k.toNat else if w = 1 then e1 (SL κ ε i.toNat) k.toNat else e2 (SL κ ε i.toNat) k.toNat) τ) : w_X10_state σ i k w post := by
  have hn := hV.1
  refine s_mfind hκ hV hI (fun τ kc hIt hC => ?_)
  simp only [w_X10_state_B22, w_X10_state_B68]
  refine s_mnoState hκ hV hC hi hk (fun a b c => ⟨rg_c _ rfl, fun z => absurd rfl z, fun _ => ?_⟩) (fun a => ⟨rg_c _ rfl, fun _ => h1 τ kc hIt (fun z => a ⟨z.1, z.2.1, z.2.2.1⟩), fun z => absurd z (by decide)⟩)
  have a1 := a.1
  have a2 := a.2
  refine s_in hw (rg_c _ rfl) (rg_c _ rfl) (fun d1 d2 => ⟨rg_c _ rfl, fun _ => ?_, fun z => absurd z (by decide)⟩) (fun d => ⟨rg_c _ rfl, fun z => absurd rfl z, fun _ => h1 τ kc hIt (fun z => d ⟨z.2.2.2.1, z.2.2.2.2⟩)⟩)
  have hh := h2 τ kc hIt a b c d1 d2
  have h80 := cS80 hκ hV (i := i.toNat) (by omega)
  obtain ⟨q0, q1, q2⟩ := hC.at (i := i.toNat) (k := k.toNat) (by omega) (by omega)
  have ex : (80 * i + k).toNat = 80 * i.toNat + k.toNat := by omega
  rw [ex, q0, q1, q2]
  have ib : inb (80 * i + k) 3200 := ⟨by omega, by omega, by omega⟩
  refine ⟨hw, fun e => ⟨hw, fun f => ⟨ib, ?_⟩, fun f => ⟨ib, ?_⟩⟩, fun e => ⟨ib, ?_⟩⟩
  · rw [if_neg e, if_neg f] at hh; exact hh
  · rw [if_neg e, if_pos f] at hh; exact hh
  · rw [if_pos e] at hh; exact hh
theorem s_mmoved {post : Int → Prop} (hM : MP κ ε σ) (hV : VE κ ε) {i j : Nat} (hi : (i : Int) < ε 2 7) (hj : (j : Int) < ε 2 7) {w a : Int} (w0 : 0 ≤ w) (w1 : w ≤ 1000) (hT : far ε w i j → post (-2)) (hF : ¬ far ε w i j → post a) : w_X10_moved σ w (ε 5 j - ε 5 i) a post := by
  have m24 := hM.2.2.2.2.2.2.2.2
  have ti := (hV.2.1 i hi).2.1
  have tj := (hV.2.1 j hj).2.1
  have hb := hV.b0
  have hm := mulb w0 w1 hb.1 hb.2
  simp only [w_X10_moved_B18, w_X10_moved, m24, tn0]
  unfold far at hT hF
  exact ⟨by simp only [rg]; omega, by simp only [rg]; omega, fun c => hF (by omega), fun c => hT (by omega)⟩
theorem s_mlatest {post : Int → Prop} (hκ : κ < 5) (hV : VE κ ε) (hC : MC κ ε σ) {i k : Nat} (hi : (i : Int) < ε 2 7) (hk : k < cS κ ε i) {h : Int} (hh : rg h) (hp : post (lpS i (ent (SL κ ε i) k) h)) : w_X10_latest σ (i : Int) (80 * (i : Int) + (k : Int)) h post := by
  have hn := hV.1
  have h80 := cS80 hκ hV hi
  have hb := SL_eb' hκ hV hi hk
  obtain ⟨b0, b1, b2, b3⟩ := hb
  obtain ⟨q0, q1, q2⟩ := hC.at hi hk
  have ex : (80 * (i : Int) + (k : Int)).toNat = 80 * i + k := by omega
  have ib : inb (80 * (i : Int) + (k : Int)) 3200 := ⟨by omega, by omega, by omega⟩
  unfold lpS at hp
  simp only [w_X10_latest_B30, w_X10_latest_B20, w_X10_latest, ex, q1, q2]
  refine ⟨ib, by simp only [rg]; omega, fun a => ?_, fun a => ⟨ib, by simp only [rg]; omega, hh, fun b => ⟨ib, ?_⟩, fun b => ?_⟩⟩
  · rw [if_pos (Or.inl a)] at hp; exact hp
  · rw [if_neg (fun z => z.elim a b)] at hp; exact hp
  · rw [if_pos (Or.inr b)] at hp; exact hp
theorem s_mstruck1 {post : Int → Prop} {K : Int → Int → Prop} (hV : VE 4 ε) (hC : MC 4 ε σ) {i k j l : Nat} (hi : (i : Int) < ε 2 7) (hk : k < cS 4 ε i) (hj : (j : Int) < ε 2 7) (hl : l < cS 4 ε j) {h acc : Int} (hh : h = 0 ∨ h = 1) (hA : ¬ ((ent (SL 4 ε j) l).2.1 = 2 ∨ (ent (SL 4 ε j) l).2.1 = h) → ((ent (SL 4 ε j) l).2.2 ≠ lpS i (ent (SL 4 ε i) k) h → post (-2)) ∧ ((ent (SL 4 ε j) l).2.2 = lpS i (ent (SL 4 ε i) k) h → K acc (h + 1))) (hB : ((ent (SL 4 ε j) l).2.1 = 2 ∨ (ent (SL 4 ε j) l).2.1 = h) → (bad4 ε i (ent (SL 4 ε i) k) j (ent (SL 4 ε j) l) h → post (-2)) ∧ (¬ bad4 ε i (ent (SL 4 ε i) k) j (ent (SL 4 ε j) l) h → K (acc + (c4 ε i (ent (SL 4 ε i) k) j (ent (SL 4 ε j) l) h + (if (ent (SL 4 ε i) k).2.1 = h ∧ (ent (SL 4 ε j) l).2.1 = h then 2 else 0))) (h + 1))) : w_X10_struck_L6_body σ (i : Int) (80 * (i : Int) + (k : Int)) (j : Int) (80 * (j : Int) + (l : Int)) post K acc h := by
  have hn := hV.1
  have hκ : (4 : Nat) < 5 := by decide
  have h80 := cS80 hκ hV hi
  have h81 := cS80 hκ hV hj
  have ea := SL_eb' hκ hV hi hk
  have eb := SL_eb' hκ hV hj hl
  obtain ⟨a0, a1, a2, a3⟩ := id ea
  obtain ⟨b0, b1, b2, b3⟩ := id eb
  have b4 := b3 rfl
  obtain ⟨p0, p1, p2⟩ := hC.at hi hk
  obtain ⟨q0, q1, q2⟩ := hC.at hj hl
  have m19 := hC.1.2.2.2.1
  have m24 := hC.1.2.2.2.2.2.2.2.2
  have xi : (80 * (i : Int) + (k : Int)).toNat = 80 * i + k := by omega
  have xj : (80 * (j : Int) + (l : Int)).toNat = 80 * j + l := by omega
  have ii : inb (80 * (i : Int) + (k : Int)) 3200 := ⟨by omega, by omega, by omega⟩
  have ij : inb (80 * (j : Int) + (l : Int)) 3200 := ⟨by omega, by omega, by omega⟩
  have hr : rg h := by simp only [rg]; omega
  have hlb := lpS_b ea h
  generalize hae : ent (SL 4 ε i) k = a at *
  generalize hbe : ent (SL 4 ε j) l = b at *
  have key : (b.2.1 = 2 ∨ b.2.1 = h) → w_X10_struck_B60 σ (i : Int) (80 * (i : Int) + (k : Int)) (j : Int) (80 * (j : Int) + (l : Int)) acc h (lpS i a h) post K := by
    intro hp
    obtain ⟨B1, B2⟩ := hB hp
    have fin : ∀ w : Int, w = c4 ε i a j b h → ¬ bad4 ε i a j b h → w_X10_struck_B123 σ (i : Int) (80 * (i : Int) + (k : Int)) (j : Int) (80 * (j : Int) + (l : Int)) acc h w post K := by
      intro w hw nb
      have B := B2 nb
      simp only [w_X10_struck_B123, w_X10_struck_B154, w_X10_struck_B155, w_X10_struck_B159, xi, xj, p1, q1, hw]
      refine ⟨ii, by simp only [rg]; omega, hr, fun c => ?_, fun c => ⟨ij, by simp only [rg]; omega, hr, fun d => ?_, fun d => ?_⟩⟩
      · rw [if_neg (fun z => c z.1)] at B; exact B
      · rw [if_neg (fun z => d z.2)] at B; exact B
      · rw [if_pos ⟨c, d⟩] at B; exact B
    simp only [w_X10_struck_B60, w_X10_struck_B87, m19, m24, tn0, Int.toNat_natCast]
    refine ⟨by simp only [rg]; omega, fun c => ?_, fun c => ⟨by simp only [rg]; omega, fun d => fin 0 ?_ ?_, fun d => by omega⟩⟩
    · have el : lpS i a h = (((lpS i a h).toNat : Nat) : Int) := by omega
      have hl1 : (((lpS i a h).toNat : Nat) : Int) < ε 2 7 := by omega
      have hact : act4 i a b h := ⟨by omega, hp⟩
      have r1 := pb_b hV (v := ((lpS i a h).toNat : Int)) (by omega) hl1 h
      have r2 := pb_b hV (v := (j : Int)) (by omega) hj h
      rw [Int.toNat_natCast] at r1 r2
      have t1 := (hV.2.1 _ hl1).2.1
      have t2 := (hV.2.1 j hj).2.1
      have hmb := hV.b0
      have hplay : ∀ P : Int → Prop, P (pb ε h (lpS i a h).toNat) → w_X10_played σ (lpS i a h) h P := by
        intro P hP
        rw [el]
        exact s_mplayed hC.1 hV hl1 hh hP
      refine hplay _ (s_mplayed hC.1 hV hj hh (s_mfar (by simp only [rg]; omega) (by simp only [rg]; omega) ?_))
      have ew : ab (pb ε h (lpS i a h).toNat - pb ε h j) = w4 ε i a j h := by unfold w4 ab; omega
      rw [ew]
      have wb := w4_b hV hi hj ea h (by omega)
      have hm := mulb wb.1 wb.2 hmb.1 hmb.2
      have hc4 : c4 ε i a j b h = w4 ε i a j h := by simp only [c4]; rw [if_pos hact]
      refine ⟨by simp only [rg]; omega, fun d => by omega, fun d => ⟨by simp only [inb]; omega, by simp only [inb]; omega, by simp only [rg]; omega, by simp only [rg]; omega, fun e => fin _ hc4.symm (fun z => ?_), fun e => B1 ⟨hact, ?_⟩⟩⟩
      · have := z.2; unfold far at this; omega
      · unfold far; omega
    · simp only [c4]
      rw [if_neg (fun z => z.1 (by omega))]
    · intro z
      exact z.1.1 (by omega)
  simp only [w_X10_struck_L6_body, w_X10_struck_B159]
  refine ⟨hr, fun z => by omega, fun _ => ?_⟩
  refine s_mlatest hκ hV hC hi hk hr ?_
  rw [hae]
  simp only [xj, q1, q2]
  refine ⟨ij, by simp only [rg]; omega, fun c => key (Or.inl c), fun c => ⟨ij, by simp only [rg]; omega, hr, fun d => key (Or.inr d), fun d => ⟨ij, by simp only [rg]; omega, by simp only [rg]; omega, fun e => (hA (fun z => z.elim c d)).2 e, fun e => (hA (fun z => z.elim c d)).1 e⟩⟩⟩
theorem s_mstruck {post : Int → Prop} (hV : VE 4 ε) (hC : MC 4 ε σ) {i k j l : Nat} (hi : (i : Int) < ε 2 7) (hk : k < cS 4 ε i) (hj : (j : Int) < ε 2 7) (hl : l < cS 4 ε j) (h : post (st4 ε i (ent (SL 4 ε i) k) j (ent (SL 4 ε j) l))) : w_X10_struck σ (i : Int) (80 * (i : Int) + (k : Int)) (j : Int) (80 * (j : Int) + (l : Int)) post := by
  have hκ : (4 : Nat) < 5 := by decide
  have eb := SL_eb' hκ hV hj hl
  obtain ⟨b0, b1, b2, b3⟩ := id eb
  have b4 := b3 rfl
  have hbc : (ent (SL 4 ε j) l).2.1 = 0 ∨ (ent (SL 4 ε j) l).2.1 = 1 ∨ (ent (SL 4 ε j) l).2.1 = 2 := by omega
  simp only [st4] at h
  refine ⟨3, ?_⟩
  show w_X10_struck_L6_body σ _ _ _ _ post (w_X10_struck_L6 σ _ _ _ _ post 2) 0 0
  have last : ∀ x : Int, post x → w_X10_struck_L6 σ (i : Int) (80 * (i : Int) + (k : Int)) (j : Int) (80 * (j : Int) + (l : Int)) post 1 x (0 + 1 + 1) := fun x hx => ⟨rg_c _ rfl, fun _ => hx, fun z => absurd z (by decide)⟩
  refine s_mstruck1 hV hC hi hk hj hl (Or.inl rfl) (fun n0 => ⟨fun e => ?_, fun e => ?_⟩) (fun y0 => ⟨fun e => ?_, fun e => ?_⟩)
  · rw [if_pos ⟨by omega, by rw [show (ent (SL 4 ε j) l).2.1 = 1 by omega]; exact fun z => e z.symm⟩] at h; exact h
  · have hb1 : (ent (SL 4 ε j) l).2.1 = 1 := by omega
    rw [if_neg (fun z => z.2 (by rw [hb1]; exact e.symm))] at h
    have nb0 : ¬ bad4 ε i (ent (SL 4 ε i) k) j (ent (SL 4 ε j) l) 0 := fun z => n0 z.1.2
    have nc0 : c4 ε i (ent (SL 4 ε i) k) j (ent (SL 4 ε j) l) 0 = 0 := by simp only [c4]; rw [if_neg (fun z => n0 z.2)]
    refine s_mstruck1 (h := 1) hV hC hi hk hj hl (Or.inr rfl) (fun n1 => absurd (Or.inr hb1) n1) (fun y1 => ⟨fun f => ?_, fun f => ?_⟩)
    · rw [if_pos (Or.inr f)] at h; exact h
    · rw [if_neg (fun z => z.elim nb0 f), nc0] at h
      refine last _ ?_
      rw [hb1] at h
      have e2 : ((1 : Int) ≠ 2 ∧ (ent (SL 4 ε i) k).2.1 = 1) ↔ ((ent (SL 4 ε i) k).2.1 = 1 ∧ (ent (SL 4 ε j) l).2.1 = 1) := ⟨fun z => ⟨z.2, hb1⟩, fun z => ⟨by decide, z.1⟩⟩
      by_cases c : (ent (SL 4 ε i) k).2.1 = 1
      · rw [if_pos ⟨by decide, c⟩] at h
        rw [if_pos ⟨c, hb1⟩]
        rw [show (0 : Int) + (c4 ε i (ent (SL 4 ε i) k) j (ent (SL 4 ε j) l) 1 + 2) = 2 + 0 + c4 ε i (ent (SL 4 ε i) k) j (ent (SL 4 ε j) l) 1 by omega]
        exact h
      · rw [if_neg (fun z => c z.2)] at h
        rw [if_neg (fun z => c z.1)]
        rw [show (0 : Int) + (c4 ε i (ent (SL 4 ε i) k) j (ent (SL 4 ε j) l) 1 + 0) = 0 + 0 + c4 ε i (ent (SL 4 ε i) k) j (ent (SL 4 ε j) l) 1 by omega]
        exact h
  · by_cases c : (ent (SL 4 ε j) l).2.1 ≠ 2 ∧ lpS i (ent (SL 4 ε i) k) (1 - (ent (SL 4 ε j) l).2.1) ≠ (ent (SL 4 ε j) l).2.2
    · rw [if_pos c] at h; exact h
    · rw [if_neg c, if_pos (Or.inl e)] at h; exact h
  · refine s_mstruck1 (h := 1) hV hC hi hk hj hl (Or.inr rfl) (fun n1 => ⟨fun f => ?_, fun f => ?_⟩) (fun y1 => ⟨fun f => ?_, fun f => ?_⟩)
    · rw [if_pos ⟨by omega, by rw [show (ent (SL 4 ε j) l).2.1 = 0 by omega]; exact fun z => f z.symm⟩] at h; exact h
    · have hb0 : (ent (SL 4 ε j) l).2.1 = 0 := by omega
      have nc1 : c4 ε i (ent (SL 4 ε i) k) j (ent (SL 4 ε j) l) 1 = 0 := by simp only [c4]; rw [if_neg (fun z => n1 z.2)]
      rw [if_neg (fun z => z.2 (by rw [hb0]; exact f.symm)), if_neg (fun z => z.elim e (fun y => n1 y.1.2)), nc1] at h
      refine last _ ?_
      by_cases c : (ent (SL 4 ε i) k).2.1 = 0
      · rw [if_pos ⟨by omega, by omega⟩] at h
        rw [if_pos ⟨c, hb0⟩]
        rw [show (0 : Int) + (c4 ε i (ent (SL 4 ε i) k) j (ent (SL 4 ε j) l) 0 + 2) = 2 + c4 ε i (ent (SL 4 ε i) k) j (ent (SL 4 ε j) l) 0 + 0 by omega]
        exact h
      · rw [if_neg (by omega)] at h
        rw [if_neg (fun z => c z.1)]
        rw [show (0 : Int) + (c4 ε i (ent (SL 4 ε i) k) j (ent (SL 4 ε j) l) 0 + 0) = 0 + c4 ε i (ent (SL 4 ε i) k) j (ent (SL 4 ε j) l) 0 + 0 by omega]
        exact h
    · rw [if_neg (show ¬ ((ent (SL 4 ε j) l).2.1 ≠ 2 ∧ lpS i (ent (SL 4 ε i) k) (1 - (ent (SL 4 ε j) l).2.1) ≠ (ent (SL 4 ε j) l).2.2) from fun z => by omega), if_pos (Or.inr f)] at h; exact h
    · have hb2 : (ent (SL 4 ε j) l).2.1 = 2 := by omega
      rw [if_neg (fun z => z.1 hb2), if_neg (fun z => z.elim e f), if_neg (fun z => z.1 hb2)] at h
      refine last _ ?_
      rw [if_neg (fun z => by omega), if_neg (fun z => by omega)]
      rw [show (0 : Int) + (c4 ε i (ent (SL 4 ε i) k) j (ent (SL 4 ε j) l) 0 + 0) + (c4 ε i (ent (SL 4 ε i) k) j (ent (SL 4 ε j) l) 1 + 0) = 0 + c4 ε i (ent (SL 4 ε i) k) j (ent (SL 4 ε j) l) 0 + c4 ε i (ent (SL 4 ε i) k) j (ent (SL 4 ε j) l) 1 by omega]
      exact h
theorem s_mst {post : Int → Prop} (hκ : κ < 5) (hV : VE κ ε) (hC : MC κ ε σ) {i k j l : Nat} (hi : (i : Int) < ε 2 7) (hk : k < cS κ ε i) (hj : (j : Int) < ε 2 7) (hl : l < cS κ ε j) (h : post (sS κ ε i k j l)) : w_X10_stepOf σ (i : Int) (k : Int) (j : Int) (l : Int) post := by
  have hn := hV.1
  have h80 := cS80 hκ hV hi
  have h81 := cS80 hκ hV hj
  have ea := SL_eb' hκ hV hi hk
  have eb := SL_eb' hκ hV hj hl
  obtain ⟨a0, a1, a2, a3⟩ := id ea
  obtain ⟨b0, b1, b2, b3⟩ := id eb
  obtain ⟨p0, p1, p2⟩ := hC.at hi hk
  obtain ⟨q0, q1, q2⟩ := hC.at hj hl
  obtain ⟨m0, m1, m18, m19, m20, m21, m22, m23, m24⟩ := id hC.1
  have xi : (80 * (i : Int) + (k : Int)).toNat = 80 * i + k := by omega
  have xj : (80 * (j : Int) + (l : Int)).toNat = 80 * j + l := by omega
  have ii : inb (80 * (i : Int) + (k : Int)) 3200 := ⟨by omega, by omega, by omega⟩
  have ij : inb (80 * (j : Int) + (l : Int)) 3200 := ⟨by omega, by omega, by omega⟩
  have i4 : inb (i : Int) 40 := ⟨by omega, by omega, by omega⟩
  have j4 : inb (j : Int) 40 := ⟨by omega, by omega, by omega⟩
  have evi := hV.2.1 i hi
  have evj := hV.2.1 j hj
  have ti := evi.2.1
  have tj := evj.2.1
  have li := evi.2.2.1
  have s7i := evi.2.2.2.1
  have s7j := evj.2.2.2.1
  have pi0 := evi.2.2.2.2.2.2.2.1
  have pj0 := evj.2.2.2.2.2.2.2.1
  have gi : (3 * (i : Int)).toNat = 3 * i + 0 := by omega
  have gj : (3 * (j : Int)).toNat = 3 * j + 0 := by omega
  simp only [w_X10_stepOf, m0, m19, m21, m22, xi, xj, p1, p2, q1, q2, Int.toNat_natCast, gi, gj]
  refine ⟨j4, i4, by simp only [rg]; omega, fun c => ?_, fun c => ?_, fun c => ?_, fun c => ?_, fun c => ?_⟩
  · obtain rfl : κ = 4 := by omega
    exact s_mstruck hV hC hi hk hj hl h
  · obtain rfl : κ = 0 := by omega
    have h' : post (st0 ε i (ent (SL 0 ε i) k) j (ent (SL 0 ε j) l)) := h
    generalize ent (SL 0 ε i) k = a at *
    generalize ent (SL 0 ε j) l = b at *
    simp only [st0] at h'
    have hab : 0 ≤ ab (a.2.2 - b.2.2) ∧ ab (a.2.2 - b.2.2) ≤ 1000 := by unfold ab; omega
    have h129 : ∀ x : Int, (x = 1 ∧ (ε 7 i = 1 ∧ ε 7 j = 1 ∧ pit ε i 0 ≠ pit ε j 0 ∧ a.2.1 = b.2.1)) ∨ (x = 0 ∧ ¬ (ε 7 i = 1 ∧ ε 7 j = 1 ∧ pit ε i 0 ≠ pit ε j 0 ∧ a.2.1 = b.2.1)) → w_X10_stepOf_B129 σ (80 * (i : Int) + (k : Int)) (80 * (j : Int) + (l : Int)) (ε 5 j - ε 5 i) x post := by
      intro x hx
      simp only [w_X10_stepOf_B129, w_X10_stepOf_B167, xi, xj, p2, q2]
      refine ⟨ii, ij, s_mfar (by simp only [rg]; omega) (by simp only [rg]; omega) ⟨by simp only [rg]; omega, fun d => ?_, fun d => ?_⟩⟩
      · refine s_mmoved hC.1 hV hi hj hab.1 hab.2 (fun f => ?_) (fun f => ?_)
        · rw [if_pos f] at h'; exact h'
        · rw [if_neg f, if_neg (by omega)] at h'; exact h'
      · refine s_mmoved hC.1 hV hi hj hab.1 hab.2 (fun f => ?_) (fun f => ?_)
        · rw [if_pos f] at h'; exact h'
        · rcases hx with ⟨e, y⟩ | ⟨e, y⟩
          · rw [if_neg f, if_pos y] at h'; exact h'
          · omega
    simp only [w_X10_stepOf_B128]
    refine ⟨i4, by simp only [rg]; omega, fun d => h129 0 (Or.inr ⟨rfl, fun z => d z.1⟩), fun d => ⟨j4, by simp only [rg]; omega, fun e => h129 0 (Or.inr ⟨rfl, fun z => e z.2.1⟩), fun e => ⟨by simp only [inb]; omega, by simp only [inb]; omega, ?_, ?_, fun f => h129 0 (Or.inr ⟨rfl, fun z => z.2.2.1 f⟩), fun f => ⟨ii, ij, by simp only [rg]; omega, by simp only [rg]; omega, fun g => h129 0 (Or.inr ⟨rfl, fun z => g z.2.2.2⟩), fun g => h129 1 (Or.inl ⟨rfl, d, e, f, g⟩)⟩⟩⟩⟩
    · unfold pit at pi0; simp only [rg]; omega
    · unfold pit at pj0; simp only [rg]; omega
  · obtain rfl : κ = 1 := by omega
    have h' : post (st1 ε i (ent (SL 1 ε i) k) j (ent (SL 1 ε j) l)) := h
    generalize ent (SL 1 ε i) k = a at *
    generalize ent (SL 1 ε j) l = b at *
    simp only [st1] at h'
    have hab : 0 ≤ ab (a.2.1 - b.2.1) ∧ ab (a.2.1 - b.2.1) ≤ 1000 := by unfold ab; omega
    refine ⟨ii, ij, s_mfar (by simp only [rg]; omega) (by simp only [rg]; omega) ⟨ii, ij, s_mfar (by simp only [rg]; omega) (by simp only [rg]; omega) (s_mmoved hC.1 hV hi hj hab.1 hab.2 (fun f => ?_) (fun f => ?_))⟩⟩
    · rw [if_pos f] at h'; exact h'
    · rw [if_neg f] at h'; exact h'
  · obtain rfl : κ = 2 := by omega
    have h' : post (st2 ε i (ent (SL 2 ε i) k) j (ent (SL 2 ε j) l)) := h
    generalize ent (SL 2 ε i) k = a at *
    generalize ent (SL 2 ε j) l = b at *
    have hb2 := hV.b2
    simp only [st2] at h'
    have hlk : lack ε i j = ε 3 2 - (ε 5 j - ε 5 i - ε 6 i) := rfl
    simp only [w_X10_breathed_B54, w_X10_breathed_B71, w_X10_breathed, m19, m20, m24, Int.toNat_natCast, tn2]
    refine ⟨ii, ij, by simp only [rg]; omega, by simp only [rg]; omega, fun d => ⟨j4, i4, i4, by simp only [rg]; omega, by simp only [rg]; omega, fun e => ?_, fun e => ⟨i4, by simp only [rg]; omega, by simp only [rg]; omega, fun f => ⟨by simp only [rg]; omega, fun g => ?_, fun g => ?_⟩, fun f => ?_⟩⟩, fun d => ?_⟩
    · rw [if_neg d, if_neg (fun z => e z.1)] at h'; exact h'
    · rw [if_neg d, if_pos ⟨e, f⟩, show max 0 (lack ε i j) = 0 by omega] at h'; exact h'
    · rw [if_neg d, if_pos ⟨e, f⟩, show max 0 (lack ε i j) = lack ε i j by omega] at h'; exact h'
    · rw [if_neg d, if_neg (fun z => by have := z.2; omega)] at h'; exact h'
    · rw [if_pos d] at h'; exact h'
  · obtain rfl : κ = 3 := by omega
    have h' : post (st3 ε i (ent (SL 3 ε i) k) j (ent (SL 3 ε j) l)) := h
    generalize ent (SL 3 ε i) k = a at *
    generalize ent (SL 3 ε j) l = b at *
    simp only [st3] at h'
    have hab : 0 ≤ ab (a.2.1 - b.2.1) ∧ ab (a.2.1 - b.2.1) ≤ 1000 := by unfold ab; omega
    refine ⟨ii, ij, s_mfar (by simp only [rg]; omega) (by simp only [rg]; omega) (s_mmoved hC.1 hV hi hj hab.1 hab.2 (fun f => ?_) (fun f => ?_))⟩
    · rw [if_pos f] at h'; exact h'
    · rw [if_neg f] at h'; exact h'
theorem s_mstep {post : Int → Mem → Prop} (hκ : κ < 5) (hV : VE κ ε) (hI : MIv κ ε σ) {i k l : Int} (hi : rg i) (hk : rg k) (hl : rg l) (h1 : ∀ τ, KC σ τ → MIv κ ε τ → ¬ stpOk κ ε i k l → post (-1) τ) (h2 : ∀ τ, KC σ τ → MIv κ ε τ → stpOk κ ε i k l → post (sS κ ε i.toNat k.toNat (nxt ε i.toNat).toNat l.toNat) τ) : w_X10_step σ i k l post := by
  have hn := hV.1
  refine s_mfind hκ hV hI (fun τ kc hIt hC => ?_)
  simp only [w_X10_step_B34]
  refine s_mnoState hκ hV hC hi hk (fun a b c => ⟨rg_c _ rfl, fun z => absurd rfl z, fun _ => ?_⟩) (fun a => ⟨rg_c _ rfl, fun _ => h1 τ kc hIt (fun z => a ⟨z.1, z.2.1⟩), fun z => absurd z (by decide)⟩)
  have a1 := a.1
  have a2 := a.2
  obtain ⟨I, rfl⟩ : ∃ I : Nat, i = (I : Int) := ⟨i.toNat, by omega⟩
  obtain ⟨Kk, rfl⟩ : ∃ K : Nat, k = (K : Int) := ⟨k.toNat, by omega⟩
  rw [Int.toNat_natCast] at c
  refine s_mafter hC.1 hV a2 (fun e => ⟨rg_c _ rfl, fun _ => h1 τ kc hIt (fun z => ?_), fun z => absurd z (by decide)⟩) (fun j e => ?_)
  · have := z.2.2.1
    rw [Int.toNat_natCast, e] at this
    omega
  · obtain ⟨hij, hj, -⟩ := nxt_prv e
    refine ⟨by simp only [rg]; omega, fun z => by omega, fun _ => ?_⟩
    refine s_mafter hC.1 hV a2 (fun e' => by omega) (fun j' e' => ?_)
    obtain rfl : j' = j := by omega
    refine s_mnoState hκ hV hC (by simp only [rg]; omega) hl (fun a' b' c' => ⟨rg_c _ rfl, fun _ => ?_, fun z => absurd rfl z⟩) (fun a' => ⟨rg_c _ rfl, fun z => absurd z (by decide), fun _ => h1 τ kc hIt (fun z => a' ?_)⟩)
    · refine s_mafter hC.1 hV a2 (fun e'' => by omega) (fun j'' e'' => ?_)
      obtain rfl : j'' = j' := by omega
      obtain ⟨Ll, rfl⟩ : ∃ L : Nat, l = (L : Int) := ⟨l.toNat, by omega⟩
      rw [Int.toNat_natCast] at c'
      refine s_mst hκ hV hC a2 (by omega) hj (by omega) ?_
      have := h2 τ kc hIt ⟨a, ⟨b, by rw [Int.toNat_natCast]; exact c⟩, by rw [Int.toNat_natCast, e'']; omega, b', by rw [Int.toNat_natCast, e'', Int.toNat_natCast]; exact c'⟩
      rw [Int.toNat_natCast, Int.toNat_natCast, Int.toNat_natCast, e'', Int.toNat_natCast] at this
      exact this
    · have z3 := z.2.2.2
      rw [Int.toNat_natCast, e] at z3
      exact ⟨⟨by omega, hj⟩, z3⟩
end MSTEP
