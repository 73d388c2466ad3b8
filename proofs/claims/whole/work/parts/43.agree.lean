/-! the states of an event hang on it and on those before it alone -/
def AgE (ε ε' : Mem) (i : Nat) : Prop := ε' 3 = ε 3 ∧ ε' 4 i = ε 4 i ∧ ∀ j, j ≤ i → ε' 6 j = ε 6 j ∧ ε' 7 j = ε 7 j ∧ ∀ m, m < 3 → pit ε' j m = pit ε j m
theorem fm_congr {f g : Nat → Option T3} {n : Nat} (h : ∀ x, x < n → f x = g x) : fm f n = fm g n := by
  induction n with
  | zero => rfl
  | succ n ih => simp only [fm]; rw [ih (fun x hx => h x (by omega)), h n (by omega)]
theorem fj_congr {f g : Nat → List T3} {n : Nat} (h : ∀ x, x < n → f x = g x) : fj f n = fj g n := by
  induction n with
  | zero => rfl
  | succ n ih => simp only [fj]; rw [ih (fun x hx => h x (by omega)), h n (by omega)]
theorem psum_congr {f g : Nat → Int} {n : Nat} (h : ∀ x, x < n → f x = g x) : psum f n = psum g n := by
  induction n with
  | zero => rfl
  | succ n ih => simp only [psum]; rw [ih (fun x hx => h x (by omega)), h n (by omega)]
section AGREE
variable {κ : Nat} {ε ε' : Mem} {i : Nat}
theorem inC_ag (h7 : 1 ≤ ε 7 i ∧ ε 7 i ≤ 3) (h : AgE ε ε' i) : inC ε' i ↔ inC ε i := by
  obtain ⟨h3, -, hj⟩ := h
  obtain ⟨-, e7, ep⟩ := hj i (Nat.le_refl i)
  unfold inC
  rw [h3, e7, ep 0 (by decide), ep ((ε 7 i).toNat - 1) (by omega)]
theorem kbS_ag (h7 : 1 ≤ ε 7 i ∧ ε 7 i ≤ 3) (h : AgE ε ε' i) {m : Nat} (hm : (m : Int) + 1 < ε 7 i) : kbS ε' i m = kbS ε i m := by
  obtain ⟨h3, h4, hj⟩ := h
  obtain ⟨-, e7, ep⟩ := hj i (Nat.le_refl i)
  unfold kbS
  rw [h4, e7, ep (m + 1) (by omega), ep m (by omega), ep ((ε 7 i).toNat - 1 - m) (by omega), ep ((ε 7 i).toNat - 2 - m) (by omega)]
theorem kbA_ag (h7 : 1 ≤ ε 7 i ∧ ε 7 i ≤ 3) (h : AgE ε ε' i) (s m : Nat) (hm : (m : Int) < ε 7 i) : (kbAll ε' i s m ↔ kbAll ε i s m) ∧ kbSum ε' i s m = kbSum ε i s m := by
  induction m with
  | zero => exact ⟨Iff.rfl, rfl⟩
  | succ m ih =>
    have a := ih (by omega)
    have b := kbS_ag h7 h (m := m) (by omega)
    simp only [kbAll, kbSum, kbOk, kbC, b, a.2]
    exact ⟨and_congr a.1 Iff.rfl, trivial⟩
theorem kbF_ag (h7 : 1 ≤ ε 7 i ∧ ε 7 i ≤ 3) (h : AgE ε ε' i) (s : Nat) : kbF ε' i s = kbF ε i s := by
  have a := kbA_ag h7 h s ((ε 7 i).toNat - 1) (by omega)
  obtain ⟨h3, h4, hj⟩ := h
  obtain ⟨-, e7, ep⟩ := hj i (Nat.le_refl i)
  have p : kbPl ε' i s = kbPl ε i s := by
    unfold kbPl
    rw [h4, e7, ep 0 (by decide), ep ((ε 7 i).toNat - 1) (by omega)]
  unfold kbF
  rw [e7, p, a.2]
  by_cases c : (nbits s : Int) = ε 7 i ∧ kbAll ε i s ((ε 7 i).toNat - 1)
  · rw [if_pos c, if_pos ⟨c.1, a.1.mpr c.2⟩]
  · rw [if_neg c, if_neg (fun z => c ⟨z.1, a.1.mp z.2⟩)]
theorem stA_ag (h : AgE ε ε' i) (p t n : Nat) (hn : n ≤ 3) : (stAll ε' i p t n ↔ stAll ε i p t n) ∧ stSum ε' i p t n = stSum ε i p t n := by
  obtain ⟨h3, h4, hj⟩ := h
  obtain ⟨-, e7, ep⟩ := hj i (Nat.le_refl i)
  induction n with
  | zero => exact ⟨Iff.rfl, rfl⟩
  | succ n ih =>
    have a := ih (by omega)
    have b : stX ε' i t n = stX ε i t n := by unfold stX; rw [h3, ep n (by omega)]
    simp only [stAll, stSum, b, a.2]
    exact ⟨and_congr a.1 Iff.rfl, trivial⟩
theorem stF_ag (h7 : 1 ≤ ε 7 i ∧ ε 7 i ≤ 3) (h : AgE ε ε' i) (p t : Nat) : stF ε' i p t = stF ε i p t := by
  have a := stA_ag h p t (ε 7 i).toNat (by omega)
  have e7 := (h.2.2 i (Nat.le_refl i)).2.1
  unfold stF
  rw [e7, a.2]
  by_cases c : stAll ε i p t (ε 7 i).toNat
  · rw [if_pos c, if_pos (a.1.mpr c)]
  · rw [if_neg c, if_neg (fun z => c (a.1.mp z))]
theorem skF_ag (hs : ∀ j, j ≤ i → 1 ≤ ε 7 j ∧ ε 7 j ≤ 3) (h : AgE ε ε' i) (g x : Nat) (hx : x ≤ i) : skF ε' i g x = skF ε i g x := by
  obtain ⟨h3, h4, hj⟩ := h
  have hall : all1 ε' x i ↔ all1 ε x i := by
    unfold all1
    constructor
    · intro z q q1 q2; rw [← (hj q (by omega)).2.1]; exact z q q1 q2
    · intro z q q1 q2; rw [(hj q (by omega)).2.1]; exact z q q1 q2
  have hp : skP ε' i g x = skP ε i g x := by
    unfold skP
    by_cases c : x = 0
    · rw [if_pos c, if_pos c]
    · rw [if_neg c, if_neg c]
      have b : pb ε' (1 - (g : Int)) (x - 1) = pb ε (1 - (g : Int)) (x - 1) := by
        obtain ⟨-, e7, ep⟩ := hj (x - 1) (by omega)
        have := hs (x - 1) (by omega)
        unfold pb
        rw [e7, ep 0 (by decide), ep ((ε 7 (x - 1)).toNat - 1) (by omega)]
      rw [b, (hj i (Nat.le_refl i)).2.2 0 (by decide)]
  unfold skF
  rw [hp]
  by_cases c : all1 ε x i
  · rw [if_pos c, if_pos (hall.mpr c)]
  · rw [if_neg c, if_neg (fun z => c (hall.mp z))]
theorem SL_ag (hs : ∀ j, j ≤ i → 1 ≤ ε 7 j ∧ ε 7 j ≤ 3) (h : AgE ε ε' i) : SL κ ε' i = SL κ ε i := by
  have h7 := hs i (Nat.le_refl i)
  have e7 := (h.2.2 i (Nat.le_refl i)).2.1
  have hk : SLk κ ε' i = SLk κ ε i := by
    unfold SLk
    split
    · exact fm_congr (fun x _ => kbF_ag h7 h x)
    · unfold stL; rw [e7]; exact fj_congr (fun p _ => fm_congr (fun t _ => stF_ag h7 h p t))
    · refine fm_congr (fun x hx => ?_)
      unfold wnF
      rw [h.1, psum_congr (f := ε' 6) (g := ε 6) (n := i + 1) (fun y hy => (h.2.2 y (by omega)).1), psum_congr (f := ε' 6) (g := ε 6) (n := x) (fun y hy => (h.2.2 y (by omega)).1)]
    · refine fm_congr (fun x hx => ?_)
      unfold slF
      rw [h.1, (h.2.2 i (Nat.le_refl i)).2.2 0 (by decide)]
    · unfold skL
      rw [e7]
      by_cases c : ε 7 i = 2
      · rw [if_pos c, if_pos c]
      · rw [if_neg c, if_neg c]; exact fj_congr (fun g _ => fm_congr (fun x hx => skF_ag hs h g x (by omega)))
  unfold SL
  by_cases c : inC ε i
  · rw [if_pos c, if_pos ((inC_ag h7 h).mpr c), hk]
  · rw [if_neg c, if_neg (fun z => c ((inC_ag h7 h).mp z))]
end AGREE
/-! the piece changed: is it well still, do the lists stand -/
section CHANGE
variable {κ : Nat} {ε : Mem} {h t l p q r : Int}
theorem addE_2 : addE ε h t l p q r 2 7 = ε 2 7 + 1 := by simp [addE, up2]
theorem addE_c (c : Nat) (hc : c ≠ 2 ∧ c ≠ 4 ∧ c ≠ 5 ∧ c ≠ 6 ∧ c ≠ 7 ∧ c ≠ 8 ∧ c ≠ 9) : addE ε h t l p q r c = ε c := by
  unfold addE
  rw [up2_k hc.1, up2_k hc.2.2.2.2.2.2, up2_k hc.2.2.2.2.2.2, up2_k hc.2.2.2.2.2.2, up2_k hc.2.2.2.2.2.1, up2_k hc.2.2.2.2.1, up2_k hc.2.2.2.1, up2_k hc.2.2.1, up2_k hc.2.1]
theorem addE_old {j : Nat} (hj : j ≠ (ε 2 7).toNat) : addE ε h t l p q r 4 j = ε 4 j ∧ addE ε h t l p q r 5 j = ε 5 j ∧ addE ε h t l p q r 6 j = ε 6 j ∧ addE ε h t l p q r 7 j = ε 7 j ∧ addE ε h t l p q r 8 j = ε 8 j := by
  simp [addE, up2, hj]
theorem addE_new : addE ε h t l p q r 4 (ε 2 7).toNat = h ∧ addE ε h t l p q r 5 (ε 2 7).toNat = t ∧ addE ε h t l p q r 6 (ε 2 7).toNat = l ∧ addE ε h t l p q r 7 (ε 2 7).toNat = hm p q r ∧ addE ε h t l p q r 8 (ε 2 7).toNat = -2 := by
  simp [addE, up2]
theorem addE_pit {j m : Nat} (hj : j < (ε 2 7).toNat) (hm : m < 3) : pit (addE ε h t l p q r) j m = pit ε j m := by
  unfold pit addE
  rw [up2_k (by decide)]
  have a : 3 * j + m ≠ 3 * (ε 2 7).toNat + 2 := by omega
  have b : 3 * j + m ≠ 3 * (ε 2 7).toNat + 1 := by omega
  have c : 3 * j + m ≠ 3 * (ε 2 7).toNat := by omega
  simp only [up2, if_true, if_neg a, if_neg b, if_neg c]
  simp
theorem addE_pn : pit (addE ε h t l p q r) (ε 2 7).toNat 0 = p ∧ pit (addE ε h t l p q r) (ε 2 7).toNat 1 = q ∧ pit (addE ε h t l p q r) (ε 2 7).toNat 2 = r := by
  unfold pit addE
  rw [up2_k (by decide)]
  simp [up2]
theorem VE_add (hV : VE κ ε) (hf : ε 2 7 < 40) (hw : wellE κ h t l p q r) (hκ : κ < 5) : VE κ (addE ε h t l p q r) := by
  have hn := hV.1
  obtain ⟨n, hnn⟩ : ∃ n : Nat, ε 2 7 = (n : Int) := ⟨(ε 2 7).toNat, by omega⟩
  refine ⟨by rw [addE_2]; omega, fun j hj => ?_, fun w hw2 => by rw [addE_c 3 (by decide)]; exact hV.2.2 w hw2⟩
  rw [addE_2] at hj
  have hnt : (ε 2 7).toNat = n := by omega
  by_cases c : j = n
  · subst c
    have a := addE_new (ε := ε) (h := h) (t := t) (l := l) (p := p) (q := q) (r := r)
    have b := addE_pn (ε := ε) (h := h) (t := t) (l := l) (p := p) (q := q) (r := r)
    rw [hnt] at a b
    obtain ⟨w1, w2, w3, w4, w5⟩ := hw
    have hnk : (κ = 2 ∨ κ = 3 → hm p q r = 1) ∧ (κ = 4 → hm p q r ≤ 2) := by
      rcases (show κ = 0 ∨ κ = 1 ∨ κ = 2 ∨ κ = 3 ∨ κ = 4 by omega) with rfl | rfl | rfl | rfl | rfl
      · exact ⟨by omega, by omega⟩
      · exact ⟨by omega, by omega⟩
      · exact ⟨fun _ => by have : tb_notes 2 = 1 := rfl; omega, by omega⟩
      · exact ⟨fun _ => by have : tb_notes 3 = 1 := rfl; omega, by omega⟩
      · exact ⟨by omega, fun _ => by have : tb_notes 4 = 2 := rfl; omega⟩
    unfold EV
    rw [a.1, a.2.1, a.2.2.1, a.2.2.2.1, a.2.2.2.2, b.1, b.2.1, b.2.2]
    have h3 : hm p q r = 1 ∧ q = -1 ∧ r = -1 ∧ 0 ≤ p ∧ p ≤ 127 ∨ hm p q r = 2 ∧ p < q ∧ q ≤ 127 ∧ r = -1 ∧ 0 ≤ p ∧ p ≤ 127 ∨ hm p q r = 3 ∧ p < q ∧ q < r ∧ r ≤ 127 ∧ 0 ≤ p ∧ p ≤ 127 := by
      unfold hm at w4 ⊢
      by_cases c1 : 0 ≤ p ∧ p ≤ 127
      · rw [if_pos c1] at w4 ⊢
        by_cases c2 : q = -1
        · rw [if_pos c2] at w4 ⊢
          by_cases c3 : r = -1
          · rw [if_pos c3]; omega
          · rw [if_neg c3] at w4; omega
        · rw [if_neg c2] at w4 ⊢
          by_cases c3 : p < q ∧ q ≤ 127
          · rw [if_pos c3] at w4 ⊢
            by_cases c4 : r = -1
            · rw [if_pos c4]; omega
            · rw [if_neg c4] at w4 ⊢
              by_cases c5 : q < r ∧ r ≤ 127
              · rw [if_pos c5]; omega
              · rw [if_neg c5] at w4; omega
          · rw [if_neg c3] at w4; omega
      · rw [if_neg c1] at w4; omega
    refine ⟨w1, w2, w3, by omega, hnk.1, hnk.2, Or.inl rfl, by omega, by omega, by omega, fun _ => by omega, fun _ => by omega, fun _ => by omega, fun _ => by omega⟩
  · have hj2 : j < n := by omega
    have a := addE_old (ε := ε) (h := h) (t := t) (l := l) (p := p) (q := q) (r := r) (j := j) (by omega)
    have b := fun m hm => addE_pit (ε := ε) (h := h) (t := t) (l := l) (p := p) (q := q) (r := r) (j := j) (m := m) (by omega) hm
    have := hV.2.1 j (by omega)
    unfold EV at this ⊢
    rw [a.1, a.2.1, a.2.2.1, a.2.2.2.1, a.2.2.2.2, b 0 (by decide), b 1 (by decide), b 2 (by decide)]
    exact this
theorem Ag_add {i : Nat} (hi : (i : Int) < ε 2 7) : AgE ε (addE ε h t l p q r) i := by
  refine ⟨addE_c 3 (by decide), (addE_old (by omega)).1, fun j hj => ?_⟩
  have a := addE_old (ε := ε) (h := h) (t := t) (l := l) (p := p) (q := q) (r := r) (j := j) (by omega)
  exact ⟨a.2.2.1, a.2.2.2.1, fun m hm => addE_pit (by omega) hm⟩
theorem sizes (hV : VE κ ε) {i : Nat} (hi : (i : Int) < ε 2 7) : ∀ j, j ≤ i → 1 ≤ ε 7 j ∧ ε 7 j ≤ 3 := fun j hj => (hV.2.1 j (by omega)).2.2.2.1
theorem SL_add (hV : VE κ ε) {i : Nat} (hi : (i : Int) < ε 2 7) : SL κ (addE ε h t l p q r) i = SL κ ε i := SL_ag (sizes hV hi) (Ag_add hi)
/-- the last event goes -/
def drpE (ε : Mem) : Mem := up2 ε 2 7 (ε 2 7 - 1)
theorem drpE_c (c : Nat) (hc : c ≠ 2) : drpE ε c = ε c := up2_k hc
theorem drpE_2 : drpE ε 2 7 = ε 2 7 - 1 := by simp [drpE, up2]
theorem VE_drp (hV : VE κ ε) (hn : 0 < ε 2 7) : VE κ (drpE ε) := by
  have := hV.1
  refine ⟨by rw [drpE_2]; omega, fun j hj => ?_, fun w hw => by rw [drpE_c 3 (by decide)]; exact hV.2.2 w hw⟩
  rw [drpE_2] at hj
  have := hV.2.1 j (by omega)
  unfold EV pit at this ⊢
  rw [drpE_c 4 (by decide), drpE_c 5 (by decide), drpE_c 6 (by decide), drpE_c 7 (by decide), drpE_c 8 (by decide), drpE_c 9 (by decide)]
  exact this
theorem SL_drp (hV : VE κ ε) {i : Nat} (hi : (i : Int) < ε 2 7) : SL κ (drpE ε) i = SL κ ε i :=
  SL_ag (sizes hV hi) ⟨drpE_c 3 (by decide), by rw [drpE_c 4 (by decide)], fun j _ => ⟨by rw [drpE_c 6 (by decide)], by rw [drpE_c 7 (by decide)], fun m _ => by unfold pit; rw [drpE_c 9 (by decide)]⟩⟩
/-- a pin -/
def pinE (ε : Mem) (i : Nat) (v : Int) : Mem := up2 ε 8 i v
theorem pinE_c {i : Nat} {v : Int} (c : Nat) (hc : c ≠ 8) : pinE ε i v c = ε c := up2_k hc
theorem VE_pin (hV : VE κ ε) {i : Nat} {v : Int} (hv : v = -2 ∨ (0 ≤ v ∧ v ≤ 99)) : VE κ (pinE ε i v) := by
  refine ⟨by rw [pinE_c 2 (by decide)]; exact hV.1, fun j hj => ?_, fun w hw => by rw [pinE_c 3 (by decide)]; exact hV.2.2 w hw⟩
  rw [pinE_c 2 (by decide)] at hj
  have := hV.2.1 j hj
  unfold EV pit at this ⊢
  rw [pinE_c 4 (by decide), pinE_c 5 (by decide), pinE_c 6 (by decide), pinE_c 7 (by decide), pinE_c 9 (by decide)]
  obtain ⟨a1, a2, a3, a4, a5, a6, a7, a8⟩ := this
  refine ⟨a1, a2, a3, a4, a5, a6, ?_, a8⟩
  by_cases c : j = i
  · subst c; simp only [pinE, up2, if_true]; exact hv
  · simp only [pinE, up2, if_true, if_neg c]; exact a7
theorem SL_pin (hV : VE κ ε) {i : Nat} (hi : (i : Int) < ε 2 7) {j : Nat} {v : Int} : SL κ (pinE ε j v) i = SL κ ε i :=
  SL_ag (sizes hV hi) ⟨pinE_c 3 (by decide), by rw [pinE_c 4 (by decide)], fun j _ => ⟨by rw [pinE_c 6 (by decide)], by rw [pinE_c 7 (by decide)], fun m _ => by unfold pit; rw [pinE_c 9 (by decide)]⟩⟩
/-- a bound -/
def bndE (ε : Mem) (w : Nat) (v : Int) : Mem := up2 ε 3 w v
theorem bndE_c {w : Nat} {v : Int} (c : Nat) (hc : c ≠ 3) : bndE ε w v c = ε c := up2_k hc
theorem VE_bnd (hV : VE κ ε) {w : Nat} {v : Int} (hv : tb_from w ≤ v ∧ v ≤ tb_to w) : VE κ (bndE ε w v) := by
  refine ⟨by rw [bndE_c 2 (by decide)]; exact hV.1, fun j hj => ?_, fun x hx => ?_⟩
  · rw [bndE_c 2 (by decide)] at hj
    have := hV.2.1 j hj
    unfold EV pit at this ⊢
    rw [bndE_c 4 (by decide), bndE_c 5 (by decide), bndE_c 6 (by decide), bndE_c 7 (by decide), bndE_c 8 (by decide), bndE_c 9 (by decide)]
    exact this
  · by_cases c : x = w
    · subst c; simp only [bndE, up2, if_true]; exact hv
    · simp only [bndE, up2, if_true, if_neg c]; exact hV.2.2 x hx
end CHANGE
