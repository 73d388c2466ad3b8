/-! the keyboard -/
/-- the n-th finger of a set, from the lowest -/
def fgL (s : Nat) : List Nat := [1, 2, 3, 4, 5].filter (fun f => s.testBit (f - 1))
def fg (s n : Nat) : Int := (((fgL s).getD n 0 : Nat) : Int)
def nbits (s : Nat) : Nat := (fgL s).length
theorem kb_bit : ∀ s : Nat, s < 32 → ∀ f : Nat, f < 5 → andI (shrI (s : Int) (f : Int)) 1 = if s.testBit f then 1 else 0 := by decide +kernel
theorem kb_cnt : ∀ s : Nat, s < 32 → w_J6_bitCount_0f7a4 (fun _ _ => 0) (s : Int) (fun r => r = (nbits s : Int)) := by
  simp only [w_J6_bitCount_0f7a4]
  decide +kernel
theorem s_bitCount {σ : Mem} {post : Int → Prop} {s : Nat} (hs : s < 32) (h : post (nbits s)) : w_J6_bitCount_0f7a4 σ (s : Int) post := by
  have := kb_cnt s hs
  simp only [w_J6_bitCount_0f7a4] at this ⊢
  rw [this]
  exact h
theorem kb_small : ∀ s : Nat, s < 32 → nbits s ≤ 5 := by decide +kernel
/-- the next finger above f, 5 if there is none -/
def fgA (s : Nat) : Nat → Nat → Nat
  | 0, _ => 5
  | d + 1, f => if s.testBit f then f + 1 else fgA s d (f + 1)
theorem s_X0_fingerAbove {σ : Mem} {post : Int → Prop} {s f : Nat} (hs : s < 32) (hf : f ≤ 5) (h : post (fgA s (5 - f) f)) : w_X0_fingerAbove σ (s : Int) (f : Int) post := by
  refine lp1 (w_X0_fingerAbove_L4 σ (s : Int) post) (fun u => ∃ q : Nat, q ≤ 5 ∧ u = (q : Int) + 1 ∧ post (fgA s (5 - q) q)) (fun u => (6 - u).toNat) ?_ _ ⟨f, hf, rfl, h⟩
  intro n u ⟨q, hq, hu, hp⟩ ih
  subst hu
  show w_X0_fingerAbove_L4_body σ (s : Int) post _ _
  simp only [w_X0_fingerAbove_L4_body]
  refine ⟨by simp only [rg]; omega, fun a => ?_, fun a => ?_⟩
  · rw [show 5 - q = 0 by omega] at hp
    exact hp
  · have hb := kb_bit s hs q (by omega)
    rw [show ((q : Int) + 1 - 1) = (q : Int) by omega, hb]
    rw [show 5 - q = (5 - (q + 1)) + 1 by omega] at hp
    simp only [fgA] at hp
    by_cases t : s.testBit q
    · rw [if_pos t] at hp ⊢
      exact ⟨rg_c _ rfl, fun b => absurd rfl b, fun _ => hp⟩
    · rw [if_neg t] at hp ⊢
      refine ⟨rg_c _ rfl, fun _ => ih _ ⟨q + 1, by omega, by simp, hp⟩ (by omega), fun b => absurd b (by decide)⟩
theorem kb_f0 : ∀ s : Nat, s < 32 → 1 ≤ nbits s → ((fgA s 5 0 : Nat) : Int) = fg s 0 := by decide +kernel
theorem kb_fn : ∀ s : Nat, s < 32 → ∀ n : Nat, n < 3 → n + 1 < nbits s → ((fgA s (5 - (fg s n).toNat) (fg s n).toNat : Nat) : Int) = fg s (n + 1) := by decide +kernel
theorem kb_rg : ∀ s : Nat, s < 32 → ∀ n : Nat, n < 3 → n < nbits s → 1 ≤ fg s n ∧ fg s n ≤ 5 := by decide +kernel
theorem kb_up : ∀ s : Nat, s < 32 → ∀ n : Nat, n < 3 → n + 1 < nbits s → fg s n < fg s (n + 1) := by decide +kernel
/-- how far the notes of the m-th pair of fingers are apart -/
def kbS (ε : Mem) (i m : Nat) : Int := if ε 4 i = 1 then pit ε i (m + 1) - pit ε i m else pit ε i ((ε 7 i).toNat - 1 - m) - pit ε i ((ε 7 i).toNat - 2 - m)
def kbD (s m : Nat) : Int := fg s (m + 1) - fg s m
def kbE (s m : Nat) : Int := if fg s m = 1 then 1 else 0
def kbOk (ε : Mem) (i s m : Nat) : Prop := kbS ε i m ≤ 3 * kbD s m + 4 * kbE s m
def kbC (ε : Mem) (i s m : Nat) : Int := max 0 (kbS ε i m - 2 * kbD s m - 2 * kbE s m) + max 0 (kbD s m - kbS ε i m)
/-- the sum of the first m pairs' prices; whether they all can be played -/
def kbSum (ε : Mem) (i s : Nat) : Nat → Int
  | 0 => 0
  | m + 1 => kbSum ε i s m + kbC ε i s m
def kbAll (ε : Mem) (i s : Nat) : Nat → Prop
  | 0 => True
  | m + 1 => kbAll ε i s m ∧ kbOk ε i s m
def kbPl (ε : Mem) (i s : Nat) : Int := if ε 4 i = 1 then pit ε i 0 - 2 * (fg s 0 - 1) else pit ε i ((ε 7 i).toNat - 1) + 2 * (fg s 0 - 1)
noncomputable def kbF (ε : Mem) (i s : Nat) : Option T3 := by
  classical
  exact if (nbits s : Int) = ε 7 i ∧ kbAll ε i s ((ε 7 i).toNat - 1) then some (kbSum ε i s ((ε 7 i).toNat - 1), (s : Int), kbPl ε i s) else none
section KBD
variable {κ : Nat} {σ ε : Mem}
theorem kb_s (hV : VE κ ε) {v : Int} (h0 : 0 ≤ v) (h1 : v < ε 2 7) {m : Nat} (hm : (m : Int) + 1 < ε 7 v.toNat) : 0 < kbS ε v.toNat m ∧ kbS ε v.toNat m ≤ 127 := by
  obtain ⟨-, -, -, h7, -, -, -, p0, p1, p2, q1, q2, q3, q4⟩ := hV.ev h0 h1
  unfold kbS
  rcases (show ε 7 v.toNat = 2 ∨ ε 7 v.toNat = 3 by omega) with e | e
  · rw [e] at q1 q2 q3 q4 hm ⊢
    have := q2 (by decide)
    rw [show m = 0 by omega]
    split
    · exact ⟨by show 0 < pit ε v.toNat 1 - pit ε v.toNat 0; omega, by show pit ε v.toNat 1 - pit ε v.toNat 0 ≤ 127; omega⟩
    · exact ⟨by show 0 < pit ε v.toNat 1 - pit ε v.toNat 0; omega, by show pit ε v.toNat 1 - pit ε v.toNat 0 ≤ 127; omega⟩
  · rw [e] at q1 q2 q3 q4 hm ⊢
    have := q2 (by decide)
    have := q4 rfl
    rcases (show m = 0 ∨ m = 1 by omega) with rfl | rfl
    · split
      · exact ⟨by show 0 < pit ε v.toNat 1 - pit ε v.toNat 0; omega, by show pit ε v.toNat 1 - pit ε v.toNat 0 ≤ 127; omega⟩
      · exact ⟨by show 0 < pit ε v.toNat 2 - pit ε v.toNat 1; omega, by show pit ε v.toNat 2 - pit ε v.toNat 1 ≤ 127; omega⟩
    · split
      · exact ⟨by show 0 < pit ε v.toNat 2 - pit ε v.toNat 1; omega, by show pit ε v.toNat 2 - pit ε v.toNat 1 ≤ 127; omega⟩
      · exact ⟨by show 0 < pit ε v.toNat 1 - pit ε v.toNat 0; omega, by show pit ε v.toNat 1 - pit ε v.toNat 0 ≤ 127; omega⟩
theorem kb_c {i s m : Nat} (hs : 0 < kbS ε i m ∧ kbS ε i m ≤ 127) (hd : 0 < kbD s m ∧ kbD s m ≤ 4) (he : kbE s m = 0 ∨ kbE s m = 1) : 0 ≤ kbC ε i s m ∧ kbC ε i s m ≤ 131 := by
  unfold kbC
  omega
/-- the pitch under the n-th finger -/
theorem s_X0_noteOfFinger {post : Int → Prop} (hS : SP σ ε) (hV : VE κ ε) {v u : Int} (h0 : 0 ≤ v) (h1 : v < ε 2 7) (u0 : 0 ≤ u) (u1 : u < ε 7 v.toNat) (h : post (if ε 4 v.toNat = 1 then pit ε v.toNat u.toNat else pit ε v.toNat ((ε 7 v.toNat).toNat - 1 - u.toNat))) : w_X0_noteOfFinger σ v u post := by
  have hev := hV.ev h0 h1
  have h7 := hev.2.2.2.1
  have hh := hev.h01
  refine s_X1_handOf hS hV h0 h1 ⟨by simp only [rg]; omega, fun a => ?_, fun a => ?_⟩
  · rw [if_neg a] at h
    refine s_X1_sizeOf hS hV h0 h1 (s_X1_pitchOf hS hV h0 h1 (by omega) (by omega) ?_)
    rw [show (ε 7 v.toNat - 1 - u).toNat = (ε 7 v.toNat).toNat - 1 - u.toNat by omega]
    exact h
  · rw [if_pos a] at h
    exact s_X1_pitchOf hS hV h0 h1 (by omega) (by omega) h
theorem kb_sum (hV : VE κ ε) {v : Int} (h0 : 0 ≤ v) (h1 : v < ε 2 7) {s : Nat} (hs : s < 32) (hn : (nbits s : Int) = ε 7 v.toNat) (m : Nat) (hm : (m : Int) < ε 7 v.toNat) : 0 ≤ kbSum ε v.toNat s m ∧ kbSum ε v.toNat s m ≤ 131 * m := by
  have h7 := (hV.ev h0 h1).2.2.2.1
  induction m with
  | zero => simp [kbSum]
  | succ m ih =>
    have a := ih (by omega)
    have f1 := kb_rg s hs m (by omega) (by omega)
    have f2 := kb_rg s hs (m + 1) (by omega) (by omega)
    have f3 := kb_up s hs m (by omega) (by omega)
    have b := kb_c (ε := ε) (i := v.toNat) (s := s) (m := m) (kb_s hV h0 h1 (by omega)) (by unfold kbD; omega) (by unfold kbE; split <;> simp)
    simp only [kbSum]
    push_cast
    omega
theorem s_X0_stretch {post : Int → Prop} (hS : SP σ ε) (hV : VE κ ε) {v : Int} (h0 : 0 ≤ v) (h1 : v < ε 2 7) {s : Nat} (hs : s < 32) (hn : (nbits s : Int) = ε 7 v.toNat) (hT : kbAll ε v.toNat s ((ε 7 v.toNat).toNat - 1) → post (kbSum ε v.toNat s ((ε 7 v.toNat).toNat - 1))) (hF : ¬ kbAll ε v.toNat s ((ε 7 v.toNat).toNat - 1) → post (-2)) : w_X0_stretch σ v (s : Int) post := by
  have hev := hV.ev h0 h1
  have h7 := hev.2.2.2.1
  have hh := hev.h01
  refine s_X0_fingerAbove (f := 0) hs (by omega) ?_
  rw [kb_f0 s hs (by omega)]
  refine lp3 (w_X0_stretch_L12 σ v (s : Int) post) (fun a b d => ∃ m : Nat, d = (m : Int) + 1 ∧ (m : Int) + 1 ≤ ε 7 v.toNat ∧ a = kbSum ε v.toNat s m ∧ b = fg s m ∧ kbAll ε v.toNat s m) (fun a b d => (ε 7 v.toNat - d).toNat) ?_ _ _ _ ⟨0, by simp, by omega, rfl, rfl, trivial⟩
  intro n a b d ⟨m, hd, hm, ha, hb, hall⟩ ih
  subst hd ha hb
  have hsum := kb_sum hV h0 h1 hs hn m (by omega)
  show w_X0_stretch_L12_body σ v (s : Int) post _ _ _ _
  simp only [w_X0_stretch_L12_body]
  refine s_X1_sizeOf hS hV h0 h1 ⟨by simp only [rg]; omega, by simp only [rg]; omega, fun q => ?_, fun q => ?_⟩
  · rw [show (ε 7 v.toNat).toNat - 1 = m by omega] at hT
    exact hT hall
  · have f1 := kb_rg s hs m (by omega) (by omega)
    have f2 := kb_rg s hs (m + 1) (by omega) (by omega)
    have f3 := kb_up s hs m (by omega) (by omega)
    have hS0 := kb_s hV h0 h1 (m := m) (by omega)
    have hD : 0 < kbD s m ∧ kbD s m ≤ 4 := by unfold kbD; omega
    have hE : kbE s m = 0 ∨ kbE s m = 1 := by unfold kbE; split <;> simp
    have hC := kb_c hS0 hD hE
    have hfa : ((fg s m).toNat : Int) = fg s m := by omega
    have key : w_X0_stretch_B51 σ v (s : Int) (kbSum ε v.toNat s m) ((m : Int) + 1) (fg s (m + 1)) (fg s (m + 1) - fg s m) (kbE s m) post (w_X0_stretch_L12 σ v (s : Int) post n) := by
      simp only [w_X0_stretch_B51]
      refine s_X0_noteOfFinger hS hV h0 h1 (by omega) (by omega) (s_X0_noteOfFinger hS hV h0 h1 (by omega) (by omega) ?_)
      have hs1 : ((m : Int) + 1).toNat = m + 1 := by omega
      have hs2 : ((m : Int) + 1 - 1).toNat = m := by omega
      rw [hs1, hs2]
      have hSe : max ((if ε 4 v.toNat = 1 then pit ε v.toNat (m + 1) else pit ε v.toNat ((ε 7 v.toNat).toNat - 1 - (m + 1))) - (if ε 4 v.toNat = 1 then pit ε v.toNat m else pit ε v.toNat ((ε 7 v.toNat).toNat - 1 - m))) (-((if ε 4 v.toNat = 1 then pit ε v.toNat (m + 1) else pit ε v.toNat ((ε 7 v.toNat).toNat - 1 - (m + 1))) - (if ε 4 v.toNat = 1 then pit ε v.toNat m else pit ε v.toNat ((ε 7 v.toNat).toNat - 1 - m)))) = kbS ε v.toNat m := by
        have := hS0.1
        unfold kbS at this ⊢
        by_cases c : ε 4 v.toNat = 1
        · simp only [if_pos c] at this ⊢; omega
        · simp only [if_neg c] at this ⊢
          rw [show (ε 7 v.toNat).toNat - 1 - (m + 1) = (ε 7 v.toNat).toNat - 2 - m by omega]
          omega
      have hrr : rg ((if ε 4 v.toNat = 1 then pit ε v.toNat (m + 1) else pit ε v.toNat ((ε 7 v.toNat).toNat - 1 - (m + 1))) - (if ε 4 v.toNat = 1 then pit ε v.toNat m else pit ε v.toNat ((ε 7 v.toNat).toNat - 1 - m))) := by
        simp only [rg]
        omega
      refine ⟨hrr, ?_⟩
      rw [hSe]
      refine ⟨by simp only [rg]; omega, by simp only [rg]; omega, fun c => ⟨by simp only [rg]; omega, by simp only [rg]; omega, ?_⟩, fun c => hF (fun z => ?_)⟩
      · refine ih _ _ _ ⟨m + 1, by push_cast; rfl, by push_cast; omega, rfl, rfl, hall, ?_⟩ (by omega)
        unfold kbOk kbD
        exact c
      · have : ∀ j, m < j → kbAll ε v.toNat s j → kbOk ε v.toNat s m := by
          intro j
          induction j with
          | zero => intro a; omega
          | succ j ihj =>
            intro a b
            rcases Nat.lt_or_eq_of_le (Nat.le_of_lt_succ a) with w | w
            · exact ihj w b.1
            · rw [w]; exact b.2
        have q2 := this ((ε 7 v.toNat).toNat - 1) (by omega) z
        unfold kbOk kbD at q2
        omega
    have hgo := s_X0_fingerAbove (σ := σ) (s := s) (f := (fg s m).toNat) (post := fun r5 => rg (fg s m) ∧ (fg s m ≠ 1 → w_X0_stretch_B51 σ v (s : Int) (kbSum ε v.toNat s m) ((m : Int) + 1) r5 (r5 - fg s m) 0 post (w_X0_stretch_L12 σ v (s : Int) post n)) ∧ (fg s m = 1 → w_X0_stretch_B51 σ v (s : Int) (kbSum ε v.toNat s m) ((m : Int) + 1) r5 (r5 - fg s m) 1 post (w_X0_stretch_L12 σ v (s : Int) post n))) hs (by omega)
    rw [hfa] at hgo
    refine hgo ?_
    rw [kb_fn s hs m (by omega) (by omega)]
    refine ⟨by simp only [rg]; omega, fun c => ?_, fun c => ?_⟩
    · have : kbE s m = 0 := by unfold kbE; rw [if_neg c]
      rw [this] at key; exact key
    · have : kbE s m = 1 := by unfold kbE; rw [if_pos c]
      rw [this] at key; exact key
theorem s_X0_placeOf {post : Int → Prop} (hS : SP σ ε) (hV : VE κ ε) {v : Int} (h0 : 0 ≤ v) (h1 : v < ε 2 7) {s : Nat} (hs : s < 32) (hn : 1 ≤ nbits s) (h : post (kbPl ε v.toNat s)) : w_X0_placeOf σ v (s : Int) post := by
  have hh := (hV.ev h0 h1).h01
  refine s_X0_fingerAbove (f := 0) hs (by omega) ?_
  rw [kb_f0 s hs hn]
  unfold kbPl at h
  refine s_X1_handOf hS hV h0 h1 ⟨by simp only [rg]; omega, fun a => ?_, fun a => ?_⟩
  · rw [if_neg a] at h
    exact s_X1_highestOf hS hV h0 h1 h
  · rw [if_pos a] at h
    exact s_X1_lowestOf hS hV h0 h1 h
theorem kb_ten : ∀ z : Nat, z < 4 → 1 ≤ z → cntP (fun x => decide ((nbits x : Int) = (z : Int))) 32 ≤ 10 := by decide +kernel
theorem kb_len (hV : VE κ ε) {v : Int} (h0 : 0 ≤ v) (h1 : v < ε 2 7) (n : Nat) (hn : n ≤ 32) : (fm (kbF ε v.toNat) n).length ≤ 10 := by
  have h7 := (hV.ev h0 h1).2.2.2.1
  have a := fm_cnt (kbF ε v.toNat) (fun x => decide ((nbits x : Int) = ε 7 v.toNat)) (fun x hx => by
    simp only [kbF] at hx
    split at hx
    · rename_i c; exact decide_eq_true c.1
    · exact absurd rfl hx) n
  have b := cntP_mono (fun x => decide ((nbits x : Int) = ε 7 v.toNat)) hn
  have c := kb_ten (ε 7 v.toNat).toNat (by omega) (by omega)
  rw [show (((ε 7 v.toNat).toNat : Nat) : Int) = ε 7 v.toNat by omega] at c
  omega
theorem kb_lt (hV : VE κ ε) {v : Int} (h0 : 0 ≤ v) (h1 : v < ε 2 7) (n : Nat) (hn : n < 32) (hb : (nbits n : Int) = ε 7 v.toNat) : (fm (kbF ε v.toNat) n).length < 10 := by
  have h7 := (hV.ev h0 h1).2.2.2.1
  have a := fm_cnt (kbF ε v.toNat) (fun x => decide ((nbits x : Int) = ε 7 v.toNat)) (fun x hx => by
    simp only [kbF] at hx
    split at hx
    · rename_i c; exact decide_eq_true c.1
    · exact absurd rfl hx) n
  have b := cntP_mono (fun x => decide ((nbits x : Int) = ε 7 v.toNat)) (show n + 1 ≤ 32 from hn)
  have c := kb_ten (ε 7 v.toNat).toNat (by omega) (by omega)
  rw [show (((ε 7 v.toNat).toNat : Nat) : Int) = ε 7 v.toNat by omega] at c
  have d : cntP (fun x => decide ((nbits x : Int) = ε 7 v.toNat)) (n + 1) = cntP (fun x => decide ((nbits x : Int) = ε 7 v.toNat)) n + 1 := by simp [cntP, hb]
  omega
theorem s_X0_listOne {post : Mem → Prop} (hS : SP σ ε) (hV : VE 0 ε) (hw : σ 1 1 = (wd 0 : Int)) {v : Int} (h0 : 0 ≤ v) (h1 : v < ε 2 7) (hR : RowC (wd 0) σ v.toNat []) (h : ∀ τ, Lsr (wd 0) σ τ v.toNat → RowC (wd 0) τ v.toNat (fm (kbF ε v.toNat) 32) → post τ) : w_X0_listOne σ v post := by
  have hn40 := hV.1
  have h7 := (hV.ev h0 h1).2.2.2.1
  refine lp2 (w_X0_listOne_L2 v post) (fun a τ => ∃ s : Nat, a = (s : Int) ∧ 1 ≤ s ∧ s ≤ 32 ∧ Lsr (wd 0) σ τ v.toNat ∧ RowC (wd 0) τ v.toNat (fm (kbF ε v.toNat) s)) (fun a τ => (32 - a).toNat) ?_ _ _ ⟨1, rfl, Nat.le_refl 1, by omega, Lsr.rf, ?_⟩
  · intro n a τ ⟨s, ha, s1, s2, hL, hRt⟩ ih
    subst ha
    have hSt := hL.sp hS
    have hwt : τ 1 1 = (wd 0 : Int) := by rw [hL.1 1 (by decide) (by decide) (by decide) (by decide)]; exact hw
    show w_X0_listOne_L2_body v post _ _ _
    simp only [w_X0_listOne_B49, w_X0_listOne_L2_body, w_X0_listOne]
    refine ⟨by simp only [rg]; omega, fun q => ?_, fun q => ?_⟩
    · rw [show s = 32 by omega] at hRt
      exact h τ hL hRt
    · have hs : s < 32 := by omega
      have hnx : kbF ε v.toNat s = none → w_X0_listOne_L2 v post n ((s : Int) + 1) τ := by
        intro z
        refine ih _ _ ⟨s + 1, by push_cast; rfl, by omega, by omega, hL, ?_⟩ (by omega)
        rw [fm_none z]
        exact hRt
      refine s_bitCount hs (s_X1_sizeOf hSt hV h0 h1 ⟨by simp only [rg]; have := kb_small s hs; omega, by simp only [rg]; omega, fun b => hnx ?_, fun b => ?_⟩)
      · simp only [kbF]
        rw [if_neg (fun z => b z.1)]
      · refine s_X0_stretch hSt hV h0 h1 hs b (fun z => ?_) (fun z => ?_)
        · have hsum := kb_sum hV h0 h1 hs b ((ε 7 v.toNat).toNat - 1) (by omega)
          refine ⟨by simp only [rg]; omega, fun y => by omega, fun _ => ?_⟩
          refine s_X0_placeOf hSt hV h0 h1 hs (by omega) ?_
          refine s_X2_addState hwt h0 (by omega) hRt (kb_lt hV h0 h1 s hs b) (fun υ hLu hRu => ?_)
          refine ih _ _ ⟨s + 1, by push_cast; rfl, by omega, by omega, hL.tr hLu, ?_⟩ (by omega)
          rw [fm_some (t := (kbSum ε v.toNat s ((ε 7 v.toNat).toNat - 1), (s : Int), kbPl ε v.toNat s)) (by simp only [kbF]; rw [if_pos ⟨b, z⟩])]
          exact hRu
        · refine ⟨rg_c _ rfl, fun _ => hnx ?_, fun y => absurd rfl y⟩
          simp only [kbF]
          rw [if_neg (fun y => z y.2)]
  · rw [show fm (kbF ε v.toNat) 1 = [] from fm_pre (fun x hx => by
      rw [show x = 0 by omega]
      simp only [kbF]
      rw [if_neg (fun y => by have e : (nbits 0 : Int) = 0 := rfl; rw [e] at y; omega)])]
    exact hR
end KBD
