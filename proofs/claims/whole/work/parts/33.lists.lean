/-! strings -/
def stX (ε : Mem) (i t n : Nat) : Int := pit ε i n - ε 3 (6 + t + n)
def stOk (p x : Int) : Prop := x = 0 ∨ (1 ≤ x - p ∧ x - p ≤ 4)
def stC (p x : Int) : Int := if x = 0 then 0 else if x - p = 4 then 2 else 1
def stAll (ε : Mem) (i p t : Nat) : Nat → Prop
  | 0 => True
  | n + 1 => stAll ε i p t n ∧ stOk (p : Int) (stX ε i t n)
def stSum (ε : Mem) (i p t : Nat) : Nat → Int
  | 0 => 0
  | n + 1 => stSum ε i p t n + stC (p : Int) (stX ε i t n)
noncomputable def stF (ε : Mem) (i p t : Nat) : Option T3 := by
  classical
  exact if stAll ε i p t (ε 7 i).toNat then some (stSum ε i p t (ε 7 i).toNat, (p : Int), (t : Int)) else none
theorem stAll_le {ε : Mem} {i p t m n : Nat} (h : m < n) (a : stAll ε i p t n) : stOk (p : Int) (stX ε i t m) := by
  induction n with
  | zero => omega
  | succ n ih =>
    rcases Nat.lt_or_eq_of_le (Nat.le_of_lt_succ h) with w | w
    · exact ih w a.1
    · rw [w]; exact a.2
theorem stSum_b (ε : Mem) (i p t n : Nat) : 0 ≤ stSum ε i p t n ∧ stSum ε i p t n ≤ 2 * n := by
  induction n with
  | zero => simp [stSum]
  | succ n ih =>
    have : 0 ≤ stC (p : Int) (stX ε i t n) ∧ stC (p : Int) (stX ε i t n) ≤ 2 := by unfold stC; split <;> (try split) <;> omega
    simp only [stSum]
    push_cast
    omega
section LISTS
variable {κ : Nat} {σ ε : Mem}
theorem EV.pn {i : Nat} (h : EV κ ε i) {n : Nat} (hn : n < 3) : -1 ≤ pit ε i n ∧ pit ε i n ≤ 127 := by
  obtain ⟨-, -, -, -, -, -, -, p0, p1, p2, -⟩ := h
  match n, hn with
  | 0, _ => omega
  | 1, _ => exact p1
  | 2, _ => exact p2
theorem s_X6_stops {post : Int → Prop} (hS : SP σ ε) (hV : VE κ ε) {v : Int} (h0 : 0 ≤ v) (h1 : v < ε 2 7) {p t : Nat} (hp : p < 12) (ht : (t : Int) + ε 7 v.toNat ≤ 4) (hT : stAll ε v.toNat p t (ε 7 v.toNat).toNat → post (stSum ε v.toNat p t (ε 7 v.toNat).toNat)) (hF : ¬ stAll ε v.toNat p t (ε 7 v.toNat).toNat → post (-2)) : w_X6_stops σ v (p : Int) (t : Int) post := by
  have hev := hV.ev h0 h1
  have h7 := hev.2.2.2.1
  refine lp2 (w_X6_stops_L6 σ v (p : Int) (t : Int) post) (fun a d => ∃ m : Nat, d = (m : Int) ∧ (m : Int) ≤ ε 7 v.toNat ∧ a = stSum ε v.toNat p t m ∧ stAll ε v.toNat p t m) (fun a d => (ε 7 v.toNat - d).toNat) ?_ _ _ ⟨0, rfl, by omega, rfl, trivial⟩
  intro n a d ⟨m, hd, hm, ha, hall⟩ ih
  subst hd ha
  show w_X6_stops_L6_body σ v (p : Int) (t : Int) post _ _ _
  simp only [w_X6_stops_B88, w_X6_stops_B69, w_X6_stops_B85, w_X6_stops_L6_body, w_X6_stops]
  refine s_X1_sizeOf hS hV h0 h1 ⟨by simp only [rg]; omega, by simp only [rg]; omega, fun q => ?_, fun q => ?_⟩
  · rw [show (ε 7 v.toNat).toNat = m by omega] at hT
    exact hT hall
  · have hb := hV.bw (6 + t + m) (by omega)
    have hpn := hev.pn (n := m) (by omega)
    refine s_X1_pitchOf hS hV h0 h1 (by omega) (by omega) (s_X1_boundOf hS (by omega) (by omega) ?_)
    rw [Int.toNat_natCast, show (6 + (t : Int) + (m : Int)).toNat = 6 + t + m by omega]
    have hno : ¬ stOk (p : Int) (stX ε v.toNat t m) → post (-2) := fun z => hF (fun y => z (stAll_le (by omega) y))
    have hgo : ∀ x, stOk (p : Int) (stX ε v.toNat t m) → x = stC (p : Int) (stX ε v.toNat t m) → w_X6_stops_L6 σ v (p : Int) (t : Int) post n (stSum ε v.toNat p t m + x) ((m : Int) + 1) := by
      intro x z e
      subst e
      exact ih _ _ ⟨m + 1, by push_cast; rfl, by push_cast; omega, rfl, hall, z⟩ (by omega)
    refine ⟨by simp only [rg]; omega, fun c => ?_, fun c => ⟨by simp only [rg]; omega, fun b => hno (fun z => ?_), fun b => ⟨by simp only [rg]; omega, fun g => ⟨by simp only [rg]; omega, fun f => ?_, fun f => ?_⟩, fun g => hno (fun z => ?_)⟩⟩⟩
    · have := hgo 0 (Or.inl c) (by unfold stC stX; rw [if_pos c])
      rw [Int.add_zero] at this
      exact this
    · rcases z with z | z
      · exact c z
      · unfold stX at z; omega
    · exact hgo 1 (Or.inr ⟨b, g⟩) (by unfold stC stX; rw [if_neg c, if_neg f])
    · exact hgo 2 (Or.inr ⟨b, g⟩) (by unfold stC stX; rw [if_neg c, if_pos f])
    · rcases z with z | z
      · exact c z
      · unfold stX at z; omega
noncomputable def stL (ε : Mem) (i : Nat) : List T3 := fj (fun p => fm (stF ε i p) (5 - (ε 7 i).toNat)) 12
theorem stL_len (ε : Mem) (i p : Nat) (h7 : 1 ≤ ε 7 i) (hp : p ≤ 12) : (fj (fun p => fm (stF ε i p) (5 - (ε 7 i).toNat)) p).length ≤ 48 := by
  have := fj_len (fun p => fm (stF ε i p) (5 - (ε 7 i).toNat)) 4 p (fun x _ => Nat.le_trans (fm_len _ _) (by omega))
  omega
theorem s_X6_listOne {post : Mem → Prop} (hS : SP σ ε) (hV : VE κ ε) (hw : σ 1 1 = (wd 1 : Int)) {v : Int} (h0 : 0 ≤ v) (h1 : v < ε 2 7) (hR : RowC (wd 1) σ v.toNat []) (h : ∀ τ, Lsr (wd 1) σ τ v.toNat → RowC (wd 1) τ v.toNat (stL ε v.toNat) → post τ) : w_X6_listOne σ v post := by
  have hn40 := hV.1
  have h7 := (hV.ev h0 h1).2.2.2.1
  refine lp2 (w_X6_listOne_L2 v post) (fun a τ => ∃ p : Nat, a = (p : Int) ∧ p ≤ 12 ∧ Lsr (wd 1) σ τ v.toNat ∧ RowC (wd 1) τ v.toNat (fj (fun p => fm (stF ε v.toNat p) (5 - (ε 7 v.toNat).toNat)) p)) (fun a τ => (12 - a).toNat) ?_ _ _ ⟨0, rfl, by omega, Lsr.rf, hR⟩
  intro n a τ ⟨p, ha, p2, hL, hRt⟩ ih
  subst ha
  show w_X6_listOne_L2_body v post _ _ _
  simp only [w_X6_listOne_L2_body]
  refine ⟨by simp only [rg]; omega, fun q => ?_, fun q => ?_⟩
  · rw [show p = 12 by omega] at hRt
    exact h τ hL hRt
  · refine lp2 (w_X6_listOne_L10 v (p : Int) post (w_X6_listOne_L2 v post n)) (fun b υ => ∃ t : Nat, b = (t : Int) ∧ t ≤ 5 - (ε 7 v.toNat).toNat ∧ Lsr (wd 1) σ υ v.toNat ∧ RowC (wd 1) υ v.toNat (fj (fun p => fm (stF ε v.toNat p) (5 - (ε 7 v.toNat).toNat)) p ++ fm (stF ε v.toNat p) t)) (fun b υ => (10 - b).toNat) ?_ _ _ ⟨0, rfl, by omega, hL, by simp only [fm, List.append_nil]; exact hRt⟩
    intro n2 b υ ⟨t, hb, t2, hL2, hR2⟩ ih2
    subst hb
    have hSt := hL2.sp hS
    have hwt : υ 1 1 = (wd 1 : Int) := by rw [hL2.1 1 (by decide) (by decide) (by decide) (by decide)]; exact hw
    show w_X6_listOne_L10_body v (p : Int) post _ _ _ _
    simp only [w_X6_listOne_L10_body, w_X6_listOne_B49]
    refine s_X1_sizeOf hSt hV h0 h1 ⟨by simp only [rg]; omega, fun c => ?_, fun c => ?_⟩
    · refine ih _ _ ⟨p + 1, by push_cast; rfl, by omega, hL2, ?_⟩ (by omega)
      rw [show t = 5 - (ε 7 v.toNat).toNat by omega] at hR2
      exact hR2
    · have hnx : stF ε v.toNat p t = none → w_X6_listOne_L10 v (p : Int) post (w_X6_listOne_L2 v post n) n2 ((t : Int) + 1) υ := by
        intro z
        refine ih2 _ _ ⟨t + 1, by push_cast; rfl, by omega, hL2, ?_⟩ (by omega)
        rw [fm_none z]
        exact hR2
      refine s_X6_stops hSt hV h0 h1 (by omega) c (fun z => ?_) (fun z => ?_)
      · have hsum := stSum_b ε v.toNat p t (ε 7 v.toNat).toNat
        refine ⟨by simp only [rg]; omega, fun y => by omega, fun _ => ?_⟩
        refine s_X2_addState hwt h0 (by omega) hR2 ?_ (fun ω hLu hRu => ?_)
        · have l1 := fj_len (fun p => fm (stF ε v.toNat p) (5 - (ε 7 v.toNat).toNat)) 4 p (fun x _ => Nat.le_trans (fm_len _ _) (by omega))
          have l2 := fm_len (stF ε v.toNat p) t
          rw [List.length_append]
          show _ < 48
          omega
        · refine ih2 _ _ ⟨t + 1, by push_cast; rfl, by omega, hL2.tr hLu, ?_⟩ (by omega)
          rw [fm_some (t := (stSum ε v.toNat p t (ε 7 v.toNat).toNat, (p : Int), (t : Int))) (by simp only [stF]; rw [if_pos z]), ← List.append_assoc]
          exact hRu
      · refine ⟨rg_c _ rfl, fun _ => hnx ?_, fun y => absurd rfl y⟩
        simp only [stF]
        rw [if_neg z]
/-! wind -/
def psum (f : Nat → Int) : Nat → Int
  | 0 => 0
  | n + 1 => psum f n + f n
theorem psum_mono {f : Nat → Int} {n : Nat} (hf : ∀ q, q < n → 1 ≤ f q) {a b : Nat} (h : a ≤ b) (hb : b ≤ n) : psum f a ≤ psum f b := by
  induction b with
  | zero => rw [show a = 0 by omega]; exact Int.le_refl _
  | succ b ih =>
    rcases Nat.lt_or_eq_of_le h with q | q
    · have := ih (by omega) (by omega); have := hf b (by omega); simp only [psum]; omega
    · rw [q]; exact Int.le_refl _
theorem psum_b {f : Nat → Int} {n : Nat} (hf : ∀ q, q < n → 0 ≤ f q ∧ f q ≤ 1000) {b : Nat} (hb : b ≤ n) : 0 ≤ psum f b ∧ psum f b ≤ 1000 * b := by
  induction b with
  | zero => simp [psum]
  | succ b ih => have := ih (by omega); have := hf b (by omega); simp only [psum]; push_cast; omega
def wnF (ε : Mem) (i j : Nat) : Option T3 := if psum (ε 6) (i + 1) - psum (ε 6) j ≤ ε 3 1 then some (0, (j : Int), 0) else none
theorem VE.len {κ : Nat} (hV : VE κ ε) : ∀ q, q < (ε 2 7).toNat → 1 ≤ ε 6 q ∧ ε 6 q ≤ 1000 := fun q hq => (hV.2.1 q (by omega)).2.2.1
theorem s_X8_earliestBreath {post : Int → Prop} (hS : SP σ ε) (hV : VE κ ε) {v : Int} (h0 : 0 ≤ v) (h1 : v < ε 2 7) (h : ∀ b : Nat, b ≤ v.toNat + 1 → (∀ j, j < b → wnF ε v.toNat j = none) → (∀ j, b ≤ j → j ≤ v.toNat → wnF ε v.toNat j = some (0, (j : Int), 0)) → post b) : w_X8_earliestBreath σ v post := by
  have hb1 := hV.b1
  have hl := hV.len
  have hn := hV.1
  refine s_X1_boundOf hS (by omega) (by omega) ?_
  rw [tn1]
  refine lp3 (w_X8_earliestBreath_L16 σ post) (fun a c d => ∃ b : Nat, a = (b : Int) ∧ d = (b : Int) - 1 ∧ b ≤ v.toNat + 1 ∧ c = ε 3 1 - (psum (ε 6) (v.toNat + 1) - psum (ε 6) b) ∧ 0 ≤ c) (fun a c d => (d + 1).toNat) ?_ _ _ _ ⟨v.toNat + 1, by omega, by omega, Nat.le_refl _, by omega, by omega⟩
  intro n a c d ⟨b, ha, hd, hbv, hc, hc0⟩ ih
  subst ha hd hc
  have hup : ∀ j, b ≤ j → j ≤ v.toNat → wnF ε v.toNat j = some (0, (j : Int), 0) := by
    intro j j1 j2
    unfold wnF
    rw [if_pos]
    have := psum_mono (f := ε 6) (n := (ε 2 7).toNat) (fun q hq => (hl q hq).1) j1 (by omega)
    omega
  have hpb := psum_b (f := ε 6) (n := (ε 2 7).toNat) (fun q hq => ⟨by have := hl q hq; omega, (hl q hq).2⟩) (b := b) (by omega)
  have hpv := psum_b (f := ε 6) (n := (ε 2 7).toNat) (fun q hq => ⟨by have := hl q hq; omega, (hl q hq).2⟩) (b := v.toNat + 1) (by omega)
  show w_X8_earliestBreath_L16_body σ post _ _ _ _
  simp only [w_X8_earliestBreath_L16_body]
  refine ⟨by simp only [rg]; omega, fun q => ?_, fun q => ?_⟩
  · exact h b hbv (fun j hj => by omega) hup
  · have hlb := hl (b - 1) (by omega)
    refine s_X1_lengthOf hS hV q (by omega) ?_
    rw [show ((b : Int) - 1).toNat = b - 1 by omega]
    have hps : psum (ε 6) b = psum (ε 6) (b - 1) + ε 6 (b - 1) := by
      rw [show b = (b - 1) + 1 by omega]; rfl
    refine ⟨by simp only [rg]; omega, fun z => ?_, fun z => ?_⟩
    · exact ih _ _ _ ⟨b - 1, by omega, by omega, by omega, by omega, by omega⟩ (by omega)
    · refine h b hbv (fun j hj => ?_) hup
      unfold wnF
      rw [if_neg]
      have := psum_mono (f := ε 6) (n := (ε 2 7).toNat) (fun q hq => (hl q hq).1) (show j ≤ b - 1 by omega) (by omega)
      omega
theorem s_X8_listOne {post : Mem → Prop} (hS : SP σ ε) (hV : VE κ ε) (hw : σ 1 1 = (wd 2 : Int)) {v : Int} (h0 : 0 ≤ v) (h1 : v < ε 2 7) (hR : RowC (wd 2) σ v.toNat []) (h : ∀ τ, Lsr (wd 2) σ τ v.toNat → RowC (wd 2) τ v.toNat (fm (wnF ε v.toNat) (v.toNat + 1)) → post τ) : w_X8_listOne σ v post := by
  have hn40 := hV.1
  refine s_X8_earliestBreath hS hV h0 h1 (fun b hb hlo hup => ?_)
  refine lp2 (w_X8_listOne_L6 v post) (fun a τ => ∃ j : Nat, a = (j : Int) ∧ b ≤ j ∧ j ≤ v.toNat + 1 ∧ Lsr (wd 2) σ τ v.toNat ∧ RowC (wd 2) τ v.toNat (fm (wnF ε v.toNat) j)) (fun a τ => (v + 1 - a).toNat) ?_ _ _ ⟨b, rfl, Nat.le_refl b, hb, Lsr.rf, by rw [fm_pre hlo]; exact hR⟩
  intro n a τ ⟨j, ha, j1, j2, hL, hRt⟩ ih
  subst ha
  have hwt : τ 1 1 = (wd 2 : Int) := by rw [hL.1 1 (by decide) (by decide) (by decide) (by decide)]; exact hw
  show w_X8_listOne_L6_body v post _ _ _
  simp only [w_X8_listOne_L6_body]
  refine ⟨by simp only [rg]; omega, by simp only [rg]; omega, fun q => ?_, fun q => ?_⟩
  · rw [show j = v.toNat + 1 by omega] at hRt
    exact h τ hL hRt
  · refine s_X2_addState hwt h0 (by omega) hRt ?_ (fun ω hLu hRu => ?_)
    · have := fm_len (wnF ε v.toNat) j
      show _ < 40
      omega
    · refine ih _ _ ⟨j + 1, by push_cast; rfl, by omega, by omega, hL.tr hLu, ?_⟩ (by omega)
      rw [fm_some (hup j j1 (by omega))]
      exact hRu
/-! slide -/
def isP (x : Int) : Prop := x = 12 ∨ x = 19 ∨ x = 24 ∨ x = 28 ∨ x = 31 ∨ x = 34 ∨ x = 36 ∨ x = 38 ∨ x = 40
theorem isP_tb : ∀ q, q < 9 → isP (tb_part q) := by
  intro q hq
  match q, hq with
  | 0, _ => simp [isP, tb_part]
  | 1, _ => simp [isP, tb_part]
  | 2, _ => simp [isP, tb_part]
  | 3, _ => simp [isP, tb_part]
  | 4, _ => simp [isP, tb_part]
  | 5, _ => simp [isP, tb_part]
  | 6, _ => simp [isP, tb_part]
  | 7, _ => simp [isP, tb_part]
  | 8, _ => simp [isP, tb_part]
theorem isP_of {x : Int} (h : isP x) : ∃ q, q < 9 ∧ tb_part q = x := by
  rcases h with h | h | h | h | h | h | h | h | h <;> subst h
  · exact ⟨0, by decide, rfl⟩
  · exact ⟨1, by decide, rfl⟩
  · exact ⟨2, by decide, rfl⟩
  · exact ⟨3, by decide, rfl⟩
  · exact ⟨4, by decide, rfl⟩
  · exact ⟨5, by decide, rfl⟩
  · exact ⟨6, by decide, rfl⟩
  · exact ⟨7, by decide, rfl⟩
  · exact ⟨8, by decide, rfl⟩
theorem tb_part_b (q : Nat) (hq : q < 9) : 0 ≤ tb_part q ∧ tb_part q ≤ 40 := by
  have := isP_tb q hq
  unfold isP at this
  omega
noncomputable def slF (ε : Mem) (i p : Nat) : Option T3 := by
  classical
  exact if isP (pit ε i 0 + (p : Int) - ε 3 5) then some (max 0 ((p : Int) - 4), (p : Int), 0) else none
theorem s_X4_isPartial {post : Int → Prop} {x : Int} (hx : rg x) (hT : isP x → post 1) (hF : ¬ isP x → post 0) : w_X4_isPartial σ x post := by
  refine lp1 (w_X4_isPartial_L9 σ x ((9 : Nat) : Int) post) (fun u => ∃ q : Nat, u = (q : Int) ∧ q ≤ 9 ∧ ∀ r, r < q → tb_part r ≠ x) (fun u => (9 - u).toNat) ?_ _ ⟨0, rfl, by omega, fun r hr => by omega⟩
  intro n u ⟨q, hu, hq, hno⟩ ih
  subst hu
  show w_X4_isPartial_L9_body σ x _ post _ _
  simp only [w_X4_isPartial_L9_body]
  refine ⟨by simp only [rg]; omega, by simp only [rg]; omega, fun c => hF (fun z => ?_), fun c => ?_⟩
  · obtain ⟨r, hr, e⟩ := isP_of z
    exact hno r (by omega) e
  · have := tb_part_b q (by omega)
    rw [Int.toNat_natCast]
    refine ⟨by simp only [inb]; omega, by simp only [rg]; omega, hx, fun b => ?_, fun b => hT ?_⟩
    · refine ih _ ⟨q + 1, by push_cast; rfl, by omega, fun r hr => ?_⟩ (by omega)
      rcases Nat.lt_or_eq_of_le (Nat.le_of_lt_succ hr) with w | w
      · exact hno r w
      · rw [w]; exact b
    · rw [← b]; exact isP_tb q (by omega)
theorem s_X4_listOne {post : Mem → Prop} (hS : SP σ ε) (hV : VE κ ε) (hw : σ 1 1 = (wd 3 : Int)) {v : Int} (h0 : 0 ≤ v) (h1 : v < ε 2 7) (hR : RowC (wd 3) σ v.toNat []) (h : ∀ τ, Lsr (wd 3) σ τ v.toNat → RowC (wd 3) τ v.toNat (fm (slF ε v.toNat) 7) → post τ) : w_X4_listOne σ v post := by
  have hn40 := hV.1
  have hev := hV.ev h0 h1
  have hb5 := hV.b5
  have hp0 := hev.pn (n := 0) (by decide)
  refine lp2 (w_X4_listOne_L2 v post) (fun a τ => ∃ p : Nat, a = (p : Int) ∧ p ≤ 7 ∧ Lsr (wd 3) σ τ v.toNat ∧ RowC (wd 3) τ v.toNat (fm (slF ε v.toNat) p)) (fun a τ => (7 - a).toNat) ?_ _ _ ⟨0, rfl, by omega, Lsr.rf, hR⟩
  intro n a τ ⟨p, ha, p2, hL, hRt⟩ ih
  subst ha
  have hSt := hL.sp hS
  have hwt : τ 1 1 = (wd 3 : Int) := by rw [hL.1 1 (by decide) (by decide) (by decide) (by decide)]; exact hw
  show w_X4_listOne_L2_body v post _ _ _
  simp only [w_X4_listOne_L2_body, w_X4_listOne_B47]
  refine ⟨by simp only [rg]; omega, fun q => ?_, fun q => ?_⟩
  · rw [show p = 7 by omega] at hRt
    exact h τ hL hRt
  · refine s_X1_lowestOf hSt hV h0 h1 (s_X1_boundOf hSt (by omega) (by omega) ?_)
    rw [tn5]
    refine s_X4_isPartial (by simp only [rg]; omega) (fun z => ⟨rg_c _ rfl, fun y => absurd y (by decide), fun _ => ⟨by simp only [rg]; omega, ?_⟩⟩) (fun z => ⟨rg_c _ rfl, fun _ => ?_, fun y => absurd rfl y⟩)
    · refine s_X2_addState hwt h0 (by omega) hRt ?_ (fun ω hLu hRu => ?_)
      · have := fm_len (slF ε v.toNat) p
        show _ < 7
        omega
      · refine ih _ _ ⟨p + 1, by push_cast; rfl, by omega, hL.tr hLu, ?_⟩ (by omega)
        rw [fm_some (t := (max 0 ((p : Int) - 4), (p : Int), 0)) (by simp only [slF]; rw [if_pos z])]
        exact hRu
    · refine ih _ _ ⟨p + 1, by push_cast; rfl, by omega, hL, ?_⟩ (by omega)
      rw [fm_none (by simp only [slF]; rw [if_neg z])]
      exact hRt
end LISTS
