/-! sticks -/
def pb (ε : Mem) (h : Int) (i : Nat) : Int := if h = 0 then pit ε i 0 else pit ε i ((ε 7 i).toNat - 1)
def all1 (ε : Mem) (x i : Nat) : Prop := ∀ q, x ≤ q → q < i → ε 7 q = 1
noncomputable def skP (ε : Mem) (i h x : Nat) : Int := by
  classical
  exact if x = 0 then 0 else if (h = 0 ∧ 0 < pit ε i 0 - pb ε (1 - (h : Int)) (x - 1)) ∨ (h ≠ 0 ∧ pit ε i 0 - pb ε (1 - (h : Int)) (x - 1) < 0) then 4 else 0
noncomputable def skF (ε : Mem) (i h x : Nat) : Option T3 := by
  classical
  exact if all1 ε x i then some (skP ε i h x, (h : Int), (x : Int) - 1) else none
noncomputable def skL (ε : Mem) (i : Nat) : List T3 := if ε 7 i = 2 then [(0, 2, -1)] else fj (fun h => fm (skF ε i h) (i + 1)) 2
section STICKS
variable {κ : Nat} {σ ε : Mem}
theorem pb_b (hV : VE κ ε) {v : Int} (h0 : 0 ≤ v) (h1 : v < ε 2 7) (h : Int) : 0 ≤ pb ε h v.toNat ∧ pb ε h v.toNat ≤ 127 := by
  have hev := hV.ev h0 h1
  unfold pb
  split
  · exact hev.2.2.2.2.2.2.2.1
  · exact hev.hi
theorem s_X5_pitchBy {post : Int → Prop} (hS : SP σ ε) (hV : VE κ ε) {u v : Int} (hu : rg u) (h0 : 0 ≤ v) (h1 : v < ε 2 7) (h : post (pb ε u v.toNat)) : w_X5_pitchBy σ u v post := by
  unfold pb at h
  refine ⟨hu, fun a => ?_, fun a => ?_⟩
  · rw [if_neg a] at h
    exact s_X1_highestOf hS hV h0 h1 h
  · rw [if_pos a] at h
    exact s_X1_lowestOf hS hV h0 h1 h
theorem s_X5_latestOfTwo {post : Int → Prop} (hS : SP σ ε) (hV : VE κ ε) {v : Int} (h0 : 0 ≤ v) (h1 : v < ε 2 7) (h : ∀ b : Nat, b ≤ v.toNat → all1 ε b v.toNat → (b = 0 ∨ ε 7 (b - 1) = 2) → post ((b : Int) - 1)) (h4 : κ = 4) : w_X5_latestOfTwo σ v post := by
  have hn := hV.1
  refine lp1 (w_X5_latestOfTwo_L4 σ post) (fun u => ∃ b : Nat, u = (b : Int) - 1 ∧ b ≤ v.toNat ∧ all1 ε b v.toNat) (fun u => (u + 1).toNat) ?_ _ ⟨v.toNat, by omega, Nat.le_refl _, fun q a b => by omega⟩
  intro n u ⟨b, hu, hb, hall⟩ ih
  subst hu
  show w_X5_latestOfTwo_L4_body σ post _ _
  simp only [w_X5_latestOfTwo_L4_body]
  refine ⟨by simp only [rg]; omega, fun q => ?_, fun q => ?_⟩
  · have := h b hb hall (Or.inl (by omega))
    rw [show ((b : Int) - 1) = -1 by omega] at this
    exact this
  · have hev := hV.ev (v := (b : Int) - 1) q (by omega)
    refine s_X1_sizeOf hS hV q (by omega) ⟨by have := hev.2.2.2.1; simp only [rg]; omega, fun c => ?_, fun c => ?_⟩
    · refine ih _ ⟨b - 1, by omega, by omega, fun z z1 z2 => ?_⟩ (by omega)
      by_cases e : z = b - 1
      · have e2 : ((b : Int) - 1).toNat = z := by omega
        have z3 := hev.2.2.2.1
        have z4 := hev.2.2.2.2.2.1 h4
        rw [e2] at z3 z4 c
        omega
      · exact hall z (by omega) z2
    · rw [show ((b : Int) - 1).toNat = b - 1 by omega] at c
      exact h b hb hall (Or.inr c)
theorem s_X5_crossing {post : Int → Prop} (hS : SP σ ε) (hV : VE κ ε) {v : Int} (h0 : 0 ≤ v) (h1 : v < ε 2 7) {h x : Nat} (hh : h < 2) (hx : x ≤ v.toNat) (hp : post (skP ε v.toNat h x)) : w_X5_crossing σ v (h : Int) ((x : Int) - 1) post := by
  have hev := hV.ev h0 h1
  have hp0 := hev.2.2.2.2.2.2.2.1
  unfold skP at hp
  simp only [w_X5_crossing_B48, w_X5_crossing_B47, w_X5_crossing_B43, w_X5_crossing]
  refine ⟨by simp only [rg]; have := hV.1; omega, fun a => ?_, fun a => ?_⟩
  · have hq := pb_b hV (v := (x : Int) - 1) (by omega) (by omega) (1 - (h : Int))
    rw [if_neg (show x ≠ 0 by omega)] at hp
    refine s_X1_lowestOf hS hV h0 h1 (s_X5_pitchBy hS hV (by simp only [rg]; omega) (by omega) (by omega) ?_)
    have e : ((x : Int) - 1).toNat = x - 1 := by omega
    rw [e] at hq ⊢
    refine ⟨by simp only [rg]; omega, fun b => ⟨by simp only [rg]; omega, fun c => ?_, fun c => ?_⟩, fun b => ⟨by simp only [rg]; omega, fun c => ?_, fun c => ?_⟩⟩
    · rw [if_neg (by omega)] at hp; exact hp
    · rw [if_pos (Or.inr ⟨by omega, c⟩)] at hp; exact hp
    · rw [if_neg (by omega)] at hp; exact hp
    · rw [if_pos (Or.inl ⟨by omega, c⟩)] at hp; exact hp
  · rw [if_pos (show x = 0 by omega)] at hp
    exact hp
theorem s_X5_listOne {post : Mem → Prop} (hS : SP σ ε) (hV : VE 4 ε) (hw : σ 1 1 = (wd 4 : Int)) {v : Int} (h0 : 0 ≤ v) (h1 : v < ε 2 7) (hR : RowC (wd 4) σ v.toNat []) (h : ∀ τ, Lsr (wd 4) σ τ v.toNat → RowC (wd 4) τ v.toNat (skL ε v.toNat) → post τ) : w_X5_listOne σ v post := by
  have hn40 := hV.1
  have hev := hV.ev h0 h1
  have h7 := hev.2.2.2.1
  unfold skL at h
  refine s_X1_sizeOf hS hV h0 h1 ⟨by simp only [rg]; omega, fun c => ?_, fun c => ?_⟩
  · rw [if_neg c] at h
    refine s_X5_latestOfTwo hS hV h0 h1 (fun b hb hall hb0 => ?_) rfl
    have hlo : ∀ g x, x < b → skF ε v.toNat g x = none := by
      intro g x hx
      unfold skF
      rw [if_neg]
      intro z
      have := z (b - 1) (by omega) (by omega)
      omega
    have hup : ∀ g x, b ≤ x → skF ε v.toNat g x = some (skP ε v.toNat g x, (g : Int), (x : Int) - 1) := by
      intro g x hx
      unfold skF
      rw [if_pos (show all1 ε x v.toNat from fun q q1 q2 => hall q (by omega) q2)]
    refine lp2 (w_X5_listOne_L29 v ((b : Int) - 1) post) (fun a τ => ∃ g : Nat, a = (g : Int) ∧ g ≤ 2 ∧ Lsr (wd 4) σ τ v.toNat ∧ RowC (wd 4) τ v.toNat (fj (fun h => fm (skF ε v.toNat h) (v.toNat + 1)) g)) (fun a τ => (2 - a).toNat) ?_ _ _ ⟨0, rfl, by omega, Lsr.rf, hR⟩
    intro n a τ ⟨g, ha, g2, hL, hRt⟩ ih
    subst ha
    show w_X5_listOne_L29_body v _ post _ _ _
    simp only [w_X5_listOne_L29_body]
    refine ⟨by simp only [rg]; omega, fun q => ?_, fun q => ?_⟩
    · rw [show g = 2 by omega] at hRt
      exact h τ hL hRt
    · refine lp2 (w_X5_listOne_L37 v ((b : Int) - 1) (g : Int) post (w_X5_listOne_L29 v ((b : Int) - 1) post n)) (fun d υ => ∃ x : Nat, d = (x : Int) - 1 ∧ b ≤ x ∧ x ≤ v.toNat + 1 ∧ Lsr (wd 4) σ υ v.toNat ∧ RowC (wd 4) υ v.toNat (fj (fun h => fm (skF ε v.toNat h) (v.toNat + 1)) g ++ fm (skF ε v.toNat g) x)) (fun d υ => (v - d).toNat) ?_ _ _ ⟨b, rfl, Nat.le_refl b, by omega, hL, by rw [fm_pre (hlo g), List.append_nil]; exact hRt⟩
      intro n2 d υ ⟨x, hd, x1, x2, hL2, hR2⟩ ih2
      subst hd
      have hSt := hL2.sp hS
      have hwt : υ 1 1 = (wd 4 : Int) := by rw [hL2.1 1 (by decide) (by decide) (by decide) (by decide)]; exact hw
      show w_X5_listOne_L37_body v _ _ post _ _ _ _
      simp only [w_X5_listOne_L37_body]
      refine ⟨by simp only [rg]; omega, by simp only [rg]; omega, fun z => ?_, fun z => ?_⟩
      · refine ih _ _ ⟨g + 1, by push_cast; rfl, by omega, hL2, ?_⟩ (by omega)
        rw [show x = v.toNat + 1 by omega] at hR2
        exact hR2
      · refine s_X5_crossing hSt hV h0 h1 (by omega) (by omega) ?_
        refine s_X2_addState hwt h0 (by omega) hR2 ?_ (fun ω hLu hRu => ?_)
        · have l1 := fj_len (fun h => fm (skF ε v.toNat h) (v.toNat + 1)) 40 g (fun y _ => Nat.le_trans (fm_len _ _) (by omega))
          have l2 := fm_len (skF ε v.toNat g) x
          rw [List.length_append]
          show _ < 80
          omega
        · refine ih2 _ _ ⟨x + 1, by push_cast; omega, by omega, by omega, hL2.tr hLu, ?_⟩ (by omega)
          rw [fm_some (hup g x x1), ← List.append_assoc]
          exact hRu
  · rw [if_pos c] at h
    exact s_X2_addState hw h0 (by omega) hR (by show 0 < 80; omega) (fun ω hLu hRu => h ω hLu hRu)
end STICKS
/-! every kind -/
noncomputable def SLk (κ : Nat) (ε : Mem) (i : Nat) : List T3 := match κ with
  | 0 => fm (kbF ε i) 32
  | 1 => stL ε i
  | 2 => fm (wnF ε i) (i + 1)
  | 3 => fm (slF ε i) 7
  | _ => skL ε i
noncomputable def SL (κ : Nat) (ε : Mem) (i : Nat) : List T3 := by
  classical
  exact if inC ε i then SLk κ ε i else []
theorem s_listOne {κ : Nat} {σ ε : Mem} {post : Mem → Prop} (hκ : κ < 5) (hS : SP σ ε) (hV : VE κ ε) (hw : σ 1 1 = (wd κ : Int)) {v : Int} (h0 : 0 ≤ v) (h1 : v < ε 2 7) (hR : RowC (wd κ) σ v.toNat []) (h : ∀ τ, Lsr (wd κ) σ τ v.toNat → RowC (wd κ) τ v.toNat (SLk κ ε v.toNat) → post τ) : w_listOne κ σ v post := by
  rcases (show κ = 0 ∨ κ = 1 ∨ κ = 2 ∨ κ = 3 ∨ κ = 4 by omega) with rfl | rfl | rfl | rfl | rfl
  · exact s_X0_listOne hS hV hw h0 h1 hR h
  · exact s_X6_listOne hS hV hw h0 h1 hR h
  · exact s_X8_listOne hS hV hw h0 h1 hR h
  · exact s_X4_listOne hS hV hw h0 h1 hR h
  · exact s_X5_listOne hS hV hw h0 h1 hR h
theorem SLk_len {κ : Nat} {ε : Mem} (hκ : κ < 5) (hV : VE κ ε) {v : Int} (h0 : 0 ≤ v) (h1 : v < ε 2 7) : (SLk κ ε v.toNat).length ≤ wd κ := by
  have hn40 := hV.1
  have h7 := (hV.ev h0 h1).2.2.2.1
  rcases (show κ = 0 ∨ κ = 1 ∨ κ = 2 ∨ κ = 3 ∨ κ = 4 by omega) with rfl | rfl | rfl | rfl | rfl
  · exact kb_len hV h0 h1 32 (Nat.le_refl _)
  · exact stL_len ε v.toNat 12 h7.1 (Nat.le_refl _)
  · exact Nat.le_trans (fm_len _ _) (by show _ ≤ 40; omega)
  · exact fm_len _ _
  · show (skL ε v.toNat).length ≤ 80
    unfold skL
    split
    · simp
    · have := fj_len (fun h => fm (skF ε v.toNat h) (v.toNat + 1)) 40 2 (fun y _ => Nat.le_trans (fm_len _ _) (by omega))
      omega
theorem SL_len {κ : Nat} {ε : Mem} (hκ : κ < 5) (hV : VE κ ε) {v : Int} (h0 : 0 ≤ v) (h1 : v < ε 2 7) : (SL κ ε v.toNat).length ≤ wd κ := by
  unfold SL
  split
  · exact SLk_len hκ hV h0 h1
  · simp
