/-! the reference: its piece -/
def MP (κ : Nat) (ε σ : Mem) : Prop := σ 17 0 = (κ : Int) ∧ σ 17 1 = ε 2 7 ∧ σ 18 = ε 4 ∧ σ 19 = ε 5 ∧ σ 20 = ε 6 ∧ σ 21 = ε 7 ∧ σ 22 = ε 9 ∧ σ 23 = ε 8 ∧ σ 24 = ε 3
def RowM (σ : Mem) (i : Nat) (L : List T3) : Prop := σ 25 i = L.length ∧ ∀ k, k < L.length → σ 28 (80 * i + k) = e0 L k ∧ σ 26 (80 * i + k) = e1 L k ∧ σ 27 (80 * i + k) = e2 L k
def MIv (κ : Nat) (ε σ : Mem) : Prop := MP κ ε σ ∧ (σ 17 9 = 0 ∨ (σ 17 9 = 1 ∧ ∀ i : Nat, (i : Int) < ε 2 7 → RowM σ i (SL κ ε i)))
/-- what the reference leaves as it was -/
def KC (σ τ : Mem) : Prop := ∀ c, c < 17 ∨ 35 ≤ c → τ c = σ c
theorem KC.rf {σ : Mem} : KC σ σ := fun _ _ => rfl
theorem KC.tr {σ τ υ : Mem} (h : KC σ τ) (g : KC τ υ) : KC σ υ := fun c hc => (g c hc).trans (h c hc)
theorem KC.up {σ : Mem} {k j : Nat} {v : Int} (h : 17 ≤ k ∧ k < 35) : KC σ (up2 σ k j v) := fun c hc => up2_k (by omega)
theorem MP.k {κ : Nat} {ε σ τ : Mem} (h : MP κ ε σ) (e : ∀ c, 18 ≤ c → c ≤ 24 → τ c = σ c) (e0 : τ 17 0 = σ 17 0) (e1 : τ 17 1 = σ 17 1) : MP κ ε τ := by
  obtain ⟨h0, h1, h18, h19, h20, h21, h22, h23, h24⟩ := h
  exact ⟨e0.trans h0, e1.trans h1, (e 18 (by omega) (by omega)).trans h18, (e 19 (by omega) (by omega)).trans h19, (e 20 (by omega) (by omega)).trans h20, (e 21 (by omega) (by omega)).trans h21, (e 22 (by omega) (by omega)).trans h22, (e 23 (by omega) (by omega)).trans h23, (e 24 (by omega) (by omega)).trans h24⟩
theorem RowM.k {σ τ : Mem} {i : Nat} {L : List T3} (h : RowM σ i L) (e : ∀ c, 25 ≤ c → c ≤ 28 → τ c = σ c) : RowM τ i L :=
  ⟨by rw [e 25 (by omega) (by omega)]; exact h.1, fun k hk => by rw [e 26 (by omega) (by omega), e 27 (by omega) (by omega), e 28 (by omega) (by omega)]; exact h.2 k hk⟩
theorem MIv.mv {κ : Nat} {ε σ τ : Mem} (h : MIv κ ε σ) (e : KM σ τ) : MIv κ ε τ := by
  have h17 : τ 17 = σ 17 := e 17 (by omega) (by omega)
  refine ⟨h.1.k (fun c c1 c2 => e c (by omega) (by omega)) (by rw [h17]) (by rw [h17]), ?_⟩
  rw [h17]
  rcases h.2 with a | ⟨a, b⟩
  · exact Or.inl a
  · exact Or.inr ⟨a, fun i hi => (b i hi).k (fun c c1 c2 => e c (by omega) (by omega))⟩
theorem MIv.mv' {κ : Nat} {ε σ τ : Mem} (h : MIv κ ε σ) (e : ∀ c, c ≠ 29 → τ c = σ c) : MIv κ ε τ := by
  have h17 : τ 17 = σ 17 := e 17 (by omega)
  refine ⟨h.1.k (fun c c1 c2 => e c (by omega)) (by rw [h17]) (by rw [h17]), ?_⟩
  rw [h17]
  rcases h.2 with a | ⟨a, b⟩
  · exact Or.inl a
  · exact Or.inr ⟨a, fun i hi => (b i hi).k (fun c c1 c2 => e c (by omega))⟩
theorem MIv.up {κ : Nat} {ε σ τ : Mem} (h : MIv κ ε σ) (e : ∀ c, 17 ≤ c → c ≤ 28 → τ c = σ c) : MIv κ ε τ := by
  have h17 : τ 17 = σ 17 := e 17 (by omega) (by omega)
  refine ⟨h.1.k (fun c c1 c2 => e c (by omega) (by omega)) (by rw [h17]) (by rw [h17]), ?_⟩
  rw [h17]
  rcases h.2 with a | ⟨a, b⟩
  · exact Or.inl a
  · exact Or.inr ⟨a, fun i hi => (b i hi).k (fun c c1 c2 => e c (by omega) (by omega))⟩
section MBASE
variable {κ : Nat} {σ ε : Mem} {post : Int → Prop}
theorem s_in {v a b : Int} (hv : rg v) (ha : rg a) (hb : rg b) (hT : a ≤ v → v ≤ b → post 1) (hF : ¬ (a ≤ v ∧ v ≤ b) → post 0) : w_X10_in σ v a b post := by
  simp only [w_X10_in_B15, w_X10_in_B14, w_X10_in]
  exact ⟨hv, ha, fun c => ⟨Or.inl rfl, hF (by omega)⟩, fun c => ⟨hv, hb, fun d => ⟨Or.inl rfl, hF (by omega)⟩, fun d => ⟨Or.inr rfl, hT c d⟩⟩⟩
theorem s_mfar {v u : Int} (hv : rg v) (hu : rg u) (h : post (ab (v - u))) : w_X10_far σ v u post := by
  simp only [w_X10_far_B14, w_X10_far]
  refine ⟨hv, hu, fun c => ?_, fun c => ?_⟩
  · rw [show ab (v - u) = u - v by unfold ab; omega] at h; exact h
  · rw [show ab (v - u) = v - u by unfold ab; omega] at h; exact h
theorem s_mbefore (hM : MP κ ε σ) (hV : VE κ ε) {i : Nat} (hi : (i : Int) ≤ ε 2 7) {x : Int} (hx : rg x) (h1 : lastH (ε 4) x i = -1 → post (-2)) (h2 : ∀ j : Nat, lastH (ε 4) x i = (j : Int) → post (j : Int)) : w_X10_before σ (i : Int) x post := by
  obtain ⟨h0, hn1, h18, -⟩ := hM
  have hn := hV.1
  refine lp1 (w_X10_before_L4 σ x post) (fun u => -1 ≤ u ∧ u < i ∧ lastH (ε 4) x (u + 1).toNat = lastH (ε 4) x i) (fun u => (u + 1).toNat) ?_ ((i : Int) - 1) ⟨by omega, by omega, by rw [show ((i : Int) - 1 + 1).toNat = i by omega]⟩
  intro n u ⟨u0, u1, hp⟩ ih
  show w_X10_before_L4_body σ x post _ u
  simp only [w_X10_before_L4_body, w_X10_before_B24, w_X10_before_B34, h18]
  refine ⟨by simp only [rg]; omega, fun a => ⟨by simp only [rg]; omega, fun b => by omega, fun b => ?_⟩, fun a => ?_⟩
  · rw [show (u + 1).toNat = 0 by omega] at hp
    exact h1 hp.symm
  · have he := (hV.ev a (by omega)).h01
    rw [show (u + 1).toNat = u.toNat + 1 by omega] at hp
    refine ⟨by simp only [inb]; omega, by simp only [rg]; omega, hx, fun b => ⟨by simp only [rg]; omega, fun c => ?_, fun c => by omega⟩, fun b => ?_⟩
    · simp only [lastH, if_pos b] at hp
      have := h2 u.toNat hp.symm
      rw [show ((u.toNat : Nat) : Int) = u by omega] at this
      exact this
    · refine ih (u + (-1)) ⟨by omega, by omega, ?_⟩ (by omega)
      simp only [lastH, if_neg b] at hp
      rw [show (u + -1 + 1).toNat = u.toNat by omega]
      exact hp
theorem s_mafter (hM : MP κ ε σ) (hV : VE κ ε) {i : Nat} (hi : (i : Int) < ε 2 7) (h1 : nxt ε i = -1 → post (-2)) (h2 : ∀ j : Nat, nxt ε i = (j : Int) → post (j : Int)) : w_X10_after σ (i : Int) post := by
  obtain ⟨h0, hn1, h18, -⟩ := hM
  have hn := hV.1
  have hei := (hV.2.1 i hi).h01
  refine lp1 (w_X10_after_L4 σ (i : Int) post) (fun u => 0 ≤ u ∧ u ≤ ε 2 7 ∧ firstH (ε 4) (ε 4 i) u.toNat ((ε 2 7).toNat - u.toNat) = nxt ε i) (fun u => (ε 2 7 - u).toNat) ?_ ((i : Int) + 1) ⟨by omega, by omega, by rw [show ((i : Int) + 1).toNat = i + 1 by omega]; rfl⟩
  intro n u ⟨u0, u1, hp⟩ ih
  show w_X10_after_L4_body σ (i : Int) post _ u
  simp only [w_X10_after_L4_body, w_X10_after_B33, w_X10_after_B47, h18, hn1, Int.toNat_natCast]
  refine ⟨by simp only [rg]; omega, by simp only [rg]; omega, fun a => ⟨by simp only [rg]; omega, by simp only [rg]; omega, fun b => ?_, fun b => by omega⟩, fun a => ?_⟩
  · rw [show (ε 2 7).toNat - u.toNat = 0 by omega] at hp
    exact h1 hp.symm
  · have he := (hV.ev u0 a).h01
    rw [show (ε 2 7).toNat - u.toNat = ((ε 2 7).toNat - (u + 1).toNat) + 1 by omega] at hp
    refine ⟨by simp only [inb]; omega, by simp only [inb]; omega, by simp only [rg]; omega, by simp only [rg]; omega, fun b => ⟨by simp only [rg]; omega, by simp only [rg]; omega, fun c => by omega, fun c => ?_⟩, fun b => ?_⟩
    · simp only [firstH, if_pos b] at hp
      have := h2 u.toNat hp.symm
      rw [show ((u.toNat : Nat) : Int) = u by omega] at this
      exact this
    · refine ih (u + 1) ⟨by omega, by omega, ?_⟩ (by omega)
      simp only [firstH, if_neg b] at hp
      rw [show (u + 1).toNat = u.toNat + 1 by omega]
      rw [show (u + 1).toNat = u.toNat + 1 by omega] at hp
      exact hp
theorem s_mfirst (hM : MP κ ε σ) (hV : VE κ ε) {x : Int} (hx : rg x) (h1 : fst ε x = -1 → post (-2)) (h2 : ∀ j : Nat, fst ε x = (j : Int) → post (j : Int)) : w_X10_first σ x post := by
  obtain ⟨h0, hn1, h18, -⟩ := hM
  have hn := hV.1
  refine lp1 (w_X10_first_L2 σ x post) (fun u => 0 ≤ u ∧ u ≤ ε 2 7 ∧ firstH (ε 4) x u.toNat ((ε 2 7).toNat - u.toNat) = fst ε x) (fun u => (ε 2 7 - u).toNat) ?_ 0 ⟨by omega, by omega, rfl⟩
  intro n u ⟨u0, u1, hp⟩ ih
  show w_X10_first_L2_body σ x post _ u
  simp only [w_X10_first_L2_body, w_X10_first_B26, w_X10_first_B40, h18, hn1]
  refine ⟨by simp only [rg]; omega, by simp only [rg]; omega, fun a => ⟨by simp only [rg]; omega, by simp only [rg]; omega, fun b => ?_, fun b => by omega⟩, fun a => ?_⟩
  · rw [show (ε 2 7).toNat - u.toNat = 0 by omega] at hp
    exact h1 hp.symm
  · have he := (hV.ev u0 a).h01
    rw [show (ε 2 7).toNat - u.toNat = ((ε 2 7).toNat - (u + 1).toNat) + 1 by omega] at hp
    refine ⟨by simp only [inb]; omega, by simp only [rg]; omega, hx, fun b => ⟨by simp only [rg]; omega, by simp only [rg]; omega, fun c => by omega, fun c => ?_⟩, fun b => ?_⟩
    · simp only [firstH, if_pos b] at hp
      have := h2 u.toNat hp.symm
      rw [show ((u.toNat : Nat) : Int) = u by omega] at this
      exact this
    · refine ih (u + 1) ⟨by omega, by omega, ?_⟩ (by omega)
      simp only [firstH, if_neg b] at hp
      rw [show (u + 1).toNat = u.toNat + 1 by omega]
      rw [show (u + 1).toNat = u.toNat + 1 by omega] at hp
      exact hp
theorem s_isLet (hM : MP κ ε σ) (hV : VE κ ε) {i : Nat} (hi : (i : Int) < ε 2 7) {k : Int} (hk : rg k) (hT : lets ε i k → post 1) (hF : ¬ lets ε i k → post 0) : w_X10_isLet σ (i : Int) k post := by
  have hp := (hV.2.1 i hi).2.2.2.2.2.2.1
  have hn := hV.1
  have h23 := hM.2.2.2.2.2.2.2.1
  simp only [w_X10_isLet_B24, w_X10_isLet_B19, w_X10_isLet, h23, Int.toNat_natCast]
  refine ⟨by simp only [inb]; omega, by simp only [rg]; omega, fun a => ⟨Or.inr rfl, hT (Or.inl (by omega))⟩, fun a => ⟨by simp only [inb]; omega, by simp only [rg]; omega, hk, fun b => ⟨Or.inl rfl, hF (fun z => by unfold lets at z; omega)⟩, fun b => ⟨Or.inr rfl, hT (Or.inr b)⟩⟩⟩
end MBASE
