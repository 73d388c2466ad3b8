/-! class and reference meet at every call -/
section BOTH
variable {κ : Nat} {ε : Mem}
theorem CIv.cls {tl tl' : Bool} {σ τ : Mem} (h : CIv κ tl ε σ) (e : ∀ c, c < 17 → τ c = σ c) (ht : tl' = true → TyOk κ ε τ) : CIv κ tl' ε τ := by
  obtain ⟨⟨h2, h3, h4, h5, h6, h7, h8, h9⟩, hV, h00, h11, h140, ⟨l0, l1, l2⟩, hs, -⟩ := h
  refine ⟨⟨(e 2 (by omega)).trans h2, (e 3 (by omega)).trans h3, (e 4 (by omega)).trans h4, (e 5 (by omega)).trans h5, (e 6 (by omega)).trans h6, (e 7 (by omega)).trans h7, (e 8 (by omega)).trans h8, (e 9 (by omega)).trans h9⟩, hV, by rw [e 0 (by omega)]; exact h00, by rw [e 1 (by omega)]; exact h11, by rw [e 14 (by omega)]; exact h140, ?_, ?_, ht⟩
  · unfold LsOk; rw [e 1 (by omega)]
    refine ⟨l0, l1, fun i hi => ?_⟩
    have := l2 i hi
    exact ⟨by rw [e 10 (by omega)]; exact this.1, fun k hk => by rw [e 11 (by omega), e 12 (by omega), e 13 (by omega)]; exact this.2 k hk⟩
  · unfold SrOk; rw [e 14 (by omega), e 15 (by omega)]; exact hs
def PC (κ : Nat) (tl : Bool) (ε' σ : Mem) (R0 : Int) : Int → Mem → Prop := fun x τ => x = R0 ∧ KM σ τ ∧ CIv κ tl ε' τ
def PM (κ : Nat) (ε' σ : Mem) (R0 : Int) : Int → Mem → Prop := fun x τ => x = R0 ∧ KC σ τ ∧ MIv κ ε' τ
theorem KCrf {σ : Mem} : KC σ σ := fun _ _ => rfl
theorem s_ways {σ : Mem} {post : Int → Mem → Prop} (hκ : κ < 5) (hI : CIv κ true ε σ) {v : Int} (hv0 : 0 ≤ v) (hv : v ≤ 300) (h : ∀ τ, KM σ τ → CIv κ true ε τ → post (cp (waysN κ ε v.toNat)) τ) : w_ways κ σ v post := by
  obtain ⟨k, rfl⟩ : ∃ k : Nat, v = (k : Int) := ⟨v.toNat, by omega⟩
  rw [Int.toNat_natCast] at h
  have hT := hI.2.2.2.2.2.2.2 rfl
  refine ⟨⟨by have := hT.2.1; omega, by have := hT.2.2.1; omega⟩, fun a => ?_, fun a => ?_⟩
  · exact s_X7_sumTo hT.1 (by omega) (A := fun p => conv (tot κ ε 0) (tot κ ε 1) p) (fun p hp => hT.2.2.2 p (by omega)) (h σ KM.rf hI)
  · refine s_list hκ hI (fun τ k1 hI1 hC1 => ?_)
    refine s_X7_run hκ hI1.2.1 hC1 (hI1.2.2.2.2.2.2.2 rfl).1 (by omega) (fun τ1 f1 t1 u1 v1 => ?_)
    refine s_X7_sumTo t1 (by omega) (A := fun p => conv (tot κ ε 0) (tot κ ε 1) p) v1 (h τ1 (fun c c1 c2 => (f1 c c2).trans (k1 c c1 c2)) ?_)
    exact hI1.cls (fun c c1 => f1 c (by omega)) (fun _ => ⟨t1, by rw [u1]; omega, by rw [u1]; omega, fun p hp => v1 p (by rw [u1] at hp; omega)⟩)
theorem b_event (hκ : κ < 5) (hV : VE κ ε) {h t l p q r : Int} (hh : rg h) (ht : rg t) (hl : rg l) (hp : rg p) (hq : rg q) (hr : rg r) : ∃ R0 ε', (∀ tl σ, CIv κ tl ε σ → w_X9_event κ tl σ h t l p q r (PC κ tl ε' σ R0)) ∧ ∀ σ, MIv κ ε σ → w_X10_event σ h t l p q r (PM κ ε' σ R0) := by
  by_cases a : wellE κ h t l p q r
  · by_cases b : notE κ ε h t
    · refine ⟨-3, ε, fun tl σ hI => s_X9_event hκ hI hh ht hl hp hq hr ?_ ?_ ?_ ?_, fun σ hI => s_mevent hκ hV hI hh ht hl hp hq hr ?_ ?_ ?_ ?_⟩ <;> (intros; first | contradiction | exact ⟨rfl, KM.rf, hI⟩ | exact ⟨rfl, KCrf, hI⟩)
    · by_cases d : ε 2 7 < 40
      · refine ⟨ε 2 7, addE ε h t l p q r, fun tl σ hI => s_X9_event hκ hI hh ht hl hp hq hr ?_ ?_ ?_ ?_, fun σ hI => s_mevent hκ hV hI hh ht hl hp hq hr ?_ ?_ ?_ ?_⟩ <;> (intros; first | contradiction | exact ⟨rfl, by assumption, by assumption⟩)
      · refine ⟨-4, ε, fun tl σ hI => s_X9_event hκ hI hh ht hl hp hq hr ?_ ?_ ?_ ?_, fun σ hI => s_mevent hκ hV hI hh ht hl hp hq hr ?_ ?_ ?_ ?_⟩ <;> (intros; first | contradiction | exact ⟨rfl, KM.rf, hI⟩ | exact ⟨rfl, KCrf, hI⟩)
  · refine ⟨-1, ε, fun tl σ hI => s_X9_event hκ hI hh ht hl hp hq hr ?_ ?_ ?_ ?_, fun σ hI => s_mevent hκ hV hI hh ht hl hp hq hr ?_ ?_ ?_ ?_⟩ <;> (intros; first | contradiction | exact ⟨rfl, KM.rf, hI⟩ | exact ⟨rfl, KCrf, hI⟩)
theorem b_drop (hκ : κ < 5) (hV : VE κ ε) : ∃ R0 ε', (∀ tl σ, CIv κ tl ε σ → w_X9_drop κ tl σ (PC κ tl ε' σ R0)) ∧ ∀ σ, MIv κ ε σ → w_X10_drop σ (PM κ ε' σ R0) := by
  by_cases a : ε 2 7 = 0
  · refine ⟨-2, ε, fun tl σ hI => s_X9_drop hI ?_ ?_, fun σ hI => s_mdrop hV hI ?_ ?_⟩ <;> (intros; first | omega | exact ⟨rfl, KM.rf, hI⟩ | exact ⟨rfl, KCrf, hI⟩)
  · refine ⟨ε 2 7 - 1, drpE ε, fun tl σ hI => s_X9_drop hI ?_ ?_, fun σ hI => s_mdrop hV hI ?_ ?_⟩ <;> (intros; first | contradiction | exact ⟨rfl, by assumption, by assumption⟩)
theorem b_bound (hκ : κ < 5) (hV : VE κ ε) {w v : Int} (hw : rg w) (hv : rg v) : ∃ R0 ε', (∀ tl σ, CIv κ tl ε σ → w_X9_bound κ tl σ w v (PC κ tl ε' σ R0)) ∧ ∀ σ, MIv κ ε σ → w_X10_bound σ w v (PM κ ε' σ R0) := by
  by_cases a : bndOk w v
  · refine ⟨ε 3 w.toNat, bndE ε w.toNat v, fun tl σ hI => s_X9_bound hI hw hv ?_ ?_, fun σ hI => s_mbound hI hw hv ?_ ?_⟩ <;> (intros; first | contradiction | exact ⟨rfl, by assumption, by assumption⟩)
  · refine ⟨-1, ε, fun tl σ hI => s_X9_bound hI hw hv ?_ ?_, fun σ hI => s_mbound hI hw hv ?_ ?_⟩ <;> (intros; first | contradiction | exact ⟨rfl, KM.rf, hI⟩ | exact ⟨rfl, KCrf, hI⟩)
theorem b_pin (hκ : κ < 5) (hV : VE κ ε) {i s : Int} (hi : rg i) (hs : rg s) : ∃ R0 ε', (∀ tl σ, CIv κ tl ε σ → w_X9_pin κ tl σ i s (PC κ tl ε' σ R0)) ∧ ∀ σ, MIv κ ε σ → w_X10_pin σ i s (PM κ ε' σ R0) := by
  by_cases a : isE ε i ∧ -1 ≤ s ∧ s ≤ 99
  · refine ⟨ε 8 i.toNat, pinE ε i.toNat (if s = -1 then -2 else s), fun tl σ hI => s_X9_pin hI hi hs ?_ ?_, fun σ hI => s_mpin hV hI hi hs ?_ ?_⟩ <;> (intros; first | contradiction | exact ⟨rfl, by assumption, by assumption⟩)
  · refine ⟨-1, ε, fun tl σ hI => s_X9_pin hI hi hs ?_ ?_, fun σ hI => s_mpin hV hI hi hs ?_ ?_⟩ <;> (intros; first | exact (a ⟨by assumption, by assumption, by assumption⟩).elim | exact ⟨rfl, KM.rf, hI⟩ | exact ⟨rfl, KCrf, hI⟩)
theorem b_states (hκ : κ < 5) (hV : VE κ ε) {i : Int} (hi : rg i) : ∃ R0 ε', (∀ tl σ, CIv κ tl ε σ → w_X9_states κ σ i (PC κ tl ε' σ R0)) ∧ ∀ σ, MIv κ ε σ → w_X10_states σ i (PM κ ε' σ R0) := by
  by_cases a : isE ε i
  · refine ⟨cS κ ε i.toNat, ε, fun tl σ hI => s_X9_states hκ hI hi ?_ ?_, fun σ hI => s_mstates hκ hV hI hi ?_ ?_⟩ <;> (intros; first | contradiction | exact ⟨rfl, by assumption, by assumption⟩)
  · refine ⟨-1, ε, fun tl σ hI => s_X9_states hκ hI hi ?_ ?_, fun σ hI => s_mstates hκ hV hI hi ?_ ?_⟩ <;> (intros; first | contradiction | exact ⟨rfl, by assumption, by assumption⟩ | exact ⟨rfl, KM.rf, hI⟩)
theorem b_state (hκ : κ < 5) (hV : VE κ ε) {i k w : Int} (hi : rg i) (hk : rg k) (hw : rg w) : ∃ R0 ε', (∀ tl σ, CIv κ tl ε σ → w_X9_state κ σ i k w (PC κ tl ε' σ R0)) ∧ ∀ σ, MIv κ ε σ → w_X10_state σ i k w (PM κ ε' σ R0) := by
  by_cases a : isE ε i ∧ 0 ≤ k ∧ k < cS κ ε i.toNat ∧ 0 ≤ w ∧ w ≤ 2
  · refine ⟨_, ε, fun tl σ hI => s_X9_state hκ hI hi hk hw (fun _ _ _ z => absurd a z) (fun τ k1 h1 _ _ _ _ _ => ⟨rfl, k1, h1⟩), fun σ hI => s_mstate hκ hV hI hi hk hw (fun _ _ _ z => absurd a z) (fun τ k1 h1 _ _ _ _ _ => ⟨rfl, k1, h1⟩)⟩
  · exact ⟨-1, ε, fun tl σ hI => s_X9_state hκ hI hi hk hw (fun τ k1 h1 _ => ⟨rfl, k1, h1⟩) (fun τ k1 h1 a1 a2 a3 a4 a5 => absurd ⟨a1, a2, a3, a4, a5⟩ a), fun σ hI => s_mstate hκ hV hI hi hk hw (fun τ k1 h1 _ => ⟨rfl, k1, h1⟩) (fun τ k1 h1 a1 a2 a3 a4 a5 => absurd ⟨a1, a2, a3, a4, a5⟩ a)⟩
theorem b_step (hκ : κ < 5) (hV : VE κ ε) {i k l : Int} (hi : rg i) (hk : rg k) (hl : rg l) : ∃ R0 ε', (∀ tl σ, CIv κ tl ε σ → w_X9_step κ σ i k l (PC κ tl ε' σ R0)) ∧ ∀ σ, MIv κ ε σ → w_X10_step σ i k l (PM κ ε' σ R0) := by
  by_cases a : stpOk κ ε i k l
  · exact ⟨_, ε, fun tl σ hI => s_X9_step hκ hI hi hk hl (fun _ _ _ z => absurd a z) (fun τ k1 h1 _ => ⟨rfl, k1, h1⟩), fun σ hI => s_mstep hκ hV hI hi hk hl (fun _ _ _ z => absurd a z) (fun τ k1 h1 _ => ⟨rfl, k1, h1⟩)⟩
  · exact ⟨-1, ε, fun tl σ hI => s_X9_step hκ hI hi hk hl (fun τ k1 h1 _ => ⟨rfl, k1, h1⟩) (fun _ _ _ z => absurd z a), fun σ hI => s_mstep hκ hV hI hi hk hl (fun τ k1 h1 _ => ⟨rfl, k1, h1⟩) (fun _ _ _ z => absurd z a)⟩
theorem b_price (hκ : κ < 5) (hV : VE κ ε) : ∃ R0 ε', (∀ tl σ, CIv κ tl ε σ → w_X9_price κ σ (PC κ tl ε' σ R0)) ∧ ∀ σ, MIv κ ε σ → w_X10_price σ (PM κ ε' σ R0) := by
  by_cases a : ∀ i : Nat, (i : Int) < ε 2 7 → rchd κ ε i
  · exact ⟨_, ε, fun tl σ hI => s_X9_price hκ hI (fun r τ k1 h1 z => ⟨z.1 a, k1, h1⟩), fun σ hI => s_mprice hκ hV hI (fun r τ k1 h1 _ _ z => ⟨z.1 a, k1, h1⟩)⟩
  · exact ⟨_, ε, fun tl σ hI => s_X9_price hκ hI (fun r τ k1 h1 z => ⟨z.2 a, k1, h1⟩), fun σ hI => s_mprice hκ hV hI (fun r τ k1 h1 _ _ z => ⟨z.2 a, k1, h1⟩)⟩
theorem b_stuck (hκ : κ < 5) (hV : VE κ ε) : ∃ R0 ε', (∀ tl σ, CIv κ tl ε σ → w_X9_stuck κ σ (PC κ tl ε' σ R0)) ∧ ∀ σ, MIv κ ε σ → w_X10_stuck σ (PM κ ε' σ R0) := by
  by_cases a : ∃ r, IsStk κ ε r
  · obtain ⟨r0, h0⟩ := a
    exact ⟨r0, ε, fun tl σ hI => s_X9_stuck hκ hI (fun r τ k1 h1 z => ⟨z.uq h0, k1, h1⟩), fun σ hI => s_mstuck hκ hV hI (fun r τ k1 h1 z => ⟨z.uq h0, k1, h1⟩)⟩
  · exact ⟨0, ε, fun tl σ hI => s_X9_stuck hκ hI (fun r τ k1 h1 z => absurd ⟨r, z⟩ a), fun σ hI => s_mstuck hκ hV hI (fun r τ k1 h1 z => absurd ⟨r, z⟩ a)⟩
theorem b_way (hκ : κ < 5) (hV : VE κ ε) {i : Int} (hi : rg i) : ∃ R0 ε', (∀ tl σ, CIv κ tl ε σ → w_X9_way κ σ i (PC κ tl ε' σ R0)) ∧ ∀ σ, MIv κ ε σ → w_X10_way σ i (PM κ ε' σ R0) := by
  by_cases a : isE ε i
  · by_cases b : ∀ i : Nat, (i : Int) < ε 2 7 → rchd κ ε i
    · exact ⟨_, ε, fun tl σ hI => s_X9_way hκ hI hi (fun z => absurd a z) (fun _ _ _ _ z => absurd b z) (fun τ k1 h1 _ _ => ⟨rfl, k1, h1⟩), fun σ hI => s_mway hκ hV hI hi (fun z => absurd a z) (fun _ _ _ _ z => absurd b z) (fun τ k1 h1 _ _ => ⟨rfl, k1, h1⟩)⟩
    · exact ⟨-2, ε, fun tl σ hI => s_X9_way hκ hI hi (fun z => absurd a z) (fun τ k1 h1 _ _ => ⟨rfl, k1, h1⟩) (fun _ _ _ _ z => absurd z b), fun σ hI => s_mway hκ hV hI hi (fun z => absurd a z) (fun τ k1 h1 _ _ => ⟨rfl, k1, h1⟩) (fun _ _ _ _ z => absurd z b)⟩
  · exact ⟨-1, ε, fun tl σ hI => s_X9_way hκ hI hi (fun _ => ⟨rfl, KM.rf, hI⟩) (fun _ _ _ z _ => absurd z a) (fun _ _ _ z _ => absurd z a), fun σ hI => s_mway hκ hV hI hi (fun _ => ⟨rfl, KCrf, hI⟩) (fun _ _ _ z _ => absurd z a) (fun _ _ _ z _ => absurd z a)⟩
theorem b_told (hκ : κ < 5) (hV : VE κ ε) {w : Int} (hw : rg w) : ∃ R0, (∀ tl σ, CIv κ tl ε σ → w_X9_told κ σ w (fun x => x = R0)) ∧ ∀ σ, MIv κ ε σ → w_X10_told σ w (fun x => x = R0) :=
  ⟨_, fun tl σ hI => s_X9_told hI hw rfl, fun σ hI => s_mtold hI.1 hV hw rfl⟩
theorem b_about (hκ : κ < 5) (hV : VE κ ε) {i w : Int} (hi : rg i) (hw : rg w) : ∃ R0, (∀ tl σ, CIv κ tl ε σ → w_X9_about κ σ i w (fun x => x = R0)) ∧ ∀ σ, MIv κ ε σ → w_X10_about σ i w (fun x => x = R0) := by
  by_cases a : isE ε i ∧ 0 ≤ w ∧ w ≤ 7
  · exact ⟨_, fun tl σ hI => s_X9_about hI hi hw (fun z => absurd a z) (fun _ _ _ => rfl), fun σ hI => s_mabout hI.1 hV hi hw (fun z => absurd a z) (fun _ _ _ => rfl)⟩
  · exact ⟨-1, fun tl σ hI => s_X9_about hI hi hw (fun _ => rfl) (fun a1 a2 a3 => absurd ⟨a1, a2, a3⟩ a), fun σ hI => s_mabout hI.1 hV hi hw (fun _ => rfl) (fun a1 a2 a3 => absurd ⟨a1, a2, a3⟩ a)⟩
/-- the memory behind the two constructors -/
def M0 (κ : Nat) : Mem := up2 (up2 (up2 (up2 (up2 (up2 (up2 (up2 (up2 (up2 (up2 (up2 (up2 (up2 (up2 (up2 (up2 (up2 (fun _ _ => 0) 0 0 (κ : Int)) 3 0 10) 3 1 400) 3 2 30) 3 3 0) 3 4 127) 3 5 34) 3 6 55) 3 7 62) 3 8 69) 3 9 76) 2 7 0) 1 6 0) 1 1 ((wd κ : Nat) : Int)) 14 3 0) 14 4 (-2)) 14 5 0) 14 0 ((wd κ : Nat) : Int)
def M1 (κ : Nat) : Mem := up2 (up2 (up2 (up2 (up2 (up2 (up2 (up2 (up2 (up2 (M0 κ) 17 0 (κ : Int)) 24 0 10) 24 1 400) 24 2 30) 24 4 127) 24 5 34) 24 6 55) 24 7 62) 24 8 69) 24 9 76
theorem M1_3 (κ : Nat) : M1 κ 24 = M1 κ 3 := by
  funext j
  match j with
  | 0 => rfl
  | 1 => rfl
  | 2 => rfl
  | 3 => rfl
  | 4 => rfl
  | 5 => rfl
  | 6 => rfl
  | 7 => rfl
  | 8 => rfl
  | 9 => rfl
  | n + 10 => simp [M1, M0, up2]
theorem M1_V (κ : Nat) : VE κ (M1 κ) := by
  refine ⟨⟨(by decide : (0 : Int) ≤ 0), (by decide : (0 : Int) ≤ 40)⟩, fun i hi => ?_, fun w hw => ?_⟩
  · have : (i : Int) < 0 := hi
    omega
  · match w, hw with
    | 0, _ => exact (show tb_from 0 ≤ 10 ∧ 10 ≤ tb_to 0 by decide)
    | 1, _ => exact (show tb_from 1 ≤ 400 ∧ 400 ≤ tb_to 1 by decide)
    | 2, _ => exact (show tb_from 2 ≤ 30 ∧ 30 ≤ tb_to 2 by decide)
    | 3, _ => exact (show tb_from 3 ≤ 0 ∧ 0 ≤ tb_to 3 by decide)
    | 4, _ => exact (show tb_from 4 ≤ 127 ∧ 127 ≤ tb_to 4 by decide)
    | 5, _ => exact (show tb_from 5 ≤ 34 ∧ 34 ≤ tb_to 5 by decide)
    | 6, _ => exact (show tb_from 6 ≤ 55 ∧ 55 ≤ tb_to 6 by decide)
    | 7, _ => exact (show tb_from 7 ≤ 62 ∧ 62 ≤ tb_to 7 by decide)
    | 8, _ => exact (show tb_from 8 ≤ 69 ∧ 69 ≤ tb_to 8 by decide)
    | 9, _ => exact (show tb_from 9 ≤ 76 ∧ 76 ≤ tb_to 9 by decide)
theorem M1_C (κ : Nat) : CIv κ false (M1 κ) (M1 κ) :=
  ⟨⟨rfl, rfl, rfl, rfl, rfl, rfl, rfl, rfl⟩, M1_V κ, rfl, rfl, rfl, ⟨(by decide : (0 : Int) ≤ 0), (by decide : (0 : Int) ≤ 0), fun i hi => absurd (show (i : Int) < 0 from hi) (by omega)⟩, Or.inl rfl, fun h => absurd h (by decide)⟩
theorem M1_M (κ : Nat) : MIv κ (M1 κ) (M1 κ) :=
  ⟨⟨rfl, rfl, rfl, rfl, rfl, rfl, rfl, rfl, M1_3 κ⟩, Or.inl rfl⟩
end BOTH
