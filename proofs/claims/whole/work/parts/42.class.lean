/-! the class between two calls -/
def LsOk (κ : Nat) (ε σ : Mem) : Prop := 0 ≤ σ 1 6 ∧ σ 1 6 ≤ ε 2 7 ∧ ∀ i : Nat, (i : Int) < σ 1 6 → RowC (wd κ) σ i (SL κ ε i)
def TyOk (κ : Nat) (ε σ : Mem) : Prop := TW σ ∧ -1 ≤ σ 35 5 ∧ σ 35 5 ≤ 300 ∧ ∀ p : Nat, (p : Int) ≤ σ 35 5 → σ (σ 35 2).toNat p = cp (conv (tot κ ε 0) (tot κ ε 1) p)
def CIv (κ : Nat) (tl : Bool) (ε σ : Mem) : Prop := SP σ ε ∧ VE κ ε ∧ σ 0 0 = (κ : Int) ∧ σ 1 1 = (wd κ : Int) ∧ σ 14 0 = (wd κ : Int) ∧ LsOk κ ε σ ∧ (σ 14 5 = 0 ∨ (σ 14 5 = 1 ∧ SrOk κ ε σ)) ∧ (tl = true → TyOk κ ε σ)
/-- the class's own cells alone change -/
def KM (σ τ : Mem) : Prop := ∀ c, 17 ≤ c → c < 35 → τ c = σ c
theorem KM.rf {σ : Mem} : KM σ σ := fun _ _ _ => rfl
theorem CIv.mv {κ : Nat} {tl : Bool} {ε σ τ : Mem} (h : CIv κ tl ε σ) (e : ∀ c, c < 17 ∨ 35 ≤ c → τ c = σ c) : CIv κ tl ε τ := by
  obtain ⟨⟨h2, h3, h4, h5, h6, h7, h8, h9⟩, hV, h00, h11, h140, ⟨l0, l1, l2⟩, hs, ht⟩ := h
  refine ⟨⟨(e 2 (by omega)).trans h2, (e 3 (by omega)).trans h3, (e 4 (by omega)).trans h4, (e 5 (by omega)).trans h5, (e 6 (by omega)).trans h6, (e 7 (by omega)).trans h7, (e 8 (by omega)).trans h8, (e 9 (by omega)).trans h9⟩, hV, by rw [e 0 (by omega)]; exact h00, by rw [e 1 (by omega)]; exact h11, by rw [e 14 (by omega)]; exact h140, ?_, ?_, fun t => ?_⟩
  · unfold LsOk; rw [e 1 (by omega)]
    refine ⟨l0, l1, fun i hi => ?_⟩
    have := l2 i hi
    exact ⟨by rw [e 10 (by omega)]; exact this.1, fun k hk => by rw [e 11 (by omega), e 12 (by omega), e 13 (by omega)]; exact this.2 k hk⟩
  · unfold SrOk; rw [e 14 (by omega), e 15 (by omega)]; exact hs
  · have q := ht t
    unfold TyOk TW at q ⊢
    rw [e 35 (by omega)]
    refine ⟨q.1, q.2.1, q.2.2.1, fun p hp => ?_⟩
    rw [e (σ 35 2).toNat (by rcases q.1.2 with ⟨a, -⟩ | ⟨a, -⟩ <;> rw [a] <;> decide)]
    exact q.2.2.2 p hp
section CLASS
variable {κ : Nat} {tl : Bool} {σ ε : Mem}
/-- forgetAnswers, behind a change of the piece -/
theorem s_forget {post : Mem → Prop} {ε' : Mem} (hS : SP σ ε') (hV : VE κ ε') (h00 : σ 0 0 = (κ : Int)) (h11 : σ 1 1 = (wd κ : Int)) (h140 : σ 14 0 = (wd κ : Int)) (hL : LsOk κ ε' σ) (hT : tl = true → TW σ) (h : ∀ τ, (∀ c, c ≠ 14 → c ≠ 35 → τ c = σ c) → CIv κ tl ε' τ → post τ) : w_X9_forgetAnswers κ tl σ post := by
  have key : ∀ τ, (∀ c, c ≠ 14 → c ≠ 35 → τ c = σ c) → τ 14 0 = σ 14 0 → τ 14 5 = 0 → (tl = true → TyOk κ ε' τ) → post τ := by
    intro τ e e14 e5 hty
    refine h τ e ⟨?_, hV, by rw [e 0 (by decide) (by decide)]; exact h00, by rw [e 1 (by decide) (by decide)]; exact h11, by rw [e14]; exact h140, ?_, Or.inl e5, hty⟩
    · obtain ⟨h2, h3, h4, h5, h6, h7, h8, h9⟩ := hS
      exact ⟨(e 2 (by decide) (by decide)).trans h2, (e 3 (by decide) (by decide)).trans h3, (e 4 (by decide) (by decide)).trans h4, (e 5 (by decide) (by decide)).trans h5, (e 6 (by decide) (by decide)).trans h6, (e 7 (by decide) (by decide)).trans h7, (e 8 (by decide) (by decide)).trans h8, (e 9 (by decide) (by decide)).trans h9⟩
    · obtain ⟨l0, l1, l2⟩ := hL
      unfold LsOk; rw [e 1 (by decide) (by decide)]
      refine ⟨l0, l1, fun i hi => ?_⟩
      have := l2 i hi
      exact ⟨by rw [e 10 (by decide) (by decide)]; exact this.1, fun k hk => by rw [e 11 (by decide) (by decide), e 12 (by decide) (by decide), e 13 (by decide) (by decide)]; exact this.2 k hk⟩
  cases tl with
  | false =>
    intro σ1 e1
    exact key σ1 (fun c c1 _ => by rw [e1, up2_k c1]) (by rw [e1]; simp [up2]) (by rw [e1]; simp [up2]) (fun t => absurd t (by decide))
  | true =>
    intro σ1 e1 σ2 e2
    have ht := hT rfl
    have gx : ∀ x, x ≠ 5 → σ2 35 x = σ 35 x := fun x hx => by rw [e2]; simp only [up2, if_true, if_neg hx]; rw [e1, up2_k (by decide)]
    have g5 : σ2 35 5 = -1 := by rw [e2]; simp [up2]
    refine key σ2 (fun c c1 c2 => by rw [e2, up2_k c2, e1, up2_k c1]) (by rw [e2, up2_k (by decide), e1]; simp [up2]) (by rw [e2, up2_k (by decide), e1]; simp [up2]) (fun _ => ⟨?_, by omega, by omega, fun p hp => by omega⟩)
    unfold TW
    rw [gx 0 (by decide), gx 1 (by decide), gx 2 (by decide), gx 3 (by decide)]
    exact ht
theorem SP.up (h : SP σ ε) (k j : Nat) (v : Int) : SP (up2 σ k j v) (up2 ε k j v) := by
  obtain ⟨h2, h3, h4, h5, h6, h7, h8, h9⟩ := h
  have g : ∀ c, σ c = ε c → up2 σ k j v c = up2 ε k j v c := fun c e => by funext b; simp only [up2, e]
  exact ⟨g 2 h2, g 3 h3, g 4 h4, g 5 h5, g 6 h6, g 7 h7, g 8 h8, g 9 h9⟩
theorem SP.out (h : SP σ ε) {τ : Mem} (e : ∀ c, 2 ≤ c → c ≤ 9 → τ c = σ c) : SP τ ε := by
  obtain ⟨h2, h3, h4, h5, h6, h7, h8, h9⟩ := h
  exact ⟨(e 2 (by decide) (by decide)).trans h2, (e 3 (by decide) (by decide)).trans h3, (e 4 (by decide) (by decide)).trans h4, (e 5 (by decide) (by decide)).trans h5, (e 6 (by decide) (by decide)).trans h6, (e 7 (by decide) (by decide)).trans h7, (e 8 (by decide) (by decide)).trans h8, (e 9 (by decide) (by decide)).trans h9⟩
/-! how many notes; whether an event is well; whether it fits -/
def hm (p q r : Int) : Int := if 0 ≤ p ∧ p ≤ 127 then (if q = -1 then (if r = -1 then 1 else 0) else if p < q ∧ q ≤ 127 then (if r = -1 then 2 else if q < r ∧ r ≤ 127 then 3 else 0) else 0) else 0
theorem s_X1_howMany {post : Int → Prop} {p q r : Int} (hp : rg p) (hq : rg q) (hr : rg r) (h : post (hm p q r)) : w_X1_howMany σ p q r post := by
  simp only [w_X1_howMany_B10, w_X1_howMany_B39, w_X1_howMany_B64, w_X1_howMany_B63, w_X1_howMany_B27, w_X1_howMany]
  unfold hm at h
  refine ⟨hp, fun a => ?_, fun a => ⟨hp, fun b => ⟨hq, fun c => ⟨hq, hp, fun d => ?_, fun d => ⟨hq, fun e => ⟨hr, fun f => ⟨hr, hq, fun g => ?_, fun g => ⟨hr, fun k => ?_, fun k => ?_⟩⟩, fun f => ?_⟩, fun e => ?_⟩⟩, fun c => ⟨hr, fun d => ?_, fun d => ?_⟩⟩, fun b => ?_⟩⟩
  · rw [if_neg (by omega)] at h; exact h
  · rw [if_pos ⟨a, b⟩, if_neg c, if_neg (by omega)] at h; exact h
  · rw [if_pos ⟨a, b⟩, if_neg c, if_pos ⟨d, e⟩, if_neg f, if_neg (by omega)] at h; exact h
  · rw [if_pos ⟨a, b⟩, if_neg c, if_pos ⟨d, e⟩, if_neg f, if_neg (by omega)] at h; exact h
  · rw [if_pos ⟨a, b⟩, if_neg c, if_pos ⟨d, e⟩, if_neg f, if_pos ⟨g, k⟩] at h; exact h
  · rw [if_pos ⟨a, b⟩, if_neg c, if_pos ⟨d, e⟩, if_pos f] at h; exact h
  · rw [if_pos ⟨a, b⟩, if_neg c, if_neg (by omega)] at h; exact h
  · rw [if_pos ⟨a, b⟩, if_pos c, if_neg d] at h; exact h
  · rw [if_pos ⟨a, b⟩, if_pos c, if_pos d] at h; exact h
  · rw [if_neg (by omega)] at h; exact h
def wellE (κ : Nat) (h t l p q r : Int) : Prop := (h = 0 ∨ (h = 1 ∧ κ = 0)) ∧ (0 ≤ t ∧ t ≤ 100000) ∧ (1 ≤ l ∧ l ≤ 1000) ∧ 1 ≤ hm p q r ∧ hm p q r ≤ tb_notes κ
/-- the event doesn't fit those before it -/
def notE (κ : Nat) (ε : Mem) (h t : Int) : Prop := (0 ≤ lst ε h ∧ (t ≤ ε 5 (lst ε h).toNat ∨ ((κ = 2 ∨ κ = 3) ∧ t < ε 5 (lst ε h).toNat + ε 6 (lst ε h).toNat))) ∨ (ε 2 7 ≠ 0 ∧ t < ε 5 ((ε 2 7).toNat - 1))
theorem s_X9_fits {post : Int → Prop} (hκ : κ < 5) (hI : CIv κ tl ε σ) {h t : Int} (hh : rg h) (ht : 0 ≤ t ∧ t ≤ 100000) (hT : ¬ notE κ ε h t → post 1) (hF : notE κ ε h t → post 0) : w_X9_fits κ σ h t post := by
  obtain ⟨hS, hV, h00, -⟩ := hI
  have hn := hV.1
  have h81 : ¬ (0 ≤ lst ε h ∧ (t ≤ ε 5 (lst ε h).toNat ∨ ((κ = 2 ∨ κ = 3) ∧ t < ε 5 (lst ε h).toNat + ε 6 (lst ε h).toNat))) → w_X9_fits_B81 κ σ t post := by
    intro z
    unfold w_X9_fits_B81 w_X9_fits_B102 w_X9_fits_B107
    rw [hS.1]
    refine ⟨by simp only [rg]; omega, fun a => ⟨Or.inr rfl, hT (fun y => y.elim z (fun x => x.1 a))⟩, fun a => ?_⟩
    have tb := (hV.ev (v := ε 2 7 - 1) (by omega) (by omega)).2.1
    refine s_X1_timeOf hS hV (by omega) (by omega) ?_
    have e : (ε 2 7 - 1).toNat = (ε 2 7).toNat - 1 := by omega
    rw [e] at tb ⊢
    refine ⟨by simp only [rg]; omega, by simp only [rg]; omega, fun b => ⟨Or.inl rfl, hF (Or.inr ⟨a, b⟩)⟩, fun b => ⟨Or.inr rfl, hT (fun y => y.elim z (fun x => ?_))⟩⟩
    have := x.2
    omega
  refine s_X1_lastOfHand hS hV hh (by rw [hS.1]; omega) (by rw [hS.1]; omega) ?_
  rw [hS.1, show lastH (ε 4) h (ε 2 7).toNat = lst ε h from rfl]
  have hl : lst ε h = -1 ∨ (0 ≤ lst ε h ∧ lst ε h < ε 2 7) := by
    rcases lastH_spec (ε 4) h (ε 2 7).toNat with ⟨a, -⟩ | ⟨j, a, b, -⟩
    · exact Or.inl a
    · right; rw [show lst ε h = (j : Int) from b]; omega
  refine ⟨by simp only [rg]; omega, fun a => h81 (fun z => by omega), fun a => ?_⟩
  have hl2 : lst ε h < ε 2 7 := by omega
  have hev := hV.ev a hl2
  have h45 : ∀ s : Int, ((s = 1 ∧ (κ = 2 ∨ κ = 3)) ∨ (s = 0 ∧ ¬ (κ = 2 ∨ κ = 3))) → w_X9_fits_B45 κ σ t (lst ε h) s post := by
    intro s hs
    refine s_X1_timeOf hS hV a hl2 ⟨by simp only [rg]; omega, by have := hev.2.1; simp only [rg]; omega, fun b => hF (Or.inl ⟨a, Or.inl b⟩), fun b => ⟨by simp only [rg]; omega, fun c => h81 (fun z => ?_), fun c => s_X1_lengthOf hS hV a hl2 ⟨by simp only [rg]; omega, by have := hev.2.1; have := hev.2.2.1; simp only [rg]; omega, fun d => h81 (fun z => ?_), fun d => hF (Or.inl ⟨a, Or.inr ⟨by omega, d⟩⟩)⟩⟩⟩
    · rcases z.2 with y | y
      · omega
      · omega
    · rcases z.2 with y | y
      · omega
      · have := y.2; omega
  rw [h00]
  refine ⟨by simp only [rg]; omega, fun b => h45 1 (Or.inl ⟨rfl, by omega⟩), fun b => ⟨by simp only [rg]; omega, fun c => h45 0 (Or.inr ⟨rfl, by omega⟩), fun c => h45 1 (Or.inl ⟨rfl, by omega⟩)⟩⟩
/-- the piece with one event more -/
def addE (ε : Mem) (h t l p q r : Int) : Mem := up2 (up2 (up2 (up2 (up2 (up2 (up2 (up2 (up2 ε 4 (ε 2 7).toNat h) 5 (ε 2 7).toNat t) 6 (ε 2 7).toNat l) 7 (ε 2 7).toNat (hm p q r)) 8 (ε 2 7).toNat (-2)) 9 (3 * (ε 2 7).toNat) p) 9 (3 * (ε 2 7).toNat + 1) q) 9 (3 * (ε 2 7).toNat + 2) r) 2 7 (ε 2 7 + 1)
theorem s_X1_add {post : Mem → Prop} (hS : SP σ ε) (hn : 0 ≤ ε 2 7 ∧ ε 2 7 < 40) {h t l p q r : Int} (hp : rg p) (hq : rg q) (hr : rg r) (hh : ∀ τ, SP τ (addE ε h t l p q r) → (∀ c, c < 2 ∨ 9 < c → τ c = σ c) → post τ) : w_X1_add σ h t l p q r post := by
  have e0 : σ 2 7 = ε 2 7 := by rw [hS.1]
  obtain ⟨n, hnn⟩ : ∃ n : Nat, ε 2 7 = (n : Int) := ⟨(ε 2 7).toNat, by omega⟩
  rw [hnn] at e0
  have ib : inb (n : Int) 40 := by simp only [inb]; omega
  unfold w_X1_add w_X1_add_B16
  rw [e0, Int.toNat_natCast]
  refine ⟨by simp only [rg]; omega, fun z => by omega, fun _ => ⟨by simp only [rg]; omega, fun _ => ⟨ib, fun σ1 e1 => ?_⟩, fun z => by omega⟩⟩
  have k1 : σ1 2 7 = (n : Int) := by rw [e1, up2_k (by decide)]; exact e0
  rw [k1, Int.toNat_natCast]
  refine ⟨ib, fun σ2 e2 => ?_⟩
  have k2 : σ2 2 7 = (n : Int) := by rw [e2, up2_k (by decide)]; exact k1
  rw [k2, Int.toNat_natCast]
  refine ⟨ib, fun σ3 e3 => ?_⟩
  have k3 : σ3 2 7 = (n : Int) := by rw [e3, up2_k (by decide)]; exact k2
  rw [k3, Int.toNat_natCast]
  refine s_X1_howMany hp hq hr ⟨ib, fun σ6 e6 => ?_⟩
  have k6 : σ6 2 7 = (n : Int) := by rw [e6, up2_k (by decide)]; exact k3
  rw [k6, Int.toNat_natCast]
  refine ⟨ib, fun σ7 e7 => ?_⟩
  have k7 : σ7 2 7 = (n : Int) := by rw [e7, up2_k (by decide)]; exact k6
  rw [k7, show ((n : Int) * 3).toNat = 3 * n by omega]
  refine ⟨by simp only [inb]; omega, fun σ8 e8 => ?_⟩
  have k8 : σ8 2 7 = (n : Int) := by rw [e8, up2_k (by decide)]; exact k7
  rw [k8, show ((n : Int) * 3 + 1).toNat = 3 * n + 1 by omega]
  refine ⟨by simp only [inb]; omega, fun σ9 e9 => ?_⟩
  have k9 : σ9 2 7 = (n : Int) := by rw [e9, up2_k (by decide)]; exact k8
  rw [k9, show ((n : Int) * 3 + 2).toNat = 3 * n + 2 by omega]
  refine ⟨by simp only [inb]; omega, fun σ10 e10 σ11 e11 => ?_⟩
  have k10 : σ10 2 7 = (n : Int) := by rw [e10, up2_k (by decide)]; exact k9
  rw [k10] at e11
  refine hh σ11 ?_ (fun c hc => ?_)
  · unfold addE
    rw [hnn, Int.toNat_natCast, e11, e10, e9, e8, e7, e6, e3, e2, e1]
    exact ((((((((hS.up 4 n h).up 5 n t).up 6 n l).up 7 n (hm p q r)).up 8 n (-2)).up 9 (3 * n) p).up 9 (3 * n + 1) q).up 9 (3 * n + 2) r).up 2 7 _
  · rw [e11, up2_k (by omega), e10, up2_k (by omega), e9, up2_k (by omega), e8, up2_k (by omega), e7, up2_k (by omega), e6, up2_k (by omega), e3, up2_k (by omega), e2, up2_k (by omega), e1, up2_k (by omega)]
end CLASS
