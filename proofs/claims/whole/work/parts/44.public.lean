/-! the public methods of the class -/
section PUBLIC
variable {κ : Nat} {tl : Bool} {σ ε : Mem} {post : Int → Mem → Prop}
theorem tbn_rg (hκ : κ < 5) : 0 ≤ tb_notes κ ∧ tb_notes κ ≤ 3 := by
  rcases (show κ = 0 ∨ κ = 1 ∨ κ = 2 ∨ κ = 3 ∨ κ = 4 by omega) with rfl | rfl | rfl | rfl | rfl <;> decide
theorem hm_b (p q r : Int) : 0 ≤ hm p q r ∧ hm p q r ≤ 3 := by
  unfold hm
  split
  · split
    · split <;> omega
    · split
      · split
        · omega
        · split <;> omega
      · omega
  · omega
theorem s_X9_hasHand {post : Int → Prop} (hI : CIv κ tl ε σ) (hκ : κ < 5) {h : Int} (hh : rg h) (hT : (h = 0 ∨ (h = 1 ∧ κ = 0)) → post 1) (hF : ¬ (h = 0 ∨ (h = 1 ∧ κ = 0)) → post 0) : w_X9_hasHand κ σ h post := by
  simp only [w_X9_hasHand_B21, w_X9_hasHand_B16, w_X9_hasHand_B20, w_X9_hasHand, hI.2.2.1]
  exact ⟨hh, fun a => ⟨Or.inr rfl, hT (Or.inl a)⟩, fun a => ⟨hh, fun b => ⟨Or.inl rfl, hF (by omega)⟩, fun b => ⟨by simp only [rg]; omega, fun c => ⟨Or.inl rfl, hF (by omega)⟩, fun c => ⟨Or.inr rfl, hT (by omega)⟩⟩⟩⟩
/-- event -/
theorem s_X9_event (hκ : κ < 5) (hI : CIv κ tl ε σ) {h t l p q r : Int} (hh : rg h) (ht : rg t) (hl : rg l) (hp : rg p) (hq : rg q) (hr : rg r) (h1 : ¬ wellE κ h t l p q r → post (-1) σ) (h2 : wellE κ h t l p q r → notE κ ε h t → post (-3) σ) (h3 : wellE κ h t l p q r → ¬ notE κ ε h t → ¬ ε 2 7 < 40 → post (-4) σ) (h4 : wellE κ h t l p q r → ¬ notE κ ε h t → ε 2 7 < 40 → ∀ τ, KM σ τ → CIv κ tl (addE ε h t l p q r) τ → post (ε 2 7) τ) : w_X9_event κ tl σ h t l p q r post := by
  obtain ⟨hS, hV, h00, h11, h140, hLs, hSr, hTy⟩ := id hI
  have hn := hV.1
  have hb := hm_b p q r
  have htn := tbn_rg hκ
  simp only [w_X9_event, w_X9_event_B60]
  refine s_X1_howMany hp hq hr (s_X9_hasHand hI hκ hh (fun a => ⟨rg_c _ rfl, fun z => absurd z (by decide), fun _ => ⟨ht, fun b => h1 (fun z => by have := z.2.1; omega), fun b => ⟨ht, fun c => h1 (fun z => by have := z.2.1; omega), fun c => ⟨hl, fun d => h1 (fun z => by have := z.2.2.1; omega), fun d => ⟨hl, fun e => h1 (fun z => by have := z.2.2.1; omega), fun e => ⟨by simp only [rg]; omega, fun f => h1 (fun z => by have := z.2.2.2.1; omega), fun f => ?_⟩⟩⟩⟩⟩⟩) (fun a => ⟨rg_c _ rfl, fun _ => h1 (fun z => a z.1), fun z => absurd rfl z⟩))
  rw [h00, Int.toNat_natCast]
  refine ⟨by simp only [inb]; omega, by simp only [rg]; omega, by simp only [rg]; omega, fun g => ?_, fun g => h1 (fun z => by have := z.2.2.2.2; omega)⟩
  have hw : wellE κ h t l p q r := ⟨a, ⟨b, c⟩, ⟨d, e⟩, f, g⟩
  refine s_X9_fits hκ hI hh ⟨b, c⟩ (fun z => ⟨rg_c _ rfl, fun _ => ?_, fun y => absurd y (by decide)⟩) (fun z => ⟨rg_c _ rfl, fun y => absurd rfl y, fun _ => h2 hw z⟩)
  rw [hS.1]
  refine ⟨by simp only [rg]; omega, fun y => ?_, fun y => h3 hw z (by omega)⟩
  refine s_X1_add hS ⟨hn.1, y⟩ hp hq hr (fun σ8 hS8 e8 => ?_)
  have hVa := VE_add hV y hw hκ
  refine s_forget hS8 hVa (by rw [e8 0 (by omega)]; exact h00) (by rw [e8 1 (by omega)]; exact h11) (by rw [e8 14 (by omega)]; exact h140) ⟨by rw [e8 1 (by omega)]; exact hLs.1, by rw [e8 1 (by omega), addE_2]; have := hLs.2.1; omega, fun i hi => ?_⟩ (fun hb => by have := (hTy hb).1; unfold TW at this ⊢; rw [e8 35 (by omega)]; exact this) (fun σ10 e10 hI10 => ?_)
  · rw [e8 1 (by omega)] at hi
    have hi2 : (i : Int) < ε 2 7 := by have := hLs.2.1; omega
    rw [SL_add hV hi2]
    have := hLs.2.2 i hi
    exact ⟨by rw [e8 10 (by omega)]; exact this.1, fun k hk => by rw [e8 11 (by omega), e8 12 (by omega), e8 13 (by omega)]; exact this.2 k hk⟩
  · have e27 : σ10 2 7 - 1 = ε 2 7 := by rw [hI10.1.1, addE_2]; omega
    rw [e27]
    exact h4 hw z y σ10 (fun c c1 c2 => by rw [e10 c (by omega) (by omega), e8 c (by omega)]) hI10
/-- drop -/
theorem s_X9_drop (hI : CIv κ tl ε σ) (h1 : ε 2 7 = 0 → post (-2) σ) (h2 : 0 < ε 2 7 → ∀ τ, KM σ τ → CIv κ tl (drpE ε) τ → post (ε 2 7 - 1) τ) : w_X9_drop κ tl σ post := by
  obtain ⟨hS, hV, h00, h11, h140, hLs, hSr, hTy⟩ := id hI
  have hn := hV.1
  unfold w_X9_drop
  have e0 : σ 2 7 = ε 2 7 := by rw [hS.1]
  rw [e0]
  refine ⟨by simp only [rg]; omega, fun a => ?_, fun a => h1 a⟩
  intro σ1 e1
  have k16 : σ1 1 6 = σ 1 6 := by rw [e1, up2_k (by decide)]
  have k27 : σ1 2 7 = ε 2 7 - 1 := by rw [e1]; simp [up2]
  rw [k16, k27]
  have l0 := hLs.1
  have l1 := hLs.2.1
  refine ⟨by simp only [rg]; omega, by simp only [rg]; omega, fun σ2 e2 => ?_⟩
  have hc : ∀ c, c ≠ 1 → c ≠ 2 → σ2 c = σ c := fun c c1 c2 => by rw [e2, up2_k c1, e1, up2_k c2]
  have hx : ∀ x, x ≠ 6 → σ2 1 x = σ 1 x := fun x hx => by rw [e2]; simp only [up2, if_true, if_neg hx]; rw [e1, up2_k (by decide)]
  have h6 : σ2 1 6 = min (σ 1 6) (ε 2 7 - 1) := by rw [e2]; simp [up2]
  refine s_forget (ε' := drpE ε) ?_ (VE_drp hV (by omega)) (by rw [hc 0 (by decide) (by decide)]; exact h00) (by rw [hx 1 (by decide)]; exact h11) (by rw [hc 14 (by decide) (by decide)]; exact h140) ⟨by rw [h6]; omega, by rw [h6, drpE_2]; omega, fun i hi => ?_⟩ (fun hb => by have := (hTy hb).1; unfold TW at this ⊢; rw [hc 35 (by decide) (by decide)]; exact this) (fun τ et hIt => ?_)
  · have := (hS.up 2 7 (ε 2 7 - 1))
    refine SP.out (σ := σ1) (by rw [e1]; exact this) (fun c c1 c2 => by rw [e2, up2_k (by omega)])
  · rw [h6] at hi
    rw [SL_drp hV (by omega)]
    have := hLs.2.2 i (by omega)
    exact ⟨by rw [hc 10 (by decide) (by decide)]; exact this.1, fun k hk => by rw [hc 11 (by decide) (by decide), hc 12 (by decide) (by decide), hc 13 (by decide) (by decide)]; exact this.2 k hk⟩
  · have e27 : τ 2 7 = ε 2 7 - 1 := by rw [hIt.1.1, drpE_2]
    rw [e27]
    exact h2 (by omega) τ (fun c c1 c2 => by rw [et c (by omega) (by omega), hc c (by omega) (by omega)]) hIt
/-- bound -/
def bndOk (w v : Int) : Prop := (0 ≤ w ∧ w < 10) ∧ tb_from w.toNat ≤ v ∧ v ≤ tb_to w.toNat
theorem tb_rg {w : Nat} (hw : w < 10) : (0 ≤ tb_from w ∧ tb_from w ≤ 1) ∧ 0 ≤ tb_to w ∧ tb_to w ≤ 2000 := by
  match w, hw with
  | 0, _ => decide
  | 1, _ => decide
  | 2, _ => decide
  | 3, _ => decide
  | 4, _ => decide
  | 5, _ => decide
  | 6, _ => decide
  | 7, _ => decide
  | 8, _ => decide
  | 9, _ => decide
theorem s_X9_bound (hI : CIv κ tl ε σ) {w v : Int} (hw : rg w) (hv : rg v) (h1 : ¬ bndOk w v → post (-1) σ) (h2 : bndOk w v → ∀ τ, KM σ τ → CIv κ tl (bndE ε w.toNat v) τ → post (ε 3 w.toNat) τ) : w_X9_bound κ tl σ w v post := by
  obtain ⟨hS, hV, h00, h11, h140, hLs, hSr, hTy⟩ := id hI
  unfold w_X9_bound w_X9_bound_B30
  refine ⟨hw, fun a => h1 (fun z => by have := z.1; omega), fun a => ⟨hw, rg_c _ rfl, fun b => h1 (fun z => by have := z.1; omega), fun b => ?_⟩⟩
  have ht := tb_rg (w := w.toNat) (by omega)
  have ib : inb w 10 := ⟨a, b, by omega⟩
  refine ⟨ib, hv, by simp only [rg]; omega, fun c => h1 (fun z => by have := z.2.1; omega), fun c => ⟨ib, hv, by simp only [rg]; omega, fun d => ?_, fun d => h1 (fun z => by have := z.2.2; omega)⟩⟩
  refine s_X1_boundOf hS a (by omega) ?_
  refine ⟨hw, fun z => by omega, fun _ => ⟨hw, rg_c _ rfl, fun z => by omega, fun _ => ⟨ib, fun σ4 e4 => ?_⟩⟩⟩
  intro σ5 e5
  have hc : ∀ c, c ≠ 1 → c ≠ 3 → σ5 c = σ c := fun c c1 c2 => by rw [e5, up2_k c1, e4, up2_k c2]
  have hx : ∀ x, x ≠ 6 → σ5 1 x = σ 1 x := fun x hx => by rw [e5]; simp only [up2, if_true, if_neg hx]; rw [e4, up2_k (by decide)]
  have h6 : σ5 1 6 = 0 := by rw [e5]; simp [up2]
  refine s_forget (ε' := bndE ε w.toNat v) ?_ (VE_bnd hV ⟨c, d⟩) (by rw [hc 0 (by decide) (by decide)]; exact h00) (by rw [hx 1 (by decide)]; exact h11) (by rw [hc 14 (by decide) (by decide)]; exact h140) ⟨by rw [h6]; decide, by rw [h6, bndE_c 2 (by decide)]; exact hV.1.1, fun i hi => by rw [h6] at hi; omega⟩ (fun hb => by have := (hTy hb).1; unfold TW at this ⊢; rw [hc 35 (by decide) (by decide)]; exact this) (fun τ et hIt => ?_)
  · have := (hS.up 3 w.toNat v)
    exact SP.out (σ := σ4) (by rw [e4]; exact this) (fun c c1 c2 => by rw [e5, up2_k (by omega)])
  · exact h2 ⟨⟨a, b⟩, c, d⟩ τ (fun c c1 c2 => by rw [et c (by omega) (by omega), hc c (by omega) (by omega)]) hIt
/-- pin -/
def isE (ε : Mem) (i : Int) : Prop := 0 ≤ i ∧ i < ε 2 7
theorem s_has {post : Int → Prop} (hI : CIv κ tl ε σ) {v : Int} (hv : rg v) (hT : isE ε v → post 1) (hF : ¬ isE ε v → post 0) : w_X1_has σ v post := by
  refine s_X1_has hI.1 hI.2.1 hv ?_
  by_cases c : isE ε v
  · rw [if_pos (show 0 ≤ v ∧ v < ε 2 7 from c)]; exact hT c
  · rw [if_neg (show ¬ (0 ≤ v ∧ v < ε 2 7) from c)]; exact hF c
theorem s_X9_pin (hI : CIv κ tl ε σ) {i s : Int} (hi : rg i) (hs : rg s) (h1 : ¬ (isE ε i ∧ -1 ≤ s ∧ s ≤ 99) → post (-1) σ) (h2 : isE ε i → -1 ≤ s → s ≤ 99 → ∀ τ, KM σ τ → CIv κ tl (pinE ε i.toNat (if s = -1 then -2 else s)) τ → post (ε 8 i.toNat) τ) : w_X9_pin κ tl σ i s post := by
  obtain ⟨hS, hV, h00, h11, h140, hLs, hSr, hTy⟩ := id hI
  have hn := hV.1
  unfold w_X9_pin w_X9_pin_B25
  refine s_has hI hi (fun a => ⟨rg_c _ rfl, fun z => absurd z (by decide), fun _ => ⟨hs, fun b => h1 (fun z => by omega), fun b => ⟨hs, fun c => ?_, fun c => h1 (fun z => by omega)⟩⟩⟩) (fun a => ⟨rg_c _ rfl, fun _ => h1 (fun z => a z.1), fun z => absurd rfl z⟩)
  have h58 : ∀ v : Int, v = (if s = -1 then -2 else s) → w_X9_pin_B58 κ tl σ (ε 8 i.toNat) v i post := by
    intro v hv
    have e27 : σ 2 7 = ε 2 7 := by rw [hS.1]
    refine ⟨hi, fun z => absurd a.1 (by omega), fun _ => ⟨hi, by rw [e27]; simp only [rg]; omega, fun z => absurd a.2 (by omega), fun _ => ⟨⟨a.1, by have := a.2; omega, by have := a.2; omega⟩, fun σ6 e6 => ?_⟩⟩⟩
    have hc : ∀ c, c ≠ 8 → σ6 c = σ c := fun c c1 => by rw [e6, up2_k c1]
    refine s_forget (ε' := pinE ε i.toNat v) (by rw [e6]; exact hS.up 8 i.toNat v) (VE_pin hV (by rw [hv]; split <;> omega)) (by rw [hc 0 (by decide)]; exact h00) (by rw [hc 1 (by decide)]; exact h11) (by rw [hc 14 (by decide)]; exact h140) ⟨by rw [hc 1 (by decide)]; exact hLs.1, by rw [hc 1 (by decide), pinE_c 2 (by decide)]; exact hLs.2.1, fun j hj => ?_⟩ (fun hb => by have := (hTy hb).1; unfold TW at this ⊢; rw [hc 35 (by decide)]; exact this) (fun τ et hIt => ?_)
    · rw [hc 1 (by decide)] at hj
      rw [SL_pin hV (by have := hLs.2.1; omega)]
      have := hLs.2.2 j hj
      exact ⟨by rw [hc 10 (by decide)]; exact this.1, fun k hk => by rw [hc 11 (by decide), hc 12 (by decide), hc 13 (by decide)]; exact this.2 k hk⟩
    · rw [hv] at hIt
      exact h2 a b c τ (fun c c1 c2 => by rw [et c (by omega) (by omega), hc c (by omega)]) hIt
  refine s_X1_pinOf hS hV a.1 a.2 ⟨hs, fun d => h58 s (by rw [if_neg d]), fun d => h58 (-2) (by rw [if_pos d])⟩
/-- listing leaves the invariant -/
theorem CIv.ls {τ : Mem} (hI : CIv κ tl ε σ) (f : FrL σ τ) (e6 : τ 1 6 = ε 2 7) (hl : LstC κ ε τ) : CIv κ tl ε τ ∧ SC κ ε τ := by
  obtain ⟨hS, hV, h00, h11, h140, hLs, hSr, hTy⟩ := hI
  have hc := fun c (hc : c ≠ 1 ∧ c ≠ 10 ∧ c ≠ 11 ∧ c ≠ 12 ∧ c ≠ 13) => f.1 c hc.1 hc.2.1 hc.2.2.1 hc.2.2.2.1 hc.2.2.2.2
  have g11 : τ 1 1 = (wd κ : Int) := by rw [f.2 1 (by decide)]; exact h11
  have g14 : τ 14 0 = (wd κ : Int) := by rw [hc 14 (by decide)]; exact h140
  refine ⟨⟨f.sp hS, hV, by rw [hc 0 (by decide)]; exact h00, g11, g14, ⟨by rw [e6]; exact hV.1.1, by rw [e6]; exact Int.le_refl _, fun i hi => hl i (by rw [e6] at hi; exact hi)⟩, ?_, fun t => ?_⟩, f.sp hS, g11, g14, hl⟩
  · unfold SrOk; rw [hc 14 (by decide), hc 15 (by decide)]; exact hSr
  · have q := hTy t
    unfold TyOk TW at q ⊢
    rw [hc 35 (by decide)]
    refine ⟨q.1, q.2.1, q.2.2.1, fun p hp => ?_⟩
    rw [hc (σ 35 2).toNat (by rcases q.1.2 with ⟨a, -⟩ | ⟨a, -⟩ <;> rw [a] <;> decide)]
    exact q.2.2.2 p hp
theorem FrL.km {τ : Mem} (f : FrL σ τ) : KM σ τ := fun c c1 c2 => f.1 c (by omega) (by omega) (by omega) (by omega) (by omega)
theorem s_list {post : Mem → Prop} (hκ : κ < 5) (hI : CIv κ tl ε σ) (h : ∀ τ, KM σ τ → CIv κ tl ε τ → SC κ ε τ → post τ) : w_X2_listAll κ σ post := by
  obtain ⟨hS, hV, h00, h11, h140, hLs, hSr, hTy⟩ := id hI
  exact s_X2_listAll hκ hS hV h11 ⟨hLs.1, hLs.2.1⟩ hLs.2.2 (fun τ f e6 hl => h τ f.km (hI.ls f e6 hl).1 (hI.ls f e6 hl).2)
theorem s_X9_states (hκ : κ < 5) (hI : CIv κ tl ε σ) {i : Int} (hi : rg i) (h1 : ¬ isE ε i → post (-1) σ) (h2 : isE ε i → ∀ τ, KM σ τ → CIv κ tl ε τ → post (cS κ ε i.toNat) τ) : w_X9_states κ σ i post := by
  refine s_has hI hi (fun a => ⟨rg_c _ rfl, fun _ => ?_, fun z => absurd z (by decide)⟩) (fun a => ⟨rg_c _ rfl, fun z => absurd rfl z, fun _ => h1 a⟩)
  refine s_list hκ hI (fun τ km hIt hC => ?_)
  have e : i = ((i.toNat : Nat) : Int) := by have := a.1; omega
  rw [e]
  refine s_cnt hI.2.1 hC (by have := a.2; omega) ?_
  exact h2 a τ km hIt
theorem s_X9_hasState (hκ : κ < 5) (hI : CIv κ tl ε σ) {i k : Int} (hi : rg i) (hk : rg k) (h1 : ∀ τ, KM σ τ → CIv κ tl ε τ → ¬ (isE ε i ∧ 0 ≤ k ∧ k < cS κ ε i.toNat) → post 0 τ) (h2 : ∀ τ, KM σ τ → CIv κ tl ε τ → SC κ ε τ → isE ε i → 0 ≤ k → k < cS κ ε i.toNat → post 1 τ) : w_X9_hasState κ σ i k post := by
  simp only [w_X9_hasState_B44, w_X9_hasState_B43, w_X9_hasState]
  refine s_has hI hi (fun a => ⟨rg_c _ rfl, fun _ => ?_, fun z => absurd z (by decide)⟩) (fun a => ⟨rg_c _ rfl, fun z => absurd rfl z, fun _ => h1 σ KM.rf hI (fun z => a z.1)⟩)
  refine s_list hκ hI (fun τ km hIt hC => ⟨hk, fun b => ⟨Or.inl rfl, h1 τ km hIt (fun z => by omega)⟩, fun b => ?_⟩)
  have hw := cS_le hκ hI.2.1 (i := i.toNat) (by have := a.1; have := a.2; omega)
  have hwd := wd_le κ
  have e : i = ((i.toNat : Nat) : Int) := by have := a.1; omega
  rw [e]
  refine s_cnt hI.2.1 hC (by have := a.2; omega) ⟨hk, by simp only [rg]; omega, fun c => ⟨Or.inl rfl, h1 τ km hIt (fun z => by omega)⟩, fun c => ⟨Or.inr rfl, h2 τ km hIt hC a b c⟩⟩
theorem s_X9_state (hκ : κ < 5) (hI : CIv κ tl ε σ) {i k w : Int} (hi : rg i) (hk : rg k) (hw : rg w) (h1 : ∀ τ, KM σ τ → CIv κ tl ε τ → ¬ (isE ε i ∧ 0 ≤ k ∧ k < cS κ ε i.toNat ∧ 0 ≤ w ∧ w ≤ 2) → post (-1) τ) (h2 : ∀ τ, KM σ τ → CIv κ tl ε τ → isE ε i → 0 ≤ k → k < cS κ ε i.toNat → 0 ≤ w → w ≤ 2 → post (if w = 0 then e0 (SL κ ε i.toNat) k.toNat else if w = 1 then e1 (SL κ ε i.toNat) k.toNat else e2 (SL κ ε i.toNat) k.toNat) τ) : w_X9_state κ σ i k w post := by
  refine s_X9_hasState hκ hI hi hk (fun τ km hIt z => ⟨rg_c _ rfl, fun y => absurd rfl y, fun _ => h1 τ km hIt (fun y => z ⟨y.1, y.2.1, y.2.2.1⟩)⟩) (fun τ km hIt hC a b c => ⟨rg_c _ rfl, fun _ => ⟨hw, fun d => h1 τ km hIt (fun z => by omega), fun d => ?_, fun d => ?_, fun d => ?_⟩, fun y => absurd y (by decide)⟩)
  all_goals
    have hn := hI.2.1.1
    have a1 := a.1
    have a2 := a.2
    have hL := cS_le hκ hI.2.1 (i := i.toNat) (by omega)
    have hR := hC.2.2.2 i.toNat (by omega)
    have hh := h2 τ km hIt a b c (by omega) (by omega)
  · rw [if_pos d] at hh
    exact s_X2_priceOf hC.2.1 a1 (by omega) hR hL b c hh
  · rw [if_neg (by omega), if_pos d] at hh
    exact s_X2_firstOf hC.2.1 a1 (by omega) hR hL b c hh
  · rw [if_neg (by omega), if_neg (by omega)] at hh
    exact s_X2_secondOf hC.2.1 a1 (by omega) hR hL b c hh
/-- step -/
def stpOk (κ : Nat) (ε : Mem) (i k l : Int) : Prop := isE ε i ∧ (0 ≤ k ∧ k < cS κ ε i.toNat) ∧ 0 ≤ nxt ε i.toNat ∧ 0 ≤ l ∧ l < cS κ ε (nxt ε i.toNat).toNat
theorem nxt_rg {i : Nat} : nxt ε i = -1 ∨ (0 ≤ nxt ε i ∧ nxt ε i < ε 2 7) := by
  rcases nxt_spec (ε := ε) (i := i) with ⟨a, -⟩ | ⟨j, a, b, c, -⟩
  · exact Or.inl a
  · right; rw [c]; omega
theorem s_X9_step (hκ : κ < 5) (hI : CIv κ tl ε σ) {i k l : Int} (hi : rg i) (hk : rg k) (hl : rg l) (h1 : ∀ τ, KM σ τ → CIv κ tl ε τ → ¬ stpOk κ ε i k l → post (-1) τ) (h2 : ∀ τ, KM σ τ → CIv κ tl ε τ → stpOk κ ε i k l → post (sS κ ε i.toNat k.toNat (nxt ε i.toNat).toNat l.toNat) τ) : w_X9_step κ σ i k l post := by
  have hn := hI.2.1.1
  refine s_X9_hasState hκ hI hi hk (fun τ km hIt z => ⟨rg_c _ rfl, fun y => absurd rfl y, fun _ => h1 τ km hIt (fun y => z ⟨y.1, y.2.1⟩)⟩) (fun τ km hIt hC a b c => ⟨rg_c _ rfl, fun _ => ?_, fun y => absurd y (by decide)⟩)
  refine s_X1_after hC.1 hI.2.1 a.1 a.2 ?_
  have hnr := nxt_rg (ε := ε) (i := i.toNat)
  refine s_X9_hasState hκ hIt (by simp only [rg]; omega) hl (fun υ km2 hIu z => ⟨rg_c _ rfl, fun _ => h1 υ (fun c c1 c2 => (km2 c c1 c2).trans (km c c1 c2)) hIu (fun y => z ⟨⟨y.2.2.1, by have := y.2.2.1; omega⟩, y.2.2.2⟩), fun y => absurd rfl y⟩) (fun υ km2 hIu hCu a' b' c' => ⟨rg_c _ rfl, fun y => absurd y (by decide), fun _ => ?_⟩)
  have e1 : i = ((i.toNat : Nat) : Int) := by have := a.1; omega
  have e2 : k = ((k.toNat : Nat) : Int) := by omega
  have e3 : nxt ε i.toNat = (((nxt ε i.toNat).toNat : Nat) : Int) := by have := a'.1; omega
  have e4 : l = ((l.toNat : Nat) : Int) := by omega
  have hh := h2 υ (fun c c1 c2 => (km2 c c1 c2).trans (km c c1 c2)) hIu ⟨a, ⟨b, c⟩, a'.1, b', c'⟩
  have := s_st hκ hI.2.1 hCu (i := i.toNat) (k := k.toNat) (j := (nxt ε i.toNat).toNat) (l := l.toNat) (by have := a.2; omega) (by omega) (by have := a'.2; omega) (by omega) (post := fun r => post r υ) hh
  rw [← e1, ← e2, ← e3, ← e4] at this
  exact this
/-- refresh leaves the invariant, and the answers stand -/
theorem s_refr {post : Mem → Prop} (hκ : κ < 5) (hI : CIv κ tl ε σ) (h : ∀ τ, KM σ τ → CIv κ tl ε τ → SrOk κ ε τ → post τ) : w_X3_refresh κ σ post := by
  obtain ⟨hS, hV, h00, h11, h140, hLs, hSr, hTy⟩ := id hI
  refine s_X3_refresh hκ hS hV h11 h140 ⟨hLs.1, hLs.2.1⟩ hLs.2.2 (hSr.elim Or.inl (fun z => Or.inr z.1)) (fun z => ?_) (fun τ f e6 hl e5 hs => ?_)
  · rcases hSr with y | y
    · omega
    · exact h σ KM.rf hI y.2
  · have hc := fun c (hc : c ≠ 1 ∧ c ≠ 10 ∧ c ≠ 11 ∧ c ≠ 12 ∧ c ≠ 13 ∧ c ≠ 14 ∧ c ≠ 15 ∧ c ≠ 16) => f.1 c hc.1 hc.2.1 hc.2.2.1 hc.2.2.2.1 hc.2.2.2.2.1 hc.2.2.2.2.2.1 hc.2.2.2.2.2.2.1 hc.2.2.2.2.2.2.2
    refine h τ (fun c c1 c2 => hc c (by omega)) ⟨hS.out (fun c c1 c2 => hc c (by omega)), hV, by rw [hc 0 (by decide)]; exact h00, by rw [f.2.1 1 (by decide)]; exact h11, by rw [f.2.2]; exact h140, ⟨by rw [e6]; exact hV.1.1, by rw [e6]; exact Int.le_refl _, fun i hi => hl i (by rw [e6] at hi; exact hi)⟩, Or.inr ⟨e5, hs⟩, fun t => ?_⟩ hs
    have q := hTy t
    unfold TyOk TW at q ⊢
    rw [hc 35 (by decide)]
    refine ⟨q.1, q.2.1, q.2.2.1, fun p hp => ?_⟩
    rw [hc (σ 35 2).toNat (by rcases q.1.2 with ⟨a, -⟩ | ⟨a, -⟩ <;> rw [a] <;> decide)]
    exact q.2.2.2 p hp
/-- the answers of price, way and stuck -/
def IsPr (κ : Nat) (ε : Mem) (r : Int) : Prop := ((∀ i : Nat, (i : Int) < ε 2 7 → rchd κ ε i) → r = hsum κ ε 0 + hsum κ ε 1) ∧ (¬ (∀ i : Nat, (i : Int) < ε 2 7 → rchd κ ε i) → r = -2)
theorem stk_all {r : Int} (h : IsStk κ ε r) : r = -2 ↔ ∀ i : Nat, (i : Int) < ε 2 7 → rchd κ ε i := by
  rcases h with ⟨a, b⟩ | ⟨i, a, b, c, -⟩
  · exact ⟨fun _ => b, fun _ => a⟩
  · exact ⟨fun z => by omega, fun z => absurd (z i a) c⟩
theorem s_X9_price (hκ : κ < 5) (hI : CIv κ tl ε σ) (h : ∀ r τ, KM σ τ → CIv κ tl ε τ → IsPr κ ε r → post r τ) : w_X9_price κ σ post :=
  s_refr hκ hI (fun τ km hIt hs => h _ τ km hIt ⟨fun z => (hs.2.2 ((stk_all hs.1).mpr z)).1, fun z => hs.2.1 (fun y => z ((stk_all hs.1).mp y))⟩)
theorem s_X9_stuck (hκ : κ < 5) (hI : CIv κ tl ε σ) (h : ∀ r τ, KM σ τ → CIv κ tl ε τ → IsStk κ ε r → post r τ) : w_X9_stuck κ σ post :=
  s_refr hκ hI (fun τ km hIt hs => h _ τ km hIt hs.1)
theorem hsum_b (hκ : κ < 5) (hV : VE κ ε) (hr : ∀ i : Nat, (i : Int) < ε 2 7 → rchd κ ε i) (h : Int) : 0 ≤ hsum κ ε h ∧ hsum κ ε h ≤ 1000000000 := by
  unfold hsum
  split
  · omega
  · rename_i c
    rcases fst_spec (ε := ε) (h := h) with ⟨a, -⟩ | ⟨j, a, b, -⟩
    · omega
    · rw [b, Int.toNat_natCast]
      have hc := rchd_c (hr j a)
      have hk : chs κ ε j < cS κ ε j := by
        rw [chs_eq]
        split <;> exact amL_lt _ hc
      have := (rst_b40 hκ hV a hk).1
      omega
theorem s_X9_way (hκ : κ < 5) (hI : CIv κ tl ε σ) {i : Int} (hi : rg i) (h1 : ¬ isE ε i → post (-1) σ) (h2 : ∀ τ, KM σ τ → CIv κ tl ε τ → isE ε i → ¬ (∀ i : Nat, (i : Int) < ε 2 7 → rchd κ ε i) → post (-2) τ) (h3 : ∀ τ, KM σ τ → CIv κ tl ε τ → isE ε i → (∀ i : Nat, (i : Int) < ε 2 7 → rchd κ ε i) → post ((chs κ ε i.toNat : Nat) : Int) τ) : w_X9_way κ σ i post := by
  have hn := hI.2.1.1
  refine s_has hI hi (fun a => ⟨rg_c _ rfl, fun _ => ?_, fun z => absurd z (by decide)⟩) (fun a => ⟨rg_c _ rfl, fun z => absurd rfl z, fun _ => h1 a⟩)
  refine s_refr hκ hI (fun τ km hIt hs => ?_)
  by_cases c : ∀ i : Nat, (i : Int) < ε 2 7 → rchd κ ε i
  · obtain ⟨e1, e2⟩ := hs.2.2 ((stk_all hs.1).mpr c)
    have b0 := hsum_b hκ hI.2.1 c 0
    have b1 := hsum_b hκ hI.2.1 c 1
    rw [e1]
    refine ⟨by simp only [rg]; omega, fun _ => ?_, fun z => by omega⟩
    have e : i = ((i.toNat : Nat) : Int) := by have := a.1; omega
    have hlt : i.toNat < 40 := by have := a.1; have := a.2; omega
    have := s_X3_chosenOf (κ := κ) (σ := τ) (i := i.toNat) (post := fun r => post r τ) hlt (by rw [e2 i.toNat (by have := a.1; have := a.2; omega)]; exact h3 τ km hIt a c)
    rw [← e] at this
    exact this
  · rw [hs.2.1 (fun y => c ((stk_all hs.1).mp y))]
    exact ⟨rg_c _ rfl, fun z => absurd z (by decide), fun _ => h2 τ km hIt a c⟩
theorem s_X9_told {post : Int → Prop} (hI : CIv κ tl ε σ) {w : Int} (hw : rg w) (h : post (if w = 0 then ε 2 7 else if w = 1 then cntP (fun i => decide (ε 4 i = 0)) (ε 2 7).toNat else if w = 2 then cntP (fun i => decide (ε 4 i = 1)) (ε 2 7).toNat else if w = 3 then (κ : Int) else if w = 4 then cntP (fun i => decide (ε 8 i ≠ -2)) (ε 2 7).toNat else -1)) : w_X9_told κ σ w post := by
  obtain ⟨hS, hV, h00, -⟩ := hI
  refine ⟨hw, fun a => ?_, fun a => ?_, fun a => s_X1_countOfHand hS hV (rg_c _ rfl) ?_, fun a => s_X1_countOfHand hS hV (rg_c _ rfl) ?_, fun a => ?_, fun a => s_X1_countPinned hS hV ?_⟩
  · rw [if_neg (by omega), if_neg (by omega), if_neg (by omega), if_neg (by omega), if_neg (by omega)] at h; exact h
  · subst a; rw [hS.1]; exact h
  · subst a; exact h
  · subst a; exact h
  · subst a; rw [h00]; exact h
  · subst a; exact h
theorem s_X9_about {post : Int → Prop} (hI : CIv κ tl ε σ) {i w : Int} (hi : rg i) (hw : rg w) (h1 : ¬ (isE ε i ∧ 0 ≤ w ∧ w ≤ 7) → post (-1)) (h2 : isE ε i → 0 ≤ w → w ≤ 7 → post (if w = 0 then ε 4 i.toNat else if w = 1 then ε 5 i.toNat else if w = 2 then ε 6 i.toNat else if w = 3 then ε 7 i.toNat else if w = 7 then ε 8 i.toNat else pit ε i.toNat (w - 4).toNat)) : w_X9_about κ σ i w post := by
  obtain ⟨hS, hV, h00, -⟩ := id hI
  refine s_has hI hi (fun a => ⟨rg_c _ rfl, fun _ => ⟨hw, fun b => h1 (fun z => by omega), fun b => ?_, fun b => ?_, fun b => ?_, fun b => ?_, fun b => ?_, fun b => ?_, fun b => ?_, fun b => ?_⟩, fun z => absurd z (by decide)⟩) (fun a => ⟨rg_c _ rfl, fun z => absurd rfl z, fun _ => h1 (fun z => a z.1)⟩)
  · subst b; exact s_X1_handOf hS hV a.1 a.2 (h2 a (by decide) (by decide))
  · subst b; exact s_X1_timeOf hS hV a.1 a.2 (h2 a (by decide) (by decide))
  · subst b; exact s_X1_lengthOf hS hV a.1 a.2 (h2 a (by decide) (by decide))
  · subst b; exact s_X1_sizeOf hS hV a.1 a.2 (h2 a (by decide) (by decide))
  · subst b; exact s_X1_pitchOf hS hV a.1 a.2 (by decide) (by decide) (h2 a (by decide) (by decide))
  · subst b; exact s_X1_pitchOf hS hV a.1 a.2 (by decide) (by decide) (h2 a (by decide) (by decide))
  · subst b; exact s_X1_pitchOf hS hV a.1 a.2 (by decide) (by decide) (h2 a (by decide) (by decide))
  · subst b; exact s_X1_pinOf hS hV a.1 a.2 (h2 a (by decide) (by decide))
end PUBLIC
