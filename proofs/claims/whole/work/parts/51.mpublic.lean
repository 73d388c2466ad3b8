/-! the reference: event, drop, bound, pin, told, about -/
section MPUB
variable {κ : Nat} {σ ε : Mem} {post : Int → Mem → Prop}
theorem MIv.n {h : MIv κ ε σ} : σ 17 1 = ε 2 7 := h.1.2.1
theorem s_isWell {post : Int → Prop} (hκ : κ < 5) (h0 : σ 17 0 = (κ : Int)) {h t l p q r : Int} (hh : rg h) (ht : rg t) (hl : rg l) (hp : rg p) (hq : rg q) (hr : rg r) (hT : wellE κ h t l p q r → post 1) (hF : ¬ wellE κ h t l p q r → post 0) : w_X10_isWell σ h t l p q r post := by
  have htn : tb_notes κ = if κ = 2 ∨ κ = 3 then 1 else if κ = 4 then 2 else 3 := by
    rcases (show κ = 0 ∨ κ = 1 ∨ κ = 2 ∨ κ = 3 ∨ κ = 4 by omega) with rfl | rfl | rfl | rfl | rfl <;> decide
  have key : ∀ top : Int, top = (if κ = 0 then 1 else 0) → w_X10_isWell_B14 σ t l p q r top 0 h post := by
    intro top htop
    have hh1 : (0 ≤ h ∧ h ≤ top) ↔ (h = 0 ∨ (h = 1 ∧ κ = 0)) := by rw [htop]; split <;> omega
    have htr : rg top := by rw [htop]; split <;> exact rg_c _ rfl
    simp only [w_X10_isWell_B14, w_X10_isWell_B52, w_X10_isWell_B102, w_X10_isWell_B137, w_X10_isWell_B132, w_X10_isWell_B136, w_X10_isWell_B71, h0]
    refine s_in hh (rg_c _ rfl) htr (fun a1 a2 => ⟨rg_c _ rfl, fun z => absurd z (by decide), fun _ => ?_⟩) (fun a => ⟨rg_c _ rfl, fun _ => hF (fun z => a (hh1.mpr z.1)), fun z => absurd rfl z⟩)
    refine s_in ht (rg_c _ rfl) (rg_c _ rfl) (fun b1 b2 => ⟨rg_c _ rfl, fun z => absurd z (by decide), fun _ => ?_⟩) (fun a => ⟨rg_c _ rfl, fun _ => hF (fun z => a z.2.1), fun z => absurd rfl z⟩)
    refine s_in hl (rg_c _ rfl) (rg_c _ rfl) (fun c1 c2 => ⟨rg_c _ rfl, fun z => absurd z (by decide), fun _ => ?_⟩) (fun a => ⟨rg_c _ rfl, fun _ => hF (fun z => a z.2.2.1), fun z => absurd rfl z⟩)
    have hW : ¬ (1 ≤ hm p q r ∧ hm p q r ≤ tb_notes κ) → post 0 := fun z => hF (fun y => z y.2.2.2)
    have hY : 1 ≤ hm p q r → hm p q r ≤ tb_notes κ → post 1 := fun y z => hT ⟨hh1.mp ⟨a1, a2⟩, ⟨b1, b2⟩, ⟨c1, c2⟩, y, z⟩
    unfold hm at hW hY
    rw [htn] at hW hY
    refine s_in hp (rg_c _ rfl) (rg_c _ rfl) (fun d1 d2 => ⟨rg_c _ rfl, fun _ => ?_, fun z => absurd z (by decide)⟩) (fun a => ⟨rg_c _ rfl, fun z => absurd rfl z, fun _ => hW (by rw [if_neg a]; omega)⟩)
    rw [if_pos ⟨d1, d2⟩] at hW hY
    refine ⟨hq, fun e => ⟨by simp only [rg]; omega, fun f => ?_, fun f => ⟨by simp only [rg]; omega, fun g => ?_, fun g => ?_⟩⟩, fun e => ⟨hr, fun f => ⟨Or.inl rfl, ?_⟩, fun f => ⟨Or.inr rfl, ?_⟩⟩⟩
    · refine hW ?_
      rw [if_neg e, if_pos (show κ = 2 ∨ κ = 3 by omega)]
      split
      · split
        · omega
        · split <;> omega
      · omega
    · refine hW ?_
      rw [if_neg e, if_pos (show κ = 2 ∨ κ = 3 by omega)]
      split
      · split
        · omega
        · split <;> omega
      · omega
    · rw [if_neg e, if_neg (show ¬ (κ = 2 ∨ κ = 3) by omega)] at hW hY
      refine s_in hq (by simp only [rg]; omega) (rg_c _ rfl) (fun i1 i2 => ⟨rg_c _ rfl, fun _ => ?_, fun z => absurd z (by decide)⟩) (fun a => ⟨rg_c _ rfl, fun z => absurd rfl z, fun _ => hW (by rw [if_neg (by omega)]; omega)⟩)
      rw [if_pos (by omega)] at hW hY
      refine ⟨hr, fun j => ⟨Or.inr rfl, ?_⟩, fun j => ⟨by simp only [rg]; omega, fun k => ⟨Or.inl rfl, ?_⟩, fun k => ?_⟩⟩
      · rw [if_pos j] at hY
        exact hY (by decide) (by split <;> decide)
      · rw [if_neg j, if_pos (show κ = 4 by omega)] at hW
        exact hW (by split <;> omega)
      · rw [if_neg j, if_neg (show ¬ κ = 4 by omega)] at hW hY
        refine s_in hr (by simp only [rg]; omega) (rg_c _ rfl) (fun m1 m2 => ⟨rg_c _ rfl, fun z => absurd z (by decide), fun _ => ⟨Or.inr rfl, ?_⟩⟩) (fun a => ⟨rg_c _ rfl, fun _ => ⟨Or.inl rfl, hW (by rw [if_neg (by omega)]; omega)⟩, fun z => absurd rfl z⟩)
        rw [if_pos (by omega)] at hY
        exact hY (by decide) (by decide)
    · rw [if_pos e, if_neg f] at hW
      exact hW (by omega)
    · rw [if_pos e, if_pos f] at hY
      exact hY (by decide) (by split; decide; split <;> decide)
  simp only [w_X10_isWell, h0]
  exact ⟨by simp only [rg]; omega, fun a => key 0 (by rw [if_neg (by omega)]), fun a => key 1 (by rw [if_pos (by omega)])⟩
theorem hm_q {p q r : Int} (h : 1 ≤ hm p q r) : hm p q r = (if q < 0 then 1 else if r < 0 then 2 else 3) ∧ -1 ≤ q ∧ -1 ≤ r := by
  unfold hm at h ⊢
  by_cases c : 0 ≤ p ∧ p ≤ 127
  · simp only [if_pos c] at h ⊢
    by_cases d : q = -1
    · simp only [if_pos d, if_pos (show q < 0 by omega)] at h ⊢
      by_cases e : r = -1
      · simp only [if_pos e, true_and]; omega
      · simp only [if_neg e] at h; omega
    · simp only [if_neg d] at h ⊢
      by_cases e : p < q ∧ q ≤ 127
      · simp only [if_pos e, if_neg (show ¬ q < 0 by omega)] at h ⊢
        by_cases f : r = -1
        · simp only [if_pos f, if_pos (show r < 0 by omega), true_and]; omega
        · simp only [if_neg f] at h ⊢
          by_cases g : q < r ∧ r ≤ 127
          · simp only [if_pos g, if_neg (show ¬ r < 0 by omega), true_and]; omega
          · simp only [if_neg g] at h; omega
      · simp only [if_neg e] at h; omega
  · simp only [if_neg c] at h; omega
theorem s_mevent (hκ : κ < 5) (hV : VE κ ε) (hI : MIv κ ε σ) {h t l p q r : Int} (hh : rg h) (ht : rg t) (hl : rg l) (hp : rg p) (hq : rg q) (hr : rg r) (h1 : ¬ wellE κ h t l p q r → post (-1) σ) (h2 : wellE κ h t l p q r → notE κ ε h t → post (-3) σ) (h3 : wellE κ h t l p q r → ¬ notE κ ε h t → ¬ ε 2 7 < 40 → post (-4) σ) (h4 : wellE κ h t l p q r → ¬ notE κ ε h t → ε 2 7 < 40 → ∀ τ, KC σ τ → MIv κ (addE ε h t l p q r) τ → post (ε 2 7) τ) : w_X10_event σ h t l p q r post := by
  obtain ⟨⟨m0, m1, m18, m19, m20, m21, m22, m23, m24⟩, hF⟩ := id hI
  have hn := hV.1
  unfold w_X10_event
  refine s_isWell hκ m0 hh ht hl hp hq hr (fun w => ⟨rg_c _ rfl, fun _ => ?_, fun z => absurd z (by decide)⟩) (fun w => ⟨rg_c _ rfl, fun z => absurd rfl z, fun _ => h1 w⟩)
  obtain ⟨wq, wq1, wr1⟩ := hm_q w.2.2.2.1
  have key : ¬ notE κ ε h t → w_X10_event_B117 σ h t l p q r post := by
    intro nn
    simp only [w_X10_event_B117, w_X10_event_B191, m1]
    refine ⟨by simp only [rg]; omega, fun a => ?_, fun a => h3 w nn (by omega)⟩
    have ib : inb (ε 2 7) 40 := ⟨by omega, by omega, by omega⟩
    have fin : ∀ (s : Int), s = hm p q r → ∀ τ, τ = up2 (up2 (up2 (up2 (up2 (up2 (up2 (up2 (up2 (up2 σ 17 1 (ε 2 7 + 1)) 18 (ε 2 7).toNat h) 19 (ε 2 7).toNat t) 20 (ε 2 7).toNat l) 21 (ε 2 7).toNat s) 22 (3 * ε 2 7).toNat p) 22 (3 * ε 2 7 + 1).toNat q) 22 (3 * ε 2 7 + 2).toNat r) 23 (ε 2 7).toNat (-2)) 17 9 0 → post (ε 2 7) τ := by
      intro s hs τ e
      rw [show (3 * ε 2 7).toNat = 3 * (ε 2 7).toNat by omega, show (3 * ε 2 7 + 1).toNat = 3 * (ε 2 7).toNat + 1 by omega, show (3 * ε 2 7 + 2).toNat = 3 * (ε 2 7).toNat + 2 by omega] at e
      refine h4 w nn (by omega) τ (fun c hc => ?_) ⟨⟨?_, ?_, ?_, ?_, ?_, ?_, ?_, ?_, ?_⟩, Or.inl ?_⟩
      · rw [e, up2_k (by omega), up2_k (by omega), up2_k (by omega), up2_k (by omega), up2_k (by omega), up2_k (by omega), up2_k (by omega), up2_k (by omega), up2_k (by omega), up2_k (by omega)]
      · rw [e]; simp [up2, m0]
      · rw [e]; simp [up2, addE]
      · rw [e]; funext x; simp [up2, addE, m18]
      · rw [e]; funext x; simp [up2, addE, m19]
      · rw [e]; funext x; simp [up2, addE, m20]
      · rw [e]; funext x; simp [up2, addE, m21, hs]
      · rw [e]; funext x; simp [up2, addE, m22]
      · rw [e]; funext x; simp [up2, addE, m23]
      · rw [e]; funext x; simp [up2, addE, m24]
      · rw [e]; simp [up2]
    have go : ∀ (s : Int), s = hm p q r → ∀ σ5 : Mem, σ5 = up2 σ 17 1 (ε 2 7 + 1) → ∀ σ6 : Mem, σ6 = up2 σ5 18 (ε 2 7).toNat h → ∀ σ7 : Mem, σ7 = up2 σ6 19 (ε 2 7).toNat t → ∀ σ8 : Mem, σ8 = up2 σ7 20 (ε 2 7).toNat l → inb (ε 2 7) 40 ∧ ∀ σ9 : Mem, σ9 = up2 σ8 21 (ε 2 7).toNat s → inb (3 * ε 2 7) 120 ∧ ∀ σ10 : Mem, σ10 = up2 σ9 22 (3 * ε 2 7).toNat p → inb (3 * ε 2 7 + 1) 120 ∧ ∀ σ11 : Mem, σ11 = up2 σ10 22 (3 * ε 2 7 + 1).toNat q → inb (3 * ε 2 7 + 2) 120 ∧ ∀ σ12 : Mem, σ12 = up2 σ11 22 (3 * ε 2 7 + 2).toNat r → inb (ε 2 7) 40 ∧ ∀ σ13 : Mem, σ13 = up2 σ12 23 (ε 2 7).toNat (-2) → ∀ σ14 : Mem, σ14 = up2 σ13 17 9 0 → post (ε 2 7) σ14 := by
      intro s hs σ5 e5 σ6 e6 σ7 e7 σ8 e8
      refine ⟨ib, fun σ9 e9 => ⟨⟨by omega, by omega, by omega⟩, fun σ10 e10 => ⟨⟨by omega, by omega, by omega⟩, fun σ11 e11 => ⟨⟨by omega, by omega, by omega⟩, fun σ12 e12 => ⟨ib, fun σ13 e13 σ14 e14 => ?_⟩⟩⟩⟩⟩
      exact fin s hs σ14 (by rw [e14, e13, e12, e11, e10, e9, e8, e7, e6, e5])
    intro σ5 e5
    refine ⟨ib, fun σ6 e6 => ⟨ib, fun σ7 e7 => ⟨ib, fun σ8 e8 => ⟨hq, fun b => ⟨hr, fun c => ?_, fun c => ?_⟩, fun b => ?_⟩⟩⟩⟩
    · exact go 3 (by rw [wq, if_neg (by omega), if_neg (by omega)]) σ5 e5 σ6 e6 σ7 e7 σ8 e8
    · exact go 2 (by rw [wq, if_neg (by omega), if_pos c]) σ5 e5 σ6 e6 σ7 e7 σ8 e8
    · exact go 1 (by rw [wq, if_pos b]) σ5 e5 σ6 e6 σ7 e7 σ8 e8
  have hlast : ¬ (0 ≤ lst ε h ∧ (t ≤ ε 5 (lst ε h).toNat ∨ ((κ = 2 ∨ κ = 3) ∧ t < ε 5 (lst ε h).toNat + ε 6 (lst ε h).toNat))) → w_X10_event_B84 σ h t l p q r post := by
    intro na
    simp only [w_X10_event_B84, w_X10_event_B85, w_X10_event_B114, m1, m19]
    refine ⟨rg_c _ rfl, fun z => absurd rfl z, fun _ => ⟨by simp only [rg]; omega, fun a => key (fun z => ?_), fun a => ⟨by simp only [inb]; omega, ht, ?_, fun b => key (fun z => ?_), fun b => h2 w (Or.inr ⟨by omega, ?_⟩)⟩⟩⟩
    · rcases z with z | z
      · exact na z
      · omega
    · have := (hV.ev (v := ε 2 7 - 1) (by omega) (by omega)).2.1
      simp only [rg]; omega
    · rcases z with z | z
      · exact na z
      · rw [show (ε 2 7 - 1).toNat = (ε 2 7).toNat - 1 by omega] at b; omega
    · rw [show (ε 2 7 - 1).toNat = (ε 2 7).toNat - 1 by omega] at b; exact b
  have hlate : (0 ≤ lst ε h ∧ (t ≤ ε 5 (lst ε h).toNat ∨ ((κ = 2 ∨ κ = 3) ∧ t < ε 5 (lst ε h).toNat + ε 6 (lst ε h).toNat))) → w_X10_event_B80 σ h t l p q r post := by
    intro ya
    simp only [w_X10_event_B80, w_X10_event_B85, w_X10_event_B114]
    exact ⟨rg_c _ rfl, fun _ => h2 w (Or.inl ya), fun z => absurd z (by decide)⟩
  rw [m1, show ε 2 7 = (((ε 2 7).toNat : Nat) : Int) by omega]
  refine s_mbefore hI.1 hV (by omega) hh (fun e => ?_) (fun j e => ?_)
  · refine ⟨rg_c _ rfl, fun _ => hlast (fun z => ?_), fun z => absurd z (by decide)⟩
    have : lst ε h = -1 := e
    omega
  · have el : lst ε h = (j : Int) := e
    have hj : (j : Int) < ε 2 7 := by
      rcases lastH_spec (ε 4) h (ε 2 7).toNat with ⟨a, -⟩ | ⟨j', a, b, -⟩
      · omega
      · rw [e] at b; omega
    have hev := hV.2.1 j hj
    have et := hev.2.1
    have eL := hev.2.2.1
    simp only [w_X10_event_B61, m0, m19, m20, Int.toNat_natCast]
    rw [el, Int.toNat_natCast] at hlast hlate
    refine ⟨by simp only [rg]; omega, fun z => by omega, fun _ => ⟨by simp only [inb]; omega, ht, by simp only [rg]; omega, fun a => hlate ⟨by omega, Or.inl a⟩, fun a => ⟨by simp only [rg]; omega, fun b => ?_, fun b => ⟨by simp only [rg]; omega, fun c => hlast (fun z => by omega), fun c => ?_⟩⟩⟩⟩
    · exact ⟨by simp only [inb]; omega, by simp only [inb]; omega, ht, by simp only [rg]; omega, fun c => hlast (fun z => by omega), fun c => hlate ⟨by omega, Or.inr ⟨by omega, c⟩⟩⟩
    · exact ⟨by simp only [inb]; omega, by simp only [inb]; omega, ht, by simp only [rg]; omega, fun c => hlast (fun z => by omega), fun c => hlate ⟨by omega, Or.inr ⟨by omega, c⟩⟩⟩
theorem s_mdrop (hV : VE κ ε) (hI : MIv κ ε σ) (h1 : ε 2 7 = 0 → post (-2) σ) (h2 : 0 < ε 2 7 → ∀ τ, KC σ τ → MIv κ (drpE ε) τ → post (ε 2 7 - 1) τ) : w_X10_drop σ post := by
  obtain ⟨⟨m0, m1, m18, m19, m20, m21, m22, m23, m24⟩, hF⟩ := id hI
  have hn := hV.1
  unfold w_X10_drop
  rw [m1]
  refine ⟨by simp only [rg]; omega, fun a σ1 e1 σ2 e2 => ?_, fun a => h1 a⟩
  have e3 : σ2 17 1 = ε 2 7 - 1 := by rw [e2, e1]; simp [up2]
  rw [e3]
  refine h2 (by omega) σ2 (fun c hc => by rw [e2, up2_k (by omega), e1, up2_k (by omega)]) ⟨⟨?_, ?_, ?_, ?_, ?_, ?_, ?_, ?_, ?_⟩, Or.inl ?_⟩
  · rw [e2, e1]; simp [up2, m0]
  · rw [e3]; simp [up2, drpE]
  · rw [e2, e1]; funext x; simp [up2, drpE, m18]
  · rw [e2, e1]; funext x; simp [up2, drpE, m19]
  · rw [e2, e1]; funext x; simp [up2, drpE, m20]
  · rw [e2, e1]; funext x; simp [up2, drpE, m21]
  · rw [e2, e1]; funext x; simp [up2, drpE, m22]
  · rw [e2, e1]; funext x; simp [up2, drpE, m23]
  · rw [e2, e1]; funext x; simp [up2, drpE, m24]
  · rw [e2]; simp [up2]
theorem s_mbound (hI : MIv κ ε σ) {w v : Int} (hw : rg w) (hv : rg v) (h1 : ¬ bndOk w v → post (-1) σ) (h2 : bndOk w v → ∀ τ, KC σ τ → MIv κ (bndE ε w.toNat v) τ → post (ε 3 w.toNat) τ) : w_X10_bound σ w v post := by
  obtain ⟨⟨m0, m1, m18, m19, m20, m21, m22, m23, m24⟩, hF⟩ := id hI
  unfold w_X10_bound
  refine s_in hw (rg_c _ rfl) (rg_c _ rfl) (fun a1 a2 => ⟨rg_c _ rfl, fun _ => ?_, fun z => absurd z (by decide)⟩) (fun a => ⟨rg_c _ rfl, fun z => absurd rfl z, fun _ => h1 (fun z => by have := z.1; omega)⟩)
  have key : ∀ lo hi : Int, lo = tb_from w.toNat → hi = tb_to w.toNat → w_X10_bound_B61 σ w v lo hi post := by
    intro lo hi e1 e2
    have ht := tb_rg (w := w.toNat) (by omega)
    simp only [w_X10_bound_B61, m24]
    refine s_in hv (by simp only [rg]; omega) (by simp only [rg]; omega) (fun b1 b2 => ⟨rg_c _ rfl, fun _ => ?_, fun z => absurd z (by decide)⟩) (fun b => ⟨rg_c _ rfl, fun z => absurd rfl z, fun _ => h1 (fun z => b ⟨by rw [e1]; exact z.2.1, by rw [e2]; exact z.2.2⟩)⟩)
    refine ⟨⟨a1, by omega, by omega⟩, ⟨a1, by omega, by omega⟩, fun σ5 e5 σ6 e6 => ?_⟩
    refine h2 ⟨⟨a1, by omega⟩, by omega, by omega⟩ σ6 (fun c hc => by rw [e6, up2_k (by omega), e5, up2_k (by omega)]) ⟨⟨?_, ?_, ?_, ?_, ?_, ?_, ?_, ?_, ?_⟩, Or.inl ?_⟩
    · rw [e6, e5]; simp [up2, m0]
    · rw [e6, e5]; simp [up2, bndE, m1]
    · rw [e6, e5]; funext x; simp [up2, bndE, m18]
    · rw [e6, e5]; funext x; simp [up2, bndE, m19]
    · rw [e6, e5]; funext x; simp [up2, bndE, m20]
    · rw [e6, e5]; funext x; simp [up2, bndE, m21]
    · rw [e6, e5]; funext x; simp [up2, bndE, m22]
    · rw [e6, e5]; funext x; simp [up2, bndE, m23]
    · rw [e6, e5]; funext x; simp [up2, bndE, m24]
    · rw [e6]; simp [up2]
  have tabs : (tb_from w.toNat = if w = 1 then 1 else 0) ∧ (tb_to w.toNat = if w = 0 ∨ w = 5 then 100 else if w = 1 then 2000 else if w = 2 then 200 else 127) := by
    rcases (show w = 0 ∨ w = 1 ∨ w = 2 ∨ w = 3 ∨ w = 4 ∨ w = 5 ∨ w = 6 ∨ w = 7 ∨ w = 8 ∨ w = 9 by omega) with rfl | rfl | rfl | rfl | rfl | rfl | rfl | rfl | rfl | rfl <;> decide
  rw [tabs.1, tabs.2] at key
  have k22 : ∀ lo : Int, lo = (if w = 1 then 1 else 0) → w_X10_bound_B22 σ w v lo post := by
    intro lo hlo
    simp only [w_X10_bound_B22, w_X10_bound_B32]
    refine ⟨hw, fun b => key lo 100 hlo (by rw [if_pos (Or.inl b)]), fun b => ⟨hw, fun c => ⟨hw, fun d => ⟨hw, fun e => key lo 127 hlo ?_, fun e => key lo 200 hlo ?_⟩, fun d => key lo 2000 hlo ?_⟩, fun c => key lo 100 hlo (by rw [if_pos (Or.inr c)])⟩⟩
    · rw [if_neg (by omega), if_neg d, if_neg e]
    · rw [if_neg (by omega), if_neg d, if_pos e]
    · rw [if_neg (by omega), if_pos d]
  exact ⟨hw, fun b => k22 0 (by rw [if_neg b]), fun b => k22 1 (by rw [if_pos b])⟩
theorem s_mpin (hV : VE κ ε) (hI : MIv κ ε σ) {i s : Int} (hi : rg i) (hs : rg s) (h1 : ¬ (isE ε i ∧ -1 ≤ s ∧ s ≤ 99) → post (-1) σ) (h2 : isE ε i → -1 ≤ s → s ≤ 99 → ∀ τ, KC σ τ → MIv κ (pinE ε i.toNat (if s = -1 then -2 else s)) τ → post (ε 8 i.toNat) τ) : w_X10_pin σ i s post := by
  obtain ⟨⟨m0, m1, m18, m19, m20, m21, m22, m23, m24⟩, hF⟩ := id hI
  have hn := hV.1
  simp only [w_X10_pin, w_X10_pin_B24, m1, m23]
  refine s_in hi (rg_c _ rfl) (by simp only [rg]; omega) (fun a1 a2 => ⟨rg_c _ rfl, fun z => absurd z (by decide), fun _ => ?_⟩) (fun a => ⟨rg_c _ rfl, fun _ => h1 (fun z => a ⟨z.1.1, by have := z.1.2; omega⟩), fun z => absurd rfl z⟩)
  refine s_in hs (rg_c _ rfl) (rg_c _ rfl) (fun b1 b2 => ⟨rg_c _ rfl, fun _ => ?_, fun z => absurd z (by decide)⟩) (fun b => ⟨rg_c _ rfl, fun z => absurd rfl z, fun _ => h1 (fun z => b z.2)⟩)
  have ib : inb i 40 := ⟨a1, by omega, by omega⟩
  have key : ∀ x : Int, x = (if s = -1 then -2 else s) → w_X10_pin_B48 σ (ε 8 i.toNat) x i post := by
    intro x hx
    refine ⟨ib, fun σ5 e5 => ?_⟩
    rw [hx] at e5
    refine h2 ⟨a1, by omega⟩ b1 b2 σ5 (fun c hc => by rw [e5, up2_k (by omega)]) ⟨⟨?_, ?_, ?_, ?_, ?_, ?_, ?_, ?_, ?_⟩, ?_⟩
    · rw [e5]; simp [up2, m0]
    · rw [e5]; simp [up2, pinE, m1]
    · rw [e5]; funext x; simp [up2, pinE, m18]
    · rw [e5]; funext x; simp [up2, pinE, m19]
    · rw [e5]; funext x; simp [up2, pinE, m20]
    · rw [e5]; funext x; simp [up2, pinE, m21]
    · rw [e5]; funext x; simp [up2, pinE, m22]
    · rw [e5]; funext x; simp [up2, pinE, m23]
    · rw [e5]; funext x; simp [up2, pinE, m24]
    · have e17 : σ5 17 = σ 17 := by rw [e5, up2_k (by decide)]
      rw [e17]
      rcases hF with z | ⟨z, y⟩
      · exact Or.inl z
      · refine Or.inr ⟨z, fun j hj => ?_⟩
        rw [pinE_c 2 (by decide)] at hj
        rw [SL_pin hV hj]
        exact (y j hj).k (fun c c1 c2 => by rw [e5, up2_k (by omega)])
  exact ⟨ib, hs, fun c => key s (by rw [if_neg (by omega)]), fun c => key (-2) (by rw [if_pos (by omega)])⟩
end MPUB
