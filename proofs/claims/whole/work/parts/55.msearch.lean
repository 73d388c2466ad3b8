/-! the reference: rests, chains, price -/
def WM (κ : Nat) (ε σ : Mem) (i : Nat) : Prop := ∀ k, k < cS κ ε i → σ 29 (80 * i + k) = rst κ ε i k
noncomputable def mc (κ : Nat) (ε : Mem) (h : Int) : Int := if fst ε h < 0 then 0 else mnL (rst κ ε (fst ε h).toNat) (cS κ ε (fst ε h).toNat)
section MSEARCH
variable {κ : Nat} {σ ε : Mem}
theorem mnL_s {f : Nat → Int} {l : Nat} : mnL f (l + 1) = if f l < mnL f l then f l else mnL f l := by
  simp only [mnL]
  split <;> omega
theorem bst_rg (hκ : κ < 5) (hV : VE κ ε) {i k : Nat} (hi : (i : Int) < ε 2 7) (hk : k < cS κ ε i) : 0 ≤ bst κ ε i k ∧ bst κ ε i k ≤ 1000000000 := by
  have := (rst_b40 hκ hV hi hk).2; omega
theorem rst_rg (hκ : κ < 5) (hV : VE κ ε) {i k : Nat} (hi : (i : Int) < ε 2 7) (hk : k < cS κ ε i) : 0 ≤ rst κ ε i k ∧ rst κ ε i k ≤ 1000000000 := by
  have := (rst_b40 hκ hV hi hk).1; omega
/-- the best way on -/
theorem s_mbest {post : Mem → Prop} {K11 K23 : Int → Mem → Prop} (hκ : κ < 5) (hV : VE κ ε) (hC : MC κ ε σ) {i k : Nat} {j : Int} (hi : (i : Int) < ε 2 7) (hk : k < cS κ ε i) (hj : (j = -2 ∧ nxt ε i = -1) ∨ (j = nxt ε i ∧ 0 ≤ j)) (hW : ∀ q : Nat, nxt ε i = (q : Int) → WM κ ε σ q) {b : Int} (hb : b = if j < 0 then 0 else 1000000000) (h : w_X10_reckon_B144 σ (i : Int) j (k : Int) (bst κ ε i k) post K11 K23) : w_X10_reckon_B43 σ (i : Int) j (k : Int) b post K11 K23 := by
  have hn := hV.1
  rcases hj with ⟨e, hx⟩ | ⟨e, h0⟩
  · refine ⟨1, ?_⟩
    show w_X10_reckon_L48_body σ (i : Int) j (k : Int) post K11 K23 _ b 0
    refine ⟨by simp only [rg]; omega, fun _ => ?_, fun z => by omega⟩
    rw [hb, if_pos (by omega)]
    have : bst κ ε i k = 0 := by unfold bst; rw [if_pos (by omega)]
    rw [this] at h
    exact h
  · obtain ⟨q, hq⟩ : ∃ q : Nat, nxt ε i = (q : Int) := ⟨(nxt ε i).toNat, by omega⟩
    obtain ⟨hiq, hqn, -⟩ := nxt_prv hq
    have hWq := hW q hq
    have hbst : bst κ ε i k = mnL (onw κ ε (rst κ ε q) i k q) (cS κ ε q) := by unfold bst; rw [if_neg (by omega), hq, Int.toNat_natCast]
    rw [hbst] at h
    rw [e, hq] at h ⊢
    refine lp2 (w_X10_reckon_L48 σ (i : Int) (q : Int) (k : Int) post K11 K23) (fun c u => ∃ l : Nat, u = (l : Int) ∧ l ≤ cS κ ε q ∧ c = mnL (onw κ ε (rst κ ε q) i k q) l) (fun c u => (100 - u).toNat) ?_ _ _ ⟨0, rfl, by omega, by rw [hb, if_neg (by omega)]; rfl⟩
    intro n c u ⟨l, hu, hl, hc⟩ ih
    subst hu
    have h80 := cS80 hκ hV hqn
    have hle := mnL_le (onw κ ε (rst κ ε q) i k q) l
    have hge : 0 ≤ mnL (onw κ ε (rst κ ε q) i k q) l := by
      rcases mnL_is (onw κ ε (rst κ ε q) i k q) l with z | ⟨y, y1, y2⟩
      · omega
      · rw [y2]
        have r := rst_rg hκ hV hqn (k := y) (by omega)
        have s := sS_b hκ hV hi hk hqn (l := y) (by omega)
        unfold onw
        split <;> omega
    show w_X10_reckon_L48_body σ (i : Int) (q : Int) (k : Int) post K11 K23 _ _ _
    simp only [w_X10_reckon_L48_body, Int.toNat_natCast, hC.cn hqn]
    refine ⟨by simp only [rg]; omega, fun z => by omega, fun _ => ⟨by simp only [inb]; omega, by simp only [rg]; omega, by simp only [rg]; omega, fun a => ?_, fun a => ?_⟩⟩
    · rw [hc, show l = cS κ ε q by omega]
      exact h
    · have hlq : l < cS κ ε q := by omega
      have r := rst_rg hκ hV hqn hlq
      have s := sS_b hκ hV hi hk hqn hlq
      have ex : (80 * (q : Int) + (l : Int)).toNat = 80 * q + l := by omega
      have ib : inb (80 * (q : Int) + (l : Int)) 3200 := ⟨by omega, by omega, by omega⟩
      rw [ex, hWq l hlq]
      have nx : ∀ d : Int, d = mnL (onw κ ε (rst κ ε q) i k q) (l + 1) → w_X10_reckon_L48 σ (i : Int) (q : Int) (k : Int) post K11 K23 n d ((l : Int) + 1) := fun d hd => ih _ _ ⟨l + 1, by push_cast; rfl, by omega, hd⟩ (by omega)
      have go : ∀ x : Int, ((rst κ ε q l ≥ 1000000000 ∧ x = -2) ∨ (rst κ ε q l < 1000000000 ∧ x = sS κ ε i k q l)) → w_X10_reckon_B94 σ (i : Int) (q : Int) (k : Int) c (l : Int) x post K11 K23 (w_X10_reckon_L48 σ (i : Int) (q : Int) (k : Int) post K11 K23 n) := by
        intro x hx
        simp only [w_X10_reckon_B94, w_X10_reckon_B138, ex, hWq l hlq]
        have hon : (x = -2 → onw κ ε (rst κ ε q) i k q l = 1000000000) ∧ (0 ≤ x → onw κ ε (rst κ ε q) i k q l = x + rst κ ε q l) := by
          unfold onw
          constructor
          · intro z; rw [if_pos (by omega)]
          · intro z; rw [if_neg (by omega)]; omega
        refine ⟨by simp only [rg]; omega, fun d => nx c ?_, fun d => ⟨ib, by simp only [rg]; omega, by simp only [rg]; omega, fun f => nx c ?_, fun f => ⟨ib, nx _ ?_⟩⟩⟩
        · rw [mnL_s, hon.1 (by omega), if_neg (by omega), hc]
        · rw [mnL_s, hon.2 d, if_neg (by omega), hc]
        · rw [mnL_s, hon.2 d, if_pos (by omega)]
      refine ⟨ib, by simp only [rg]; omega, fun d => go (-2) (Or.inl ⟨d, rfl⟩), fun d => s_mst hκ hV hC hi hk hqn hlq (go _ (Or.inr ⟨d, rfl⟩))⟩
theorem up29 {τ υ : Mem} {x : Nat} {v : Int} (e : υ = up2 τ 29 x v) : (∀ c, c ≠ 29 → υ c = τ c) ∧ υ 29 x = v ∧ ∀ y, y ≠ x → υ 29 y = τ 29 y := by
  refine ⟨fun c hc => by rw [e, up2_k hc], by rw [e]; simp [up2], fun y hy => by rw [e]; simp [up2, hy]⟩
theorem s_mreckon {post : Mem → Prop} (hκ : κ < 5) (hV : VE κ ε) (hI : MIv κ ε σ) (h : ∀ τ, KC σ τ → MIv κ ε τ → MC κ ε τ → (∀ i : Nat, (i : Int) < ε 2 7 → WM κ ε τ i) → post τ) : w_X10_reckon σ post := by
  have hn := hV.1
  refine s_mfind hκ hV hI (fun σ2 kc hI2 hC2 => ?_)
  rw [hC2.1.2.1]
  refine lp2 (w_X10_reckon_L11 post) (fun u τ => -1 ≤ u ∧ u < ε 2 7 ∧ (∀ c, c ≠ 29 → τ c = σ2 c) ∧ ∀ i : Nat, u < i → (i : Int) < ε 2 7 → WM κ ε τ i) (fun u τ => (u + 1).toNat) ?_ _ _ ⟨by omega, by omega, fun _ _ => rfl, fun i a b => by omega⟩
  intro n u τ ⟨u0, u1, hfr, hW⟩ ih
  have hCt : MC κ ε τ := hC2.k (fun c c1 c2 => hfr c (by omega))
  show w_X10_reckon_L11_body post _ _ _
  refine ⟨by simp only [rg]; omega, fun a => ?_, fun a => ?_⟩
  · refine h τ (kc.tr (fun c hc => hfr c (by omega))) (hI2.mv' hfr) hCt (fun i hi => hW i (by omega) hi)
  · obtain ⟨i, rfl⟩ : ∃ i : Nat, u = (i : Int) := ⟨u.toNat, by omega⟩
    have key : ∀ j : Int, ((j = -2 ∧ nxt ε i = -1) ∨ (j = nxt ε i ∧ 0 ≤ j)) → ∃ n_1, w_X10_reckon_L23 (i : Int) j post (w_X10_reckon_L11 post n) n_1 0 τ := by
      intro j hj
      refine lp2 (w_X10_reckon_L23 (i : Int) j post (w_X10_reckon_L11 post n)) (fun u υ => ∃ k : Nat, u = (k : Int) ∧ k ≤ cS κ ε i ∧ (∀ c, c ≠ 29 → υ c = σ2 c) ∧ (∀ q : Nat, i < q → (q : Int) < ε 2 7 → WM κ ε υ q) ∧ ∀ k', k' < k → υ 29 (80 * i + k') = rst κ ε i k') (fun u υ => (100 - u).toNat) ?_ _ _ ⟨0, rfl, by omega, hfr, fun q q1 q2 => hW q (by omega) q2, fun k' hk' => by omega⟩
      intro n2 u υ ⟨k, hu, hk, hfu, hWu, hrow⟩ ih2
      subst hu
      have hCu : MC κ ε υ := hC2.k (fun c c1 c2 => hfu c (by omega))
      have h80 := cS80 hκ hV u1
      have jr : rg j := by
        rcases nxt_rg (ε := ε) (i := i) with z | z <;> simp only [rg] <;> omega
      show w_X10_reckon_L23_body (i : Int) j post _ _ _ _
      simp only [w_X10_reckon_L23_body, Int.toNat_natCast, hCu.cn u1]
      have step : k < cS κ ε i → w_X10_reckon_B144 υ (i : Int) j (k : Int) (bst κ ε i k) post (w_X10_reckon_L11 post n) (w_X10_reckon_L23 (i : Int) j post (w_X10_reckon_L11 post n) n2) := by
        intro hkc
        have hb := bst_rg hκ hV u1 hkc
        have hp := pS_b hκ hV u1 hkc
        have hre := rst_eq κ ε u1 k
        have ex : (80 * (i : Int) + (k : Int)).toNat = 80 * i + k := by omega
        have ib : inb (80 * (i : Int) + (k : Int)) 3200 := ⟨by omega, by omega, by omega⟩
        have put : ∀ v : Int, v = rst κ ε i k → w_X10_reckon_B189 υ (i : Int) j (k : Int) v (80 * (i : Int) + (k : Int)) post (w_X10_reckon_L11 post n) (w_X10_reckon_L23 (i : Int) j post (w_X10_reckon_L11 post n) n2) := by
          intro v hv
          refine ⟨ib, fun ω e => ?_⟩
          rw [ex] at e
          obtain ⟨e1, e2, e3⟩ := up29 e
          refine ih2 _ _ ⟨k + 1, by push_cast; rfl, by omega, fun c hc => by rw [e1 c hc, hfu c hc], fun q q1 q2 k' hk' => ?_, fun k' hk' => ?_⟩ (by omega)
          · have := cS80 hκ hV q2
            rw [e3 _ (by omega)]
            exact hWu q q1 q2 k' hk'
          · rcases Nat.lt_or_eq_of_le (Nat.le_of_lt_succ hk') with z | z
            · rw [e3 _ (by omega)]; exact hrow k' z
            · rw [z, e2, hv]
        simp only [w_X10_reckon_B144, w_X10_reckon_B170]
        refine ⟨by simp only [rg]; omega, fun b => put _ (hre.2 (fun z => by omega)).symm, fun b => s_isLet hCu.1 hV u1 (by simp only [rg]; omega) (fun c => ⟨rg_c _ rfl, fun _ => ⟨ib, ?_⟩, fun z => absurd z (by decide)⟩) (fun c => ⟨rg_c _ rfl, fun z => absurd rfl z, fun _ => put _ (hre.2 (fun z => c z.1)).symm⟩)⟩
        rw [ex, (hCu.at u1 hkc).1]
        exact put _ (hre.1 c b).symm
      refine ⟨by simp only [inb]; omega, by simp only [rg]; omega, by simp only [rg]; omega, fun b => ?_, fun b => ⟨jr, fun c => ?_, fun c => ?_⟩⟩
      · refine ih _ _ ⟨by omega, by omega, hfu, fun q q1 q2 => ?_⟩ (by omega)
        by_cases e : q = i
        · subst e
          exact fun k' hk' => hrow k' (by omega)
        · exact hWu q (by omega) q2
      · exact s_mbest hκ hV hCu u1 (by omega) hj (fun q hq => hWu q (nxt_prv hq).1 (nxt_prv hq).2.1) (by rw [if_neg (by omega)]) (step (by omega))
      · exact s_mbest hκ hV hCu u1 (by omega) hj (fun q hq => hWu q (nxt_prv hq).1 (nxt_prv hq).2.1) (by rw [if_pos c]) (step (by omega))
    exact s_mafter hCt.1 hV u1 (fun e => key _ (Or.inl ⟨rfl, e⟩)) (fun j e => key _ (Or.inr ⟨e.symm, by omega⟩))
theorem mc_b (hκ : κ < 5) (hV : VE κ ε) {h : Int} : 0 ≤ mc κ ε h ∧ mc κ ε h ≤ 1000000000 ∧ (mc κ ε h < 1000000000 → mc κ ε h ≤ 92040) := by
  unfold mc
  split
  · omega
  · rename_i c
    rcases fst_spec (ε := ε) (h := h) with ⟨a, -⟩ | ⟨j, a, b, -⟩
    · omega
    · rw [b, Int.toNat_natCast]
      rcases mnL_is (rst κ ε j) (cS κ ε j) with z | ⟨y, y1, y2⟩
      · omega
      · have := (rst_b40 hκ hV a y1).1
        omega
theorem s_mchain {post : Int → Prop} (hκ : κ < 5) (hV : VE κ ε) (hC : MC κ ε σ) (hW : ∀ i : Nat, (i : Int) < ε 2 7 → WM κ ε σ i) {x : Int} (hx : rg x) (h : post (mc κ ε x)) : w_X10_chain σ x post := by
  have hn := hV.1
  unfold mc at h
  refine s_mfirst hC.1 hV hx (fun e => ⟨rg_c _ rfl, fun z => absurd z (by decide), fun _ => ?_⟩) (fun j e => ?_)
  · rw [if_pos (by omega)] at h; exact h
  · rw [if_neg (by omega), e, Int.toNat_natCast] at h
    have hj : (j : Int) < ε 2 7 := by
      rcases fst_spec (ε := ε) (h := x) with ⟨a, -⟩ | ⟨j', a, b, -⟩
      · omega
      · rw [e] at b; omega
    have h80 := cS80 hκ hV hj
    refine ⟨by simp only [rg]; omega, fun _ => ?_, fun z => by omega⟩
    refine lp2 (w_X10_chain_L18 σ (j : Int) post) (fun c u => ∃ k : Nat, u = (k : Int) ∧ k ≤ cS κ ε j ∧ c = mnL (rst κ ε j) k) (fun c u => (100 - u).toNat) ?_ _ _ ⟨0, rfl, by omega, rfl⟩
    intro n c u ⟨k, hu, hk, hc⟩ ih
    subst hu
    have hle := mnL_le (rst κ ε j) k
    have hge : 0 ≤ mnL (rst κ ε j) k := by
      rcases mnL_is (rst κ ε j) k with z | ⟨y, y1, y2⟩
      · omega
      · have := rst_rg hκ hV hj (k := y) (by omega); omega
    show w_X10_chain_L18_body σ (j : Int) post _ _ _
    simp only [w_X10_chain_L18_body, w_X10_chain_B61, Int.toNat_natCast, hC.cn hj]
    refine ⟨by simp only [inb]; omega, by simp only [rg]; omega, by simp only [rg]; omega, fun a => ?_, fun a => ?_⟩
    · rw [hc, show k = cS κ ε j by omega]; exact h
    · have hkc : k < cS κ ε j := by omega
      have r := rst_rg hκ hV hj hkc
      have ex : (80 * (j : Int) + (k : Int)).toNat = 80 * j + k := by omega
      have ib : inb (80 * (j : Int) + (k : Int)) 3200 := ⟨by omega, by omega, by omega⟩
      rw [ex, hW j hj k hkc]
      refine ⟨ib, by simp only [rg]; omega, by simp only [rg]; omega, fun b => ih _ _ ⟨k + 1, by push_cast; rfl, by omega, ?_⟩ (by omega), fun b => ⟨ib, ih _ _ ⟨k + 1, by push_cast; rfl, by omega, ?_⟩ (by omega)⟩⟩
      · rw [mnL_s, if_neg (by omega), hc]
      · rw [mnL_s, if_pos (by omega)]
/-! reached and to be ended -/
def Gd (κ : Nat) (ε : Mem) (i : Nat) : Prop := ∃ k, k < cS κ ε i ∧ rch κ ε i k ∧ rst κ ε i k < 1000000000
theorem rst_let {i k : Nat} (hi : (i : Int) < ε 2 7) (h : rst κ ε i k < 1000000000) : lets ε i (k : Int) ∧ bst κ ε i k < 1000000000 ∧ rst κ ε i k = bst κ ε i k + pS κ ε i k := by
  have hre := rst_eq κ ε hi k
  by_cases c : lets ε i (k : Int) ∧ bst κ ε i k < 1000000000
  · exact ⟨c.1, c.2, hre.1 c.1 c.2⟩
  · rw [hre.2 c] at h; omega
theorem bst_ex {i k : Nat} {j : Nat} (hj : nxt ε i = (j : Int)) (h : bst κ ε i k < 1000000000) : ∃ l, l < cS κ ε j ∧ sS κ ε i k j l ≠ -2 ∧ rst κ ε j l < 1000000000 := by
  unfold bst at h
  rw [if_neg (by omega), hj, Int.toNat_natCast] at h
  rcases mnL_is (onw κ ε (rst κ ε j) i k j) (cS κ ε j) with z | ⟨l, l1, l2⟩
  · omega
  · rw [l2] at h
    unfold onw at h
    split at h
    · omega
    · rename_i c; exact ⟨l, l1, fun z => c (Or.inl z), by omega⟩
theorem bst_lt (hκ : κ < 5) (hV : VE κ ε) {i k j l : Nat} (hi : (i : Int) < ε 2 7) (hk : k < cS κ ε i) (hj : nxt ε i = (j : Int)) (hl : l < cS κ ε j) (hs : sS κ ε i k j l ≠ -2) (hr : rst κ ε j l < 1000000000) : bst κ ε i k < 1000000000 := by
  obtain ⟨hij, hjn, -⟩ := nxt_prv hj
  have := mnL_at (onw κ ε (rst κ ε j) i k j) hl
  have e : onw κ ε (rst κ ε j) i k j l = sS κ ε i k j l + rst κ ε j l := by unfold onw; rw [if_neg (by omega)]
  have s := sS_b hκ hV hi hk hjn hl
  have r := (rst_b40 hκ hV hjn hl).1
  unfold bst
  rw [if_neg (by omega), hj, Int.toNat_natCast]
  omega
theorem Gd.fw {i j : Nat} (hκ : κ < 5) (hV : VE κ ε) (hi : (i : Int) < ε 2 7) (hj : nxt ε i = (j : Int)) (h : Gd κ ε i) : Gd κ ε j := by
  obtain ⟨k, k1, k2, k3⟩ := h
  obtain ⟨hij, hjn, hp⟩ := nxt_prv hj
  obtain ⟨l, l1, l2, l3⟩ := bst_ex hj (rst_let hi k3).2.1
  refine ⟨l, l1, ?_, l3⟩
  rw [rch_eq]
  refine ⟨(rst_let hjn l3).1, Or.inr ⟨k, ?_, ?_, ?_⟩⟩
  · rw [hp, Int.toNat_natCast]; exact k1
  · rw [hp, Int.toNat_natCast]; exact k2
  · rw [hp, Int.toNat_natCast]; exact l2
theorem Gd.bw {i j : Nat} (hκ : κ < 5) (hV : VE κ ε) (hi : (i : Int) < ε 2 7) (hj : nxt ε i = (j : Int)) (h : Gd κ ε j) : Gd κ ε i := by
  obtain ⟨l, l1, l2, l3⟩ := h
  obtain ⟨hij, hjn, hp⟩ := nxt_prv hj
  rw [rch_eq] at l2
  rcases l2.2 with z | ⟨k, k1, k2, k3⟩
  · omega
  · rw [hp, Int.toNat_natCast] at k1 k2 k3
    have hb := bst_lt hκ hV hi k1 hj l1 k3 l3
    have hlet : lets ε i (k : Int) := ((rch_eq κ ε i k).mp k2).1
    refine ⟨k, k1, k2, ?_⟩
    rw [(rst_eq κ ε hi k).1 hlet hb]
    have := (rst_b40 hκ hV hi k1).2
    have := pS_b hκ hV hi k1
    omega
theorem Gd.en {i : Nat} (hκ : κ < 5) (hV : VE κ ε) (hi : (i : Int) < ε 2 7) (hx : nxt ε i < 0) (h : rchd κ ε i) : Gd κ ε i := by
  obtain ⟨k, k1, k2⟩ := h
  have hlet : lets ε i (k : Int) := ((rch_eq κ ε i k).mp k2).1
  have hb : bst κ ε i k = 0 := by unfold bst; rw [if_pos hx]
  refine ⟨k, k1, k2, ?_⟩
  rw [(rst_eq κ ε hi k).1 hlet (by omega)]
  have := pS_b hκ hV hi k1
  omega
theorem all_rch (hκ : κ < 5) (hV : VE κ ε) : (∀ i : Nat, (i : Int) < ε 2 7 → rchd κ ε i) ↔ (mc κ ε 0 < 1000000000 ∧ mc κ ε 1 < 1000000000) := by
  constructor
  · intro ha
    have hG : ∀ d i : Nat, (i : Int) < ε 2 7 → (ε 2 7).toNat - i ≤ d → Gd κ ε i := by
      intro d
      induction d with
      | zero => intro i hi hd; omega
      | succ d ih =>
        intro i hi hd
        by_cases c : nxt ε i < 0
        · exact Gd.en hκ hV hi c (ha i hi)
        · obtain ⟨j, hj⟩ : ∃ j : Nat, nxt ε i = (j : Int) := ⟨(nxt ε i).toNat, by omega⟩
          obtain ⟨hij, hjn, -⟩ := nxt_prv hj
          exact Gd.bw hκ hV hi hj (ih j hjn (by omega))
    have hm : ∀ h : Int, mc κ ε h < 1000000000 := by
      intro h
      unfold mc
      split
      · omega
      · rcases fst_spec (ε := ε) (h := h) with ⟨a, -⟩ | ⟨j, a, b, -⟩
        · omega
        · rw [b, Int.toNat_natCast]
          obtain ⟨k, k1, -, k3⟩ := hG _ j a (Nat.le_refl _)
          have := mnL_at (rst κ ε j) k1
          omega
    exact ⟨hm 0, hm 1⟩
  · intro ⟨h0, h1⟩
    have hm : ∀ h : Int, (h = 0 ∨ h = 1) → mc κ ε h < 1000000000 := by
      intro h hh
      rcases hh with rfl | rfl
      · exact h0
      · exact h1
    have hG : ∀ d i : Nat, i < d → (i : Int) < ε 2 7 → Gd κ ε i := by
      intro d
      induction d with
      | zero => intro i hi; omega
      | succ d ih =>
        intro i hd hi
        by_cases c : prv ε i < 0
        · have hf : fst ε (ε 4 i) = (i : Int) := by
            rcases fst_spec (ε := ε) (h := ε 4 i) with ⟨a, b⟩ | ⟨j, a, b, e, f⟩
            · exact absurd rfl (b i hi)
            · rw [b]
              rcases prv_spec (ε := ε) (i := i) with ⟨p, q⟩ | ⟨k, k1, k2, -⟩
              · rcases Nat.lt_trichotomy j i with z | z | z
                · exact absurd e (q j z)
                · rw [z]
                · exact absurd rfl (f i z)
              · omega
          have hmi := hm (ε 4 i) (hV.2.1 i hi).h01
          unfold mc at hmi
          rw [if_neg (by omega), hf, Int.toNat_natCast] at hmi
          rcases mnL_is (rst κ ε i) (cS κ ε i) with z | ⟨y, y1, y2⟩
          · omega
          · rw [y2] at hmi
            refine ⟨y, y1, ?_, hmi⟩
            rw [rch_eq]
            exact ⟨(rst_let hi hmi).1, Or.inl c⟩
        · obtain ⟨p, hp⟩ : ∃ p : Nat, prv ε i = (p : Int) := ⟨(prv ε i).toNat, by omega⟩
          obtain ⟨hpi, hnx⟩ := prv_nxt hi hp
          exact Gd.fw hκ hV (by omega) hnx (ih p (by omega) (by omega))
    intro i hi
    obtain ⟨k, k1, k2, -⟩ := hG (i + 1) i (by omega) hi
    exact ⟨k, k1, k2⟩
theorem fst_prv {h : Int} {j : Nat} (e : fst ε h = (j : Int)) : (j : Int) < ε 2 7 ∧ ε 4 j = h ∧ prv ε j < 0 := by
  rcases fst_spec (ε := ε) (h := h) with ⟨a, -⟩ | ⟨j', a, b, c, d⟩
  · omega
  · obtain rfl : j' = j := by omega
    refine ⟨a, c, ?_⟩
    rcases prv_spec (ε := ε) (i := j') with ⟨p, -⟩ | ⟨k, k1, k2, k3, -⟩
    · omega
    · exact absurd (k3.trans c) (d k k1)
theorem hsum_mc {h : Int} (hh : mc κ ε h < 1000000000) : hsum κ ε h = mc κ ε h := by
  unfold hsum mc at *
  split
  · rfl
  · rename_i c
    rw [if_neg c] at hh
    obtain ⟨j, hj⟩ : ∃ j : Nat, fst ε h = (j : Int) := ⟨(fst ε h).toNat, by omega⟩
    rw [hj, Int.toNat_natCast] at hh ⊢
    rw [chs_eq, if_pos (fst_prv hj).2.2]
    exact (amL_is (rst κ ε j) hh).1
theorem s_mprice {post : Int → Mem → Prop} (hκ : κ < 5) (hV : VE κ ε) (hI : MIv κ ε σ) (h : ∀ r τ, KC σ τ → MIv κ ε τ → MC κ ε τ → (∀ i : Nat, (i : Int) < ε 2 7 → WM κ ε τ i) → IsPr κ ε r → post r τ) : w_X10_price σ post := by
  refine s_mreckon hκ hV hI (fun τ kc hIt hC hW => ?_)
  have b0 := mc_b hκ hV (h := 0)
  have b1 := mc_b hκ hV (h := 1)
  have hall := all_rch hκ hV
  have none : ¬ (mc κ ε 0 < 1000000000 ∧ mc κ ε 1 < 1000000000) → post (-2) τ := fun z => h _ τ kc hIt hC hW ⟨fun y => absurd (hall.mp y) z, fun _ => rfl⟩
  simp only [w_X10_price_B24, w_X10_price_B40, w_X10_price_B53]
  refine s_mchain hκ hV hC hW (rg_c _ rfl) ⟨by simp only [rg]; omega, fun a => ⟨rg_c _ rfl, fun z => absurd z (by decide), fun _ => none (fun z => by omega)⟩, fun a => ?_⟩
  refine s_mchain hκ hV hC hW (rg_c _ rfl) ⟨by simp only [rg]; omega, fun b => ?_, fun b => ⟨rg_c _ rfl, fun z => absurd z (by decide), fun _ => none (fun z => by omega)⟩⟩
  refine s_mchain hκ hV hC hW (rg_c _ rfl) (s_mchain hκ hV hC hW (rg_c _ rfl) ⟨by simp only [rg]; omega, fun c => ?_, fun c => by omega⟩)
  refine h _ τ kc hIt hC hW ⟨fun y => ?_, fun y => absurd (hall.mpr ⟨a, b⟩) y⟩
  rw [hsum_mc a, hsum_mc b]
end MSEARCH
