/-! the reference: way, stuck -/
section MWAY
variable {κ : Nat} {σ ε : Mem}
/-- the f of the choice at e, after was with its state -/
noncomputable def chf (κ : Nat) (ε : Mem) (e : Nat) (k : Nat) : Int := if prv ε e < 0 then rst κ ε e k else onw κ ε (rst κ ε e) (prv ε e).toNat (chs κ ε (prv ε e).toNat) e k
theorem chs_f (e : Nat) : chs κ ε e = amL (chf κ ε e) (cS κ ε e) := by
  rw [chs_eq]
  unfold chf
  split
  · rfl
  · rfl
/-- the loop of way is at e -/
def WAt (κ : Nat) (ε τ : Mem) (w d : Int) (e : Nat) : Prop := (e : Int) < ε 2 7 ∧ d = mnL (chf κ ε e) (cS κ ε e) ∧ d < 1000000000 ∧ ((w = -2 ∧ prv ε e < 0) ∨ ∃ p : Nat, w = (p : Int) ∧ prv ε e = (p : Int) ∧ τ 30 p = ((chs κ ε p : Nat) : Int) ∧ chs κ ε p < cS κ ε p)
theorem WAt.c {τ : Mem} {w d : Int} {e : Nat} (h : WAt κ ε τ w d e) : chs κ ε e < cS κ ε e ∧ chf κ ε e (chs κ ε e) = d ∧ ∀ j, j < chs κ ε e → chf κ ε e j ≠ d := by
  obtain ⟨h0, h1, h2, -⟩ := h
  have hc : 0 < cS κ ε e := by
    rcases Nat.eq_zero_or_pos (cS κ ε e) with z | z
    · rw [z] at h1; simp only [mnL] at h1; omega
    · exact z
  rw [h1] at h2
  have := amL_is (chf κ ε e) h2
  rw [chs_f]
  exact ⟨amL_lt _ hc, by rw [this.1, h1], fun j hj => by have := this.2 j hj; omega⟩
theorem s_misOn {post : Int → Prop} (hκ : κ < 5) (hV : VE κ ε) (hC : MC κ ε σ) (hW : ∀ i : Nat, (i : Int) < ε 2 7 → WM κ ε σ i) {w d : Int} {e k : Nat} (hA : WAt κ ε σ w d e) (hk : k < cS κ ε e) (hT : chf κ ε e k = d → post 1) (hF : chf κ ε e k ≠ d → post 0) : w_X10_isOn σ w (e : Int) (k : Int) d post := by
  obtain ⟨he, hd, hd1, hw⟩ := hA
  have hn := hV.1
  have h80 := cS80 hκ hV he
  have r := rst_rg hκ hV he hk
  have ex : (80 * (e : Int) + (k : Int)).toNat = 80 * e + k := by omega
  have ib : inb (80 * (e : Int) + (k : Int)) 3200 := ⟨by omega, by omega, by omega⟩
  have hd0 : -2147483648 ≤ d := by
    rcases mnL_is (chf κ ε e) (cS κ ε e) with z | ⟨y, y1, y2⟩
    · omega
    · rw [hd, y2]
      have ry := rst_rg hκ hV he y1
      unfold chf
      split
      · omega
      · unfold onw
        split
        · omega
        · rename_i c1 c2
          rcases hw with ⟨-, z⟩ | ⟨p, -, p2, -, p4⟩
          · omega
          · rw [p2, Int.toNat_natCast] at c2 ⊢
            obtain ⟨q1, q2⟩ := prv_nxt he p2
            have := sS_b hκ hV (i := p) (by omega) p4 he y1
            omega
  have dr : rg d := by simp only [rg]; omega
  have h39 : ∀ s : Int, rst κ ε e k < 1000000000 → (s = -2 ∨ 0 ≤ s) → s ≤ 2001 → (s = -2 → chf κ ε e k = 1000000000) → (0 ≤ s → chf κ ε e k = s + rst κ ε e k) → w_X10_isOn_B39 σ (e : Int) (k : Int) d s post := by
    intro s hr hs s1 f1 f2
    simp only [w_X10_isOn_B39, w_X10_isOn_B69, w_X10_isOn_B70, ex, hW e he k hk]
    refine ⟨by simp only [rg]; omega, fun a => ⟨Or.inl rfl, hF (by rw [f1 (by omega)]; omega)⟩, fun a => ⟨ib, by simp only [rg]; omega, dr, fun b => ⟨Or.inl rfl, hF (by rw [f2 a]; exact b)⟩, fun b => ⟨Or.inr rfl, hT (by rw [f2 a]; exact b)⟩⟩⟩
  unfold w_X10_isOn
  rw [ex, hW e he k hk]
  refine ⟨ib, by simp only [rg]; omega, fun a => ?_, fun a => hF ?_⟩
  · rcases hw with ⟨w1, w2⟩ | ⟨p, p1, p2, p3, p4⟩
    · refine ⟨by simp only [rg]; omega, fun b => by omega, fun b => h39 0 a (by omega) (by omega) (fun z => by omega) (fun _ => ?_)⟩
      unfold chf; rw [if_pos w2]; omega
    · obtain ⟨q1, q2⟩ := prv_nxt he p2
      have hs := sS_b hκ hV (i := p) (by omega) p4 he hk
      rw [p1, Int.toNat_natCast, p3]
      refine ⟨by simp only [rg]; omega, fun b => ⟨by simp only [inb]; omega, s_mst hκ hV hC (by omega) p4 he hk (h39 _ a (by omega) (by omega) (fun z => ?_) (fun z => ?_))⟩, fun b => by omega⟩
      · unfold chf onw; rw [if_neg (by omega), p2, Int.toNat_natCast, if_pos (Or.inl z)]
      · unfold chf onw; rw [if_neg (by omega), p2, Int.toNat_natCast, if_neg (by omega)]
  · unfold chf
    split
    · omega
    · unfold onw; rw [if_pos (Or.inr a)]; omega
theorem s_mway {post : Int → Mem → Prop} (hκ : κ < 5) (hV : VE κ ε) (hI : MIv κ ε σ) {i : Int} (hi : rg i) (h1 : ¬ isE ε i → post (-1) σ) (h2 : ∀ τ, KC σ τ → MIv κ ε τ → isE ε i → ¬ (∀ i : Nat, (i : Int) < ε 2 7 → rchd κ ε i) → post (-2) τ) (h3 : ∀ τ, KC σ τ → MIv κ ε τ → isE ε i → (∀ i : Nat, (i : Int) < ε 2 7 → rchd κ ε i) → post ((chs κ ε i.toNat : Nat) : Int) τ) : w_X10_way σ i post := by
  have hn := hV.1
  unfold w_X10_way
  rw [hI.1.2.1]
  refine s_in hi (rg_c _ rfl) (by simp only [rg]; omega) (fun a1 a2 => ⟨rg_c _ rfl, fun _ => ?_, fun z => absurd z (by decide)⟩) (fun a => ⟨rg_c _ rfl, fun z => absurd rfl z, fun _ => h1 (fun z => a ⟨z.1, by have := z.2; omega⟩)⟩)
  have hE : isE ε i := ⟨a1, by omega⟩
  refine s_mprice hκ hV hI (fun r τ kc hIt hC hW hPr => ?_)
  by_cases hall : ∀ i : Nat, (i : Int) < ε 2 7 → rchd κ ε i
  · have hr := hPr.1 hall
    have b0 := hsum_b hκ hV hall 0
    have b1 := hsum_b hκ hV hall 1
    obtain ⟨g, rfl⟩ : ∃ g : Nat, i = (g : Int) := ⟨i.toNat, by omega⟩
    have hg : (g : Int) < ε 2 7 := by omega
    have hmc := (all_rch hκ hV).mp hall
    have h01 := (hV.2.1 g hg).h01
    have hmg : mc κ ε (ε 4 g) < 1000000000 := by rcases h01 with z | z <;> rw [z]; exact hmc.1; exact hmc.2
    have ib : inb (g : Int) 40 := ⟨by omega, by omega, by omega⟩
    have hf : ∃ f : Nat, fst ε (ε 4 g) = (f : Int) ∧ f ≤ g := by
      rcases fst_spec (ε := ε) (h := ε 4 g) with ⟨a, b⟩ | ⟨j, a, b, c, d⟩
      · exact absurd rfl (b g hg)
      · exact ⟨j, b, by
          rcases Nat.lt_or_ge g j with z | z
          · exact absurd rfl (d g z)
          · exact z⟩
    obtain ⟨f, hf1, hf2⟩ := hf
    have hfp := fst_prv hf1
    rw [hr, Int.toNat_natCast, hC.1.2.2.1]
    refine ⟨by simp only [rg]; omega, fun _ => ⟨ib, s_mchain hκ hV hC hW (by simp only [rg]; omega) ⟨ib, s_mfirst hC.1 hV (by simp only [rg]; omega) (fun e => by omega) (fun f' e => ?_)⟩⟩, fun z => by omega⟩
    obtain rfl : f' = f := by omega
    have hm : mc κ ε (ε 4 g) = mnL (chf κ ε f') (cS κ ε f') := by
      unfold mc
      rw [if_neg (by omega), hf1, Int.toNat_natCast]
      refine mnL_congr (fun k hk => ?_)
      unfold chf; rw [if_pos hfp.2.2]
    refine lp4 (w_X10_way_L52 (g : Int) post) (fun d w e υ => (∀ c, c ≠ 30 → υ c = τ c) ∧ ((∃ x : Nat, e = (x : Int) ∧ x ≤ g ∧ ε 4 x = ε 4 g ∧ WAt κ ε υ w d x) ∨ (rg e ∧ (e < 0 ∨ (g : Int) < e) ∧ υ 30 g = ((chs κ ε g : Nat) : Int)))) (fun d w e υ => if 0 ≤ e ∧ e ≤ (g : Int) then (g + 1 - e).toNat else 0) ?_ _ _ _ _ ⟨fun _ _ => rfl, Or.inl ⟨f', rfl, hf2, hfp.2.1, hfp.1, hm, hmg, Or.inl ⟨rfl, hfp.2.2⟩⟩⟩
    intro n d w e υ ⟨hfr, hst⟩ ih
    have hCu : MC κ ε υ := hC.k (fun c c1 c2 => hfr c (by omega))
    have hWu : ∀ i : Nat, (i : Int) < ε 2 7 → WM κ ε υ i := fun i hi k hk => by rw [hfr 29 (by decide)]; exact hW i hi k hk
    have done : υ 30 g = ((chs κ ε g : Nat) : Int) → w_X10_way_B148 υ (g : Int) post := by
      intro z
      refine ⟨ib, ?_⟩
      rw [Int.toNat_natCast, z]
      have := h3 υ (kc.tr (fun c hc => hfr c (by omega))) (hIt.up (fun c c1 c2 => hfr c (by omega))) hE hall
      rw [Int.toNat_natCast] at this
      exact this
    show w_X10_way_L52_body (g : Int) post _ _ _ _ _
    rcases hst with ⟨x, rfl, hx, hxh, hA⟩ | ⟨er, he, hdone⟩
    · obtain ⟨ck, cf, cn⟩ := hA.c
      have hxn := hA.1
      have h80 := cS80 hκ hV hxn
      refine ⟨by simp only [rg]; omega, fun z => by omega, fun _ => ⟨by simp only [rg]; omega, by simp only [rg]; omega, fun z => by omega, fun _ => ?_⟩⟩
      refine lp1 (w_X10_way_L66 υ (g : Int) d w (x : Int) post (w_X10_way_L52 (g : Int) post n)) (fun u => ∃ k : Nat, u = (k : Int) ∧ k ≤ chs κ ε x) (fun u => (100 - u).toNat) ?_ _ ⟨0, rfl, by omega⟩
      intro n2 u ⟨k, hu, hk⟩ ih2
      subst hu
      show w_X10_way_L66_body υ (g : Int) d w (x : Int) post _ _ _
      refine s_misOn hκ hV hCu hWu hA (by omega) (fun on => ⟨rg_c _ rfl, fun _ => ?_, fun z => absurd z (by decide)⟩) (fun off => ⟨rg_c _ rfl, fun z => absurd rfl z, fun _ => ?_⟩)
      · obtain rfl : k = chs κ ε x := by
          rcases Nat.lt_or_eq_of_le hk with z | z
          · exact absurd on (cn k z)
          · exact z
        have ex : (80 * (x : Int) + ((chs κ ε x : Nat) : Int)).toNat = 80 * x + chs κ ε x := by omega
        have ix : inb (80 * (x : Int) + ((chs κ ε x : Nat) : Int)) 3200 := ⟨by omega, by omega, by omega⟩
        have pr := (hCu.at hxn ck).1
        obtain ⟨-, hd, hd1, hw⟩ := id hA
        -- what is left after this state
        have fin : ∀ s : Int, rst κ ε x (chs κ ε x) < 1000000000 → d = s + rst κ ε x (chs κ ε x) → w_X10_way_B122 υ (g : Int) (x : Int) ((chs κ ε x : Nat) : Int) s (pS κ ε x (chs κ ε x)) d post (w_X10_way_L52 (g : Int) post n) := by
          intro s hr hs
          obtain ⟨r1, r2, r3⟩ := rst_let hxn hr
          refine ⟨by simp only [inb]; omega, fun ω e => ?_⟩
          rw [Int.toNat_natCast] at e
          have e1 : ∀ c, c ≠ 30 → ω c = τ c := fun c hc => by rw [e, up2_k hc, hfr c hc]
          have e2 : ω 30 x = ((chs κ ε x : Nat) : Int) := by rw [e]; simp [up2]
          have hCo : MC κ ε ω := hC.k (fun c c1 c2 => e1 c (by omega))
          refine s_mafter hCo.1 hV hxn (fun ne => ?_) (fun j ne => ?_)
          · refine ih _ _ _ _ ⟨e1, Or.inr ⟨rg_c _ rfl, by omega, ?_⟩⟩ (by rw [if_neg (by omega), if_pos (by omega)]; omega)
            have : x = g := by
              rcases Nat.lt_or_eq_of_le hx with z | z
              · rcases nxt_spec (ε := ε) (i := x) with ⟨-, q⟩ | ⟨j, -, -, q, -⟩
                · exact absurd hxh.symm (q g z hg)
                · omega
              · exact z
            rw [← this]; exact e2
          · obtain ⟨hxj, hjn, hjp⟩ := nxt_prv ne
            rcases nxt_spec (ε := ε) (i := x) with ⟨q, -⟩ | ⟨j', q1, q2, q3, q4, q5⟩
            · omega
            · obtain rfl : j' = j := by omega
              by_cases cg : j' ≤ g
              · refine ih _ _ _ _ ⟨e1, Or.inl ⟨j', rfl, cg, q4.trans hxh, hjn, ?_, ?_, Or.inr ⟨x, rfl, hjp, e2, ck⟩⟩⟩ (by rw [if_pos (by omega), if_pos (by omega)]; omega)
                · have : bst κ ε x (chs κ ε x) = mnL (chf κ ε j') (cS κ ε j') := by
                    unfold bst
                    rw [if_neg (by omega), ne, Int.toNat_natCast]
                    refine mnL_congr (fun k hk => ?_)
                    unfold chf
                    rw [if_neg (by omega), hjp, Int.toNat_natCast]
                  rw [← this]
                  omega
                · omega
              · refine ih _ _ _ _ ⟨e1, Or.inr ⟨by simp only [rg]; omega, by omega, ?_⟩⟩ (by rw [if_neg (by omega), if_pos (by omega)]; omega)
                have : x = g := by
                  rcases Nat.lt_or_eq_of_le hx with z | z
                  · exact absurd hxh.symm (q5 g z (by omega))
                  · exact z
                rw [← this]; exact e2
        rw [ex, pr]
        rcases hw with ⟨w1, w2⟩ | ⟨p, p1, p2, p3, p4⟩
        · refine ⟨ix, by simp only [rg]; omega, fun z => by omega, fun _ => fin 0 ?_ ?_⟩
          · unfold chf at cf; rw [if_pos w2] at cf; omega
          · unfold chf at cf; rw [if_pos w2] at cf; omega
        · obtain ⟨q1, q2⟩ := prv_nxt hxn p2
          rw [p1, Int.toNat_natCast, p3]
          have cf2 := cf
          unfold chf at cf2
          rw [if_neg (by omega), p2, Int.toNat_natCast] at cf2
          unfold onw at cf2
          refine ⟨ix, by simp only [rg]; omega, fun _ => ⟨by simp only [inb]; omega, s_mst hκ hV hCu (by omega) p4 hxn ck (fin _ ?_ ?_)⟩, fun z => by omega⟩
          · split at cf2
            · omega
            · omega
          · split at cf2
            · omega
            · omega
      · refine ih2 _ ⟨k + 1, by push_cast; rfl, ?_⟩ (by omega)
        rcases Nat.lt_or_eq_of_le hk with z | z
        · omega
        · rw [z] at off; exact absurd cf off
    · exact ⟨er, fun _ => done hdone, fun z => ⟨er, by simp only [rg]; omega, fun _ => done hdone, fun z => by omega⟩⟩
  · rw [hPr.2 hall]
    exact ⟨rg_c _ rfl, fun z => absurd z (by decide), fun _ => h2 τ kc hIt hE hall⟩
/-- stuck -/
theorem orI_b {x y : Int} (hx : x = 0 ∨ x = 1) (hy : y = 0 ∨ y = 1) : orI x y = if x = 0 ∧ y = 0 then 0 else 1 := by
  rcases hx with rfl | rfl <;> rcases hy with rfl | rfl <;> decide +kernel
def CM3 (κ : Nat) (ε σ : Mem) (i m : Nat) : Prop := ∀ k, k < m → (rch κ ε i k ∧ σ 31 (80 * i + k) = 1) ∨ (¬ rch κ ε i k ∧ σ 31 (80 * i + k) = 0)
theorem s_mstuck {post : Int → Mem → Prop} (hκ : κ < 5) (hV : VE κ ε) (hI : MIv κ ε σ) (h : ∀ r τ, KC σ τ → MIv κ ε τ → IsStk κ ε r → post r τ) : w_X10_stuck σ post := by
  have hn := hV.1
  refine s_mfind hκ hV hI (fun σ2 kc hI2 hC2 => ?_)
  refine lp2 (w_X10_stuck_L6 post) (fun u τ => ∃ j : Nat, u = (j : Int) ∧ (j : Int) ≤ ε 2 7 ∧ (∀ c, c ≠ 31 → τ c = σ2 c) ∧ ∀ i, i < j → rchd κ ε i ∧ CM3 κ ε τ i (cS κ ε i)) (fun u τ => (41 - u).toNat) ?_ _ _ ⟨0, rfl, by omega, fun _ _ => rfl, fun i hi => by omega⟩
  intro n u τ ⟨j, hu, hj, hfr, hrs⟩ ih
  subst hu
  have hCt : MC κ ε τ := hC2.k (fun c c1 c2 => hfr c (by omega))
  show w_X10_stuck_L6_body post _ _ _
  simp only [w_X10_stuck_L6_body, hCt.1.2.1, hCt.1.2.2.1, Int.toNat_natCast]
  refine ⟨by simp only [rg]; omega, by simp only [rg]; omega, fun a => ?_, fun a => ⟨by simp only [inb]; omega, ?_⟩⟩
  · exact h _ τ (kc.tr (fun c hc => hfr c (by omega))) (hI2.up (fun c c1 c2 => hfr c (by omega))) (Or.inl ⟨rfl, fun i hi => (hrs i (by omega)).1⟩)
  · have h01 := (hV.2.1 j a).h01
    have h80 := cS80 hκ hV a
    have key : ∀ w : Int, ((w = -2 ∧ prv ε j = -1) ∨ ∃ p : Nat, w = (p : Int) ∧ prv ε j = (p : Int)) → ∃ n_1, w_X10_stuck_L31 (j : Int) w post (w_X10_stuck_L6 post n) n_1 0 0 τ := by
      intro w hw
      have wr : rg w := by
        rcases hw with ⟨z, -⟩ | ⟨p, z, y⟩
        · rw [z]; exact rg_c _ rfl
        · rcases prv_spec (ε := ε) (i := j) with ⟨q, -⟩ | ⟨p', p1, p2, -⟩
          · omega
          · simp only [rg]; omega
      refine lp3 (w_X10_stuck_L31 (j : Int) w post (w_X10_stuck_L6 post n)) (fun s u υ => ∃ l : Nat, u = (l : Int) ∧ l ≤ cS κ ε j ∧ (∀ c, c ≠ 31 → υ c = σ2 c) ∧ (∀ i, i < j → CM3 κ ε υ i (cS κ ε i)) ∧ CM3 κ ε υ j l ∧ ((s = 1 ∧ ∃ k, k < l ∧ rch κ ε j k) ∨ (s = 0 ∧ ¬ ∃ k, k < l ∧ rch κ ε j k))) (fun s u υ => (100 - u).toNat) ?_ _ _ _ ⟨0, rfl, by omega, hfr, fun i hi => (hrs i hi).2, fun k hk => by omega, Or.inr ⟨rfl, fun ⟨k, hk, _⟩ => by omega⟩⟩
      intro n2 s u υ ⟨l, hu, hl, hfu, hold, hrow, hs⟩ ih2
      subst hu
      have hCu : MC κ ε υ := hC2.k (fun c c1 c2 => hfu c (by omega))
      have s01 : s = 0 ∨ s = 1 := by omega
      show w_X10_stuck_L31_body (j : Int) w post _ _ _ _ _
      simp only [w_X10_stuck_L31_body, Int.toNat_natCast, hCu.cn a]
      -- the end of one state
      have ex : (80 * (j : Int) + (l : Int)).toNat = 80 * j + l := by omega
      have put : ∀ v : Int, l < cS κ ε j → ((v = 1 ∧ rch κ ε j l) ∨ (v = 0 ∧ ¬ rch κ ε j l)) → w_X10_stuck_B148 υ (j : Int) w s (l : Int) v (80 * (j : Int) + (l : Int)) post (w_X10_stuck_L6 post n) (w_X10_stuck_L31 (j : Int) w post (w_X10_stuck_L6 post n) n2) := by
        intro v hlc hv
        have v01 : v = 0 ∨ v = 1 := by omega
        have ib : inb (80 * (j : Int) + (l : Int)) 3200 := ⟨by omega, by omega, by omega⟩
        refine ⟨ib, v01, fun ω e => ⟨ib, ?_⟩⟩
        rw [ex] at e ⊢
        have e1 : ∀ c, c ≠ 31 → ω c = υ c := fun c hc => by rw [e, up2_k hc]
        have e2 : ω 31 (80 * j + l) = v := by rw [e]; simp [up2]
        have e3 : ∀ y, y ≠ 80 * j + l → ω 31 y = υ 31 y := fun y hy => by rw [e]; simp [up2, hy]
        rw [e2, orI_b s01 v01]
        refine ih2 _ _ _ ⟨l + 1, by push_cast; rfl, by omega, fun c hc => by rw [e1 c hc, hfu c hc], fun i hi k hk => ?_, fun k hk => ?_, ?_⟩ (by omega)
        · have := cS80 hκ hV (i := i) (by omega)
          rw [e3 _ (by omega)]
          exact hold i hi k hk
        · rcases Nat.lt_or_eq_of_le (Nat.le_of_lt_succ hk) with z | z
          · rw [e3 _ (by omega)]; exact hrow k z
          · rw [z, e2]
            rcases hv with ⟨y, x⟩ | ⟨y, x⟩
            · exact Or.inl ⟨x, y⟩
            · exact Or.inr ⟨x, y⟩
        · rcases hv with ⟨y, x⟩ | ⟨y, x⟩
          · left; exact ⟨by rw [if_neg (by omega)], l, by omega, x⟩
          · rcases hs with ⟨z, k, k1, k2⟩ | ⟨z, k⟩
            · left; exact ⟨by rw [if_neg (by omega)], k, by omega, k2⟩
            · right
              refine ⟨by rw [if_pos ⟨z, y⟩], fun ⟨q, q1, q2⟩ => ?_⟩
              rcases Nat.lt_or_eq_of_le (Nat.le_of_lt_succ q1) with c | c
              · exact k ⟨q, c, q2⟩
              · rw [c] at q2; exact x q2
      have h117 : ∀ v : Int, l < cS κ ε j → ((v = 1 ∧ (prv ε j < 0 ∨ ∃ k, k < cS κ ε (prv ε j).toNat ∧ rch κ ε (prv ε j).toNat k ∧ sS κ ε (prv ε j).toNat k j l ≠ -2)) ∨ (v = 0 ∧ ¬ (prv ε j < 0 ∨ ∃ k, k < cS κ ε (prv ε j).toNat ∧ rch κ ε (prv ε j).toNat k ∧ sS κ ε (prv ε j).toNat k j l ≠ -2))) → w_X10_stuck_B117 υ (j : Int) w s (l : Int) v post (w_X10_stuck_L6 post n) (w_X10_stuck_L31 (j : Int) w post (w_X10_stuck_L6 post n) n2) := by
        intro v hlc hv
        simp only [w_X10_stuck_B117, w_X10_stuck_B147]
        refine ⟨by simp only [rg]; omega, fun b => put 0 hlc (Or.inr ⟨rfl, fun z => ?_⟩), fun b => s_isLet hCu.1 hV a (by simp only [rg]; omega) (fun c => ⟨rg_c _ rfl, fun z => absurd z (by decide), fun _ => put 1 hlc (Or.inl ⟨rfl, ?_⟩)⟩) (fun c => ⟨rg_c _ rfl, fun _ => put 0 hlc (Or.inr ⟨rfl, fun z => ?_⟩), fun z => absurd rfl z⟩)⟩
        · rw [rch_eq] at z
          rcases hv with ⟨y, -⟩ | ⟨-, y⟩
          · omega
          · exact y z.2
        · rw [rch_eq]
          rcases hv with ⟨-, y⟩ | ⟨y, -⟩
          · exact ⟨c, y⟩
          · omega
        · rw [rch_eq] at z; exact c z.1
      refine ⟨by simp only [inb]; omega, by simp only [rg]; omega, by simp only [rg]; omega, fun b => ⟨by simp only [rg]; omega, fun c => ?_, fun c => ?_⟩, fun b => ⟨wr, fun c => ?_, fun c => ?_⟩⟩
      · obtain rfl : l = cS κ ε j := by omega
        rcases hs with ⟨z, k, k1, k2⟩ | ⟨z, -⟩
        · refine ih _ _ ⟨j + 1, by push_cast; rfl, by omega, hfu, fun i hi => ?_⟩ (by omega)
          rcases Nat.lt_or_eq_of_le (Nat.le_of_lt_succ hi) with y | y
          · exact ⟨(hrs i y).1, hold i y⟩
          · rw [y]; exact ⟨⟨k, k1, k2⟩, hrow⟩
        · omega
      · obtain rfl : l = cS κ ε j := by omega
        rcases hs with ⟨z, -⟩ | ⟨z, y⟩
        · omega
        · exact h _ υ (kc.tr (fun c hc => hfu c (by omega))) (hI2.up (fun c c1 c2 => hfu c (by omega))) (Or.inr ⟨j, a, rfl, fun ⟨k, k1, k2⟩ => y ⟨k, k1, k2⟩, fun i hi => (hrs i hi).1⟩)
      · rcases hw with ⟨z, -⟩ | ⟨p, z, y⟩
        · omega
        · have hpj : p < j := by
            rcases prv_spec (ε := ε) (i := j) with ⟨q, -⟩ | ⟨p', p1, p2, -⟩ <;> omega
          have hpn : (p : Int) < ε 2 7 := by omega
          have h81 := cS80 hκ hV hpn
          subst z
          have hlc : l < cS κ ε j := by omega
          have hv := h117
          rw [y, Int.toNat_natCast] at hv
          refine lp2 (w_X10_stuck_L56 υ (j : Int) (p : Int) s (l : Int) post (w_X10_stuck_L6 post n) (w_X10_stuck_L31 (j : Int) (p : Int) post (w_X10_stuck_L6 post n) n2)) (fun v u => ∃ k : Nat, u = (k : Int) ∧ k ≤ cS κ ε p ∧ ((v = 1 ∧ ∃ q, q < cS κ ε p ∧ rch κ ε p q ∧ sS κ ε p q j l ≠ -2) ∨ (v = 0 ∧ ¬ ∃ q, q < k ∧ rch κ ε p q ∧ sS κ ε p q j l ≠ -2))) (fun v u => (100 - u).toNat) ?_ _ _ ⟨0, rfl, by omega, Or.inr ⟨rfl, fun ⟨q, q1, _⟩ => by omega⟩⟩
          intro n3 v u ⟨k, hu, hk, hvk⟩ ih3
          subst hu
          show w_X10_stuck_L56_body υ (j : Int) (p : Int) s (l : Int) post _ _ _ _ _
          simp only [w_X10_stuck_L56_body, w_X10_stuck_B108, w_X10_stuck_B109, Int.toNat_natCast, hCu.cn hpn]
          refine ⟨by simp only [rg]; omega, fun z => by omega, fun _ => ⟨by simp only [inb]; omega, by simp only [rg]; omega, by simp only [rg]; omega, fun d => hv v hlc ?_, fun d => ⟨by simp only [rg]; omega, fun e => hv v hlc ?_, fun e => ?_⟩⟩⟩
          · rcases hvk with ⟨x, q⟩ | ⟨x, q⟩
            · exact Or.inl ⟨x, Or.inr q⟩
            · refine Or.inr ⟨x, fun z => ?_⟩
              rcases z with z | ⟨q', q1, q2, q3⟩
              · omega
              · exact q ⟨q', by omega, q2, q3⟩
          · rcases hvk with ⟨x, q⟩ | ⟨x, q⟩
            · exact Or.inl ⟨x, Or.inr q⟩
            · omega
          · have hkc : k < cS κ ε p := by omega
            have exp : (80 * (p : Int) + (k : Int)).toNat = 80 * p + k := by omega
            have no := (show ¬ ∃ q, q < k ∧ rch κ ε p q ∧ sS κ ε p q j l ≠ -2 by
              rcases hvk with ⟨x, -⟩ | ⟨-, q⟩
              · omega
              · exact q)
            have nx : ¬ (rch κ ε p k ∧ sS κ ε p k j l ≠ -2) → w_X10_stuck_L56 υ (j : Int) (p : Int) s (l : Int) post (w_X10_stuck_L6 post n) (w_X10_stuck_L31 (j : Int) (p : Int) post (w_X10_stuck_L6 post n) n2) n3 0 ((k : Int) + 1) := by
              intro z
              refine ih3 _ _ ⟨k + 1, by push_cast; rfl, by omega, Or.inr ⟨rfl, fun ⟨q, q1, q2, q3⟩ => ?_⟩⟩ (by omega)
              rcases Nat.lt_or_eq_of_le (Nat.le_of_lt_succ q1) with f | f
              · exact no ⟨q, f, q2, q3⟩
              · rw [f] at q2 q3; exact z ⟨q2, q3⟩
            have hcm := hold p hpj k hkc
            have hsb := sS_b hκ hV hpn hkc a hlc
            rw [exp]
            refine ⟨by simp only [inb]; omega, by simp only [rg]; rcases hcm with ⟨-, z⟩ | ⟨-, z⟩ <;> omega, fun f => nx (fun z => ?_), fun f => s_mst hκ hV hCu hpn hkc a hlc ⟨by simp only [rg]; omega, fun g => nx (fun z => by omega), fun g => ?_⟩⟩
            · rcases hcm with ⟨-, x⟩ | ⟨x, -⟩
              · omega
              · exact x z.1
            · rcases hcm with ⟨x, -⟩ | ⟨-, x⟩
              · exact ih3 _ _ ⟨k + 1, by push_cast; rfl, by omega, Or.inl ⟨rfl, k, hkc, x, by omega⟩⟩ (by omega)
              · omega
      · have hlc : l < cS κ ε j := by omega
        refine ⟨1, ?_⟩
        show w_X10_stuck_L56_body υ (j : Int) w s (l : Int) post _ _ _ 1 0
        refine ⟨wr, fun _ => h117 1 hlc (Or.inl ⟨rfl, Or.inl ?_⟩), fun z => by omega⟩
        rcases hw with ⟨-, z⟩ | ⟨p, z, -⟩ <;> omega
    exact s_mbefore hCt.1 hV (by omega) (by simp only [rg]; omega) (fun e => key _ (Or.inl ⟨rfl, e⟩)) (fun p e => key _ (Or.inr ⟨p, rfl, e⟩))
end MWAY
