/-! a chain's numbers, both chains' numbers -/
noncomputable def chN (κ : Nat) (ε : Mem) (i p : Nat) : Nat := sN (fun k => nw κ ε i k p) (cS κ ε i)
def lst (ε : Mem) (h : Int) : Int := lastH (ε 4) h (ε 2 7).toNat
noncomputable def tot (κ : Nat) (ε : Mem) (h : Int) (p : Nat) : Nat := if lst ε h < 0 then (if p = 0 then 1 else 0) else chN κ ε (lst ε h).toNat p
def conv (f g : Nat → Nat) (p : Nat) : Nat := sN (fun q => f q * g (p - q)) (p + 1)
def dl (p : Nat) : Nat := if p = 0 then 1 else 0
noncomputable def waysN (κ : Nat) (ε : Mem) (m : Nat) : Nat := sN (fun p => conv (tot κ ε 0) (tot κ ε 1) p) (m + 1)
theorem conv_congr {f g f' g' : Nat → Nat} {p : Nat} (hf : ∀ q, q ≤ p → f q = f' q) (hg : ∀ q, q ≤ p → g q = g' q) : conv f g p = conv f' g' p := sN_congr (fun q hq => by rw [hf q (by omega), hg (p - q) (by omega)])
theorem sN_first {f : Nat → Nat} (c : Nat) (h : ∀ k, 0 < k → k ≤ c → f k = 0) : sN f (c + 1) = f 0 := by
  induction c with
  | zero => simp [sN]
  | succ c ih =>
    show sN f (c + 1) + f (c + 1) = f 0
    rw [ih (fun k a b => h k a (by omega)), h (c + 1) (by omega) (Nat.le_refl _), Nat.add_zero]
theorem conv_dl_l (g : Nat → Nat) (p : Nat) : conv dl g p = g p := by
  unfold conv
  rw [sN_first p (fun k a _ => by unfold dl; rw [if_neg (by omega), Nat.zero_mul])]
  simp [dl]
theorem conv_dl_r (f : Nat → Nat) (p : Nat) : conv f dl p = f p := by
  unfold conv
  show sN (fun q => f q * dl (p - q)) p + f p * dl (p - p) = f p
  rw [sN_zero (fun k hk => by unfold dl; rw [if_neg (by omega), Nat.mul_zero]), Nat.sub_self]
  simp [dl]
theorem prv_of {ε : Mem} {i j : Nat} (h1 : i < j) (h2 : ε 4 i = ε 4 j) (h3 : ∀ q, i < q → q < j → ε 4 q ≠ ε 4 j) : prv ε j = (i : Int) := by
  rcases prv_spec (ε := ε) (i := j) with ⟨a, b⟩ | ⟨k, k1, k2, k3, k4⟩
  · exact absurd h2 (b i h1)
  · rw [k2]
    rcases Nat.lt_trichotomy k i with z | z | z
    · exact absurd h2 (k4 i z h1)
    · rw [z]
    · exact absurd k3 (h3 k z k1)
theorem lst_of {ε : Mem} {h : Int} {i : Nat} (h1 : (i : Int) < ε 2 7) (h2 : ε 4 i = h) (h3 : ∀ q : Nat, i < q → (q : Int) < ε 2 7 → ε 4 q ≠ h) : lst ε h = (i : Int) := by
  unfold lst
  rcases lastH_spec (ε 4) h (ε 2 7).toNat with ⟨a, b⟩ | ⟨k, k1, k2, k3, k4⟩
  · exact absurd h2 (b i (by omega))
  · rw [k2]
    rcases Nat.lt_trichotomy k i with z | z | z
    · exact absurd h2 (k4 i z (by omega))
    · rw [z]
    · exact absurd k3 (h3 k z (by omega))
theorem lst_neg {ε : Mem} {h : Int} (hf : fst ε h < 0) : lst ε h = -1 := by
  rcases fst_spec (ε := ε) (h := h) with ⟨a, b⟩ | ⟨j, a, b, -⟩
  · unfold lst
    rcases lastH_spec (ε 4) h (ε 2 7).toNat with ⟨c, -⟩ | ⟨k, k1, k2, k3, -⟩
    · exact c
    · exact absurd k3 (b k (by omega))
  · omega
section TALLY3
variable {κ : Nat} {σ ε : Mem}
theorem s_X7_gather {post : Mem → Prop} (hκ : κ < 5) (hV : VE κ ε) (hT : TW σ) {i m : Nat} (hi : (i : Int) < ε 2 7) (hm : m ≤ 300) (hN : NRow κ ε σ (σ 35 0).toNat i m) (h : ∀ τ, (∀ c, c ≠ 38 → τ c = σ c) → (∀ p, p ≤ m → τ 38 p = cp (chN κ ε i p)) → post τ) : w_X7_gather κ σ ((cS κ ε i : Nat) : Int) (m : Int) post := by
  have hci := cS_le hκ hV hi
  have hwd := wd_le κ
  obtain ⟨H, hH, hHc⟩ : ∃ H : Nat, (σ 35 0).toNat = H ∧ (H = 39 ∨ H = 40) := ⟨(σ 35 0).toNat, rfl, by rcases hT.1 with ⟨a, -⟩ | ⟨a, -⟩ <;> rw [a] <;> decide⟩
  rw [hH] at hN
  refine s_fill2 (by omega) (fun τ0 f0 z0 => ?_)
  refine lp2 (w_X7_gather_L10 κ ((cS κ ε i : Nat) : Int) (m : Int) post) (fun a τ => ∃ k : Nat, a = (k : Int) ∧ k ≤ cS κ ε i ∧ (∀ c, c ≠ 38 → τ c = σ c) ∧ ∀ p, p ≤ m → τ 38 p = cp (sN (fun k => nw κ ε i k p) k)) (fun a τ => (cS κ ε i - a).toNat) ?_ _ _ ⟨0, rfl, by omega, f0, fun p hp => z0 p (by omega)⟩
  intro n a τ ⟨k, ha, hk, hf, hrow⟩ ih
  subst ha
  show w_X7_gather_L10_body κ _ _ post _ _ _
  simp only [w_X7_gather_L10_body]
  refine ⟨by simp only [rg]; omega, by simp only [rg]; omega, fun z => ?_, fun z => ?_⟩
  · refine h τ hf (fun p hp => ?_)
    rw [hrow p hp, show k = cS κ ε i by omega]; rfl
  · have hkc : k < cS κ ε i := by omega
    refine lp2 (w_X7_gather_L18 κ ((cS κ ε i : Nat) : Int) (m : Int) (k : Int) post (w_X7_gather_L10 κ ((cS κ ε i : Nat) : Int) (m : Int) post n)) (fun b υ => ∃ q : Nat, b = (q : Int) ∧ q ≤ m + 1 ∧ (∀ c, c ≠ 38 → υ c = σ c) ∧ (∀ p, p < q → p ≤ m → υ 38 p = cp (sN (fun k => nw κ ε i k p) (k + 1))) ∧ ∀ p, q ≤ p → p ≤ m → υ 38 p = cp (sN (fun k => nw κ ε i k p) k)) (fun b υ => (m + 1 - b).toNat) ?_ _ _ ⟨0, rfl, by omega, hf, fun p hp => by omega, fun p _ hp => hrow p hp⟩
    intro n2 b υ ⟨q, hb, hq, hf2, hd, ht⟩ ih2
    subst hb
    have h35 : υ 35 = σ 35 := hf2 35 (by decide)
    have hend : m < q → w_X7_gather_L10 κ ((cS κ ε i : Nat) : Int) (m : Int) post n ((k : Int) + 1) υ := fun y => ih _ _ ⟨k + 1, by omega, by omega, hf2, fun p hp => hd p (by omega) hp⟩ (by omega)
    have e : ((k : Int) * 301 + (q : Int)) = ((k * 301 + q : Nat) : Int) := by omega
    show w_X7_gather_L18_body κ _ _ _ post _ _ _ _
    simp only [w_X7_gather_L18_body, w_X7_gather_B87, w_X7_gather_B81, h35, hH, e, Int.toNat_natCast]
    refine ⟨by simp only [rg]; omega, by simp only [rg]; omega, fun y => hend (by omega), fun y => ⟨by simp only [rg]; omega, fun x => by omega, fun _ => ?_⟩⟩
    have hix := ix3 (k := k) (p := q) (w := wd κ) (by omega) (by omega)
    have hv : υ H (k * 301 + q) = cp (nw κ ε i k q) := by rw [hf2 H (by omega)]; exact hN k hkc q (by omega)
    rw [hv, ht q (Nat.le_refl q) (by omega)]
    have b1 := cp_b (nw κ ε i k q)
    have b2 := cp_b (sN (fun k => nw κ ε i k q) k)
    refine ⟨by simp only [rg]; omega, fun x => by omega, fun _ => ⟨sh39 hHc, by simp only [rg]; omega, by simp only [rg]; omega, fun x => by omega, fun _ => ⟨by simp only [inb]; omega, sh39 hHc, by simp only [inb]; omega, by simp only [rg]; omega, by simp only [inb]; omega, fun ω ew => ?_⟩⟩⟩
    rw [cp_add] at ew
    refine ih2 _ _ ⟨q + 1, by omega, by omega, fun c hc => by rw [ew, up2_k hc, hf2 c hc], fun p hp1 hp2 => ?_, fun p hp1 hp2 => ?_⟩ (by omega)
    · rcases Nat.lt_or_eq_of_le (Nat.le_of_lt_succ hp1) with w | w
      · rw [ew]; simp only [up2, if_true, if_neg (show p ≠ q by omega)]; exact hd p w hp2
      · rw [w, ew]; simp only [up2, if_true]; rfl
    · rw [ew]; simp only [up2, if_true, if_neg (show p ≠ q by omega)]; exact ht p (by omega) hp2
theorem s_X7_tallyChain {post : Mem → Prop} (hκ : κ < 5) (hV : VE κ ε) (hC : SC κ ε σ) (hT : TW σ) {h : Int} (hh : rg h) {m : Nat} (hm : m ≤ 300) (hf : 0 ≤ fst ε h) (hp : ∀ τ, FrT σ τ → TW τ → (∀ c, c ≠ 35 → c ≠ 38 → c ≠ 39 → c ≠ 40 → τ c = σ c) → (∀ x, 2 ≤ x → τ 35 x = σ 35 x) → (∀ p, p ≤ m → τ 38 p = cp (tot κ ε h p)) → post τ) : w_X7_tallyChain κ σ h (m : Int) post := by
  have hn := hV.1
  refine s_X1_firstOfHand hC.1 hV hh (by omega) (by omega) ?_
  rw [tn0, Nat.sub_zero, show firstH (ε 4) h 0 (ε 2 7).toNat = fst ε h from rfl]
  rcases fst_spec (ε := ε) (h := h) with ⟨a, -⟩ | ⟨f, f1, f2, f3, f4⟩
  · omega
  rw [f2]
  have hpf : prv ε f < 0 := by
    rcases prv_spec (ε := ε) (i := f) with ⟨a, -⟩ | ⟨k, k1, k2, k3, -⟩
    · omega
    · exact absurd (k3.trans f3) (f4 k k1)
  refine s_X7_begin hκ hV hC hT f1 hpf (fun τ0 g0 e35 gc hN0 => ?_)
  refine lp3 (w_X7_tallyChain_L24 κ h (m : Int) post) (fun a b τ => ∃ i j : Nat, a = (i : Int) ∧ b = (j : Int) ∧ i < j ∧ (j : Int) ≤ ε 2 7 ∧ ε 4 i = h ∧ (∀ q, i < q → q < j → ε 4 q ≠ h) ∧ FrT σ τ ∧ TW τ ∧ (∀ c, c ≠ 35 → c ≠ 39 → c ≠ 40 → τ c = σ c) ∧ (∀ x, 2 ≤ x → τ 35 x = σ 35 x) ∧ NRow κ ε τ (τ 35 0).toNat i m) (fun a b τ => (ε 2 7 - b).toNat) ?_ _ _ _ ⟨f, f + 1, rfl, by omega, by omega, by omega, f3, fun q q1 q2 => by omega, g0, ?_, fun c c1 c2 c3 => gc c (by rcases hT.1 with ⟨a, -⟩ | ⟨a, -⟩ <;> rw [a] <;> (show c ≠ _; omega)), fun x _ => by rw [e35], ?_⟩
  · intro n a b τ ⟨i, j, ha, hb, hij, hj, hhi, hbt, hFr, hTW, hcs, hxs, hN⟩ ih
    subst ha hb
    have hCt := hC.t hFr
    show w_X7_tallyChain_L24_body κ _ _ post _ _ _ _
    simp only [w_X7_tallyChain_L24_body, w_X7_tallyChain_B63, hCt.1.1]
    refine ⟨by simp only [rg]; omega, by simp only [rg]; omega, fun z => ?_, fun z => ?_⟩
    · have hi : (i : Int) < ε 2 7 := by omega
      refine s_cnt hV hCt hi (s_X7_gather hκ hV hTW hi hm hN (fun υ fu vu => ?_))
      have hl := lst_of hi hhi (fun q q1 q2 => hbt q q1 (by omega))
      refine hp υ (fun c hc => by rw [fu c (by omega), hFr c hc]) ?_ (fun c c1 c2 c3 c4 => by rw [fu c c2, hcs c c1 c3 c4]) (fun x hx => by rw [fu 35 (by decide), hxs x hx]) (fun p hp' => ?_)
      · unfold TW; rw [fu 35 (by decide)]; exact hTW
      · rw [vu p hp']
        unfold tot
        rw [hl, if_neg (by omega), Int.toNat_natCast]
    · have hev := (hV.2.1 j z).h01
      refine s_X1_handOf hCt.1 hV (by omega) z ?_
      rw [Int.toNat_natCast]
      refine ⟨by simp only [rg]; omega, hh, fun y => ?_, fun y => ?_⟩
      · refine ih _ _ _ ⟨i, j + 1, rfl, by omega, by omega, by omega, hhi, fun q q1 q2 => ?_, hFr, hTW, hcs, hxs, hN⟩ (by omega)
        rcases Nat.lt_or_eq_of_le (Nat.le_of_lt_succ q2) with w | w
        · exact hbt q q1 w
        · rw [w]; exact y
      · refine s_X7_advance hκ hV hCt hTW (by omega) z (prv_of hij (by rw [hhi, y]) (fun q q1 q2 => by rw [y]; exact hbt q q1 q2)) hm hN (fun υ fu tu cu xu nu => ?_)
        refine ih _ _ _ ⟨j, j + 1, rfl, by omega, by omega, by omega, y, fun q q1 q2 => by omega, fun c hc => by rw [fu c hc, hFr c hc], tu, fun c c1 c2 c3 => by rw [cu c c1 c2 c3, hcs c c1 c2 c3], fun x hx => by rw [xu x hx, hxs x hx], nu⟩ (by omega)
  · unfold TW; rw [e35]; exact hT
  · rw [e35]; exact fun k hk p hp' => hN0 k hk p (by omega)
theorem s_X7_join {post : Mem → Prop} (hT : TW σ) {m : Nat} (hm : m ≤ 300) {A O : Nat → Nat} (hA : ∀ p, p ≤ m → σ (σ 35 2).toNat p = cp (A p)) (hO : ∀ p, p ≤ m → σ 38 p = cp (O p)) (h : ∀ τ, FrT σ τ → TW τ → (∀ c, c ≠ 35 → c ≠ 36 → c ≠ 37 → τ c = σ c) → (∀ x, x ≠ 2 → x ≠ 3 → τ 35 x = σ 35 x) → (∀ p, p ≤ m → τ (τ 35 2).toNat p = cp (conv A O p)) → post τ) : w_X7_join κ σ (m : Int) post := by
  obtain ⟨L, J, hL, hJ, hLc, hJc, hne⟩ : ∃ L J : Nat, (σ 35 2).toNat = L ∧ (σ 35 3).toNat = J ∧ (L = 36 ∨ L = 37) ∧ (J = 36 ∨ J = 37) ∧ L ≠ J := ⟨(σ 35 2).toNat, (σ 35 3).toNat, rfl, rfl, by rcases hT.2 with ⟨a, b⟩ | ⟨a, b⟩ <;> rw [a] <;> decide, by rcases hT.2 with ⟨a, b⟩ | ⟨a, b⟩ <;> rw [b] <;> decide, by rcases hT.2 with ⟨a, b⟩ | ⟨a, b⟩ <;> rw [a, b] <;> decide⟩
  rw [hL] at hA
  refine ⟨by rw [hJ]; exact sh36 hJc, ?_⟩
  rw [hJ]
  refine s_fill2 (by omega) (fun τ0 f0 z0 => ?_)
  -- the sum of the first a products
  have hB : ∀ τ, (∀ c, c ≠ J → τ c = σ c) → (∀ p, p ≤ m → τ J p = cp (conv A O p)) → w_X7_join_B106 κ τ post := by
    intro τ hf hv σ3 e3 σ4 e4
    have h35 : τ 35 = σ 35 := hf 35 (by omega)
    rw [h35] at e3 e4
    rw [hJ] at e3
    rw [hL] at e4
    have g : ∀ c, c ≠ 35 → σ4 c = τ c := fun c hc => by rw [e4, up2_k hc, e3, up2_k hc]
    have a2 : σ4 35 2 = (J : Int) := by rw [e4, e3]; simp [up2]
    have a3 : σ4 35 3 = (L : Int) := by rw [e4]; simp [up2]
    have ax : ∀ x, x ≠ 2 → x ≠ 3 → σ4 35 x = σ 35 x := fun x h2 h3 => by rw [e4, e3, ← h35]; simp only [up2, if_true, if_neg h2, if_neg h3]
    refine h σ4 (fun c hc => by rw [g c (by omega), hf c (by omega)]) ⟨by rw [ax 0 (by decide) (by decide), ax 1 (by decide) (by decide)]; exact hT.1, by rw [a2, a3]; omega⟩ (fun c c1 c2 c3 => by rw [g c c1, hf c (by omega)]) ax (fun p hp => ?_)
    rw [a2, Int.toNat_natCast, g J (by omega)]
    exact hv p hp
  refine lp2 (w_X7_join_L10 κ (m : Int) post) (fun u τ => ∃ a : Nat, u = (a : Int) ∧ a ≤ m + 1 ∧ (∀ c, c ≠ J → τ c = σ c) ∧ ∀ p, p ≤ m → τ J p = cp (sN (fun q => A q * O (p - q)) (min a (p + 1)))) (fun u τ => (m + 1 - u).toNat) ?_ _ _ ⟨0, rfl, by omega, f0, fun p hp => by rw [z0 p (by omega), show min 0 (p + 1) = 0 by omega]; rfl⟩
  intro n u τ ⟨a, hu, ha, hf, hv⟩ ih
  subst hu
  show w_X7_join_L10_body κ _ post _ _ _
  simp only [w_X7_join_L10_body]
  refine ⟨by simp only [rg]; omega, by simp only [rg]; omega, fun z => hB τ hf (fun p hp => by rw [hv p hp, show min a (p + 1) = p + 1 by omega]; rfl), fun z => ⟨by simp only [rg]; omega, fun y => by omega, fun _ => ?_⟩⟩
  have ham : a ≤ m := by omega
  -- one value of a
  refine lp2 (w_X7_join_L24 κ (m : Int) (a : Int) post (w_X7_join_L10 κ (m : Int) post n)) (fun w υ => ∃ b : Nat, w = (b : Int) ∧ a + b ≤ m + 1 ∧ (∀ c, c ≠ J → υ c = σ c) ∧ (∀ p, p ≤ m → (p < a ∨ a + b ≤ p) → υ J p = cp (sN (fun q => A q * O (p - q)) (min a (p + 1)))) ∧ ∀ p, p ≤ m → a ≤ p → p < a + b → υ J p = cp (sN (fun q => A q * O (p - q)) (a + 1))) (fun w υ => (m + 1 - w).toNat) ?_ _ _ ⟨0, rfl, by omega, hf, fun p hp _ => hv p hp, fun p hp h1 h2 => by omega⟩
  intro n2 w υ ⟨b, hw, hab, hf2, hsame, hnew⟩ ih2
  subst hw
  have h35 : υ 35 = σ 35 := hf2 35 (by omega)
  have hAa : υ L a = cp (A a) := by rw [hf2 L hne]; exact hA a ham
  have hnext : (∀ p, p ≤ m → a + b ≤ p → A a * O (p - a) = 0) → w_X7_join_L10 κ (m : Int) post n ((a : Int) + 1) υ := by
    intro y
    refine ih _ _ ⟨a + 1, by omega, by omega, hf2, fun p hp => ?_⟩ (by omega)
    by_cases c1 : p < a
    · rw [hsame p hp (Or.inl c1), show min a (p + 1) = p + 1 by omega, show min (a + 1) (p + 1) = p + 1 by omega]
    · by_cases c2 : p < a + b
      · rw [hnew p hp (by omega) c2, show min (a + 1) (p + 1) = a + 1 by omega]
      · rw [hsame p hp (Or.inr (by omega)), show min a (p + 1) = a by omega, show min (a + 1) (p + 1) = a + 1 by omega]
        simp only [sN]
        rw [y p hp (by omega), Nat.add_zero]
  have e : ((a : Int) + (b : Int)) = ((a + b : Nat) : Int) := by omega
  show w_X7_join_L24_body κ _ _ post _ _ _ _
  simp only [w_X7_join_L24_body, w_X7_join_B100, h35, hL, hJ, hAa, e, Int.toNat_natCast]
  have bA := cp_b (A a)
  refine ⟨sh36 hLc, by simp only [inb]; omega, by simp only [rg]; omega, fun y => hnext (fun p _ _ => by rw [cp_eq0.mp y, Nat.zero_mul]), fun y => ⟨by simp only [rg]; omega, by simp only [rg]; omega, fun x => hnext (fun p hp h1 => by omega), fun x => ⟨by simp only [rg]; omega, fun t => by omega, fun _ => ?_⟩⟩⟩
  have hOb : υ 38 b = cp (O b) := by rw [hf2 38 (by omega)]; exact hO b (by omega)
  have hJp := hsame (a + b) (by omega) (Or.inr (Nat.le_refl _))
  rw [show min a (a + b + 1) = a by omega] at hJp
  have bO := cp_b (O b)
  have bP := cp_mb (A a) (O b)
  have bJ := cp_b (sN (fun q => A q * O (a + b - q)) a)
  have bM := cp_b (A a * O b)
  rw [hOb, hJp, cp_mul]
  refine ⟨sh36 hLc, by simp only [inb]; omega, by simp only [rg]; omega, by simp only [inb]; omega, by simp only [rg]; omega, sh36 hJc, by simp only [inb]; omega, by simp only [rgL]; omega, by simp only [rgL]; omega, by simp only [rg]; omega, sh36 hJc, by simp only [inb]; omega, fun ω ew => ?_⟩
  rw [cp_add] at ew
  refine ih2 _ _ ⟨b + 1, by omega, by omega, fun c hc => by rw [ew, up2_k hc, hf2 c hc], fun p hp h1 => ?_, fun p hp h1 h2 => ?_⟩ (by omega)
  · rw [ew]; simp only [up2, if_true, if_neg (show p ≠ a + b by omega)]; exact hsame p hp (by omega)
  · by_cases c1 : p = a + b
    · subst c1
      rw [ew]; simp only [up2, if_true, sN]
      rw [show a + b - a = b by omega]
    · rw [ew]; simp only [up2, if_true, if_neg c1]; exact hnew p hp h1 (by omega)
theorem s_X7_run {post : Mem → Prop} (hκ : κ < 5) (hV : VE κ ε) (hC : SC κ ε σ) (hT : TW σ) {m : Nat} (hm : m ≤ 300) (h : ∀ τ, FrT σ τ → TW τ → τ 35 5 = (m : Int) → (∀ p, p ≤ m → τ (τ 35 2).toNat p = cp (conv (tot κ ε 0) (tot κ ε 1) p)) → post τ) : w_X7_run κ σ (m : Int) post := by
  have hLc : (σ 35 2).toNat = 36 ∨ (σ 35 2).toNat = 37 := by rcases hT.2 with ⟨a, b⟩ | ⟨a, b⟩ <;> rw [a] <;> decide
  refine ⟨sh36 hLc, s_fill2 (by omega) (fun τ0 f0 z0 => ?_)⟩
  have h350 : τ0 35 = σ 35 := f0 35 (by omega)
  refine ⟨by rw [h350]; exact sh36 hLc, fun σ3 e3 => ?_⟩
  rw [h350, tn0] at e3
  have g3 : ∀ c, c ≠ (σ 35 2).toNat → σ3 c = σ c := fun c hc => by rw [e3, up2_k hc, f0 c hc]
  have h353 : σ3 35 = σ 35 := g3 35 (by omega)
  refine lp2 (w_X7_run_L17 κ (m : Int) post) (fun u τ => FrT σ τ ∧ TW τ ∧ ((u = 0 ∧ ∀ p, p ≤ m → τ (τ 35 2).toNat p = cp (dl p)) ∨ (u = 1 ∧ ∀ p, p ≤ m → τ (τ 35 2).toNat p = cp (tot κ ε 0 p)) ∨ (u = 2 ∧ ∀ p, p ≤ m → τ (τ 35 2).toNat p = cp (conv (tot κ ε 0) (tot κ ε 1) p)))) (fun u τ => (2 - u).toNat) ?_ _ _ ⟨fun c hc => g3 c (by omega), by unfold TW; rw [h353]; exact hT, Or.inl ⟨rfl, fun p hp => ?_⟩⟩
  · intro n u τ ⟨hFr, hTW, hst⟩ ih
    have hCt := hC.t hFr
    have hn := hV.1
    have hu : 0 ≤ u ∧ u ≤ 2 := by omega
    show w_X7_run_L17_body κ _ post _ _ _
    simp only [w_X7_run_L17_body, w_X7_run_B46]
    refine ⟨by simp only [rg]; omega, fun z => ?_, fun z => ?_⟩
    · rcases hst with ⟨e, -⟩ | ⟨e, -⟩ | ⟨e, hv⟩
      · omega
      · omega
      · intro σ4 e4
        have g : ∀ c, c ≠ 35 → σ4 c = τ c := fun c hc => by rw [e4, up2_k hc]
        have gx : ∀ x, x ≠ 5 → σ4 35 x = τ 35 x := fun x hx => by rw [e4]; simp only [up2, if_true, if_neg hx]
        have hLt : (τ 35 2).toNat = 36 ∨ (τ 35 2).toNat = 37 := by rcases hTW.2 with ⟨a, b⟩ | ⟨a, b⟩ <;> rw [a] <;> decide
        refine h σ4 (fun c hc => by rw [g c (by omega), hFr c hc]) ?_ (by rw [e4]; simp [up2]) (fun p hp => ?_)
        · unfold TW; rw [gx 0 (by decide), gx 1 (by decide), gx 2 (by decide), gx 3 (by decide)]; exact hTW
        · rw [gx 2 (by decide), g _ (by omega)]; exact hv p hp
    · -- one hand
      obtain ⟨A, hA, hgo⟩ : ∃ A : Nat → Nat, (∀ p, p ≤ m → τ (τ 35 2).toNat p = cp (A p)) ∧ ∀ υ, FrT σ υ → TW υ → (∀ p, p ≤ m → υ (υ 35 2).toNat p = cp (conv A (tot κ ε u) p)) → w_X7_run_L17 κ (m : Int) post n (u + 1) υ := by
        rcases hst with ⟨e, hv⟩ | ⟨e, hv⟩ | ⟨e, -⟩
        · subst e
          exact ⟨dl, hv, fun υ h1 h2 h3 => ih _ _ ⟨h1, h2, Or.inr (Or.inl ⟨rfl, fun p hp => by rw [h3 p hp, conv_dl_l]⟩)⟩ (by omega)⟩
        · subst e
          exact ⟨tot κ ε 0, hv, fun υ h1 h2 h3 => ih _ _ ⟨h1, h2, Or.inr (Or.inr ⟨rfl, h3⟩)⟩ (by omega)⟩
        · omega
      refine s_X1_firstOfHand hCt.1 hV (by simp only [rg]; omega) (by omega) (by omega) ?_
      rw [tn0, Nat.sub_zero, show firstH (ε 4) u 0 (ε 2 7).toNat = fst ε u from rfl]
      have hrg : rg (fst ε u) := by
        rcases fst_spec (ε := ε) (h := u) with ⟨a, -⟩ | ⟨j, a, b, -⟩
        · rw [a]; exact rg_c _ rfl
        · rw [b]; simp only [rg]; omega
      refine ⟨hrg, fun y => ?_, fun y => ?_⟩
      · refine hgo τ hFr hTW (fun p hp => ?_)
        have hl := lst_neg y
        have : tot κ ε u = dl := by
          funext q
          unfold tot dl
          rw [hl, if_pos (by decide)]
        rw [this, conv_dl_r]
        exact hA p hp
      · refine s_X7_tallyChain hκ hV hCt hTW (by simp only [rg]; omega) hm y (fun υ fu tu cu xu ou => ?_)
        have hLt : (τ 35 2).toNat = 36 ∨ (τ 35 2).toNat = 37 := by rcases hTW.2 with ⟨a, b⟩ | ⟨a, b⟩ <;> rw [a] <;> decide
        refine s_X7_join tu hm (A := A) (O := tot κ ε u) (fun p hp => ?_) ou (fun ω fw tw cw xw vw => ?_)
        · rw [xu 2 (by decide), cu _ (by omega) (by omega) (by omega) (by omega)]; exact hA p hp
        · exact hgo ω (fun c hc => by rw [fw c hc, fu c hc, hFr c hc]) tw vw
  · rw [h353, e3]
    unfold dl
    by_cases c : p = 0
    · subst c; simp only [up2, if_true]; rfl
    · simp only [up2, if_true, if_neg c]
      rw [z0 p (by omega)]; rfl
theorem s_X7_sumTo {post : Int → Prop} (hT : TW σ) {m : Nat} (hm : m ≤ 300) {A : Nat → Nat} (hA : ∀ p, p ≤ m → σ (σ 35 2).toNat p = cp (A p)) (h : post (cp (sN A (m + 1)))) : w_X7_sumTo κ σ (m : Int) post := by
  have hLc : (σ 35 2).toNat = 36 ∨ (σ 35 2).toNat = 37 := by rcases hT.2 with ⟨a, b⟩ | ⟨a, b⟩ <;> rw [a] <;> decide
  refine lp2 (w_X7_sumTo_L4 κ σ (m : Int) post) (fun a u => ∃ q : Nat, u = (q : Int) ∧ q ≤ m + 1 ∧ a = cp (sN A q)) (fun a u => (m + 1 - u).toNat) ?_ _ _ ⟨0, rfl, by omega, rfl⟩
  intro n a u ⟨q, hu, hq, ha⟩ ih
  subst hu ha
  show w_X7_sumTo_L4_body κ σ _ post _ _ _
  simp only [w_X7_sumTo_L4_body, w_X7_sumTo_B33, Int.toNat_natCast]
  refine ⟨by simp only [rg]; omega, by simp only [rg]; omega, fun z => ?_, fun z => ⟨by simp only [rg]; omega, fun y => by omega, fun _ => ⟨sh36 hLc, by simp only [inb]; omega, ?_⟩⟩⟩
  · rw [show m + 1 = q by omega] at h; exact h
  · rw [hA q (by omega)]
    have b1 := cp_b (sN A q)
    have b2 := cp_b (A q)
    refine ⟨by simp only [rg]; omega, ?_⟩
    rw [cp_add]
    exact ih _ _ ⟨q + 1, by omega, by omega, rfl⟩ (by omega)
end TALLY3
