/-! counting: sums, numbers that stay at 1000000000 -/
def sN (f : Nat → Nat) : Nat → Nat
  | 0 => 0
  | c + 1 => sN f c + f c
theorem sN_congr {f g : Nat → Nat} {c : Nat} (h : ∀ k, k < c → f k = g k) : sN f c = sN g c := by
  induction c with
  | zero => rfl
  | succ c ih => simp only [sN]; rw [ih (fun k hk => h k (by omega)), h c (by omega)]
theorem sN_zero {f : Nat → Nat} {c : Nat} (h : ∀ k, k < c → f k = 0) : sN f c = 0 := by
  induction c with
  | zero => rfl
  | succ c ih => simp only [sN]; rw [ih (fun k hk => h k (by omega)), h c (by omega)]
def cp (x : Nat) : Int := min 1000000000 (x : Int)
theorem cp_b (x : Nat) : 0 ≤ cp x ∧ cp x ≤ 1000000000 := by unfold cp; omega
theorem cp_add (a b : Nat) : min 1000000000 (cp a + cp b) = cp (a + b) := by unfold cp; push_cast; omega
theorem cp_0 : cp 0 = 0 := rfl
theorem cp_1 : cp 1 = 1 := rfl
theorem cp_eq0 {x : Nat} : cp x = 0 ↔ x = 0 := by unfold cp; omega
theorem mul_ge {a b : Nat} (ha : 1000000000 ≤ a) (hb : 1 ≤ b) : 1000000000 ≤ a * b := Nat.le_trans ha (Nat.le_mul_of_pos_right a hb)
theorem cp_mul (a b : Nat) : min 1000000000 (cp a * cp b) = cp (a * b) := by
  rcases Nat.eq_zero_or_pos a with rfl | ha
  · simp only [cp_0, Int.zero_mul, Nat.zero_mul]; rfl
  rcases Nat.eq_zero_or_pos b with rfl | hb
  · simp only [cp_0, Int.mul_zero, Nat.mul_zero]; rfl
  by_cases h1 : a ≤ 1000000000
  · by_cases h2 : b ≤ 1000000000
    · have e1 : cp a = (a : Int) := by unfold cp; omega
      have e2 : cp b = (b : Int) := by unfold cp; omega
      rw [e1, e2, ← Int.natCast_mul]
      rfl
    · have e2 : cp b = ((1000000000 : Nat) : Int) := by unfold cp; omega
      obtain ⟨x, hx, hx1⟩ : ∃ x : Nat, cp a = (x : Int) ∧ 1 ≤ x := ⟨a, by unfold cp; omega, ha⟩
      rw [hx, e2, ← Int.natCast_mul]
      have g1 := mul_ge (a := 1000000000) (b := x) (Nat.le_refl _) hx1
      have g2 := mul_ge (a := b) (b := a) (by omega) ha
      rw [Nat.mul_comm] at g1 g2
      unfold cp
      omega
  · have e1 : cp a = ((1000000000 : Nat) : Int) := by unfold cp; omega
    obtain ⟨x, hx, hx1⟩ : ∃ x : Nat, cp b = (x : Int) ∧ 1 ≤ x := ⟨(cp b).toNat, by unfold cp; omega, by unfold cp; omega⟩
    rw [hx, e1, ← Int.natCast_mul]
    have g1 := mul_ge (a := 1000000000) (b := x) (Nat.le_refl _) hx1
    have g2 := mul_ge (a := a) (b := b) (by omega) hb
    unfold cp
    omega
theorem cp_mb (a b : Nat) : 0 ≤ cp a * cp b ∧ cp a * cp b ≤ 1000000000 * 1000000000 := mulb (cp_b a).1 (cp_b a).2 (cp_b b).1 (cp_b b).2
/-- how many rows of states up to state k of event i have the price p -/
noncomputable def nwS (κ : Nat) (ε : Mem) (g : Nat → Nat → Nat) (q i k p j : Nat) : Nat := if sS κ ε q j i k ≠ -2 ∧ sS κ ε q j i k + pS κ ε i k ≤ (p : Int) then g j (p - (sS κ ε q j i k + pS κ ε i k).toNat) else 0
noncomputable def nwFm (κ : Nat) (ε : Mem) (f : Nat → Nat → Nat → Nat) (i k p : Nat) : Nat := by
  classical
  exact if lets ε i (k : Int) then (if prv ε i < 0 then (if pS κ ε i k = (p : Int) then 1 else 0) else sN (nwS κ ε (f (prv ε i).toNat) (prv ε i).toNat i k p) (cS κ ε (prv ε i).toNat)) else 0
noncomputable def nw (κ : Nat) (ε : Mem) : Nat → Nat → Nat → Nat := cv (nwFm κ ε) (fun _ _ => 0)
theorem nw_eq (κ : Nat) (ε : Mem) (i k p : Nat) : (¬ lets ε i (k : Int) → nw κ ε i k p = 0) ∧ (lets ε i (k : Int) → prv ε i < 0 → nw κ ε i k p = if pS κ ε i k = (p : Int) then 1 else 0) ∧ (lets ε i (k : Int) → ∀ q : Nat, prv ε i = (q : Int) → nw κ ε i k p = sN (nwS κ ε (nw κ ε q) q i k p) (cS κ ε q)) := by
  have e := congrFun (congrFun (cv_eq (F := nwFm κ ε) (d := fun _ _ => 0) (fun i f g h => by
    funext k p
    unfold nwFm
    rcases prv_spec (ε := ε) (i := i) with ⟨a, -⟩ | ⟨p', a, c, -⟩
    · rw [a]; simp
    · rw [c, Int.toNat_natCast, h p' a]) i) k) p
  obtain ⟨Q, hQ⟩ : ∃ Q, Q = cv (nwFm κ ε) (fun _ _ => 0) := ⟨_, rfl⟩
  have e2 : nw κ ε i k p = nwFm κ ε Q i k p := by rw [hQ]; exact e
  unfold nwFm at e2
  rw [e2]
  refine ⟨fun h => by rw [if_neg h], fun h g => by rw [if_pos h, if_pos g], fun h q g => ?_⟩
  rw [if_pos h, if_neg (by omega), g, Int.toNat_natCast, hQ]
  rfl
/-- the cells of the Tally, in either order -/
def TW (σ : Mem) : Prop := ((σ 35 0 = 39 ∧ σ 35 1 = 40) ∨ (σ 35 0 = 40 ∧ σ 35 1 = 39)) ∧ ((σ 35 2 = 36 ∧ σ 35 3 = 37) ∨ (σ 35 2 = 37 ∧ σ 35 3 = 36))
def FrT (σ τ : Mem) : Prop := ∀ c, c < 35 → τ c = σ c
theorem sh39 {κ c : Nat} (h : c = 39 ∨ c = 40) : (shW κ true)[c]? = some (.inl (0, wd κ * 301)) := by rcases h with rfl | rfl <;> rfl
theorem sh36 {κ c : Nat} (h : c = 36 ∨ c = 37) : (shW κ true)[c]? = some (.inl (0, 301)) := by rcases h with rfl | rfl <;> rfl
theorem SC.t {κ : Nat} {ε σ τ : Mem} (h : SC κ ε σ) (k : FrT σ τ) : SC κ ε τ := h.k ⟨fun c hc => k c (by omega), by rw [k 14 (by decide)]⟩
section TALLY
variable {κ : Nat} {σ ε : Mem}
theorem s_fill2 {post : Mem → Prop} {k n : Nat} (hn : n < 100000) {v : Int} (h : ∀ τ, (∀ c, c ≠ k → τ c = σ c) → (∀ p, p < n → τ k p = v) → post τ) : w_J7_fill_53178 k n σ v post := by
  refine lp2 (w_J7_fill_53178_L5 k n v ((n : Nat) : Int) post) (fun a τ => ∃ q : Nat, a = (q : Int) ∧ q ≤ n ∧ (∀ c, c ≠ k → τ c = σ c) ∧ ∀ p, p < q → τ k p = v) (fun a τ => (n - a).toNat) ?_ _ _ ⟨0, rfl, by omega, fun _ _ => rfl, fun p hp => by omega⟩
  intro m a τ ⟨q, ha, hq, hf, hv⟩ ih
  subst ha
  show w_J7_fill_53178_L5_body k n v _ post _ _ _
  simp only [w_J7_fill_53178_L5_body, Int.toNat_natCast]
  refine ⟨by simp only [rg]; omega, by simp only [rg]; omega, fun z => h τ hf (fun p hp => hv p (by omega)), fun z => ⟨by simp only [inb]; omega, fun υ e => ?_⟩⟩
  refine ih _ _ ⟨q + 1, by push_cast; rfl, by omega, fun c hc => by rw [e, up2_k hc, hf c hc], fun p hp => ?_⟩ (by omega)
  rcases Nat.lt_or_eq_of_le (Nat.le_of_lt_succ hp) with w | w
  · rw [e]; simp only [up2, if_true, if_neg (show p ≠ q by omega)]; exact hv p w
  · rw [w, e]; simp [up2]
theorem s_fill4 {post : Mem → Prop} {k n b : Nat} (hn : n < 100000) (hb : b ≤ n) {v : Int} (h : ∀ τ, (∀ c, c ≠ k → τ c = σ c) → (∀ p, p < b → τ k p = v) → post τ) : w_J7_fill_fda19 k n σ 0 (b : Int) v post := by
  refine ⟨rg_c _ rfl, by simp only [rg]; omega, fun _ => ⟨rg_c _ rfl, fun _ => ⟨by simp only [rg]; omega, by simp only [rg]; omega, fun _ => ?_, fun z => by omega⟩, fun z => by omega⟩, fun z => by omega⟩
  refine lp2 (w_J7_fill_fda19_L10 k n (b : Int) v post) (fun a τ => ∃ q : Nat, a = (q : Int) ∧ q ≤ b ∧ (∀ c, c ≠ k → τ c = σ c) ∧ ∀ p, p < q → τ k p = v) (fun a τ => (b - a).toNat) ?_ _ _ ⟨0, rfl, by omega, fun _ _ => rfl, fun p hp => by omega⟩
  intro m a τ ⟨q, ha, hq, hf, hv⟩ ih
  subst ha
  show w_J7_fill_fda19_L10_body k n _ v post _ _ _
  simp only [w_J7_fill_fda19_L10_body, Int.toNat_natCast]
  refine ⟨by simp only [rg]; omega, by simp only [rg]; omega, fun z => h τ hf (fun p hp => hv p (by omega)), fun z => ⟨by simp only [inb]; omega, fun υ e => ?_⟩⟩
  refine ih _ _ ⟨q + 1, by push_cast; rfl, by omega, fun c hc => by rw [e, up2_k hc, hf c hc], fun p hp => ?_⟩ (by omega)
  rcases Nat.lt_or_eq_of_le (Nat.le_of_lt_succ hp) with w | w
  · rw [e]; simp only [up2, if_true, if_neg (show p ≠ q by omega)]; exact hv p w
  · rw [w, e]; simp [up2]
theorem s_X7_clearRows {post : Mem → Prop} {k c : Nat} (hc : c ≤ wd κ) (h : ∀ τ, (∀ d, d ≠ k → τ d = σ d) → (∀ p, p < c * 301 → τ k p = 0) → post τ) : w_X7_clearRows κ k (wd κ * 301) σ (c : Int) post := by
  have hwd := wd_le κ
  have h1 : c * 301 ≤ wd κ * 301 := Nat.mul_le_mul_right 301 hc
  have e : (c : Int) * 301 = ((c * 301 : Nat) : Int) := by omega
  have e2 : max 0 (min ((wd κ * 301 : Nat) : Int) ((c * 301 : Nat) : Int)) = ((c * 301 : Nat) : Int) := by omega
  simp only [w_X7_clearRows, e, e2]
  exact ⟨by simp only [rg]; omega, by simp only [rg]; omega, by simp only [rg]; omega, s_fill4 (by omega) h1 h⟩
/-- the row of an event holds its numbers, up to the price m -/
def NRow (κ : Nat) (ε σ : Mem) (c i m : Nat) : Prop := ∀ k, k < cS κ ε i → ∀ p, p ≤ m → σ c (k * 301 + p) = cp (nw κ ε i k p)
theorem ix3 {k p w : Nat} (hk : k < w) (hp : p < 301) : k * 301 + p < w * 301 := by
  have : (k + 1) * 301 ≤ w * 301 := Nat.mul_le_mul_right 301 hk
  omega
theorem ix3_ne {k l p q : Nat} (h : ¬ (k = l ∧ p = q)) (hp : p < 301) (hq : q < 301) : k * 301 + p ≠ l * 301 + q := by omega
theorem s_X7_begin {post : Mem → Prop} (hκ : κ < 5) (hV : VE κ ε) (hC : SC κ ε σ) (hT : TW σ) {i : Nat} (hi : (i : Int) < ε 2 7) (hp : prv ε i < 0) (h : ∀ τ, FrT σ τ → τ 35 = σ 35 → (∀ c, c ≠ (σ 35 0).toNat → τ c = σ c) → NRow κ ε τ (σ 35 0).toNat i 300 → post τ) : w_X7_begin κ σ (i : Int) post := by
  have hn := hV.1
  have hc := cS_le hκ hV hi
  have hwd := wd_le κ
  obtain ⟨H, hH, hHc⟩ : ∃ H : Nat, (σ 35 0).toNat = H ∧ (H = 39 ∨ H = 40) := ⟨(σ 35 0).toNat, rfl, by rcases hT.1 with ⟨a, -⟩ | ⟨a, -⟩ <;> rw [a] <;> decide⟩
  rw [hH] at h
  refine s_cnt hV hC hi ⟨by rw [hH]; exact sh39 hHc, ?_⟩
  rw [hH]
  refine s_X7_clearRows hc (fun τ0 f0 z0 => ?_)
  refine lp2 (w_X7_begin_L14 κ (i : Int) post) (fun a τ => ∃ q : Nat, a = (q : Int) ∧ q ≤ cS κ ε i ∧ (∀ c, c ≠ H → τ c = σ c) ∧ (∀ k, k < q → ∀ p, p ≤ 300 → τ H (k * 301 + p) = cp (nw κ ε i k p)) ∧ ∀ k, q ≤ k → k < cS κ ε i → ∀ p, p ≤ 300 → τ H (k * 301 + p) = 0) (fun a τ => (cS κ ε i - a).toNat) ?_ _ _ ⟨0, rfl, by omega, f0, fun k hk => by omega, fun k _ hk p hp => z0 _ (ix3 hk (by omega))⟩
  intro n a τ ⟨q, ha, hq, hf, h1, h2⟩ ih
  subst ha
  have hFr : FrT σ τ := fun c hc => hf c (by omega)
  have hCt := hC.t hFr
  have h35 : τ 35 = σ 35 := hf 35 (by omega)
  have hH' : (τ 35 0).toNat = H := by rw [h35]; exact hH
  show w_X7_begin_L14_body κ _ post _ _ _
  simp only [w_X7_begin_L14_body, w_X7_begin_B84, hH']
  refine s_cnt hV hCt hi ⟨by simp only [rg]; omega, by simp only [rg]; omega, fun z => ?_, fun z => ?_⟩
  · exact h τ hFr h35 hf (fun k hk p hp => h1 k (by omega) p hp)
  · have hqc : q < cS κ ε i := by omega
    have hpb := pS_b hκ hV hi hqc
    have hnw := nw_eq κ ε i q
    have hskip : (∀ p, p ≤ 300 → nw κ ε i q p = 0) → w_X7_begin_L14 κ (i : Int) post n ((q : Int) + 1) τ := by
      intro y
      refine ih _ _ ⟨q + 1, by push_cast; rfl, by omega, hf, fun k hk p hp => ?_, fun k hk1 hk2 p hp => h2 k (by omega) hk2 p hp⟩ (by omega)
      rcases Nat.lt_or_eq_of_le (Nat.le_of_lt_succ hk) with w | w
      · exact h1 k w p hp
      · rw [w, y p hp, h2 q (Nat.le_refl q) hqc p hp]; rfl
    refine s_pr hκ hV hCt hi hqc (s_X1_allows hCt.1 hV (by omega) hi (by simp only [rg]; omega) (fun x => ⟨rg_c _ rfl, fun t => absurd t (by decide), fun _ => ?_⟩) (fun x => ⟨rg_c _ rfl, fun _ => hskip (fun p _ => (hnw p).1 ?_), fun t => absurd rfl t⟩))
    · rw [Int.toNat_natCast] at x
      obtain ⟨P, hP⟩ : ∃ P : Nat, pS κ ε i q = (P : Int) := ⟨(pS κ ε i q).toNat, by omega⟩
      rw [hP] at hpb ⊢
      have hix := ix3 (k := q) (p := P) (w := wd κ) (by omega) (by omega)
      have e : ((q : Int) * 301 + (P : Int)) = ((q * 301 + P : Nat) : Int) := by omega
      rw [e, Int.toNat_natCast]
      refine ⟨by simp only [rg]; omega, fun t => by omega, fun _ => ⟨by simp only [rg]; omega, fun t => by omega, fun _ => ⟨sh39 hHc, by simp only [rg]; omega, by simp only [rg]; omega, fun t => by omega, fun _ => ⟨sh39 hHc, by simp only [inb]; omega, fun υ eu => ?_⟩⟩⟩⟩
      refine ih _ _ ⟨q + 1, by push_cast; rfl, by omega, fun c hc => by rw [eu, up2_k hc, hf c hc], fun k hk p hp' => ?_, fun k hk1 hk2 p hp' => ?_⟩ (by omega)
      · rcases Nat.lt_or_eq_of_le (Nat.le_of_lt_succ hk) with w | w
        · rw [eu]; simp only [up2, if_true, if_neg (ix3_ne (k := k) (l := q) (p := p) (q := P) (by omega) (by omega) (by omega))]; exact h1 k w p hp'
        · subst w
          rw [(hnw p).2.1 x hp, hP, eu]
          by_cases t : p = P
          · subst t; rw [if_pos rfl]; simp only [up2, if_true]; rfl
          · simp only [up2, if_true, if_neg (ix3_ne (k := k) (l := k) (p := p) (q := P) (by omega) (by omega) (by omega))]
            rw [if_neg (show ¬ ((P : Int) = (p : Int)) by omega), h2 k (Nat.le_refl k) hqc p hp']; rfl
      · rw [eu]; simp only [up2, if_true, if_neg (ix3_ne (k := k) (l := q) (p := p) (q := P) (by omega) (by omega) (by omega))]; exact h2 k (by omega) hk2 p hp'
    · rw [Int.toNat_natCast] at x; exact x
end TALLY
