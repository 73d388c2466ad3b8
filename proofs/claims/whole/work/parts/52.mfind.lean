/-! the reference: told, about, the states of an event -/
theorem cntP_congr {P Q : Nat → Bool} {n : Nat} (h : ∀ i, i < n → P i = Q i) : cntP P n = cntP Q n := by
  induction n with
  | zero => rfl
  | succ n ih => simp only [cntP]; rw [ih (fun i hi => h i (by omega)), h n (by omega)]
theorem cntP_all {P : Nat → Bool} {n : Nat} (h : ∀ i, i < n → P i = true) : cntP P n = n := by
  induction n with
  | zero => rfl
  | succ n ih => simp only [cntP]; rw [ih (fun i hi => h i (by omega)), h n (by omega)]; simp
def LsM (σ τ : Mem) (i : Nat) : Prop := (∀ c, c ≠ 25 → c ≠ 26 → c ≠ 27 → c ≠ 28 → τ c = σ c) ∧ ∀ j L, j ≠ i → L.length ≤ 80 → RowM σ j L → RowM τ j L
theorem LsM.rf {σ : Mem} {i : Nat} : LsM σ σ i := ⟨fun _ _ _ _ _ => rfl, fun _ _ _ _ h => h⟩
theorem LsM.tr {σ τ υ : Mem} {i : Nat} (h : LsM σ τ i) (g : LsM τ υ i) : LsM σ υ i := ⟨fun c a b d e => (g.1 c a b d e).trans (h.1 c a b d e), fun j L a b c => g.2 j L a b (h.2 j L a b c)⟩
theorem LsM.mp {κ : Nat} {σ τ ε : Mem} {i : Nat} (h : LsM σ τ i) (hM : MP κ ε σ) : MP κ ε τ :=
  hM.k (fun c c1 c2 => h.1 c (by omega) (by omega) (by omega) (by omega)) (by rw [h.1 17 (by decide) (by decide) (by decide) (by decide)]) (by rw [h.1 17 (by decide) (by decide) (by decide) (by decide)])
section MFIND
variable {κ : Nat} {σ ε : Mem} {post : Mem → Prop}
theorem s_mtold {post : Int → Prop} (hM : MP κ ε σ) (hV : VE κ ε) {w : Int} (hw : rg w) (h : post (if w = 0 then ε 2 7 else if w = 1 then cntP (fun i => decide (ε 4 i = 0)) (ε 2 7).toNat else if w = 2 then cntP (fun i => decide (ε 4 i = 1)) (ε 2 7).toNat else if w = 3 then (κ : Int) else if w = 4 then cntP (fun i => decide (ε 8 i ≠ -2)) (ε 2 7).toNat else -1)) : w_X10_told σ w post := by
  obtain ⟨m0, m1, m18, m19, m20, m21, m22, m23, m24⟩ := id hM
  have hn := hV.1
  refine s_in hw (rg_c _ rfl) (rg_c _ rfl) (fun a1 a2 => ⟨rg_c _ rfl, fun _ => ?_, fun z => absurd z (by decide)⟩) (fun a => ⟨rg_c _ rfl, fun z => absurd rfl z, fun _ => ?_⟩)
  · refine lp2 (w_X10_told_L15 σ w post) (fun c u => 0 ≤ u ∧ u ≤ ε 2 7 ∧ c = cntP (fun i => decide (w = 0 ∨ (w < 3 ∧ ε 4 i = w - 1) ∨ (w = 4 ∧ 0 ≤ ε 8 i))) u.toNat) (fun c u => (ε 2 7 - u).toNat) ?_ 0 0 ⟨by omega, by omega, rfl⟩
    intro n c u ⟨u0, u1, hc⟩ ih
    show w_X10_told_L15_body σ w post _ c u
    simp only [w_X10_told_B85, w_X10_told_B64, w_X10_told_B59, w_X10_told_B63, w_X10_told_B45, w_X10_told_L15_body, w_X10_told, m0, m1, m18, m23]
    refine ⟨by simp only [rg]; omega, by simp only [rg]; omega, fun b => ⟨hw, fun d => ?_, fun d => ?_⟩, fun b => ?_⟩
    · rw [show u.toNat = (ε 2 7).toNat by omega] at hc
      rw [hc]
      rcases (show w = 0 ∨ w = 1 ∨ w = 2 ∨ w = 4 by omega) with rfl | rfl | rfl | rfl
      · rw [cntP_all (fun i hi => by simp), show (((ε 2 7).toNat : Nat) : Int) = ε 2 7 by omega]
        exact h
      · rw [cntP_congr (Q := fun i => decide (ε 4 i = 0)) (fun i hi => by simp)]
        exact h
      · rw [cntP_congr (Q := fun i => decide (ε 4 i = 1)) (fun i hi => by simp)]
        exact h
      · rw [cntP_congr (Q := fun i => decide (ε 8 i ≠ -2)) (fun i hi => by
          have := (hV.2.1 i (by omega)).2.2.2.2.2.2.1
          rw [decide_eq_decide]
          omega)]
        exact h
    · subst d
      exact h
    · have hev := hV.ev u0 b
      have he := hev.h01
      have hp := hev.2.2.2.2.2.2.1
      have hd : (u + 1).toNat = u.toNat + 1 := by omega
      have up : ∀ x : Int, (x = 1 ∧ (w = 0 ∨ (w < 3 ∧ ε 4 u.toNat = w - 1) ∨ (w = 4 ∧ 0 ≤ ε 8 u.toNat))) ∨ (x = 0 ∧ ¬ (w = 0 ∨ (w < 3 ∧ ε 4 u.toNat = w - 1) ∨ (w = 4 ∧ 0 ≤ ε 8 u.toNat))) → w_X10_told_L15 σ w post n (c + x) (u + 1) := by
        intro x hx
        refine ih _ _ ⟨by omega, by omega, ?_⟩ (by omega)
        rw [hd, hc]
        simp only [cntP]
        rcases hx with ⟨e, y⟩ | ⟨e, y⟩
        · rw [e, if_pos (by exact decide_eq_true y)]
        · rw [e, if_neg (by simpa using y)]
      refine ⟨hw, fun d => up 1 (Or.inl ⟨rfl, Or.inl d⟩), fun d => ⟨hw, fun e => ⟨hw, fun f => up 0 (Or.inr ⟨rfl, by omega⟩), fun f => ⟨by simp only [inb]; omega, by simp only [rg]; omega, fun g => up 0 (Or.inr ⟨rfl, by omega⟩), fun g => up 1 (Or.inl ⟨rfl, by omega⟩)⟩⟩, fun e => ⟨by simp only [inb]; omega, by simp only [rg]; omega, by simp only [rg]; omega, fun f => up 1 (Or.inl ⟨rfl, by omega⟩), fun f => ⟨hw, fun g => up 0 (Or.inr ⟨rfl, by omega⟩), fun g => by omega⟩⟩⟩⟩
  · rw [if_neg (by omega), if_neg (by omega), if_neg (by omega), if_neg (by omega), if_neg (by omega)] at h
    exact h
theorem s_mabout {post : Int → Prop} (hM : MP κ ε σ) (hV : VE κ ε) {i w : Int} (hi : rg i) (hw : rg w) (h1 : ¬ (isE ε i ∧ 0 ≤ w ∧ w ≤ 7) → post (-1)) (h2 : isE ε i → 0 ≤ w → w ≤ 7 → post (if w = 0 then ε 4 i.toNat else if w = 1 then ε 5 i.toNat else if w = 2 then ε 6 i.toNat else if w = 3 then ε 7 i.toNat else if w = 7 then ε 8 i.toNat else pit ε i.toNat (w - 4).toNat)) : w_X10_about σ i w post := by
  obtain ⟨m0, m1, m18, m19, m20, m21, m22, m23, m24⟩ := id hM
  have hn := hV.1
  simp only [w_X10_about_B24, w_X10_about_B107, w_X10_about, m1, m18, m19, m20, m21, m22, m23]
  refine s_in hi (rg_c _ rfl) (by simp only [rg]; omega) (fun a1 a2 => ⟨rg_c _ rfl, fun z => absurd z (by decide), fun _ => ?_⟩) (fun a => ⟨rg_c _ rfl, fun _ => h1 (fun z => a ⟨z.1.1, by have := z.1.2; omega⟩), fun z => absurd rfl z⟩)
  refine s_in hw (rg_c _ rfl) (rg_c _ rfl) (fun b1 b2 => ⟨rg_c _ rfl, fun _ => ?_, fun z => absurd z (by decide)⟩) (fun b => ⟨rg_c _ rfl, fun z => absurd rfl z, fun _ => h1 (fun z => b z.2)⟩)
  have hh := h2 ⟨a1, by omega⟩ b1 b2
  have ib : inb i 40 := ⟨a1, by omega, by omega⟩
  have hp : w = 4 ∨ w = 5 ∨ w = 6 → inb (3 * i + w - 4) 120 ∧ post (ε 9 (3 * i + w - 4).toNat) := by
    intro c
    rw [if_neg (by omega), if_neg (by omega), if_neg (by omega), if_neg (by omega), if_neg (by omega)] at hh
    unfold pit at hh
    rw [show (3 * i + w - 4).toNat = 3 * i.toNat + (w - 4).toNat by omega]
    exact ⟨⟨by omega, by omega, by omega⟩, hh⟩
  refine ⟨hw, fun c => by omega, fun c => ?_, fun c => ?_, fun c => ?_, fun c => ?_, fun c => hp (by omega), fun c => hp (by omega), fun c => hp (by omega), fun c => ?_⟩
  · subst c; exact ⟨ib, hh⟩
  · subst c; exact ⟨ib, hh⟩
  · subst c; exact ⟨ib, hh⟩
  · subst c; exact ⟨ib, hh⟩
  · subst c; exact ⟨ib, hh⟩
theorem s_madd {i : Nat} (hi : i < 40) {a b p : Int} {L : List T3} (hR : RowM σ i L) (hL : L.length < 80) (h : ∀ τ, LsM σ τ i → RowM τ i (L ++ [(p, a, b)]) → post τ) : w_X10_add σ (i : Int) a b p post := by
  have hc := hR.1
  have e : (80 * (i : Int) + (L.length : Int)).toNat = 80 * i + L.length := by omega
  have ib : inb (80 * (i : Int) + (L.length : Int)) 3200 := ⟨by omega, by omega, by omega⟩
  have ia : inb (i : Int) 40 := ⟨by omega, by omega, by omega⟩
  simp only [w_X10_add, Int.toNat_natCast, hc, e]
  refine ⟨ia, ib, fun τ1 e1' => ⟨ib, fun τ2 e2' => ⟨ib, fun τ3 e3' => ⟨ia, ia, fun τ4 e4' => ?_⟩⟩⟩⟩
  refine h τ4 ⟨fun c a b d e => ?_, fun j M hj hM hRj => ?_⟩ ?_
  · rw [e4', up2_k a, e3', up2_k e, e2', up2_k d, e1', up2_k b]
  · refine ⟨?_, fun k hk => ?_⟩
    · rw [e4']; simp only [up2, if_true, if_neg hj]
      rw [e3', up2_k (by decide), e2', up2_k (by decide), e1', up2_k (by decide)]
      exact hRj.1
    · have hne : 80 * j + k ≠ 80 * i + L.length := by omega
      obtain ⟨q1, q2, q3⟩ := hRj.2 k hk
      refine ⟨?_, ?_, ?_⟩
      · rw [e4', up2_k (by decide), e3']; simp only [up2, if_true, if_neg hne]; rw [e2', up2_k (by decide), e1', up2_k (by decide)]; exact q1
      · rw [e4', up2_k (by decide), e3', up2_k (by decide), e2', up2_k (by decide), e1']; simp only [up2, if_true, if_neg hne]; exact q2
      · rw [e4', up2_k (by decide), e3', up2_k (by decide), e2']; simp only [up2, if_true, if_neg hne]; rw [e1', up2_k (by decide)]; exact q3
  · have hc3 : τ3 25 i = (L.length : Int) := by rw [e3', up2_k (by decide), e2', up2_k (by decide), e1', up2_k (by decide)]; exact hc
    refine ⟨?_, fun k hk => ?_⟩
    · rw [e4', hc3]; simp [up2]
    · have hk' : k ≤ L.length := by simp at hk; omega
      rcases Nat.lt_or_eq_of_le hk' with q | q
      · have hne : 80 * i + k ≠ 80 * i + L.length := by omega
        obtain ⟨q1, q2, q3⟩ := hR.2 k q
        refine ⟨?_, ?_, ?_⟩
        · rw [e4', up2_k (by decide), e3']; simp only [up2, if_true, if_neg hne, e0, gd_app_lt q]; rw [e2', up2_k (by decide), e1', up2_k (by decide)]; exact q1
        · rw [e4', up2_k (by decide), e3', up2_k (by decide), e2', up2_k (by decide), e1']; simp only [up2, if_true, if_neg hne, e1, gd_app_lt q]; exact q2
        · rw [e4', up2_k (by decide), e3', up2_k (by decide), e2']; simp only [up2, if_true, if_neg hne, e2, gd_app_lt q]; rw [e1', up2_k (by decide)]; exact q3
      · subst q
        refine ⟨?_, ?_, ?_⟩
        · rw [e4', up2_k (by decide), e3']; simp only [up2, if_true, e0, gd_app_eq]
        · rw [e4', up2_k (by decide), e3', up2_k (by decide), e2', up2_k (by decide), e1']; simp only [up2, if_true, e1, gd_app_eq]
        · rw [e4', up2_k (by decide), e3', up2_k (by decide), e2']; simp only [up2, if_true, e2, gd_app_eq]
/-- keyboard -/
theorem kb_cb : ∀ s : Nat, s < 32 → cntP (fun k => s.testBit k) 5 = (nbits s : Int) := by decide +kernel
theorem s_mbits {post : Int → Prop} {s : Nat} (hs : s < 32) (h : post (nbits s)) : w_X10_bits σ (s : Int) post := by
  refine lp2 (w_X10_bits_L4 σ (s : Int) post) (fun c u => ∃ k : Nat, u = (k : Int) ∧ k ≤ 5 ∧ c = cntP (fun k => s.testBit k) k) (fun c u => (5 - u).toNat) ?_ 0 0 ⟨0, rfl, by omega, rfl⟩
  intro n c u ⟨k, hu, hk, hc⟩ ih
  subst hu
  show w_X10_bits_L4_body σ (s : Int) post _ _ _
  refine ⟨by simp only [rg]; omega, fun a => ?_, fun a => ?_⟩
  · rw [hc, show k = 5 by omega, kb_cb s hs]; exact h
  · refine ih _ _ ⟨k + 1, by push_cast; rfl, by omega, ?_⟩ (by omega)
    rw [kb_bit s hs k (by omega), hc]
    rfl
def fgR (s : Nat) : Nat → Nat → Nat → Nat
  | 0, _, _ => 0
  | d + 1, f, l => if s.testBit f then (if l = 0 then f + 1 else fgR s d (f + 1) (l - 1)) else fgR s d (f + 1) l
theorem kb_fgR : ∀ s : Nat, s < 32 → ∀ n : Nat, n < 3 → n < nbits s → ((fgR s 5 0 n : Nat) : Int) = fg s n := by decide +kernel
theorem s_mfgr {post : Int → Prop} {s m : Nat} (hs : s < 32) (hm : m < 3) (hb : m < nbits s) (h : post (fg s m)) : w_X10_finger_B24 σ (s : Int) (m : Int) post := by
  have hr := kb_rg s hs m hm hb
  refine lp2 (w_X10_finger_L29 σ (s : Int) post) (fun a u => ∃ l f : Nat, a = (l : Int) ∧ u = (f : Int) + 1 ∧ f ≤ 5 ∧ l < 3 ∧ ((fgR s (5 - f) f l : Nat) : Int) = fg s m) (fun a u => (6 - u).toNat) ?_ _ _ ⟨m, 0, rfl, rfl, by omega, hm, kb_fgR s hs m hm hb⟩
  intro n a u ⟨l, f, ha, hu, hf, hl, hp⟩ ih
  subst ha hu
  show w_X10_finger_L29_body σ (s : Int) post _ _ _
  simp only [w_X10_finger_L29_body, w_X10_finger_B45]
  by_cases c : f = 5
  · rw [c] at hp
    simp only [Nat.sub_self, fgR] at hp
    omega
  · rw [show (f : Int) + 1 - 1 = (f : Int) by omega, kb_bit s hs f (by omega)]
    rw [show 5 - f = (5 - (f + 1)) + 1 by omega] at hp
    simp only [fgR] at hp
    by_cases t : s.testBit f
    · rw [if_pos t] at hp ⊢
      refine ⟨rg_c _ rfl, fun b => absurd b (by decide), fun _ => ⟨by simp only [rg]; omega, fun d => ?_, fun d => ?_⟩⟩
      · rw [if_pos (by omega)] at hp
        rw [show (f : Int) + 1 = fg s m by rw [← hp]; push_cast; rfl]
        exact h
      · rw [if_neg (by omega)] at hp
        exact ih _ _ ⟨l - 1, f + 1, by omega, by push_cast; rfl, by omega, by omega, hp⟩ (by omega)
    · rw [if_neg t] at hp ⊢
      refine ⟨rg_c _ rfl, fun _ => ih _ _ ⟨l, f + 1, by omega, by push_cast; rfl, by omega, by omega, hp⟩ (by omega), fun b => absurd rfl b⟩
theorem s_mfinger {post : Int → Prop} (hM : MP κ ε σ) (hV : VE κ ε) {i : Nat} (hi : (i : Int) < ε 2 7) {s k : Nat} (hs : s < 32) (hn : (nbits s : Int) = ε 7 i) (hk : (k : Int) < ε 7 i) (h : post (fg s (if ε 4 i = 1 then k else (ε 7 i).toNat - 1 - k))) : w_X10_finger σ (i : Int) (s : Int) (k : Int) post := by
  obtain ⟨m0, m1, m18, m19, m20, m21, m22, m23, m24⟩ := id hM
  have hn40 := hV.1
  have hev := hV.2.1 i hi
  have he := hev.h01
  have h7 := hev.2.2.2.1
  simp only [w_X10_finger, m18, m21, Int.toNat_natCast]
  refine ⟨by simp only [inb]; omega, by simp only [rg]; omega, fun a => ⟨by simp only [inb]; omega, ?_⟩, fun a => ?_⟩
  · rw [if_neg a] at h
    rw [show ε 7 i - 1 - (k : Int) = (((ε 7 i).toNat - 1 - k : Nat) : Int) by omega]
    exact s_mfgr hs (by omega) (by omega) h
  · rw [if_pos a] at h
    exact s_mfgr hs (by omega) (by omega) h
def kbM (ε : Mem) (i k : Nat) : Nat := if ε 4 i = 1 then k else (ε 7 i).toNat - 2 - k
def kbT (ε : Mem) (i s : Nat) : Nat → Int
  | 0 => 0
  | k + 1 => kbT ε i s k + kbC ε i s (kbM ε i k)
def kbA (ε : Mem) (i s : Nat) : Nat → Prop
  | 0 => True
  | k + 1 => kbA ε i s k ∧ kbOk ε i s (kbM ε i k)
theorem kbA_at {i s k m : Nat} (h : kbA ε i s m) (hk : k < m) : kbOk ε i s (kbM ε i k) := by
  induction m with
  | zero => omega
  | succ m ih =>
    rcases Nat.lt_or_eq_of_le (Nat.le_of_lt_succ hk) with q | q
    · exact ih h.1 q
    · rw [q]; exact h.2
theorem kbTA {i s : Nat} (h7 : 1 ≤ ε 7 i ∧ ε 7 i ≤ 3) : kbT ε i s ((ε 7 i).toNat - 1) = kbSum ε i s ((ε 7 i).toNat - 1) ∧ (kbA ε i s ((ε 7 i).toNat - 1) ↔ kbAll ε i s ((ε 7 i).toNat - 1)) := by
  rcases (show (ε 7 i).toNat = 1 ∨ (ε 7 i).toNat = 2 ∨ (ε 7 i).toNat = 3 by omega) with e | e | e
  · rw [e]; exact ⟨rfl, Iff.rfl⟩
  · rw [e]
    have : kbM ε i 0 = 0 := by unfold kbM; rw [e]; split <;> rfl
    simp [kbT, kbSum, kbA, kbAll, this]
  · rw [e]
    by_cases c : ε 4 i = 1
    · have q0 : kbM ε i 0 = 0 := by unfold kbM; rw [if_pos c]
      have q1 : kbM ε i 1 = 1 := by unfold kbM; rw [if_pos c]
      simp [kbT, kbSum, kbA, kbAll, q0, q1]
    · have q0 : kbM ε i 0 = 1 := by unfold kbM; rw [if_neg c, e]
      have q1 : kbM ε i 1 = 0 := by unfold kbM; rw [if_neg c, e]
      simp only [kbT, kbSum, kbA, kbAll, q0, q1, Nat.reduceSub, true_and, Int.zero_add]
      exact ⟨Int.add_comm _ _, ⟨fun z => ⟨z.2, z.1⟩, fun z => ⟨z.2, z.1⟩⟩⟩
theorem s_mfingers (hM : MP κ ε σ) (hV : VE κ ε) {i : Nat} (hi : (i : Int) < ε 2 7) {s : Nat} (hs : s < 32) (hn : (nbits s : Int) = ε 7 i) {L : List T3} (hR : RowM σ i L) (hL : L.length < 80) (h1 : kbF ε i s = none → post σ) (h2 : ∀ t, kbF ε i s = some t → ∀ τ, LsM σ τ i → RowM τ i (L ++ [t]) → post τ) : w_X10_fingers σ (i : Int) (s : Int) post := by
  obtain ⟨m0, m1, m18, m19, m20, m21, m22, m23, m24⟩ := id hM
  have hn40 := hV.1
  have hev := hV.2.1 i hi
  have he := hev.h01
  have h7 := hev.2.2.2.1
  have hTA := kbTA (ε := ε) (i := i) (s := s) h7
  refine lp2 (w_X10_fingers_L5 σ (i : Int) (s : Int) post) (fun c u => ∃ k : Nat, u = (k : Int) ∧ (k : Int) + 1 ≤ ε 7 i ∧ c = kbT ε i s k ∧ (0 ≤ c ∧ c ≤ 131 * k) ∧ kbA ε i s k) (fun c u => (5 - u).toNat) ?_ 0 0 ⟨0, rfl, by omega, rfl, by omega, trivial⟩
  intro n c u ⟨k, hu, hk, hc, hcb, hA⟩ ih
  subst hu
  show w_X10_fingers_L5_body σ (i : Int) (s : Int) post _ _ _
  simp only [w_X10_fingers_L5_body, m18, m21, m22, Int.toNat_natCast]
  refine ⟨by simp only [inb]; omega, by simp only [rg]; omega, by simp only [rg]; omega, fun a => ?_, fun a => ?_⟩
  · have ek : k = (ε 7 i).toNat - 1 := by omega
    rw [ek] at hc hA
    rw [hTA.1] at hc
    have hkb : kbF ε i s = some (c, (s : Int), kbPl ε i s) := by
      simp only [kbF]; rw [if_pos ⟨hn, hTA.2.mp hA⟩, hc]
    have hlead : ∀ x : Nat, x = (if ε 4 i = 1 then 0 else (ε 7 i).toNat - 1) → w_X10_fingers_B186 σ (i : Int) (s : Int) c (x : Int) post := by
      intro x hx
      simp only [w_X10_fingers_B186, w_X10_fingers_B243, m18, m22, Int.toNat_natCast]
      refine s_mfinger hM hV hi hs hn (by rw [hx]; split <;> omega) ?_
      have e0 : (if ε 4 i = 1 then x else (ε 7 i).toNat - 1 - x) = 0 := by rw [hx]; split <;> omega
      rw [e0]
      have hx3 : x < 3 := by rw [hx]; split <;> omega
      refine ⟨by simp only [inb]; omega, by simp only [rg]; omega, fun b => ⟨by simp only [inb]; omega, ?_⟩, fun b => ⟨by simp only [inb]; omega, ?_⟩⟩
      · refine s_madd (by omega) hR hL (fun τ hLs hRt => h2 _ hkb τ hLs ?_)
        have : kbPl ε i s = ε 9 (3 * (i : Int) + (x : Int)).toNat + 2 * (fg s 0 - 1) := by
          unfold kbPl pit
          rw [if_neg b, hx, if_neg b, show (3 * (i : Int) + (((ε 7 i).toNat - 1 : Nat) : Int)).toNat = 3 * i + ((ε 7 i).toNat - 1) by omega]
        rw [this]; exact hRt
      · refine s_madd (by omega) hR hL (fun τ hLs hRt => h2 _ hkb τ hLs ?_)
        have : kbPl ε i s = ε 9 (3 * (i : Int)).toNat - 2 * (fg s 0 - 1) := by
          unfold kbPl pit
          rw [if_pos b, show (3 * (i : Int)).toNat = 3 * i + 0 by omega]
        rw [this]; exact hRt
    refine ⟨by simp only [inb]; omega, by simp only [rg]; omega, fun b => ⟨by simp only [inb]; omega, ?_⟩, fun b => ?_⟩
    · have := hlead ((ε 7 i).toNat - 1) (by rw [if_neg b])
      rw [show (((ε 7 i).toNat - 1 : Nat) : Int) = ε 7 i - 1 by omega] at this
      exact this
    · exact hlead 0 (by rw [if_pos b])
  · have hm : kbM ε i k < 3 ∧ (kbM ε i k : Int) + 1 < ε 7 i := by unfold kbM; split <;> omega
    have hS := kb_s hV (v := (i : Int)) (by omega) hi (m := kbM ε i k) (by rw [Int.toNat_natCast]; omega)
    rw [Int.toNat_natCast] at hS
    have hup := kb_up s hs (kbM ε i k) (by omega) (by omega)
    have r0 := kb_rg s hs (kbM ε i k) (by omega) (by omega)
    have r1 := kb_rg s hs (kbM ε i k + 1) (by omega) (by omega)
    have hSv : kbS ε i (kbM ε i k) = ε 9 (3 * i + k + 1) - ε 9 (3 * i + k) := by
      unfold kbS kbM pit
      split
      · rfl
      · rw [show (ε 7 i).toNat - 1 - ((ε 7 i).toNat - 2 - k) = k + 1 by omega, show (ε 7 i).toNat - 2 - ((ε 7 i).toNat - 2 - k) = k by omega]; rfl
    have hE : kbE s (kbM ε i k) = 0 ∨ kbE s (kbM ε i k) = 1 := by unfold kbE; split <;> simp
    have hCb := kb_c (ε := ε) (i := i) (s := s) (m := kbM ε i k) hS (by unfold kbD; omega) hE
    -- the two fingers
    have hfg : (fg s (if ε 4 i = 1 then k else (ε 7 i).toNat - 1 - k) = fg s (kbM ε i k) ∧ fg s (if ε 4 i = 1 then k + 1 else (ε 7 i).toNat - 1 - (k + 1)) = fg s (kbM ε i k + 1)) ∨ (fg s (if ε 4 i = 1 then k else (ε 7 i).toNat - 1 - k) = fg s (kbM ε i k + 1) ∧ fg s (if ε 4 i = 1 then k + 1 else (ε 7 i).toNat - 1 - (k + 1)) = fg s (kbM ε i k)) := by
      unfold kbM
      split
      · left; exact ⟨rfl, rfl⟩
      · right
        rw [show (ε 7 i).toNat - 2 - k + 1 = (ε 7 i).toNat - 1 - k by omega, show (ε 7 i).toNat - 1 - (k + 1) = (ε 7 i).toNat - 2 - k by omega]
        exact ⟨rfl, rfl⟩
    refine s_mfinger hM hV hi hs hn (by omega) ?_
    rw [show (k : Int) + 1 = ((k + 1 : Nat) : Int) by push_cast; rfl]
    refine s_mfinger hM hV hi hs hn (by push_cast; omega) ?_
    refine s_mfar (by simp only [rg]; rcases hfg with ⟨e, -⟩ | ⟨e, -⟩ <;> rw [e] <;> omega) (by simp only [rg]; rcases hfg with ⟨-, e⟩ | ⟨-, e⟩ <;> rw [e] <;> omega) ?_
    have hD : ab (fg s (if ε 4 i = 1 then k else (ε 7 i).toNat - 1 - k) - fg s (if ε 4 i = 1 then k + 1 else (ε 7 i).toNat - 1 - (k + 1))) = kbD s (kbM ε i k) := by
      unfold ab kbD
      rcases hfg with ⟨e, e'⟩ | ⟨e, e'⟩ <;> rw [e, e'] <;> omega
    rw [hD, show (3 * (i : Int) + (k : Int) + 1).toNat = 3 * i + k + 1 by omega, show (3 * (i : Int) + (k : Int)).toNat = 3 * i + k by omega, ← hSv]
    have h93 : ∀ e : Int, e = kbE s (kbM ε i k) → w_X10_fingers_B93 σ (i : Int) (s : Int) c (k : Int) (kbD s (kbM ε i k)) (kbS ε i (kbM ε i k)) e post (w_X10_fingers_L5 σ (i : Int) (s : Int) post n) := by
      intro e hee
      have hDb : 0 < kbD s (kbM ε i k) ∧ kbD s (kbM ε i k) ≤ 4 := by unfold kbD; omega
      have fin : ∀ x : Int, x = kbC ε i s (kbM ε i k) → kbOk ε i s (kbM ε i k) → w_X10_fingers_L5 σ (i : Int) (s : Int) post n (c + x) ((k : Int) + 1) := by
        intro x hx hok
        refine ih _ _ ⟨k + 1, by push_cast; rfl, by push_cast; omega, ?_, ?_, hA, hok⟩ (by omega)
        · rw [hx, hc]; rfl
        · rw [hx]; push_cast; omega
      simp only [w_X10_fingers_B93, w_X10_fingers_B156]
      refine ⟨by simp only [rg]; omega, by simp only [rg]; omega, fun b => ⟨by simp only [rg]; omega, by simp only [rg]; omega, fun d => ⟨by simp only [rg]; omega, by simp only [rg]; omega, fun f => fin 0 ?_ ?_, fun f => fin _ ?_ ?_⟩, fun d => fin _ ?_ ?_⟩, fun b => h1 ?_⟩
      · unfold kbC; omega
      · unfold kbOk; omega
      · unfold kbC; omega
      · unfold kbOk; omega
      · unfold kbC; omega
      · unfold kbOk; omega
      · simp only [kbF]
        rw [if_neg (fun z => ?_)]
        have := kbA_at (hTA.2.mpr z.2) (k := k) (by omega)
        unfold kbOk at this
        omega
    refine ⟨by simp only [inb]; omega, by simp only [inb]; omega, by simp only [rg]; rcases hfg with ⟨e, -⟩ | ⟨e, -⟩ <;> rw [e] <;> omega, fun b => h93 1 ?_, fun b => ⟨by simp only [rg]; rcases hfg with ⟨-, e⟩ | ⟨-, e⟩ <;> rw [e] <;> omega, fun d => h93 0 ?_, fun d => h93 1 ?_⟩⟩
    · unfold kbE
      rw [if_pos]
      rcases hfg with ⟨e, -⟩ | ⟨e, -⟩ <;> omega
    · unfold kbE
      rw [if_neg]
      rcases hfg with ⟨e, e'⟩ | ⟨e, e'⟩ <;> omega
    · unfold kbE
      rw [if_pos]
      rcases hfg with ⟨e, e'⟩ | ⟨e, e'⟩ <;> omega
end MFIND
