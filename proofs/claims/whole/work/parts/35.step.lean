/-! steps -/
def ent (L : List T3) (k : Nat) : T3 := L.getD k (0, 0, 0)
theorem ent_mem {L : List T3} {k : Nat} (h : k < L.length) : ent L k ∈ L := by
  simp only [ent, List.getD_eq_getElem?_getD, List.getElem?_eq_getElem h, Option.getD_some]
  exact List.getElem_mem h
theorem fm_mem {f : Nat → Option T3} {n : Nat} {t : T3} (h : t ∈ fm f n) : ∃ x, x < n ∧ f x = some t := by
  induction n with
  | zero => simp [fm] at h
  | succ n ih =>
    cases e : f n with
    | none => rw [fm_none e] at h; obtain ⟨x, a, b⟩ := ih h; exact ⟨x, by omega, b⟩
    | some u =>
      rw [fm_some e] at h
      rcases List.mem_append.mp h with q | q
      · obtain ⟨x, a, b⟩ := ih q; exact ⟨x, by omega, b⟩
      · rw [List.mem_singleton.mp q]; exact ⟨n, by omega, e⟩
theorem fj_mem {g : Nat → List T3} {n : Nat} {t : T3} (h : t ∈ fj g n) : ∃ x, x < n ∧ t ∈ g x := by
  induction n with
  | zero => simp [fj] at h
  | succ n ih =>
    rcases List.mem_append.mp h with q | q
    · obtain ⟨x, a, b⟩ := ih q; exact ⟨x, by omega, b⟩
    · exact ⟨n, by omega, q⟩
/-- what holds of every state -/
def EB (κ : Nat) (i : Nat) (t : T3) : Prop := (0 ≤ t.1 ∧ t.1 ≤ 300) ∧ (0 ≤ t.2.1 ∧ t.2.1 ≤ 40) ∧ (-20 ≤ t.2.2 ∧ t.2.2 ≤ 150) ∧ (κ = 4 → t.2.1 ≤ 2 ∧ -1 ≤ t.2.2 ∧ t.2.2 < i)
section STEP
variable {κ : Nat} {σ ε : Mem}
theorem SLk_eb (hκ : κ < 5) (hV : VE κ ε) {v : Int} (h0 : 0 ≤ v) (h1 : v < ε 2 7) {t : T3} (ht : t ∈ SLk κ ε v.toNat) : EB κ v.toNat t := by
  have hn40 := hV.1
  have hev := hV.ev h0 h1
  have h7 := hev.2.2.2.1
  have hp0 := hev.2.2.2.2.2.2.2.1
  have hhi := hev.hi
  rcases (show κ = 0 ∨ κ = 1 ∨ κ = 2 ∨ κ = 3 ∨ κ = 4 by omega) with rfl | rfl | rfl | rfl | rfl
  · obtain ⟨s, hs, e⟩ := fm_mem (f := kbF ε v.toNat) ht
    simp only [kbF] at e
    split at e
    · rename_i c
      cases e
      have a := kb_sum hV h0 h1 hs c.1 ((ε 7 v.toNat).toNat - 1) (by omega)
      have b := kb_rg s hs 0 (by omega) (by omega)
      refine ⟨⟨a.1, by omega⟩, ⟨by show (0 : Int) ≤ (s : Int); omega, by show (s : Int) ≤ 40; omega⟩, ?_, fun z => by omega⟩
      show -20 ≤ kbPl ε v.toNat s ∧ kbPl ε v.toNat s ≤ 150
      unfold kbPl
      split <;> omega
    · cases e
  · obtain ⟨p, hp, q⟩ := fj_mem (g := fun p => fm (stF ε v.toNat p) (5 - (ε 7 v.toNat).toNat)) ht
    obtain ⟨x, hx, e⟩ := fm_mem q
    simp only [stF] at e
    split at e
    · cases e
      have a := stSum_b ε v.toNat p x (ε 7 v.toNat).toNat
      exact ⟨⟨a.1, by omega⟩, ⟨by show (0 : Int) ≤ (p : Int); omega, by show (p : Int) ≤ 40; omega⟩, ⟨by show -20 ≤ (x : Int); omega, by show (x : Int) ≤ 150; omega⟩, fun z => by omega⟩
    · cases e
  · obtain ⟨x, hx, e⟩ := fm_mem (f := wnF ε v.toNat) ht
    simp only [wnF] at e
    split at e
    · cases e
      simp only [EB]
      omega
    · cases e
  · obtain ⟨x, hx, e⟩ := fm_mem (f := slF ε v.toNat) ht
    simp only [slF] at e
    split at e
    · cases e
      simp only [EB]
      omega
    · cases e
  · have ht' : t ∈ skL ε v.toNat := ht
    unfold skL at ht'
    split at ht'
    · rw [List.mem_singleton.mp ht']
      simp only [EB]
      omega
    · obtain ⟨g, hg, q⟩ := fj_mem ht'
      obtain ⟨x, hx, e⟩ := fm_mem q
      simp only [skF] at e
      split at e
      · cases e
        refine ⟨?_, ⟨by show (0 : Int) ≤ (g : Int); omega, by show (g : Int) ≤ 40; omega⟩, ⟨by show -20 ≤ (x : Int) - 1; omega, by show (x : Int) - 1 ≤ 150; omega⟩, fun _ => ⟨by show (g : Int) ≤ 2; omega, by show -1 ≤ (x : Int) - 1; omega, by show (x : Int) - 1 < (v.toNat : Int); omega⟩⟩
        show 0 ≤ skP ε v.toNat g x ∧ skP ε v.toNat g x ≤ 300
        unfold skP
        split
        · omega
        · split <;> omega
      · cases e
theorem SL_eb (hκ : κ < 5) (hV : VE κ ε) {v : Int} (h0 : 0 ≤ v) (h1 : v < ε 2 7) {k : Nat} (hk : k < (SL κ ε v.toNat).length) : EB κ v.toNat (ent (SL κ ε v.toNat) k) := by
  have hm := ent_mem hk
  unfold SL at hm hk ⊢
  split
  · rename_i c
    rw [if_pos c] at hm
    exact SLk_eb hκ hV h0 h1 hm
  · rename_i c
    rw [if_neg c] at hk
    simp at hk
def ab (x : Int) : Int := max x (-x)
noncomputable def st0 (ε : Mem) (i : Nat) (a : T3) (j : Nat) (b : T3) : Int := by
  classical
  exact if far ε (ab (a.2.2 - b.2.2)) i j then -2 else ab (a.2.2 - b.2.2) + (if ε 7 i = 1 ∧ ε 7 j = 1 ∧ pit ε i 0 ≠ pit ε j 0 ∧ a.2.1 = b.2.1 then 3 else 0)
noncomputable def st1 (ε : Mem) (i : Nat) (a : T3) (j : Nat) (b : T3) : Int := by
  classical
  exact if far ε (ab (a.2.1 - b.2.1)) i j then -2 else 2 * ab (a.2.1 - b.2.1) + ab (a.2.2 - b.2.2)
def lack (ε : Mem) (i j : Nat) : Int := ε 3 2 - (ε 5 j - ε 5 i - ε 6 i)
noncomputable def st2 (ε : Mem) (i : Nat) (a : T3) (j : Nat) (b : T3) : Int := by
  classical
  exact if a.2.1 = b.2.1 then 0 else if b.2.1 = (j : Int) ∧ lack ε i j < ε 6 i then 1 + 2 * max 0 (lack ε i j) else -2
noncomputable def st3 (ε : Mem) (i : Nat) (a : T3) (j : Nat) (b : T3) : Int := by
  classical
  exact if far ε (ab (a.2.1 - b.2.1)) i j then -2 else ab (a.2.1 - b.2.1)
/-- the event in which a hand played last -/
def lpS (i : Nat) (a : T3) (h : Int) : Int := if a.2.1 = 2 ∨ a.2.1 = h then (i : Int) else a.2.2
def act4 (i : Nat) (a b : T3) (h : Int) : Prop := lpS i a h ≠ -1 ∧ (b.2.1 = 2 ∨ b.2.1 = h)
def w4 (ε : Mem) (i : Nat) (a : T3) (j : Nat) (h : Int) : Int := ab (pb ε h j - pb ε h (lpS i a h).toNat)
noncomputable def c4 (ε : Mem) (i : Nat) (a : T3) (j : Nat) (b : T3) (h : Int) : Int := by
  classical
  exact if act4 i a b h then w4 ε i a j h else 0
def bad4 (ε : Mem) (i : Nat) (a : T3) (j : Nat) (b : T3) (h : Int) : Prop := act4 i a b h ∧ far ε (w4 ε i a j h) (lpS i a h).toNat j
noncomputable def st4 (ε : Mem) (i : Nat) (a : T3) (j : Nat) (b : T3) : Int := by
  classical
  exact if b.2.1 ≠ 2 ∧ lpS i a (1 - b.2.1) ≠ b.2.2 then -2 else if bad4 ε i a j b 0 ∨ bad4 ε i a j b 1 then -2 else (if b.2.1 ≠ 2 ∧ a.2.1 = b.2.1 then 2 else 0) + c4 ε i a j b 0 + c4 ε i a j b 1
noncomputable def stE (κ : Nat) (ε : Mem) (i : Nat) (a : T3) (j : Nat) (b : T3) : Int := match κ with
  | 0 => st0 ε i a j b
  | 1 => st1 ε i a j b
  | 2 => st2 ε i a j b
  | 3 => st3 ε i a j b
  | _ => st4 ε i a j b
theorem lpS_b {i : Nat} {a : T3} (ha : EB 4 i a) (h : Int) : -1 ≤ lpS i a h ∧ lpS i a h ≤ i := by
  have := ha.2.2.2 rfl
  unfold lpS
  split <;> omega
theorem w4_b (hV : VE κ ε) {i j : Nat} (hi : (i : Int) < ε 2 7) (hj : (j : Int) < ε 2 7) {a : T3} (ha : EB 4 i a) (h : Int) (hl : lpS i a h ≠ -1) : 0 ≤ w4 ε i a j h ∧ w4 ε i a j h ≤ 127 := by
  have hb := lpS_b ha h
  have p1 := pb_b hV (v := (j : Int)) (by omega) hj h
  have p2 := pb_b hV (v := lpS i a h) (by omega) (by omega) h
  rw [Int.toNat_natCast] at p1
  unfold w4 ab
  omega
theorem stE_b (hκ : κ < 5) (hV : VE κ ε) {i j : Nat} (hi : (i : Int) < ε 2 7) (hj : (j : Int) < ε 2 7) {a b : T3} (ha : EB κ i a) (hb : EB κ j b) : stE κ ε i a j b = -2 ∨ (0 ≤ stE κ ε i a j b ∧ stE κ ε i a j b ≤ 2001) := by
  obtain ⟨a1, a2, a3, a4⟩ := id ha
  obtain ⟨b1, b2, b3, b4⟩ := id hb
  have l1 := (hV.2.1 i hi).2.2.1
  rcases (show κ = 0 ∨ κ = 1 ∨ κ = 2 ∨ κ = 3 ∨ κ = 4 by omega) with rfl | rfl | rfl | rfl | rfl
  · show st0 ε i a j b = -2 ∨ (0 ≤ st0 ε i a j b ∧ st0 ε i a j b ≤ 2001)
    unfold st0 ab
    try dsimp only
    split
    · exact Or.inl rfl
    · right; split <;> omega
  · show st1 ε i a j b = -2 ∨ (0 ≤ st1 ε i a j b ∧ st1 ε i a j b ≤ 2001)
    unfold st1 ab
    try dsimp only
    split
    · exact Or.inl rfl
    · right; omega
  · show st2 ε i a j b = -2 ∨ (0 ≤ st2 ε i a j b ∧ st2 ε i a j b ≤ 2001)
    unfold st2
    try dsimp only
    split
    · right; omega
    · split
      · right; omega
      · exact Or.inl rfl
  · show st3 ε i a j b = -2 ∨ (0 ≤ st3 ε i a j b ∧ st3 ε i a j b ≤ 2001)
    unfold st3 ab
    try dsimp only
    split
    · exact Or.inl rfl
    · right; omega
  · show st4 ε i a j b = -2 ∨ (0 ≤ st4 ε i a j b ∧ st4 ε i a j b ≤ 2001)
    have hc : ∀ h, 0 ≤ c4 ε i a j b h ∧ c4 ε i a j b h ≤ 127 := by
      intro h
      unfold c4
      split
      · rename_i q; exact w4_b hV hi hj ha h q.1
      · omega
    have c0 := hc 0
    have c1 := hc 1
    unfold st4
    try dsimp only
    split
    · exact Or.inl rfl
    · split
      · exact Or.inl rfl
      · right; split <;> omega
end STEP
section STEPC
variable {κ : Nat} {σ ε : Mem} {post : Int → Prop} {i j k l : Nat} {LA LB : List T3}
theorem s_X6_stepPrice (hS : SP σ ε) (hV : VE 1 ε) (hw : σ 1 1 = (wd 1 : Int)) (hi : (i : Int) < ε 2 7) (hj : (j : Int) < ε 2 7) (hA : RowC (wd 1) σ i LA) (hB : RowC (wd 1) σ j LB) (lA : LA.length ≤ wd 1) (lB : LB.length ≤ wd 1) (hk : k < LA.length) (hl : l < LB.length) (ea : EB 1 i (ent LA k)) (eb : EB 1 j (ent LB l)) (h : post (st1 ε i (ent LA k) j (ent LB l))) : w_X6_stepPrice σ (i : Int) (k : Int) (j : Int) (l : Int) post := by
  have hn := hV.1
  obtain ⟨-, a2, a3, -⟩ := ea
  obtain ⟨-, b2, b3, -⟩ := eb
  refine s_X2_firstOf hw (by omega) (by omega) hA lA (by omega) (by omega) (s_X2_firstOf hw (by omega) (by omega) hB lB (by omega) (by omega) ?_)
  simp only [Int.toNat_natCast]
  show rg ((ent LA k).2.1 - (ent LB l).2.1) ∧ w_X2_tooFar 1 σ (ab ((ent LA k).2.1 - (ent LB l).2.1)) (i : Int) (j : Int) _
  unfold st1 at h
  refine ⟨by simp only [rg]; omega, s_X2_tooFar hS hV (by unfold ab; omega) (by unfold ab; omega) (by omega) hi (by omega) hj (fun q => ⟨rg_c _ rfl, fun z => absurd z (by decide), fun _ => ?_⟩) (fun q => ⟨rg_c _ rfl, fun _ => ?_, fun z => absurd rfl z⟩)⟩
  · rw [Int.toNat_natCast, Int.toNat_natCast] at q
    rw [if_pos q] at h; exact h
  · rw [Int.toNat_natCast, Int.toNat_natCast] at q
    rw [if_neg q] at h
    refine s_X2_secondOf hw (by omega) (by omega) hA lA (by omega) (by omega) (s_X2_secondOf hw (by omega) (by omega) hB lB (by omega) (by omega) ?_)
    simp only [Int.toNat_natCast]
    exact ⟨by show rg ((ent LA k).2.2 - (ent LB l).2.2); simp only [rg]; omega, h⟩
theorem s_X4_stepPrice (hS : SP σ ε) (hV : VE 3 ε) (hw : σ 1 1 = (wd 3 : Int)) (hi : (i : Int) < ε 2 7) (hj : (j : Int) < ε 2 7) (hA : RowC (wd 3) σ i LA) (hB : RowC (wd 3) σ j LB) (lA : LA.length ≤ wd 3) (lB : LB.length ≤ wd 3) (hk : k < LA.length) (hl : l < LB.length) (ea : EB 3 i (ent LA k)) (eb : EB 3 j (ent LB l)) (h : post (st3 ε i (ent LA k) j (ent LB l))) : w_X4_stepPrice σ (i : Int) (k : Int) (j : Int) (l : Int) post := by
  have hn := hV.1
  obtain ⟨-, a2, a3, -⟩ := ea
  obtain ⟨-, b2, b3, -⟩ := eb
  refine s_X2_firstOf hw (by omega) (by omega) hA lA (by omega) (by omega) (s_X2_firstOf hw (by omega) (by omega) hB lB (by omega) (by omega) ?_)
  simp only [Int.toNat_natCast]
  show rg ((ent LA k).2.1 - (ent LB l).2.1) ∧ w_X2_tooFar 3 σ (ab ((ent LA k).2.1 - (ent LB l).2.1)) (i : Int) (j : Int) _
  unfold st3 at h
  refine ⟨by simp only [rg]; omega, s_X2_tooFar hS hV (by unfold ab; omega) (by unfold ab; omega) (by omega) hi (by omega) hj (fun q => ⟨rg_c _ rfl, fun z => absurd z (by decide), fun _ => ?_⟩) (fun q => ⟨rg_c _ rfl, fun _ => ?_, fun z => absurd rfl z⟩)⟩
  · rw [Int.toNat_natCast, Int.toNat_natCast] at q
    rw [if_pos q] at h; exact h
  · rw [Int.toNat_natCast, Int.toNat_natCast] at q
    rw [if_neg q] at h; exact h
theorem s_X8_stepPrice (hS : SP σ ε) (hV : VE 2 ε) (hw : σ 1 1 = (wd 2 : Int)) (hi : (i : Int) < ε 2 7) (hj : (j : Int) < ε 2 7) (hA : RowC (wd 2) σ i LA) (hB : RowC (wd 2) σ j LB) (lA : LA.length ≤ wd 2) (lB : LB.length ≤ wd 2) (hk : k < LA.length) (hl : l < LB.length) (ea : EB 2 i (ent LA k)) (eb : EB 2 j (ent LB l)) (h : post (st2 ε i (ent LA k) j (ent LB l))) : w_X8_stepPrice σ (i : Int) (k : Int) (j : Int) (l : Int) post := by
  have hn := hV.1
  have hb2 := hV.b2
  have t1 := (hV.2.1 i hi).2.1
  have t2 := (hV.2.1 j hj).2.1
  have l1 := (hV.2.1 i hi).2.2.1
  obtain ⟨-, a2, a3, -⟩ := ea
  obtain ⟨-, b2, b3, -⟩ := eb
  unfold st2 at h
  refine s_X2_firstOf hw (by omega) (by omega) hA lA (by omega) (by omega) (s_X2_firstOf hw (by omega) (by omega) hB lB (by omega) (by omega) ?_)
  simp only [Int.toNat_natCast]
  refine ⟨by show rg (ent LA k).2.1; simp only [rg]; omega, by show rg (ent LB l).2.1; simp only [rg]; omega, fun q => ?_, fun q => ?_⟩
  · rw [if_neg (show ¬ (ent LA k).2.1 = (ent LB l).2.1 from q)] at h
    refine s_X2_firstOf hw (by omega) (by omega) hB lB (by omega) (by omega) ?_
    simp only [Int.toNat_natCast]
    refine ⟨by show rg (ent LB l).2.1; simp only [rg]; omega, by simp only [rg]; omega, fun z => ?_, fun z => ?_⟩
    · rw [if_neg (fun y => z y.1)] at h
      exact h
    · refine s_X1_timeOf hS hV (by omega) hj (s_X1_timeOf hS hV (by omega) hi (s_X1_lengthOf hS hV (by omega) hi (s_X1_boundOf hS (by omega) (by omega) (s_X1_lengthOf hS hV (by omega) hi ?_))))
      simp only [Int.toNat_natCast, tn2]
      refine ⟨by simp only [rg]; omega, by simp only [rg]; omega, fun y => ⟨by simp only [rg]; omega, ?_⟩, fun y => ?_⟩
      · rw [if_pos ⟨z, y⟩] at h
        exact h
      · rw [if_neg (fun x => by have := x.2; unfold lack at this; omega)] at h
        exact h
  · rw [if_pos (show (ent LA k).2.1 = (ent LB l).2.1 from q)] at h
    exact h
theorem s_X0_stepPrice (hS : SP σ ε) (hV : VE 0 ε) (hw : σ 1 1 = (wd 0 : Int)) (hi : (i : Int) < ε 2 7) (hj : (j : Int) < ε 2 7) (hA : RowC (wd 0) σ i LA) (hB : RowC (wd 0) σ j LB) (lA : LA.length ≤ wd 0) (lB : LB.length ≤ wd 0) (hk : k < LA.length) (hl : l < LB.length) (ea : EB 0 i (ent LA k)) (eb : EB 0 j (ent LB l)) (h : post (st0 ε i (ent LA k) j (ent LB l))) : w_X0_stepPrice σ (i : Int) (k : Int) (j : Int) (l : Int) post := by
  have hn := hV.1
  have si := (hV.2.1 i hi).2.2.2.1
  have sj := (hV.2.1 j hj).2.2.2.1
  have pi := (hV.2.1 i hi).2.2.2.2.2.2.2.1
  have pj := (hV.2.1 j hj).2.2.2.2.2.2.2.1
  obtain ⟨-, a2, a3, -⟩ := ea
  obtain ⟨-, b2, b3, -⟩ := eb
  refine s_X2_secondOf hw (by omega) (by omega) hA lA (by omega) (by omega) (s_X2_secondOf hw (by omega) (by omega) hB lB (by omega) (by omega) ?_)
  simp only [Int.toNat_natCast]
  show rg ((ent LA k).2.2 - (ent LB l).2.2) ∧ w_X2_tooFar 0 σ (ab ((ent LA k).2.2 - (ent LB l).2.2)) (i : Int) (j : Int) (fun r5 => rg r5 ∧ (r5 = 0 → w_X1_sizeOf σ (i : Int) (fun r7 => rg r7 ∧ (r7 ≠ 1 → w_X0_stepPrice_B61 σ (i : Int) (k : Int) (j : Int) (l : Int) (ab ((ent LA k).2.2 - (ent LB l).2.2)) post) ∧ (r7 = 1 → w_X1_sizeOf σ (j : Int) (fun r17 => rg r17 ∧ (r17 ≠ 1 → w_X0_stepPrice_B61 σ (i : Int) (k : Int) (j : Int) (l : Int) (ab ((ent LA k).2.2 - (ent LB l).2.2)) post) ∧ (r17 = 1 → w_X0_stepPrice_B62 σ (i : Int) (k : Int) (j : Int) (l : Int) (ab ((ent LA k).2.2 - (ent LB l).2.2)) 1 post))))) ∧ (r5 ≠ 0 → post (-2)))
  unfold st0 at h
  refine ⟨by simp only [rg]; omega, s_X2_tooFar hS hV (by unfold ab; omega) (by unfold ab; omega) (by omega) hi (by omega) hj (fun q => ⟨rg_c _ rfl, fun z => absurd z (by decide), fun _ => ?_⟩) (fun q => ⟨rg_c _ rfl, fun _ => ?_, fun z => absurd rfl z⟩)⟩
  · rw [Int.toNat_natCast, Int.toNat_natCast] at q
    rw [if_pos q] at h; exact h
  · rw [Int.toNat_natCast, Int.toNat_natCast] at q
    rw [if_neg q] at h
    generalize ab ((ent LA k).2.2 - (ent LB l).2.2) = W at h ⊢
    have hno : ¬ (ε 7 i = 1 ∧ ε 7 j = 1 ∧ pit ε i 0 ≠ pit ε j 0 ∧ (ent LA k).2.1 = (ent LB l).2.1) → post (W + 0) := by
      intro z; rw [if_neg z] at h; exact h
    have h108 : ¬ (ε 7 i = 1 ∧ ε 7 j = 1 ∧ pit ε i 0 ≠ pit ε j 0 ∧ (ent LA k).2.1 = (ent LB l).2.1) → w_X0_stepPrice_B108 σ W post := by
      intro z
      exact ⟨rg_c _ rfl, fun _ => hno z, fun y => absurd rfl y⟩
    have h61 : ¬ (ε 7 i = 1 ∧ ε 7 j = 1) → w_X0_stepPrice_B61 σ (i : Int) (k : Int) (j : Int) (l : Int) W post := by
      intro z
      exact ⟨rg_c _ rfl, fun _ => h108 (fun y => z ⟨y.1, y.2.1⟩), fun y => absurd rfl y⟩
    refine s_X1_sizeOf hS hV (by omega) hi ?_
    rw [Int.toNat_natCast]
    refine ⟨by simp only [rg]; omega, fun c => h61 (fun y => c y.1), fun c => s_X1_sizeOf hS hV (by omega) hj ?_⟩
    rw [Int.toNat_natCast]
    refine ⟨by simp only [rg]; omega, fun d => h61 (fun y => d y.2), fun d => ⟨rg_c _ rfl, fun y => absurd y (by decide), fun _ => ?_⟩⟩
    refine s_X1_lowestOf hS hV (by omega) hi (s_X1_lowestOf hS hV (by omega) hj ?_)
    simp only [Int.toNat_natCast]
    refine ⟨by simp only [rg]; omega, by simp only [rg]; omega, fun y => h108 (fun x => x.2.2.1 y), fun y => ?_⟩
    refine s_X2_firstOf hw (by omega) (by omega) hA lA (by omega) (by omega) (s_X2_firstOf hw (by omega) (by omega) hB lB (by omega) (by omega) ?_)
    simp only [Int.toNat_natCast]
    refine ⟨by show rg (ent LA k).2.1; simp only [rg]; omega, by show rg (ent LB l).2.1; simp only [rg]; omega, fun x => h108 (fun u => x u.2.2.2), fun x => ⟨rg_c _ rfl, fun u => absurd u (by decide), fun _ => ?_⟩⟩
    rw [if_pos ⟨c, d, y, x⟩] at h
    exact h
theorem s_X5_lastPlayed (hV : VE 4 ε) (hw : σ 1 1 = (wd 4 : Int)) (hi : (i : Int) < ε 2 7) (hA : RowC (wd 4) σ i LA) (lA : LA.length ≤ wd 4) (hk : k < LA.length) (ea : EB 4 i (ent LA k)) {h : Int} (hh : rg h) (hp : post (lpS i (ent LA k) h)) : w_X5_lastPlayed σ (i : Int) (k : Int) h post := by
  have hn := hV.1
  obtain ⟨-, a2, a3, -⟩ := ea
  unfold lpS at hp
  refine s_X2_firstOf hw (by omega) (by omega) hA lA (by omega) (by omega) ?_
  rw [Int.toNat_natCast]
  refine ⟨by show rg (ent LA k).2.1; simp only [rg]; omega, fun q => ?_, fun q => ⟨by show rg (ent LA k).2.1; simp only [rg]; omega, hh, fun z => ?_, fun z => ?_⟩⟩
  · rw [if_pos (Or.inl (show (ent LA k).2.1 = 2 from q))] at hp; exact hp
  · refine s_X2_secondOf hw (by omega) (by omega) hA lA (by omega) (by omega) ?_
    rw [Int.toNat_natCast]
    rw [if_neg (fun y => y.elim q z)] at hp; exact hp
  · rw [if_pos (Or.inr (show (ent LA k).2.1 = h from z))] at hp; exact hp
theorem s_X5_L65 (hS : SP σ ε) (hV : VE 4 ε) (hw : σ 1 1 = (wd 4 : Int)) (hi : (i : Int) < ε 2 7) (hj : (j : Int) < ε 2 7) (hA : RowC (wd 4) σ i LA) (lA : LA.length ≤ wd 4) (hk : k < LA.length) (ea : EB 4 i (ent LA k)) {b : T3} (eb : EB 4 j b) {p0 : Int} (hp0 : 0 ≤ p0 ∧ p0 ≤ 2) (hB : bad4 ε i (ent LA k) j b 0 ∨ bad4 ε i (ent LA k) j b 1 → post (-2)) (hG : ¬ (bad4 ε i (ent LA k) j b 0 ∨ bad4 ε i (ent LA k) j b 1) → post (p0 + c4 ε i (ent LA k) j b 0 + c4 ε i (ent LA k) j b 1)) : ∃ n, w_X5_stepPrice_L65 σ (i : Int) (k : Int) (j : Int) b.2.1 post n p0 0 := by
  have hn := hV.1
  obtain ⟨-, b2, b3, b4⟩ := id eb
  refine lp2 (w_X5_stepPrice_L65 σ (i : Int) (k : Int) (j : Int) b.2.1 post) (fun c d => ∃ g : Nat, d = (g : Int) ∧ g ≤ 2 ∧ (g = 0 → c = p0) ∧ (g = 1 → c = p0 + c4 ε i (ent LA k) j b 0) ∧ (g = 2 → c = p0 + c4 ε i (ent LA k) j b 0 + c4 ε i (ent LA k) j b 1) ∧ (1 ≤ g → ¬ bad4 ε i (ent LA k) j b 0) ∧ (2 ≤ g → ¬ bad4 ε i (ent LA k) j b 1) ∧ 0 ≤ c ∧ c ≤ 1000) (fun c d => (2 - d).toNat) ?_ _ _ ⟨0, rfl, by omega, fun _ => rfl, fun z => by omega, fun z => by omega, fun z => by omega, fun z => by omega, by omega, by omega⟩
  intro n c d ⟨g, hd, g2, e0, e1, e2, n0, n1, c0, c1⟩ ih
  subst hd
  show w_X5_stepPrice_L65_body σ _ _ _ _ post _ _ _
  simp only [w_X5_stepPrice_L65_body, w_X5_stepPrice_B143]
  refine ⟨by simp only [rg]; omega, fun q => ?_, fun q => ?_⟩
  · rw [e2 (by omega)]
    exact hG (fun z => z.elim (n0 (by omega)) (n1 (by omega)))
  · have hl := lpS_b ea (g : Int)
    have hgb : bad4 ε i (ent LA k) j b (g : Int) → post (-2) := by
      intro z
      rcases (show g = 0 ∨ g = 1 by omega) with rfl | rfl
      · exact hB (Or.inl z)
      · exact hB (Or.inr z)
    have hgo : ∀ x, x = c4 ε i (ent LA k) j b (g : Int) → 0 ≤ x → x ≤ 127 → ¬ bad4 ε i (ent LA k) j b (g : Int) → c ≤ 2 + 127 * g → w_X5_stepPrice_L65 σ (i : Int) (k : Int) (j : Int) b.2.1 post n (c + x) ((g : Int) + 1) := by
      intro x hx x0 x1 hnb hcb
      refine ih _ _ ⟨g + 1, by push_cast; rfl, by omega, fun z => by omega, fun z => ?_, fun z => ?_, fun z => ?_, fun z => ?_, by omega, by omega⟩ (by omega)
      · have g0 : g = 0 := by omega
        subst g0; rw [e0 rfl, hx]; rfl
      · have g1 : g = 1 := by omega
        subst g1; rw [e1 rfl, hx]; rfl
      · rcases (show g = 0 ∨ g = 1 by omega) with rfl | rfl
        · exact hnb
        · exact n0 (by omega)
      · have g1 : g = 1 := by omega
        subst g1; exact hnb
    have hcb : c ≤ 2 + 127 * (g : Int) := by
      rcases (show g = 0 ∨ g = 1 by omega) with rfl | rfl
      · have := e0 rfl; omega
      · have := e1 rfl
        have : c4 ε i (ent LA k) j b 0 ≤ 127 := by
          unfold c4
          split
          · rename_i y; exact (w4_b hV hi hj ea 0 y.1).2
          · omega
        omega
    have hzero : ¬ act4 i (ent LA k) b (g : Int) → w_X5_stepPrice_L65 σ (i : Int) (k : Int) (j : Int) b.2.1 post n c ((g : Int) + 1) := by
      intro z
      have := hgo 0 (by unfold c4; rw [if_neg z]) (by omega) (by omega) (fun y => z y.1) hcb
      rw [Int.add_zero] at this
      exact this
    have h100 : act4 i (ent LA k) b (g : Int) → w_X5_stepPrice_B100 σ (i : Int) (k : Int) (j : Int) b.2.1 c (g : Int) (lpS i (ent LA k) (g : Int)) post (w_X5_stepPrice_L65 σ (i : Int) (k : Int) (j : Int) b.2.1 post n) := by
      intro z
      have hwb := w4_b hV hi hj ea (g : Int) z.1
      have p1 := pb_b hV (v := (j : Int)) (by omega) hj (g : Int)
      have p2 := pb_b hV (v := lpS i (ent LA k) (g : Int)) (by have := z.1; omega) (by omega) (g : Int)
      have hl0 : 0 ≤ lpS i (ent LA k) (g : Int) := by have := z.1; omega
      refine s_X5_pitchBy hS hV (by simp only [rg]; omega) (by omega) hj (s_X5_pitchBy hS hV (by simp only [rg]; omega) hl0 (by omega) ?_)
      rw [Int.toNat_natCast] at p1 ⊢
      show rg (pb ε (g : Int) j - pb ε (g : Int) (lpS i (ent LA k) (g : Int)).toNat) ∧ w_X2_tooFar 4 σ (w4 ε i (ent LA k) j (g : Int)) (lpS i (ent LA k) (g : Int)) (j : Int) (fun r9 => rg r9 ∧ (r9 = 0 → w_X5_stepPrice_L65 σ (i : Int) (k : Int) (j : Int) b.2.1 post n (c + w4 ε i (ent LA k) j (g : Int)) ((g : Int) + 1)) ∧ (r9 ≠ 0 → post (-2)))
      refine ⟨by simp only [rg]; omega, s_X2_tooFar hS hV hwb.1 (by omega) hl0 (by omega) (by omega) hj (fun y => ⟨rg_c _ rfl, fun u => absurd u (by decide), fun _ => hgb ⟨z, ?_⟩⟩) (fun y => ⟨rg_c _ rfl, fun _ => ?_, fun u => absurd rfl u⟩)⟩
      · rw [Int.toNat_natCast] at y; exact y
      · rw [Int.toNat_natCast] at y
        exact hgo _ (by unfold c4; rw [if_pos z]) hwb.1 hwb.2 (fun u => y u.2) hcb
    refine s_X5_lastPlayed hV hw hi hA lA hk ea (by simp only [rg]; omega) ⟨by simp only [rg]; omega, fun z => hzero (fun y => y.1 z), fun z => ⟨by simp only [rg]; omega, fun y => h100 ⟨z, Or.inl y⟩, fun y => ⟨by simp only [rg]; omega, by simp only [rg]; omega, fun u => hzero (fun x => x.2.elim y u), fun u => h100 ⟨z, Or.inr u⟩⟩⟩⟩
theorem s_X5_stepPrice (hS : SP σ ε) (hV : VE 4 ε) (hw : σ 1 1 = (wd 4 : Int)) (hi : (i : Int) < ε 2 7) (hj : (j : Int) < ε 2 7) (hA : RowC (wd 4) σ i LA) (hB : RowC (wd 4) σ j LB) (lA : LA.length ≤ wd 4) (lB : LB.length ≤ wd 4) (hk : k < LA.length) (hl : l < LB.length) (ea : EB 4 i (ent LA k)) (eb : EB 4 j (ent LB l)) (h : post (st4 ε i (ent LA k) j (ent LB l))) : w_X5_stepPrice σ (i : Int) (k : Int) (j : Int) (l : Int) post := by
  have hn := hV.1
  obtain ⟨-, a2, a3, -⟩ := id ea
  obtain ⟨-, b2, b3, b4⟩ := id eb
  unfold st4 at h
  have h38 : ¬ ((ent LB l).2.1 ≠ 2 ∧ lpS i (ent LA k) (1 - (ent LB l).2.1) ≠ (ent LB l).2.2) → w_X5_stepPrice_B38 σ (i : Int) (k : Int) (j : Int) (ent LB l).2.1 post := by
    intro z
    rw [if_neg z] at h
    refine ⟨by simp only [rg]; omega, fun y => ?_, fun y => ?_⟩
    · refine s_X5_L65 hS hV hw hi hj hA lA hk ea eb ⟨by omega, by omega⟩ (fun x => ?_) (fun x => ?_)
      · rw [if_pos x] at h; exact h
      · rw [if_neg x, if_neg (fun u => u.1 y)] at h; exact h
    · refine s_X2_firstOf hw (by omega) (by omega) hA lA (by omega) (by omega) ?_
      rw [Int.toNat_natCast]
      refine ⟨by show rg (ent LA k).2.1; simp only [rg]; omega, by simp only [rg]; omega, fun u => ?_, fun u => ?_⟩
      · refine s_X5_L65 hS hV hw hi hj hA lA hk ea eb ⟨by omega, by omega⟩ (fun x => ?_) (fun x => ?_)
        · rw [if_pos x] at h; exact h
        · rw [if_neg x, if_neg (fun v => u v.2)] at h; exact h
      · refine s_X5_L65 hS hV hw hi hj hA lA hk ea eb ⟨by omega, by omega⟩ (fun x => ?_) (fun x => ?_)
        · rw [if_pos x] at h; exact h
        · rw [if_neg x, if_pos ⟨y, u⟩] at h; exact h
  refine s_X2_firstOf hw (by omega) (by omega) hB lB (by omega) (by omega) ?_
  rw [Int.toNat_natCast]
  refine ⟨by show rg (ent LB l).2.1; simp only [rg]; omega, fun q => h38 (fun z => z.1 q), fun q => ?_⟩
  show w_X5_lastPlayed σ (i : Int) (k : Int) (1 - (ent LB l).2.1) _
  have hlb := lpS_b ea (1 - (ent LB l).2.1)
  refine s_X5_lastPlayed hV hw hi hA lA hk ea (by simp only [rg]; omega) (s_X2_secondOf hw (by omega) (by omega) hB lB (by omega) (by omega) ?_)
  rw [Int.toNat_natCast]
  refine ⟨by simp only [rg]; omega, by show rg (ent LB l).2.2; simp only [rg]; omega, fun z => h38 (fun y => y.2 z), fun z => ?_⟩
  rw [if_pos ⟨q, z⟩] at h
  exact h
theorem s_stepPrice (hκ : κ < 5) (hS : SP σ ε) (hV : VE κ ε) (hw : σ 1 1 = (wd κ : Int)) (hi : (i : Int) < ε 2 7) (hj : (j : Int) < ε 2 7) (hA : RowC (wd κ) σ i LA) (hB : RowC (wd κ) σ j LB) (lA : LA.length ≤ wd κ) (lB : LB.length ≤ wd κ) (hk : k < LA.length) (hl : l < LB.length) (ea : EB κ i (ent LA k)) (eb : EB κ j (ent LB l)) (h : post (stE κ ε i (ent LA k) j (ent LB l))) : w_stepPrice κ σ (i : Int) (k : Int) (j : Int) (l : Int) post := by
  rcases (show κ = 0 ∨ κ = 1 ∨ κ = 2 ∨ κ = 3 ∨ κ = 4 by omega) with rfl | rfl | rfl | rfl | rfl
  · exact s_X0_stepPrice hS hV hw hi hj hA hB lA lB hk hl ea eb h
  · exact s_X6_stepPrice hS hV hw hi hj hA hB lA lB hk hl ea eb h
  · exact s_X8_stepPrice hS hV hw hi hj hA hB lA lB hk hl ea eb h
  · exact s_X4_stepPrice hS hV hw hi hj hA hB lA lB hk hl ea eb h
  · exact s_X5_stepPrice hS hV hw hi hj hA hB lA lB hk hl ea eb h
end STEPC
