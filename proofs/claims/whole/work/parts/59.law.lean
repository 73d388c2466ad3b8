/-! the law: the script, its cell, its cases, its loop -/
def xv (xs : Nat → Int32) (j : Nat) : Int := (xs j).toInt
theorem xv_iN (xs : Nat → Int32) (j : Nat) : iN (xv xs j) = xs j := iN_of (xs j)
theorem xv_rg (xs : Nat → Int32) (j : Nat) : rg (xv xs j) := ⟨by have := Int32.le_toInt (xs j); simp only [xv]; omega, by have := Int32.toInt_lt (xs j); simp only [xv]; omega⟩
def x0 (xs : Nat → Int32) (L : Nat) : Int := if 0 < L then xv xs 0 else 0
theorem x0_rg (xs : Nat → Int32) (L : Nat) : rg (x0 xs L) := by
  unfold x0
  split
  · exact xv_rg xs 0
  · exact rg_c _ rfl
theorem and15 (x : Int) : 0 ≤ andI x 15 ∧ andI x 15 < 16 := by
  have h : ∀ y : Int32, 0 ≤ (y &&& 15).toInt ∧ (y &&& 15).toInt < 16 := by
    intro y
    have e : (y &&& 15).toInt = ((y &&& 15).toBitVec).toInt := rfl
    have e2 : (y &&& 15).toBitVec = y.toBitVec &&& 15#32 := rfl
    have e3 : (y.toBitVec &&& 15#32).toNat ≤ 15 := by
      rw [BitVec.toNat_and]
      exact Nat.and_le_right
    rw [e, e2, BitVec.toInt_eq_toNat_of_lt (by omega)]
    omega
  exact h (iN x)
section LAWT
variable {p : Program} {l : Launch} {e : Env} {R : Room} {s : State} {m : MethodId} {args : Array Value} {below : List Frame} {meth : Method} {c : Code} {H : Heap} {locs : List Loc} {cells slots : Nat} {Q : State → Prop} {pc : Nat} {ls : Array Slot} {rest : List Value} {cc : ByteArray} {G : Gt} {sh : List Shp} {ad : Nat → Nat} {σ : Mem} {A : Nat → Prop} {b L : Nat} {xs : Nat → Int32}
theorem k_sld (hexec : p.tables.exec = Jvm.exec) (hb : c.code = cc) (hX : va_X b L xs s s.heap) (hbl : b < s.heap.size) (hbA : ¬ A b) (hW : Wd G sh ad σ A s.heap H locs) (n : Nat) {i : Int} (hn : i = (n : Int)) (hnL : n < L) (hL : L ≤ 3585) (hdg : decode cc pc = .ok (.iaload, 1))
    (kk : W p l e R s m args below meth c H locs cells slots Q (F0 m (pc + 1) ls (.int (iN (xv xs n)) :: rest))) : W p l e R s m args below meth c H locs cells slots Q (F0 m pc ls (.int (iN i) :: .ref b :: rest)) := by
  subst hn
  have hin : inb (n : Int) L := by simp only [inb]; omega
  refine va_sld hexec hb hX hbl hbA hW.2.2 (iN_in hin) hdg ?_
  rw [iN_clamp hin.rg, Int.toNat_natCast, ← xv_iN xs n]
  exact kk
theorem k_slen (hexec : p.tables.exec = Jvm.exec) (hb : c.code = cc) (hX : va_X b L xs s s.heap) (hbl : b < s.heap.size) (hbA : ¬ A b) (hW : Wd G sh ad σ A s.heap H locs) (hdg : decode cc pc = .ok (.arraylength, 1))
    (kk : W p l e R s m args below meth c H locs cells slots Q (F0 m (pc + 1) ls (.int (iN (L : Int)) :: rest))) : W p l e R s m args below meth c H locs cells slots Q (F0 m pc ls (.ref b :: rest)) :=
  va_slen hexec hb hX hbl hbA hW.2.2 hdg kk
/-- an argument out of the script: aload, iload, a constant, iadd, iaload -/
theorem k_arg {i : Nat} {r1 r2 : Value} (hexec : p.tables.exec = Jvm.exec) (hb : c.code = cc) (hX : va_X b L xs s s.heap) (hbl : b < s.heap.size) (hbA : ¬ A b) (hL : L ≤ 3585) (hi : i + 7 ≤ L) (hl : lv_has ls 4 [(3, .int (iN (i : Int))), (2, r2), (1, r1), (0, .ref b)]) (hW : Wd G sh ad σ A s.heap H locs) (j : Nat) (hj : j < 7) {k : Int} (hk : k = (j : Int)) (d0 : decode cc pc = .ok (.aload_n 0, 1)) (d1 : decode cc (pc + 1) = .ok (.iload_n 3, 1)) (d2 : decode cc (pc + 2) = .ok (.iconst k, 1)) (d3 : decode cc (pc + 3) = .ok (.iadd, 1)) (d4 : decode cc (pc + 4) = .ok (.iaload, 1))
    (kk : W p l e R s m args below meth c H locs cells slots Q (F0 m (pc + 5) ls (.int (iN (xv xs (i + j))) :: rest))) : W p l e R s m args below meth c H locs cells slots Q (F0 m pc ls rest) := by
  refine lv_aload_n hexec hb d0 rfl (lv_at hl 3 rfl) ?_
  refine lv_iload_n hexec hb d1 rfl (lv_at hl 0 rfl) ?_
  refine n_iconst hexec hb d2 ?_
  refine n_iadd hexec hb d3 ?_
  exact k_sld hexec hb hX hbl hbA hW (i + j) (by omega) (by omega) hL d4 kk
theorem k_argb {i : Nat} {r1 r2 : Value} (hexec : p.tables.exec = Jvm.exec) (hb : c.code = cc) (hX : va_X b L xs s s.heap) (hbl : b < s.heap.size) (hbA : ¬ A b) (hL : L ≤ 3585) (hi : i + 7 ≤ L) (hl : lv_has ls 4 [(3, .int (iN (i : Int))), (2, r2), (1, r1), (0, .ref b)]) (hW : Wd G sh ad σ A s.heap H locs) (d0 : decode cc pc = .ok (.aload_n 0, 1)) (d1 : decode cc (pc + 1) = .ok (.iload_n 3, 1)) (d2 : decode cc (pc + 2) = .ok (.bipush 6, 2)) (d3 : decode cc (pc + 4) = .ok (.iadd, 1)) (d4 : decode cc (pc + 5) = .ok (.iaload, 1))
    (kk : W p l e R s m args below meth c H locs cells slots Q (F0 m (pc + 6) ls (.int (iN (xv xs (i + 6))) :: rest))) : W p l e R s m args below meth c H locs cells slots Q (F0 m pc ls rest) := by
  refine lv_aload_n hexec hb d0 rfl (lv_at hl 3 rfl) ?_
  refine lv_iload_n hexec hb d1 rfl (lv_at hl 0 rfl) ?_
  refine n_bipush hexec hb d2 (by decide) ?_
  refine n_iadd hexec hb d3 ?_
  exact k_sld hexec hb hX hbl hbA hW (i + 6) (by omega) (by omega) hL d4 kk
theorem fin_CY {st : List Value} {a : Array Value} {mc ms : Nat} {sh' : List Shp} {post : Int → Mem → Prop} (hA : ∀ q, s.heap.size ≤ q → A q) (hW : Wd G sh ad σ A s.heap H locs) (hr : va_Run p l e R s m args below meth c H locs cells slots mc ms (F0 m pc ls st) rest (QY G sh.length sh' ad post (Aw ad sh.length H.size) a) (Aw ad sh.length H.size))
    (kk : ∀ (x : Int) (τ : Mem) (ad' : Nat → Nat) (H1 : Heap) (locs1 : List Loc), post x τ → (∀ i, i < sh.length → ad' i = ad i) → Wd G sh' ad' τ A s.heap H1 locs1 → W p l e R s m args below meth c H1 locs1 (cells + mc) (slots + ms) Q (F0 m (pc + 3) ls (.int (iN x) :: rest))) : W p l e R s m args below meth c H locs cells slots Q (F0 m pc ls st) :=
  va_calli hr hW.2.2 (fun q _ h => AwA hW hA q h) (fun q h => AwA hW hA q h) (fun r u t H1 locs1 ht _ hp hB _ _ hS => by
    obtain ⟨rfl, hp, ha⟩ := hp
    exact kk u.1 u.2.1 u.2.2 H1 locs1 hp ha ⟨by rw [← ht]; exact hB.1, hB.2.2.weaken (fun _ q _ h => AwA hW hA q.1 h), hS⟩)
end LAWT
theorem wl_mem (G : Gt) (ad : Nat → Nat) {σ τ : Mem} {sh : List Shp} (h : ∀ c, c < sh.length → τ c = σ c) : wl G ad τ 0 sh = wl G ad σ 0 sh := by
  apply List.ext_getElem?
  intro i
  rw [wl_get, wl_get]
  by_cases hi : i < sh.length
  · congr 1
    funext c
    simp only [Nat.zero_add]
    rw [ce_ne G ad (h i hi)]
  · rw [List.getElem?_eq_none (by omega)]
    rfl
theorem Wd.mem {G : Gt} {ad : Nat → Nat} {σ τ : Mem} {sh : List Shp} {A : Nat → Prop} {H0 H : Heap} {locs : List Loc} (hW : Wd G sh ad σ A H0 H locs) (h : ∀ c, c < sh.length → τ c = σ c) : Wd G sh ad τ A H0 H locs := by
  unfold Wd
  rw [wl_mem G ad h]
  exact hW
def zr (σ : Mem) : Mem := fun c j => if c < 35 then σ c j else 0
theorem zr_eq {σ : Mem} {c : Nat} (h : c < 35) : zr σ c = σ c := by
  funext j
  exact if_pos h
theorem zr_hz (σ : Mem) : hz 35 (zr σ) := fun c hc j => if_neg (by omega)
def ty0 (σ : Mem) : Mem := up2 (up2 (up2 (up2 (up2 (σ) 35 5 (-1)) 35 0 39) 35 1 40) 35 2 36) 35 3 37
theorem ty0_eq {σ : Mem} {c : Nat} (h : c ≠ 35) : ty0 σ c = σ c := by
  unfold ty0
  rw [up2_k h, up2_k h, up2_k h, up2_k h, up2_k h]
theorem ty0_ok (κ : Nat) (ε σ : Mem) : TyOk κ ε (ty0 σ) := ⟨⟨Or.inl ⟨rfl, rfl⟩, Or.inl ⟨rfl, rfl⟩⟩, (by decide : (-1 : Int) ≤ -1), (by decide : (-1 : Int) ≤ 300), fun p hp => absurd (show (p : Int) ≤ -1 from hp) (by omega)⟩
/-- the law's cell(script, 0) -/
theorem c_L_cell (l : Launch) (G : Gt) (sh : List Shp) (ad : Nat → Nat) (σ : Mem) (b L : Nat) (xs : Nat → Int32) (hL : L ≤ 3585) (sz : Nat) (hbl : b < sz) (hbA : ¬ Aw ad sh.length sz b) : Met l yL_cell (Cond.code yL_cell cL_cell 2 (some .int) :: ALL) ({ frames := 0, cells := 0, slots := 0, locals := 0 } : Room) (va_Pc [.ref b, .int (iN 0)] (fun U => Pst G sh ad σ sz U ∧ va_X b L xs U U.heap)) (va_Qi (fun r (u : Int) => r = iN u ∧ u = x0 xs L) (fun _ t => Bw G sh ad σ sz t) (Aw ad sh.length sz)) 0 0 (Aw ad sh.length sz) := by
  refine Met.ofW (cc := cL_cell) (maxL := 2) (ret := some .int) (by decide) rfl ?_
  intro p e s m args below meth c s₁ B hml hv
  obtain ⟨rfl, ⟨hsz, hP, hK, hD, hE⟩, hX⟩ := hv
  subst hsz
  have hl := lv_entry [.ref b, .int (iN 0)] (n := 2) (Nat.le_of_ble_eq_true rfl)
  rw [lg_entry_eq]
  generalize (lg_sl [.ref b, .int (iN 0)] ++ List.replicate (2 - (lg_sl [.ref b, .int (iN 0)]).length) Slot.unset).toArray = ls at hl ⊢
  replace hl : lv_has ls 2 [(0, .ref b), (1, .int (iN 0))] := hl
  have hx := B.exec
  have hb := B.bytes
  have hr := B.returns
  have hlk := B.notSynchronized
  have hW : Wd G sh ad σ (Aw ad sh.length s.heap.size) s.heap s.heap [] := ⟨hP, Dw hD, va_S.rf⟩
  refine lv_iload_n hx hb dL_cell_0 rfl (lv_at hl 1 rfl) ?_
  refine lv_aload_n hx hb dL_cell_1 rfl (lv_at hl 0 rfl) ?_
  refine k_slen hx hb hX hbl hbA hW dL_cell_2 ?_
  refine n_icmp_ge hx hb (rg_c 0 rfl) (by simp only [rg]; omega) (X := (L : Int) ≤ 0) (Y := (0 : Int) < L) id id (tgt := 12) dL_cell_3 (by decide) (fun h => ?_) (fun h => ?_)
  · refine n_iconst hx hb dL_cell_12 ?_
    exact r_CI hx hb hr hlk hK hW (x := 0) (post := fun u => u = x0 xs L) (by unfold x0; rw [if_neg (by omega)]) dL_cell_13
  · refine lv_aload_n hx hb dL_cell_6 rfl (lv_at hl 0 rfl) ?_
    refine lv_iload_n hx hb dL_cell_7 rfl (lv_at hl 1 rfl) ?_
    refine k_sld hx hb hX hbl hbA hW 0 rfl (by omega) hL dL_cell_8 ?_
    refine lv_goto (tgt := 13) hx hb dL_cell_9 (by decide) ?_
    exact r_CI hx hb hr hlk hK hW (x := xv xs 0) (post := fun u => u = x0 xs L) (by unfold x0; rw [if_pos (by omega)]) dL_cell_13
section LAWC
variable {p : Program} {l : Launch} {e : Env} {s : State} {m : MethodId} {args : Array Value} {below : List Frame} {meth : Method} {c : Code} {H : Heap} {locs : List Loc} {cells slots : Nat} {Q : State → Prop} {pc : Nat} {ls : Array Slot} {rest : List Value} {G : Gt} {sh : List Shp} {ad : Nat → Nat} {σ ε : Mem} {A : Nat → Prop} {c0 : Cond} {b L i κ : Nat} {tl : Bool} {xs : Nat → Int32}
theorem run_cell {st : List Value} (S : CallFix p m c code 4 s args (c0 :: ALL) RL) (hK : Kx G s) (hE : Ex A s) (hA : ∀ q, s.heap.size ≤ q → A q) (hX : va_X b L xs s s.heap) (hbl : b < s.heap.size) (hbA : ¬ A b) (hL : L ≤ 3585) (hW : Wd G sh ad σ A s.heap H locs) (hsz : ls.size = 4) (hst : st = [.int (iN 0), .ref b] ++ rest) (hroom : (rest.map fun v => v.category).sum ≤ 8) (hdg : decode code pc = .ok (.invokestatic 9, 3)) (hcs : cells ≤ room_1.cells ∧ slots ≤ room_1.slots)
    (kk : ∀ (H1 : Heap) (locs1 : List Loc), Wd G sh ad σ A s.heap H1 locs1 → W p l e room_1 s m args below meth c H1 locs1 cells slots Q (F0 m (pc + 3) ls (.int (iN (x0 xs L)) :: rest))) : W p l e room_1 s m args below meth c H locs cells slots Q (F0 m pc ls st) := by
  refine fin_CIA (post := fun u => u = x0 xs L) (a := ([.ref b, .int (iN 0)] : List Value).toArray) (rest := rest) hA hW (va_runS (As := [.ref b, .int (iN 0)]) (rest := rest) (index := 9) (n := 2) S (c_L_cell l G sh ad σ b L xs hL H.size (Nat.lt_of_lt_of_le hbl hW.2.2.1) (fun h => hbA (AwA hW hA b h))) (va_cwS 2 S.2.2.2.2 (GoodAp (GoodB (mem3 al_753 al_754 al_0)) (GoodA al_755)) rfl rfl rfl (by decide +kernel) ⟨Nat.le_of_ble_eq_true rfl, Nat.le_of_ble_eq_true rfl⟩) ⟨?_, ?_⟩ rfl rfl hsz hst (lv_room hroom) hdg hcs) ?_
  · intro a U g mk q
    obtain ⟨q0, q1, q2⟩ := q
    have := Pst.blind G sh ad σ H.size [.ref b, .int (iN 0)] a U g mk ⟨q0, q1⟩
    exact ⟨this.1, this.2, va_X.moved (u := U) (U := U.calling g mk a) (Vm.Alike.refl U.vm) q2⟩
  · intro U hU hWm
    have := Pst.preA hK hE hA hW [.ref b, .int (iN 0)] U hU hWm
    exact ⟨this.1, this.2, (hX.kept (by rw [hU]; exact hW.2.2.2.1 b hbl hbA)).moved hWm.alike⟩
  · intro x H1 locs1 hp hW1
    rw [hp]
    exact kk H1 locs1 hW1
theorem lc_event (hκ : κ < 5) (S : CallFix p m c code 4 s args (c0 :: ALL) RL) (hK : Kx G s) (hE : Ex A s) (hA : ∀ q, s.heap.size ≤ q → A q) (hX : va_X b L xs s s.heap) (hbl : b < s.heap.size) (hbA : ¬ A b) (hL : L ≤ 3585) (hi : i + 7 ≤ L) (hl : lv_has ls 4 [(3, .int (iN (i : Int))), (2, .ref (ad 17)), (1, .ref (ad 0)), (0, .ref b)]) (hcs : cells ≤ room_1.cells ∧ slots ≤ room_1.slots) (hI : CIv κ tl ε σ) (hM : MIv κ ε σ) (hW : Wd G (shW κ tl) ad σ A s.heap H locs)
    (next : ∀ (ε τ : Mem) (H : Heap) (locs : List Loc), CIv κ tl ε τ → MIv κ ε τ → Wd G (shW κ tl) ad τ A s.heap H locs → W p l e room_1 s m args below meth c H locs cells slots Q (F0 m 499 ls [])) : W p l e room_1 s m args below meth c H locs cells slots Q (F0 m 108 ls []) := by
  obtain ⟨hx, hb, hml, hown, hts⟩ := id S
  obtain ⟨R0, ε1, hC, hR⟩ := b_event (κ := κ) (ε := ε) hκ hI.2.1 (xv_rg xs (i + 1)) (xv_rg xs (i + 2)) (xv_rg xs (i + 3)) (xv_rg xs (i + 4)) (xv_rg xs (i + 5)) (xv_rg xs (i + 6))
  refine lv_aload_n hx hb dL_law_108 rfl (lv_at hl 2 rfl) ?_
  refine k_arg (pc := 109) hx hb hX hbl hbA hL hi hl hW 1 (by decide) (by decide) dL_law_109 dL_law_110 dL_law_111 dL_law_112 dL_law_113 ?_
  refine k_arg (pc := 114) hx hb hX hbl hbA hL hi hl hW 2 (by decide) (by decide) dL_law_114 dL_law_115 dL_law_116 dL_law_117 dL_law_118 ?_
  refine k_arg (pc := 119) hx hb hX hbl hbA hL hi hl hW 3 (by decide) (by decide) dL_law_119 dL_law_120 dL_law_121 dL_law_122 dL_law_123 ?_
  refine k_arg (pc := 124) hx hb hX hbl hbA hL hi hl hW 4 (by decide) (by decide) dL_law_124 dL_law_125 dL_law_126 dL_law_127 dL_law_128 ?_
  refine k_arg (pc := 129) hx hb hX hbl hbA hL hi hl hW 5 (by decide) (by decide) dL_law_129 dL_law_130 dL_law_131 dL_law_132 dL_law_133 ?_
  refine k_argb (pc := 134) hx hb hX hbl hbA hL hi hl hW dL_law_134 dL_law_135 dL_law_136 dL_law_138 dL_law_139 ?_
  refine fin_CMA (pp := fun u => PC κ tl ε1 σ R0 u.1 u.2) hA hW (run_VA (k := 0) (As := [.int (iN (xv xs (i + 1))), .int (iN (xv xs (i + 2))), .int (iN (xv xs (i + 3))), .int (iN (xv xs (i + 4))), .int (iN (xv xs (i + 5))), .int (iN (xv xs (i + 6)))]) (rest := []) S hK hE hA hW (c_X9_event l G κ hκ tl ad σ (xv xs (i + 1)) (xv xs (i + 2)) (xv xs (i + 3)) (xv xs (i + 4)) (xv xs (i + 5)) (xv xs (i + 6)) _ (hC tl σ hI) H.size) rfl rfl al_213 al_214 al_215 al_1 al_216 hd_X9_event rfl rfl ⟨Nat.le_of_ble_eq_true rfl, Nat.le_of_ble_eq_true rfl⟩ rfl hl.1 rfl (Nat.le_of_ble_eq_true rfl) dL_law_140 hcs) ?_
  intro x τ H1 locs1 hp hW1
  obtain ⟨rfl, k1, hI1⟩ := hp
  refine lv_aload_n hx hb dL_law_143 rfl (lv_at hl 1 rfl) ?_
  refine k_arg (pc := 144) hx hb hX hbl hbA hL hi hl hW1 1 (by decide) (by decide) dL_law_144 dL_law_145 dL_law_146 dL_law_147 dL_law_148 ?_
  refine k_arg (pc := 149) hx hb hX hbl hbA hL hi hl hW1 2 (by decide) (by decide) dL_law_149 dL_law_150 dL_law_151 dL_law_152 dL_law_153 ?_
  refine k_arg (pc := 154) hx hb hX hbl hbA hL hi hl hW1 3 (by decide) (by decide) dL_law_154 dL_law_155 dL_law_156 dL_law_157 dL_law_158 ?_
  refine k_arg (pc := 159) hx hb hX hbl hbA hL hi hl hW1 4 (by decide) (by decide) dL_law_159 dL_law_160 dL_law_161 dL_law_162 dL_law_163 ?_
  refine k_arg (pc := 164) hx hb hX hbl hbA hL hi hl hW1 5 (by decide) (by decide) dL_law_164 dL_law_165 dL_law_166 dL_law_167 dL_law_168 ?_
  refine k_argb (pc := 169) hx hb hX hbl hbA hL hi hl hW1 dL_law_169 dL_law_170 dL_law_171 dL_law_173 dL_law_174 ?_
  refine fin_CMA (pp := fun u => PM κ ε1 τ x u.1 u.2) hA hW1 (run_VA (k := 17) (As := [.int (iN (xv xs (i + 1))), .int (iN (xv xs (i + 2))), .int (iN (xv xs (i + 3))), .int (iN (xv xs (i + 4))), .int (iN (xv xs (i + 5))), .int (iN (xv xs (i + 6)))]) (rest := [.int (iN x)]) S hK hE hA hW1 (c_X10_event l G κ tl ad τ (xv xs (i + 1)) (xv xs (i + 2)) (xv xs (i + 3)) (xv xs (i + 4)) (xv xs (i + 5)) (xv xs (i + 6)) _ (hR τ (hM.mv k1)) H1.size) rfl rfl al_825 al_826 al_827 al_11 al_828 hd_X10_event rfl rfl ⟨Nat.le_of_ble_eq_true rfl, Nat.le_of_ble_eq_true rfl⟩ rfl hl.1 rfl (Nat.le_of_ble_eq_true rfl) dL_law_175 hcs) ?_
  intro y τ2 H2 locs2 hp2 hW2
  obtain ⟨rfl, k2, hM2⟩ := hp2
  refine lv_icmp_eq (tgt := 499) hx hb dL_law_178 (by decide) (fun _ => ?_) (fun h => absurd rfl h)
  exact next ε1 τ2 H2 locs2 (hI1.mv k2) hM2 hW2
theorem lc_drop (hκ : κ < 5) (S : CallFix p m c code 4 s args (c0 :: ALL) RL) (hK : Kx G s) (hE : Ex A s) (hA : ∀ q, s.heap.size ≤ q → A q) (hX : va_X b L xs s s.heap) (hbl : b < s.heap.size) (hbA : ¬ A b) (hL : L ≤ 3585) (hi : i + 7 ≤ L) (hl : lv_has ls 4 [(3, .int (iN (i : Int))), (2, .ref (ad 17)), (1, .ref (ad 0)), (0, .ref b)]) (hcs : cells ≤ room_1.cells ∧ slots ≤ room_1.slots) (hI : CIv κ tl ε σ) (hM : MIv κ ε σ) (hW : Wd G (shW κ tl) ad σ A s.heap H locs)
    (next : ∀ (ε τ : Mem) (H : Heap) (locs : List Loc), CIv κ tl ε τ → MIv κ ε τ → Wd G (shW κ tl) ad τ A s.heap H locs → W p l e room_1 s m args below meth c H locs cells slots Q (F0 m 499 ls [])) : W p l e room_1 s m args below meth c H locs cells slots Q (F0 m 183 ls []) := by
  obtain ⟨hx, hb, hml, hown, hts⟩ := id S
  obtain ⟨R0, ε1, hC, hR⟩ := b_drop (κ := κ) (ε := ε) hκ hI.2.1 
  refine lv_aload_n hx hb dL_law_183 rfl (lv_at hl 2 rfl) ?_
  refine fin_CMA (pp := fun u => PC κ tl ε1 σ R0 u.1 u.2) hA hW (run_VA (k := 0) (As := []) (rest := []) S hK hE hA hW (c_X9_drop l G κ hκ tl ad σ  _ (hC tl σ hI) H.size) rfl rfl al_253 al_254 al_255 al_1 al_256 hd_X9_drop rfl rfl ⟨Nat.le_of_ble_eq_true rfl, Nat.le_of_ble_eq_true rfl⟩ rfl hl.1 rfl (Nat.le_of_ble_eq_true rfl) dL_law_184 hcs) ?_
  intro x τ H1 locs1 hp hW1
  obtain ⟨rfl, k1, hI1⟩ := hp
  refine lv_aload_n hx hb dL_law_187 rfl (lv_at hl 1 rfl) ?_
  refine fin_CMA (pp := fun u => PM κ ε1 τ x u.1 u.2) hA hW1 (run_VA (k := 17) (As := []) (rest := [.int (iN x)]) S hK hE hA hW1 (c_X10_drop l G κ tl ad τ  _ (hR τ (hM.mv k1)) H1.size) rfl rfl al_841 al_842 al_843 al_11 al_844 hd_X10_drop rfl rfl ⟨Nat.le_of_ble_eq_true rfl, Nat.le_of_ble_eq_true rfl⟩ rfl hl.1 rfl (Nat.le_of_ble_eq_true rfl) dL_law_188 hcs) ?_
  intro y τ2 H2 locs2 hp2 hW2
  obtain ⟨rfl, k2, hM2⟩ := hp2
  refine lv_icmp_eq (tgt := 499) hx hb dL_law_191 (by decide) (fun _ => ?_) (fun h => absurd rfl h)
  exact next ε1 τ2 H2 locs2 (hI1.mv k2) hM2 hW2
theorem lc_bound (hκ : κ < 5) (S : CallFix p m c code 4 s args (c0 :: ALL) RL) (hK : Kx G s) (hE : Ex A s) (hA : ∀ q, s.heap.size ≤ q → A q) (hX : va_X b L xs s s.heap) (hbl : b < s.heap.size) (hbA : ¬ A b) (hL : L ≤ 3585) (hi : i + 7 ≤ L) (hl : lv_has ls 4 [(3, .int (iN (i : Int))), (2, .ref (ad 17)), (1, .ref (ad 0)), (0, .ref b)]) (hcs : cells ≤ room_1.cells ∧ slots ≤ room_1.slots) (hI : CIv κ tl ε σ) (hM : MIv κ ε σ) (hW : Wd G (shW κ tl) ad σ A s.heap H locs)
    (next : ∀ (ε τ : Mem) (H : Heap) (locs : List Loc), CIv κ tl ε τ → MIv κ ε τ → Wd G (shW κ tl) ad τ A s.heap H locs → W p l e room_1 s m args below meth c H locs cells slots Q (F0 m 499 ls [])) : W p l e room_1 s m args below meth c H locs cells slots Q (F0 m 196 ls []) := by
  obtain ⟨hx, hb, hml, hown, hts⟩ := id S
  obtain ⟨R0, ε1, hC, hR⟩ := b_bound (κ := κ) (ε := ε) hκ hI.2.1 (xv_rg xs (i + 1)) (xv_rg xs (i + 2))
  refine lv_aload_n hx hb dL_law_196 rfl (lv_at hl 2 rfl) ?_
  refine k_arg (pc := 197) hx hb hX hbl hbA hL hi hl hW 1 (by decide) (by decide) dL_law_197 dL_law_198 dL_law_199 dL_law_200 dL_law_201 ?_
  refine k_arg (pc := 202) hx hb hX hbl hbA hL hi hl hW 2 (by decide) (by decide) dL_law_202 dL_law_203 dL_law_204 dL_law_205 dL_law_206 ?_
  refine fin_CMA (pp := fun u => PC κ tl ε1 σ R0 u.1 u.2) hA hW (run_VA (k := 0) (As := [.int (iN (xv xs (i + 1))), .int (iN (xv xs (i + 2)))]) (rest := []) S hK hE hA hW (c_X9_bound l G κ hκ tl ad σ (xv xs (i + 1)) (xv xs (i + 2)) _ (hC tl σ hI) H.size) rfl rfl al_257 al_258 al_259 al_1 al_260 hd_X9_bound rfl rfl ⟨Nat.le_of_ble_eq_true rfl, Nat.le_of_ble_eq_true rfl⟩ rfl hl.1 rfl (Nat.le_of_ble_eq_true rfl) dL_law_207 hcs) ?_
  intro x τ H1 locs1 hp hW1
  obtain ⟨rfl, k1, hI1⟩ := hp
  refine lv_aload_n hx hb dL_law_210 rfl (lv_at hl 1 rfl) ?_
  refine k_arg (pc := 211) hx hb hX hbl hbA hL hi hl hW1 1 (by decide) (by decide) dL_law_211 dL_law_212 dL_law_213 dL_law_214 dL_law_215 ?_
  refine k_arg (pc := 216) hx hb hX hbl hbA hL hi hl hW1 2 (by decide) (by decide) dL_law_216 dL_law_217 dL_law_218 dL_law_219 dL_law_220 ?_
  refine fin_CMA (pp := fun u => PM κ ε1 τ x u.1 u.2) hA hW1 (run_VA (k := 17) (As := [.int (iN (xv xs (i + 1))), .int (iN (xv xs (i + 2)))]) (rest := [.int (iN x)]) S hK hE hA hW1 (c_X10_bound l G κ tl ad τ (xv xs (i + 1)) (xv xs (i + 2)) _ (hR τ (hM.mv k1)) H1.size) rfl rfl al_845 al_846 al_847 al_11 al_848 hd_X10_bound rfl rfl ⟨Nat.le_of_ble_eq_true rfl, Nat.le_of_ble_eq_true rfl⟩ rfl hl.1 rfl (Nat.le_of_ble_eq_true rfl) dL_law_221 hcs) ?_
  intro y τ2 H2 locs2 hp2 hW2
  obtain ⟨rfl, k2, hM2⟩ := hp2
  refine lv_icmp_eq (tgt := 499) hx hb dL_law_224 (by decide) (fun _ => ?_) (fun h => absurd rfl h)
  exact next ε1 τ2 H2 locs2 (hI1.mv k2) hM2 hW2
theorem lc_pin (hκ : κ < 5) (S : CallFix p m c code 4 s args (c0 :: ALL) RL) (hK : Kx G s) (hE : Ex A s) (hA : ∀ q, s.heap.size ≤ q → A q) (hX : va_X b L xs s s.heap) (hbl : b < s.heap.size) (hbA : ¬ A b) (hL : L ≤ 3585) (hi : i + 7 ≤ L) (hl : lv_has ls 4 [(3, .int (iN (i : Int))), (2, .ref (ad 17)), (1, .ref (ad 0)), (0, .ref b)]) (hcs : cells ≤ room_1.cells ∧ slots ≤ room_1.slots) (hI : CIv κ tl ε σ) (hM : MIv κ ε σ) (hW : Wd G (shW κ tl) ad σ A s.heap H locs)
    (next : ∀ (ε τ : Mem) (H : Heap) (locs : List Loc), CIv κ tl ε τ → MIv κ ε τ → Wd G (shW κ tl) ad τ A s.heap H locs → W p l e room_1 s m args below meth c H locs cells slots Q (F0 m 499 ls [])) : W p l e room_1 s m args below meth c H locs cells slots Q (F0 m 229 ls []) := by
  obtain ⟨hx, hb, hml, hown, hts⟩ := id S
  obtain ⟨R0, ε1, hC, hR⟩ := b_pin (κ := κ) (ε := ε) hκ hI.2.1 (xv_rg xs (i + 1)) (xv_rg xs (i + 2))
  refine lv_aload_n hx hb dL_law_229 rfl (lv_at hl 2 rfl) ?_
  refine k_arg (pc := 230) hx hb hX hbl hbA hL hi hl hW 1 (by decide) (by decide) dL_law_230 dL_law_231 dL_law_232 dL_law_233 dL_law_234 ?_
  refine k_arg (pc := 235) hx hb hX hbl hbA hL hi hl hW 2 (by decide) (by decide) dL_law_235 dL_law_236 dL_law_237 dL_law_238 dL_law_239 ?_
  refine fin_CMA (pp := fun u => PC κ tl ε1 σ R0 u.1 u.2) hA hW (run_VA (k := 0) (As := [.int (iN (xv xs (i + 1))), .int (iN (xv xs (i + 2)))]) (rest := []) S hK hE hA hW (c_X9_pin l G κ hκ tl ad σ (xv xs (i + 1)) (xv xs (i + 2)) _ (hC tl σ hI) H.size) rfl rfl al_273 al_274 al_275 al_1 al_276 hd_X9_pin rfl rfl ⟨Nat.le_of_ble_eq_true rfl, Nat.le_of_ble_eq_true rfl⟩ rfl hl.1 rfl (Nat.le_of_ble_eq_true rfl) dL_law_240 hcs) ?_
  intro x τ H1 locs1 hp hW1
  obtain ⟨rfl, k1, hI1⟩ := hp
  refine lv_aload_n hx hb dL_law_243 rfl (lv_at hl 1 rfl) ?_
  refine k_arg (pc := 244) hx hb hX hbl hbA hL hi hl hW1 1 (by decide) (by decide) dL_law_244 dL_law_245 dL_law_246 dL_law_247 dL_law_248 ?_
  refine k_arg (pc := 249) hx hb hX hbl hbA hL hi hl hW1 2 (by decide) (by decide) dL_law_249 dL_law_250 dL_law_251 dL_law_252 dL_law_253 ?_
  refine fin_CMA (pp := fun u => PM κ ε1 τ x u.1 u.2) hA hW1 (run_VA (k := 17) (As := [.int (iN (xv xs (i + 1))), .int (iN (xv xs (i + 2)))]) (rest := [.int (iN x)]) S hK hE hA hW1 (c_X10_pin l G κ tl ad τ (xv xs (i + 1)) (xv xs (i + 2)) _ (hR τ (hM.mv k1)) H1.size) rfl rfl al_849 al_850 al_851 al_11 al_852 hd_X10_pin rfl rfl ⟨Nat.le_of_ble_eq_true rfl, Nat.le_of_ble_eq_true rfl⟩ rfl hl.1 rfl (Nat.le_of_ble_eq_true rfl) dL_law_254 hcs) ?_
  intro y τ2 H2 locs2 hp2 hW2
  obtain ⟨rfl, k2, hM2⟩ := hp2
  refine lv_icmp_eq (tgt := 499) hx hb dL_law_257 (by decide) (fun _ => ?_) (fun h => absurd rfl h)
  exact next ε1 τ2 H2 locs2 (hI1.mv k2) hM2 hW2
theorem lc_states (hκ : κ < 5) (S : CallFix p m c code 4 s args (c0 :: ALL) RL) (hK : Kx G s) (hE : Ex A s) (hA : ∀ q, s.heap.size ≤ q → A q) (hX : va_X b L xs s s.heap) (hbl : b < s.heap.size) (hbA : ¬ A b) (hL : L ≤ 3585) (hi : i + 7 ≤ L) (hl : lv_has ls 4 [(3, .int (iN (i : Int))), (2, .ref (ad 17)), (1, .ref (ad 0)), (0, .ref b)]) (hcs : cells ≤ room_1.cells ∧ slots ≤ room_1.slots) (hI : CIv κ tl ε σ) (hM : MIv κ ε σ) (hW : Wd G (shW κ tl) ad σ A s.heap H locs)
    (next : ∀ (ε τ : Mem) (H : Heap) (locs : List Loc), CIv κ tl ε τ → MIv κ ε τ → Wd G (shW κ tl) ad τ A s.heap H locs → W p l e room_1 s m args below meth c H locs cells slots Q (F0 m 499 ls [])) : W p l e room_1 s m args below meth c H locs cells slots Q (F0 m 262 ls []) := by
  obtain ⟨hx, hb, hml, hown, hts⟩ := id S
  obtain ⟨R0, ε1, hC, hR⟩ := b_states (κ := κ) (ε := ε) hκ hI.2.1 (xv_rg xs (i + 1))
  refine lv_aload_n hx hb dL_law_262 rfl (lv_at hl 2 rfl) ?_
  refine k_arg (pc := 263) hx hb hX hbl hbA hL hi hl hW 1 (by decide) (by decide) dL_law_263 dL_law_264 dL_law_265 dL_law_266 dL_law_267 ?_
  refine fin_CMA (pp := fun u => PC κ tl ε1 σ R0 u.1 u.2) hA hW (run_VA (k := 0) (As := [.int (iN (xv xs (i + 1)))]) (rest := []) S hK hE hA hW (c_X9_states l G κ hκ tl ad σ (xv xs (i + 1)) _ (hC tl σ hI) H.size) rfl rfl al_289 al_290 al_291 al_1 al_292 hd_X9_states rfl rfl ⟨Nat.le_of_ble_eq_true rfl, Nat.le_of_ble_eq_true rfl⟩ rfl hl.1 rfl (Nat.le_of_ble_eq_true rfl) dL_law_268 hcs) ?_
  intro x τ H1 locs1 hp hW1
  obtain ⟨rfl, k1, hI1⟩ := hp
  refine lv_aload_n hx hb dL_law_271 rfl (lv_at hl 1 rfl) ?_
  refine k_arg (pc := 272) hx hb hX hbl hbA hL hi hl hW1 1 (by decide) (by decide) dL_law_272 dL_law_273 dL_law_274 dL_law_275 dL_law_276 ?_
  refine fin_CMA (pp := fun u => PM κ ε1 τ x u.1 u.2) hA hW1 (run_VA (k := 17) (As := [.int (iN (xv xs (i + 1)))]) (rest := [.int (iN x)]) S hK hE hA hW1 (c_X10_states l G κ tl ad τ (xv xs (i + 1)) _ (hR τ (hM.mv k1)) H1.size) rfl rfl al_853 al_854 al_855 al_11 al_856 hd_X10_states rfl rfl ⟨Nat.le_of_ble_eq_true rfl, Nat.le_of_ble_eq_true rfl⟩ rfl hl.1 rfl (Nat.le_of_ble_eq_true rfl) dL_law_277 hcs) ?_
  intro y τ2 H2 locs2 hp2 hW2
  obtain ⟨rfl, k2, hM2⟩ := hp2
  refine lv_icmp_eq (tgt := 499) hx hb dL_law_280 (by decide) (fun _ => ?_) (fun h => absurd rfl h)
  exact next ε1 τ2 H2 locs2 (hI1.mv k2) hM2 hW2
theorem lc_state (hκ : κ < 5) (S : CallFix p m c code 4 s args (c0 :: ALL) RL) (hK : Kx G s) (hE : Ex A s) (hA : ∀ q, s.heap.size ≤ q → A q) (hX : va_X b L xs s s.heap) (hbl : b < s.heap.size) (hbA : ¬ A b) (hL : L ≤ 3585) (hi : i + 7 ≤ L) (hl : lv_has ls 4 [(3, .int (iN (i : Int))), (2, .ref (ad 17)), (1, .ref (ad 0)), (0, .ref b)]) (hcs : cells ≤ room_1.cells ∧ slots ≤ room_1.slots) (hI : CIv κ tl ε σ) (hM : MIv κ ε σ) (hW : Wd G (shW κ tl) ad σ A s.heap H locs)
    (next : ∀ (ε τ : Mem) (H : Heap) (locs : List Loc), CIv κ tl ε τ → MIv κ ε τ → Wd G (shW κ tl) ad τ A s.heap H locs → W p l e room_1 s m args below meth c H locs cells slots Q (F0 m 499 ls [])) : W p l e room_1 s m args below meth c H locs cells slots Q (F0 m 285 ls []) := by
  obtain ⟨hx, hb, hml, hown, hts⟩ := id S
  obtain ⟨R0, ε1, hC, hR⟩ := b_state (κ := κ) (ε := ε) hκ hI.2.1 (xv_rg xs (i + 1)) (xv_rg xs (i + 2)) (xv_rg xs (i + 3))
  refine lv_aload_n hx hb dL_law_285 rfl (lv_at hl 2 rfl) ?_
  refine k_arg (pc := 286) hx hb hX hbl hbA hL hi hl hW 1 (by decide) (by decide) dL_law_286 dL_law_287 dL_law_288 dL_law_289 dL_law_290 ?_
  refine k_arg (pc := 291) hx hb hX hbl hbA hL hi hl hW 2 (by decide) (by decide) dL_law_291 dL_law_292 dL_law_293 dL_law_294 dL_law_295 ?_
  refine k_arg (pc := 296) hx hb hX hbl hbA hL hi hl hW 3 (by decide) (by decide) dL_law_296 dL_law_297 dL_law_298 dL_law_299 dL_law_300 ?_
  refine fin_CMA (pp := fun u => PC κ tl ε1 σ R0 u.1 u.2) hA hW (run_VA (k := 0) (As := [.int (iN (xv xs (i + 1))), .int (iN (xv xs (i + 2))), .int (iN (xv xs (i + 3)))]) (rest := []) S hK hE hA hW (c_X9_state l G κ hκ tl ad σ (xv xs (i + 1)) (xv xs (i + 2)) (xv xs (i + 3)) _ (hC tl σ hI) H.size) rfl rfl al_434 al_435 al_436 al_1 al_437 hd_X9_state rfl rfl ⟨Nat.le_of_ble_eq_true rfl, Nat.le_of_ble_eq_true rfl⟩ rfl hl.1 rfl (Nat.le_of_ble_eq_true rfl) dL_law_301 hcs) ?_
  intro x τ H1 locs1 hp hW1
  obtain ⟨rfl, k1, hI1⟩ := hp
  refine lv_aload_n hx hb dL_law_304 rfl (lv_at hl 1 rfl) ?_
  refine k_arg (pc := 305) hx hb hX hbl hbA hL hi hl hW1 1 (by decide) (by decide) dL_law_305 dL_law_306 dL_law_307 dL_law_308 dL_law_309 ?_
  refine k_arg (pc := 310) hx hb hX hbl hbA hL hi hl hW1 2 (by decide) (by decide) dL_law_310 dL_law_311 dL_law_312 dL_law_313 dL_law_314 ?_
  refine k_arg (pc := 315) hx hb hX hbl hbA hL hi hl hW1 3 (by decide) (by decide) dL_law_315 dL_law_316 dL_law_317 dL_law_318 dL_law_319 ?_
  refine fin_CMA (pp := fun u => PM κ ε1 τ x u.1 u.2) hA hW1 (run_VA (k := 17) (As := [.int (iN (xv xs (i + 1))), .int (iN (xv xs (i + 2))), .int (iN (xv xs (i + 3)))]) (rest := [.int (iN x)]) S hK hE hA hW1 (c_X10_state l G κ tl ad τ (xv xs (i + 1)) (xv xs (i + 2)) (xv xs (i + 3)) _ (hR τ (hM.mv k1)) H1.size) rfl rfl al_906 al_907 al_908 al_11 al_909 hd_X10_state rfl rfl ⟨Nat.le_of_ble_eq_true rfl, Nat.le_of_ble_eq_true rfl⟩ rfl hl.1 rfl (Nat.le_of_ble_eq_true rfl) dL_law_320 hcs) ?_
  intro y τ2 H2 locs2 hp2 hW2
  obtain ⟨rfl, k2, hM2⟩ := hp2
  refine lv_icmp_eq (tgt := 499) hx hb dL_law_323 (by decide) (fun _ => ?_) (fun h => absurd rfl h)
  exact next ε1 τ2 H2 locs2 (hI1.mv k2) hM2 hW2
theorem lc_step (hκ : κ < 5) (S : CallFix p m c code 4 s args (c0 :: ALL) RL) (hK : Kx G s) (hE : Ex A s) (hA : ∀ q, s.heap.size ≤ q → A q) (hX : va_X b L xs s s.heap) (hbl : b < s.heap.size) (hbA : ¬ A b) (hL : L ≤ 3585) (hi : i + 7 ≤ L) (hl : lv_has ls 4 [(3, .int (iN (i : Int))), (2, .ref (ad 17)), (1, .ref (ad 0)), (0, .ref b)]) (hcs : cells ≤ room_1.cells ∧ slots ≤ room_1.slots) (hI : CIv κ tl ε σ) (hM : MIv κ ε σ) (hW : Wd G (shW κ tl) ad σ A s.heap H locs)
    (next : ∀ (ε τ : Mem) (H : Heap) (locs : List Loc), CIv κ tl ε τ → MIv κ ε τ → Wd G (shW κ tl) ad τ A s.heap H locs → W p l e room_1 s m args below meth c H locs cells slots Q (F0 m 499 ls [])) : W p l e room_1 s m args below meth c H locs cells slots Q (F0 m 328 ls []) := by
  obtain ⟨hx, hb, hml, hown, hts⟩ := id S
  obtain ⟨R0, ε1, hC, hR⟩ := b_step (κ := κ) (ε := ε) hκ hI.2.1 (xv_rg xs (i + 1)) (xv_rg xs (i + 2)) (xv_rg xs (i + 3))
  refine lv_aload_n hx hb dL_law_328 rfl (lv_at hl 2 rfl) ?_
  refine k_arg (pc := 329) hx hb hX hbl hbA hL hi hl hW 1 (by decide) (by decide) dL_law_329 dL_law_330 dL_law_331 dL_law_332 dL_law_333 ?_
  refine k_arg (pc := 334) hx hb hX hbl hbA hL hi hl hW 2 (by decide) (by decide) dL_law_334 dL_law_335 dL_law_336 dL_law_337 dL_law_338 ?_
  refine k_arg (pc := 339) hx hb hX hbl hbA hL hi hl hW 3 (by decide) (by decide) dL_law_339 dL_law_340 dL_law_341 dL_law_342 dL_law_343 ?_
  refine fin_CMA (pp := fun u => PC κ tl ε1 σ R0 u.1 u.2) hA hW (run_VA (k := 0) (As := [.int (iN (xv xs (i + 1))), .int (iN (xv xs (i + 2))), .int (iN (xv xs (i + 3)))]) (rest := []) S hK hE hA hW (c_X9_step l G κ hκ tl ad σ (xv xs (i + 1)) (xv xs (i + 2)) (xv xs (i + 3)) _ (hC tl σ hI) H.size) rfl rfl al_469 al_470 al_471 al_1 al_472 hd_X9_step rfl rfl ⟨Nat.le_of_ble_eq_true rfl, Nat.le_of_ble_eq_true rfl⟩ rfl hl.1 rfl (Nat.le_of_ble_eq_true rfl) dL_law_344 hcs) ?_
  intro x τ H1 locs1 hp hW1
  obtain ⟨rfl, k1, hI1⟩ := hp
  refine lv_aload_n hx hb dL_law_347 rfl (lv_at hl 1 rfl) ?_
  refine k_arg (pc := 348) hx hb hX hbl hbA hL hi hl hW1 1 (by decide) (by decide) dL_law_348 dL_law_349 dL_law_350 dL_law_351 dL_law_352 ?_
  refine k_arg (pc := 353) hx hb hX hbl hbA hL hi hl hW1 2 (by decide) (by decide) dL_law_353 dL_law_354 dL_law_355 dL_law_356 dL_law_357 ?_
  refine k_arg (pc := 358) hx hb hX hbl hbA hL hi hl hW1 3 (by decide) (by decide) dL_law_358 dL_law_359 dL_law_360 dL_law_361 dL_law_362 ?_
  refine fin_CMA (pp := fun u => PM κ ε1 τ x u.1 u.2) hA hW1 (run_VA (k := 17) (As := [.int (iN (xv xs (i + 1))), .int (iN (xv xs (i + 2))), .int (iN (xv xs (i + 3)))]) (rest := [.int (iN x)]) S hK hE hA hW1 (c_X10_step l G κ tl ad τ (xv xs (i + 1)) (xv xs (i + 2)) (xv xs (i + 3)) _ (hR τ (hM.mv k1)) H1.size) rfl rfl al_914 al_915 al_916 al_11 al_917 hd_X10_step rfl rfl ⟨Nat.le_of_ble_eq_true rfl, Nat.le_of_ble_eq_true rfl⟩ rfl hl.1 rfl (Nat.le_of_ble_eq_true rfl) dL_law_363 hcs) ?_
  intro y τ2 H2 locs2 hp2 hW2
  obtain ⟨rfl, k2, hM2⟩ := hp2
  refine lv_icmp_eq (tgt := 499) hx hb dL_law_366 (by decide) (fun _ => ?_) (fun h => absurd rfl h)
  exact next ε1 τ2 H2 locs2 (hI1.mv k2) hM2 hW2
theorem lc_price (hκ : κ < 5) (S : CallFix p m c code 4 s args (c0 :: ALL) RL) (hK : Kx G s) (hE : Ex A s) (hA : ∀ q, s.heap.size ≤ q → A q) (hX : va_X b L xs s s.heap) (hbl : b < s.heap.size) (hbA : ¬ A b) (hL : L ≤ 3585) (hi : i + 7 ≤ L) (hl : lv_has ls 4 [(3, .int (iN (i : Int))), (2, .ref (ad 17)), (1, .ref (ad 0)), (0, .ref b)]) (hcs : cells ≤ room_1.cells ∧ slots ≤ room_1.slots) (hI : CIv κ tl ε σ) (hM : MIv κ ε σ) (hW : Wd G (shW κ tl) ad σ A s.heap H locs)
    (next : ∀ (ε τ : Mem) (H : Heap) (locs : List Loc), CIv κ tl ε τ → MIv κ ε τ → Wd G (shW κ tl) ad τ A s.heap H locs → W p l e room_1 s m args below meth c H locs cells slots Q (F0 m 499 ls [])) : W p l e room_1 s m args below meth c H locs cells slots Q (F0 m 371 ls []) := by
  obtain ⟨hx, hb, hml, hown, hts⟩ := id S
  obtain ⟨R0, ε1, hC, hR⟩ := b_price (κ := κ) (ε := ε) hκ hI.2.1 
  refine lv_aload_n hx hb dL_law_371 rfl (lv_at hl 2 rfl) ?_
  refine fin_CMA (pp := fun u => PC κ tl ε1 σ R0 u.1 u.2) hA hW (run_VA (k := 0) (As := []) (rest := []) S hK hE hA hW (c_X9_price l G κ hκ tl ad σ  _ (hC tl σ hI) H.size) rfl rfl al_557 al_558 al_559 al_1 al_560 hd_X9_price rfl rfl ⟨Nat.le_of_ble_eq_true rfl, Nat.le_of_ble_eq_true rfl⟩ rfl hl.1 rfl (Nat.le_of_ble_eq_true rfl) dL_law_372 hcs) ?_
  intro x τ H1 locs1 hp hW1
  obtain ⟨rfl, k1, hI1⟩ := hp
  refine lv_aload_n hx hb dL_law_375 rfl (lv_at hl 1 rfl) ?_
  refine fin_CMA (pp := fun u => PM κ ε1 τ x u.1 u.2) hA hW1 (run_VA (k := 17) (As := []) (rest := [.int (iN x)]) S hK hE hA hW1 (c_X10_price l G κ tl ad τ  _ (hR τ (hM.mv k1)) H1.size) rfl rfl al_942 al_943 al_944 al_11 al_945 hd_X10_price rfl rfl ⟨Nat.le_of_ble_eq_true rfl, Nat.le_of_ble_eq_true rfl⟩ rfl hl.1 rfl (Nat.le_of_ble_eq_true rfl) dL_law_376 hcs) ?_
  intro y τ2 H2 locs2 hp2 hW2
  obtain ⟨rfl, k2, hM2⟩ := hp2
  refine lv_icmp_eq (tgt := 499) hx hb dL_law_379 (by decide) (fun _ => ?_) (fun h => absurd rfl h)
  exact next ε1 τ2 H2 locs2 (hI1.mv k2) hM2 hW2
theorem lc_way (hκ : κ < 5) (S : CallFix p m c code 4 s args (c0 :: ALL) RL) (hK : Kx G s) (hE : Ex A s) (hA : ∀ q, s.heap.size ≤ q → A q) (hX : va_X b L xs s s.heap) (hbl : b < s.heap.size) (hbA : ¬ A b) (hL : L ≤ 3585) (hi : i + 7 ≤ L) (hl : lv_has ls 4 [(3, .int (iN (i : Int))), (2, .ref (ad 17)), (1, .ref (ad 0)), (0, .ref b)]) (hcs : cells ≤ room_1.cells ∧ slots ≤ room_1.slots) (hI : CIv κ tl ε σ) (hM : MIv κ ε σ) (hW : Wd G (shW κ tl) ad σ A s.heap H locs)
    (next : ∀ (ε τ : Mem) (H : Heap) (locs : List Loc), CIv κ tl ε τ → MIv κ ε τ → Wd G (shW κ tl) ad τ A s.heap H locs → W p l e room_1 s m args below meth c H locs cells slots Q (F0 m 499 ls [])) : W p l e room_1 s m args below meth c H locs cells slots Q (F0 m 384 ls []) := by
  obtain ⟨hx, hb, hml, hown, hts⟩ := id S
  obtain ⟨R0, ε1, hC, hR⟩ := b_way (κ := κ) (ε := ε) hκ hI.2.1 (xv_rg xs (i + 1))
  refine lv_aload_n hx hb dL_law_384 rfl (lv_at hl 2 rfl) ?_
  refine k_arg (pc := 385) hx hb hX hbl hbA hL hi hl hW 1 (by decide) (by decide) dL_law_385 dL_law_386 dL_law_387 dL_law_388 dL_law_389 ?_
  refine fin_CMA (pp := fun u => PC κ tl ε1 σ R0 u.1 u.2) hA hW (run_VA (k := 0) (As := [.int (iN (xv xs (i + 1)))]) (rest := []) S hK hE hA hW (c_X9_way l G κ hκ tl ad σ (xv xs (i + 1)) _ (hC tl σ hI) H.size) rfl rfl al_627 al_628 al_629 al_1 al_630 hd_X9_way rfl rfl ⟨Nat.le_of_ble_eq_true rfl, Nat.le_of_ble_eq_true rfl⟩ rfl hl.1 rfl (Nat.le_of_ble_eq_true rfl) dL_law_390 hcs) ?_
  intro x τ H1 locs1 hp hW1
  obtain ⟨rfl, k1, hI1⟩ := hp
  refine lv_aload_n hx hb dL_law_393 rfl (lv_at hl 1 rfl) ?_
  refine k_arg (pc := 394) hx hb hX hbl hbA hL hi hl hW1 1 (by decide) (by decide) dL_law_394 dL_law_395 dL_law_396 dL_law_397 dL_law_398 ?_
  refine fin_CMA (pp := fun u => PM κ ε1 τ x u.1 u.2) hA hW1 (run_VA (k := 17) (As := [.int (iN (xv xs (i + 1)))]) (rest := [.int (iN x)]) S hK hE hA hW1 (c_X10_way l G κ tl ad τ (xv xs (i + 1)) _ (hR τ (hM.mv k1)) H1.size) rfl rfl al_963 al_964 al_965 al_11 al_966 hd_X10_way rfl rfl ⟨Nat.le_of_ble_eq_true rfl, Nat.le_of_ble_eq_true rfl⟩ rfl hl.1 rfl (Nat.le_of_ble_eq_true rfl) dL_law_399 hcs) ?_
  intro y τ2 H2 locs2 hp2 hW2
  obtain ⟨rfl, k2, hM2⟩ := hp2
  refine lv_icmp_eq (tgt := 499) hx hb dL_law_402 (by decide) (fun _ => ?_) (fun h => absurd rfl h)
  exact next ε1 τ2 H2 locs2 (hI1.mv k2) hM2 hW2
theorem lc_stuck (hκ : κ < 5) (S : CallFix p m c code 4 s args (c0 :: ALL) RL) (hK : Kx G s) (hE : Ex A s) (hA : ∀ q, s.heap.size ≤ q → A q) (hX : va_X b L xs s s.heap) (hbl : b < s.heap.size) (hbA : ¬ A b) (hL : L ≤ 3585) (hi : i + 7 ≤ L) (hl : lv_has ls 4 [(3, .int (iN (i : Int))), (2, .ref (ad 17)), (1, .ref (ad 0)), (0, .ref b)]) (hcs : cells ≤ room_1.cells ∧ slots ≤ room_1.slots) (hI : CIv κ tl ε σ) (hM : MIv κ ε σ) (hW : Wd G (shW κ tl) ad σ A s.heap H locs)
    (next : ∀ (ε τ : Mem) (H : Heap) (locs : List Loc), CIv κ tl ε τ → MIv κ ε τ → Wd G (shW κ tl) ad τ A s.heap H locs → W p l e room_1 s m args below meth c H locs cells slots Q (F0 m 499 ls [])) : W p l e room_1 s m args below meth c H locs cells slots Q (F0 m 407 ls []) := by
  obtain ⟨hx, hb, hml, hown, hts⟩ := id S
  obtain ⟨R0, ε1, hC, hR⟩ := b_stuck (κ := κ) (ε := ε) hκ hI.2.1 
  refine lv_aload_n hx hb dL_law_407 rfl (lv_at hl 2 rfl) ?_
  refine fin_CMA (pp := fun u => PC κ tl ε1 σ R0 u.1 u.2) hA hW (run_VA (k := 0) (As := []) (rest := []) S hK hE hA hW (c_X9_stuck l G κ hκ tl ad σ  _ (hC tl σ hI) H.size) rfl rfl al_632 al_633 al_634 al_1 al_635 hd_X9_stuck rfl rfl ⟨Nat.le_of_ble_eq_true rfl, Nat.le_of_ble_eq_true rfl⟩ rfl hl.1 rfl (Nat.le_of_ble_eq_true rfl) dL_law_408 hcs) ?_
  intro x τ H1 locs1 hp hW1
  obtain ⟨rfl, k1, hI1⟩ := hp
  refine lv_aload_n hx hb dL_law_411 rfl (lv_at hl 1 rfl) ?_
  refine fin_CMA (pp := fun u => PM κ ε1 τ x u.1 u.2) hA hW1 (run_VA (k := 17) (As := []) (rest := [.int (iN x)]) S hK hE hA hW1 (c_X10_stuck l G κ tl ad τ  _ (hR τ (hM.mv k1)) H1.size) rfl rfl al_972 al_973 al_974 al_11 al_975 hd_X10_stuck rfl rfl ⟨Nat.le_of_ble_eq_true rfl, Nat.le_of_ble_eq_true rfl⟩ rfl hl.1 rfl (Nat.le_of_ble_eq_true rfl) dL_law_412 hcs) ?_
  intro y τ2 H2 locs2 hp2 hW2
  obtain ⟨rfl, k2, hM2⟩ := hp2
  refine lv_icmp_eq (tgt := 499) hx hb dL_law_415 (by decide) (fun _ => ?_) (fun h => absurd rfl h)
  exact next ε1 τ2 H2 locs2 (hI1.mv k2) hM2 hW2
theorem lc_told (hκ : κ < 5) (S : CallFix p m c code 4 s args (c0 :: ALL) RL) (hK : Kx G s) (hE : Ex A s) (hA : ∀ q, s.heap.size ≤ q → A q) (hX : va_X b L xs s s.heap) (hbl : b < s.heap.size) (hbA : ¬ A b) (hL : L ≤ 3585) (hi : i + 7 ≤ L) (hl : lv_has ls 4 [(3, .int (iN (i : Int))), (2, .ref (ad 17)), (1, .ref (ad 0)), (0, .ref b)]) (hcs : cells ≤ room_1.cells ∧ slots ≤ room_1.slots) (hI : CIv κ tl ε σ) (hM : MIv κ ε σ) (hW : Wd G (shW κ tl) ad σ A s.heap H locs)
    (next : ∀ (ε τ : Mem) (H : Heap) (locs : List Loc), CIv κ tl ε τ → MIv κ ε τ → Wd G (shW κ tl) ad τ A s.heap H locs → W p l e room_1 s m args below meth c H locs cells slots Q (F0 m 499 ls [])) : W p l e room_1 s m args below meth c H locs cells slots Q (F0 m 443 ls []) := by
  obtain ⟨hx, hb, hml, hown, hts⟩ := id S
  obtain ⟨R0, hC, hR⟩ := b_told (κ := κ) (ε := ε) hκ hI.2.1 (xv_rg xs (i + 1))
  refine lv_aload_n hx hb dL_law_443 rfl (lv_at hl 2 rfl) ?_
  refine k_arg (pc := 444) hx hb hX hbl hbA hL hi hl hW 1 (by decide) (by decide) dL_law_444 dL_law_445 dL_law_446 dL_law_447 dL_law_448 ?_
  refine fin_CIA (post := fun x => x = R0) hA hW (run_VA (k := 0) (As := [.int (iN (xv xs (i + 1)))]) (rest := []) S hK hE hA hW (c_X9_told l G κ hκ tl ad σ (xv xs (i + 1)) _ (hC tl σ hI) H.size) rfl rfl al_734 al_735 al_736 al_1 al_737 hd_X9_told rfl rfl ⟨Nat.le_of_ble_eq_true rfl, Nat.le_of_ble_eq_true rfl⟩ rfl hl.1 rfl (Nat.le_of_ble_eq_true rfl) dL_law_449 hcs) ?_
  intro x H1 locs1 hp hW1
  subst hp
  refine lv_aload_n hx hb dL_law_452 rfl (lv_at hl 1 rfl) ?_
  refine k_arg (pc := 453) hx hb hX hbl hbA hL hi hl hW1 1 (by decide) (by decide) dL_law_453 dL_law_454 dL_law_455 dL_law_456 dL_law_457 ?_
  refine fin_CIA (post := fun y => y = x) hA hW1 (run_VA (k := 17) (As := [.int (iN (xv xs (i + 1)))]) (rest := [.int (iN x)]) S hK hE hA hW1 (c_X10_told l G κ tl ad σ (xv xs (i + 1)) _ (hR σ hM) H1.size) rfl rfl al_996 al_997 al_998 al_11 al_999 hd_X10_told rfl rfl ⟨Nat.le_of_ble_eq_true rfl, Nat.le_of_ble_eq_true rfl⟩ rfl hl.1 rfl (Nat.le_of_ble_eq_true rfl) dL_law_458 hcs) ?_
  intro y H2 locs2 hp2 hW2
  subst hp2
  refine lv_icmp_eq (tgt := 499) hx hb dL_law_461 (by decide) (fun _ => ?_) (fun h => absurd rfl h)
  exact next ε σ H2 locs2 hI hM hW2
theorem lc_about (hκ : κ < 5) (S : CallFix p m c code 4 s args (c0 :: ALL) RL) (hK : Kx G s) (hE : Ex A s) (hA : ∀ q, s.heap.size ≤ q → A q) (hX : va_X b L xs s s.heap) (hbl : b < s.heap.size) (hbA : ¬ A b) (hL : L ≤ 3585) (hi : i + 7 ≤ L) (hl : lv_has ls 4 [(3, .int (iN (i : Int))), (2, .ref (ad 17)), (1, .ref (ad 0)), (0, .ref b)]) (hcs : cells ≤ room_1.cells ∧ slots ≤ room_1.slots) (hI : CIv κ tl ε σ) (hM : MIv κ ε σ) (hW : Wd G (shW κ tl) ad σ A s.heap H locs)
    (next : ∀ (ε τ : Mem) (H : Heap) (locs : List Loc), CIv κ tl ε τ → MIv κ ε τ → Wd G (shW κ tl) ad τ A s.heap H locs → W p l e room_1 s m args below meth c H locs cells slots Q (F0 m 499 ls [])) : W p l e room_1 s m args below meth c H locs cells slots Q (F0 m 466 ls []) := by
  obtain ⟨hx, hb, hml, hown, hts⟩ := id S
  obtain ⟨R0, hC, hR⟩ := b_about (κ := κ) (ε := ε) hκ hI.2.1 (xv_rg xs (i + 1)) (xv_rg xs (i + 2))
  refine lv_aload_n hx hb dL_law_466 rfl (lv_at hl 2 rfl) ?_
  refine k_arg (pc := 467) hx hb hX hbl hbA hL hi hl hW 1 (by decide) (by decide) dL_law_467 dL_law_468 dL_law_469 dL_law_470 dL_law_471 ?_
  refine k_arg (pc := 472) hx hb hX hbl hbA hL hi hl hW 2 (by decide) (by decide) dL_law_472 dL_law_473 dL_law_474 dL_law_475 dL_law_476 ?_
  refine fin_CIA (post := fun x => x = R0) hA hW (run_VA (k := 0) (As := [.int (iN (xv xs (i + 1))), .int (iN (xv xs (i + 2)))]) (rest := []) S hK hE hA hW (c_X9_about l G κ hκ tl ad σ (xv xs (i + 1)) (xv xs (i + 2)) _ (hC tl σ hI) H.size) rfl rfl al_746 al_747 al_748 al_1 al_749 hd_X9_about rfl rfl ⟨Nat.le_of_ble_eq_true rfl, Nat.le_of_ble_eq_true rfl⟩ rfl hl.1 rfl (Nat.le_of_ble_eq_true rfl) dL_law_477 hcs) ?_
  intro x H1 locs1 hp hW1
  subst hp
  refine lv_aload_n hx hb dL_law_480 rfl (lv_at hl 1 rfl) ?_
  refine k_arg (pc := 481) hx hb hX hbl hbA hL hi hl hW1 1 (by decide) (by decide) dL_law_481 dL_law_482 dL_law_483 dL_law_484 dL_law_485 ?_
  refine k_arg (pc := 486) hx hb hX hbl hbA hL hi hl hW1 2 (by decide) (by decide) dL_law_486 dL_law_487 dL_law_488 dL_law_489 dL_law_490 ?_
  refine fin_CIA (post := fun y => y = x) hA hW1 (run_VA (k := 17) (As := [.int (iN (xv xs (i + 1))), .int (iN (xv xs (i + 2)))]) (rest := [.int (iN x)]) S hK hE hA hW1 (c_X10_about l G κ tl ad σ (xv xs (i + 1)) (xv xs (i + 2)) _ (hR σ hM) H1.size) rfl rfl al_1000 al_1001 al_1002 al_11 al_1003 hd_X10_about rfl rfl ⟨Nat.le_of_ble_eq_true rfl, Nat.le_of_ble_eq_true rfl⟩ rfl hl.1 rfl (Nat.le_of_ble_eq_true rfl) dL_law_491 hcs) ?_
  intro y H2 locs2 hp2 hW2
  subst hp2
  refine lv_icmp_eq (tgt := 499) hx hb dL_law_494 (by decide) (fun _ => ?_) (fun h => absurd rfl h)
  exact next ε σ H2 locs2 hI hM hW2
theorem hd_ways : yX9_ways.cls = RX9 ∧ yX9_ways.cls ≠ "java/lang/invoke/MethodHandle" ∧ yX9_ways.cls ≠ "java/lang/invoke/VarHandle" ∧ (parseMethodDescriptor yX9_ways.desc).map (fun d => d.parameters.length) = some 1 := by decide +kernel
def clT (tl : Bool) : Nat := match tl with | false => 35 | true => 41
def slT (tl : Bool) : Nat := match tl with | false => 100000 | true => 200000
theorem csT (tl : Bool) : clT tl ≤ room_1.cells ∧ slT tl ≤ room_1.slots := by cases tl <;> exact ⟨Nat.le_of_ble_eq_true rfl, Nat.le_of_ble_eq_true rfl⟩
theorem lc_ways (hκ : κ < 5) (S : CallFix p m c code 4 s args (c0 :: ALL) RL) (hK : Kx G s) (hE : Ex A s) (hA : ∀ q, s.heap.size ≤ q → A q) (hX : va_X b L xs s s.heap) (hbl : b < s.heap.size) (hbA : ¬ A b) (hL : L ≤ 3585) (hi : i + 7 ≤ L) (hl : lv_has ls 4 [(3, .int (iN (i : Int))), (2, .ref (ad 17)), (1, .ref (ad 0)), (0, .ref b)]) (hI : CIv κ tl ε σ) (hM : MIv κ ε σ) (hW : Wd G (shW κ tl) ad σ A s.heap H locs)
    (next : ∀ (tl : Bool) (ad : Nat → Nat) (ε τ : Mem) (H : Heap) (locs : List Loc), lv_has ls 4 [(3, .int (iN (i : Int))), (2, .ref (ad 17)), (1, .ref (ad 0)), (0, .ref b)] → CIv κ tl ε τ → MIv κ ε τ → Wd G (shW κ tl) ad τ A s.heap H locs → W p l e room_1 s m args below meth c H locs (clT tl) (slT tl) Q (F0 m 499 ls [])) : W p l e room_1 s m args below meth c H locs (clT tl) (slT tl) Q (F0 m 420 ls []) := by
  obtain ⟨hx, hb, hml, hown, hts⟩ := id S
  have hcs := csT tl
  have hr := xv_rg xs (i + 1)
  by_cases hv : 0 ≤ xv xs (i + 1) ∧ xv xs (i + 1) ≤ 300
  · cases tl with
    | true =>
      refine lv_aload_n hx hb dL_law_420 rfl (lv_at hl 2 rfl) ?_
      refine k_arg (pc := 421) hx hb hX hbl hbA hL hi hl hW 1 (by decide) (by decide) dL_law_421 dL_law_422 dL_law_423 dL_law_424 dL_law_425 ?_
      refine fin_CMA (pp := fun u => PC κ true ε σ (cp (waysN κ ε (xv xs (i + 1)).toNat)) u.1 u.2) hA hW (run_VA (k := 0) (As := [.int (iN (xv xs (i + 1)))]) (rest := []) S hK hE hA hW (c_X9_ways_t l G κ hκ ad σ (xv xs (i + 1)) hr hv.1 hv.2 _ (s_ways hκ hI hv.1 hv.2 (fun τ k1 h1 => ⟨rfl, k1, h1⟩)) H.size) rfl rfl al_636 al_637 al_638 al_1 al_639 hd_ways rfl rfl ⟨Nat.le_of_ble_eq_true rfl, Nat.le_of_ble_eq_true rfl⟩ rfl hl.1 rfl (Nat.le_of_ble_eq_true rfl) dL_law_426 hcs) ?_
      intro x τ H1 locs1 hp hW1
      obtain ⟨ex, k1, hI1⟩ := hp
      refine lv_aload_n hx hb dL_law_429 rfl (lv_at hl 1 rfl) ?_
      refine k_arg (pc := 430) hx hb hX hbl hbA hL hi hl hW1 1 (by decide) (by decide) dL_law_430 dL_law_431 dL_law_432 dL_law_433 dL_law_434 ?_
      refine fin_CMA (pp := fun u => PM κ ε τ x u.1 u.2) hA hW1 (run_VA (k := 17) (As := [.int (iN (xv xs (i + 1)))]) (rest := [.int (iN x)]) S hK hE hA hW1 (c_X10_ways l G κ true ad τ (xv xs (i + 1)) _ (s_mways hκ hI.2.1 (hM.mv k1) hr (fun z => absurd hv z) (fun _ _ τ2 k2 h2 => ⟨ex.symm, k2, h2⟩)) H1.size) rfl rfl al_976 al_977 al_978 al_11 al_979 hd_X10_ways rfl rfl ⟨Nat.le_of_ble_eq_true rfl, Nat.le_of_ble_eq_true rfl⟩ rfl hl.1 rfl (Nat.le_of_ble_eq_true rfl) dL_law_435 hcs) ?_
      intro y τ2 H2 locs2 hp2 hW2
      obtain ⟨rfl, k2, hM2⟩ := hp2
      refine lv_icmp_eq (tgt := 499) hx hb dL_law_438 (by decide) (fun _ => ?_) (fun h => absurd rfl h)
      exact next true ad ε τ2 H2 locs2 hl (hI1.mv k2) hM2 hW2
    | false =>
      have hW0 : Wd G (shW κ false) ad (zr σ) A s.heap H locs := hW.mem (fun c hc => zr_eq hc)
      have hI0 : CIv κ true ε (ty0 (zr σ)) := hI.cls (fun c hc => by rw [ty0_eq (by omega), zr_eq (by omega)]) (fun _ => ty0_ok κ ε _)
      have hM0 : MIv κ ε (ty0 (zr σ)) := hM.mv (fun c c1 c2 => by rw [ty0_eq (by omega), zr_eq (by omega)])
      refine lv_aload_n hx hb dL_law_420 rfl (lv_at hl 2 rfl) ?_
      refine k_arg (pc := 421) hx hb hX hbl hbA hL hi hl hW 1 (by decide) (by decide) dL_law_421 dL_law_422 dL_law_423 dL_law_424 dL_law_425 ?_
      have hwb : wd κ ≤ 80 := (wdle κ).2
      refine fin_CY (post := PC κ true ε (ty0 (zr σ)) (cp (waysN κ ε (xv xs (i + 1)).toNat))) hA hW0 (run_VA (k := 0) (As := [.int (iN (xv xs (i + 1)))]) (rest := []) S hK hE hA hW0 (c_X9_ways_n l G κ hκ ad (zr σ) (xv xs (i + 1)) hr hv.1 hv.2 (by rw [zr_eq (by decide)]; exact hI.2.2.2.1) (zr_hz σ) _ (s_ways hκ hI0 hv.1 hv.2 (fun τ k1 h1 => ⟨rfl, k1, h1⟩)) H.size) rfl rfl al_636 al_637 al_638 al_1 al_639 hd_ways rfl rfl ⟨Nat.le_of_ble_eq_true rfl, Nat.le_of_ble_eq_true rfl⟩ rfl hl.1 rfl (Nat.le_of_ble_eq_true rfl) dL_law_426 ⟨(show 35 + 6 ≤ 600000 by decide), (show 100000 + (909 + 602 * wd κ) ≤ 7302250 by omega)⟩) ?_
      intro x τ ad1 H1 locs1 hp ha hW1
      obtain ⟨ex, k1, hI1⟩ := hp
      have hl1 : lv_has ls 4 [(3, .int (iN (i : Int))), (2, .ref (ad1 17)), (1, .ref (ad1 0)), (0, .ref b)] := by rw [ha 17 (show 17 < 35 by decide), ha 0 (show 0 < 35 by decide)]; exact hl
      refine W.widen (k := clT true) (n := slT true) (Nat.le_refl 41) (show 100000 + (909 + 602 * wd κ) ≤ 200000 by omega) ?_
      have hcs1 := csT true
      clear hl
      have hl := hl1
      refine lv_aload_n hx hb dL_law_429 rfl (lv_at hl 1 rfl) ?_
      refine k_arg (pc := 430) hx hb hX hbl hbA hL hi hl hW1 1 (by decide) (by decide) dL_law_430 dL_law_431 dL_law_432 dL_law_433 dL_law_434 ?_
      refine fin_CMA (pp := fun u => PM κ ε τ x u.1 u.2) hA hW1 (run_VA (k := 17) (As := [.int (iN (xv xs (i + 1)))]) (rest := [.int (iN x)]) S hK hE hA hW1 (c_X10_ways l G κ true ad1 τ (xv xs (i + 1)) _ (s_mways hκ hI.2.1 (hM0.mv k1) hr (fun z => absurd hv z) (fun _ _ τ2 k2 h2 => ⟨ex.symm, k2, h2⟩)) H1.size) rfl rfl al_976 al_977 al_978 al_11 al_979 hd_X10_ways rfl rfl ⟨Nat.le_of_ble_eq_true rfl, Nat.le_of_ble_eq_true rfl⟩ rfl hl.1 rfl (Nat.le_of_ble_eq_true rfl) dL_law_435 hcs1) ?_
      intro y τ2 H2 locs2 hp2 hW2
      obtain ⟨rfl, k2, hM2⟩ := hp2
      refine lv_icmp_eq (tgt := 499) hx hb dL_law_438 (by decide) (fun _ => ?_) (fun h => absurd rfl h)
      exact next true ad1 ε τ2 H2 locs2 hl (hI1.mv k2) hM2 hW2
  · refine lv_aload_n hx hb dL_law_420 rfl (lv_at hl 2 rfl) ?_
    refine k_arg (pc := 421) hx hb hX hbl hbA hL hi hl hW 1 (by decide) (by decide) dL_law_421 dL_law_422 dL_law_423 dL_law_424 dL_law_425 ?_
    refine fin_CIA (post := fun x => x = -1) hA hW (run_VA (k := 0) (As := [.int (iN (xv xs (i + 1)))]) (rest := []) S hK hE hA hW (c_X9_ways_out l G κ tl ad σ (xv xs (i + 1)) hr (by omega) (fun x => x = -1) rfl H.size) rfl rfl al_636 al_637 al_638 al_1 al_639 hd_ways rfl rfl ⟨Nat.le_of_ble_eq_true rfl, Nat.le_of_ble_eq_true rfl⟩ rfl hl.1 rfl (Nat.le_of_ble_eq_true rfl) dL_law_426 hcs) ?_
    intro x H1 locs1 hp hW1
    refine lv_aload_n hx hb dL_law_429 rfl (lv_at hl 1 rfl) ?_
    refine k_arg (pc := 430) hx hb hX hbl hbA hL hi hl hW1 1 (by decide) (by decide) dL_law_430 dL_law_431 dL_law_432 dL_law_433 dL_law_434 ?_
    refine fin_CMA (pp := fun u => PM κ ε σ x u.1 u.2) hA hW1 (run_VA (k := 17) (As := [.int (iN (xv xs (i + 1)))]) (rest := [.int (iN x)]) S hK hE hA hW1 (c_X10_ways l G κ tl ad σ (xv xs (i + 1)) _ (s_mways hκ hI.2.1 hM hr (fun _ => ⟨hp.symm, KCrf, hM⟩) (fun z1 z2 => absurd ⟨z1, z2⟩ hv)) H1.size) rfl rfl al_976 al_977 al_978 al_11 al_979 hd_X10_ways rfl rfl ⟨Nat.le_of_ble_eq_true rfl, Nat.le_of_ble_eq_true rfl⟩ rfl hl.1 rfl (Nat.le_of_ble_eq_true rfl) dL_law_435 hcs) ?_
    intro y τ2 H2 locs2 hp2 hW2
    obtain ⟨rfl, k2, hM2⟩ := hp2
    refine lv_icmp_eq (tgt := 499) hx hb dL_law_438 (by decide) (fun _ => ?_) (fun h => absurd rfl h)
    exact next tl ad ε τ2 H2 locs2 hl (hI.mv k2) hM2 hW2
theorem law_loop (hκ : κ < 5) (S : CallFix p m c code 4 s args (c0 :: ALL) RL) (hK : Kx G s) (hE : Ex A s) (hA : ∀ q, s.heap.size ≤ q → A q) (hX : va_X b L xs s s.heap) (hbl : b < s.heap.size) (hbA : ¬ A b) (hL : L ≤ 3585)
    (fin : ∀ (H : Heap) (locs : List Loc) (ls : Array Slot) (cells slots : Nat), cells ≤ 600000 → slots ≤ 7302250 → va_S A s.heap H locs → W p l e room_1 s m args below meth c H locs cells slots Q (F0 m 506 ls [.int (iN 1)])) :
    ∀ (n i : Nat), L ≤ i + n → ∀ (tl : Bool) (ad : Nat → Nat) (ε σ : Mem) (H : Heap) (locs : List Loc) (ls : Array Slot), lv_has ls 4 [(3, .int (iN (i : Int))), (2, .ref (ad 17)), (1, .ref (ad 0)), (0, .ref b)] → i ≤ L + 7 → CIv κ tl ε σ → MIv κ ε σ → Wd G (shW κ tl) ad σ A s.heap H locs → W p l e room_1 s m args below meth c H locs (clT tl) (slT tl) Q (F0 m 28 ls []) := by
  obtain ⟨hx, hb, hml, hown, hts⟩ := id S
  intro n
  induction n with
  | zero =>
    intro i hn tl ad ε σ H locs ls hl hi7 hI hM hW
    refine lv_iload_n hx hb dL_law_28 rfl (lv_at hl 0 rfl) ?_
    refine lv_aload_n hx hb dL_law_29 rfl (lv_at hl 3 rfl) ?_
    refine k_slen hx hb hX hbl hbA hW dL_law_30 ?_
    refine n_bipush hx hb dL_law_31 (by decide) ?_
    refine n_isub hx hb dL_law_33 ?_
    refine n_icmp_gt hx hb (by simp only [rg]; omega) (by simp only [rg]; omega) (X := True) (Y := False) (fun _ => trivial) (fun h => by omega) (tgt := 505) dL_law_34 (by decide) (fun _ => ?_) (fun h => h.elim)
    refine n_iconst hx hb dL_law_505 ?_
    exact fin H locs ls _ _ (csT tl).1 (csT tl).2 hW.2.2
  | succ n ih =>
    intro i hn tl ad ε σ H locs ls hl hi7 hI hM hW
    refine lv_iload_n hx hb dL_law_28 rfl (lv_at hl 0 rfl) ?_
    refine lv_aload_n hx hb dL_law_29 rfl (lv_at hl 3 rfl) ?_
    refine k_slen hx hb hX hbl hbA hW dL_law_30 ?_
    refine n_bipush hx hb dL_law_31 (by decide) ?_
    refine n_isub hx hb dL_law_33 ?_
    refine n_icmp_gt hx hb (by simp only [rg]; omega) (by simp only [rg]; omega) (X := True) (Y := i + 7 ≤ L) (fun _ => trivial) (fun h => by omega) (tgt := 505) dL_law_34 (by decide) (fun _ => ?_) (fun hi => ?_)
    · refine n_iconst hx hb dL_law_505 ?_
      exact fin H locs ls _ _ (csT tl).1 (csT tl).2 hW.2.2
    have next : ∀ (tl : Bool) (ad : Nat → Nat) (ε τ : Mem) (H : Heap) (locs : List Loc), lv_has ls 4 [(3, .int (iN (i : Int))), (2, .ref (ad 17)), (1, .ref (ad 0)), (0, .ref b)] → CIv κ tl ε τ → MIv κ ε τ → Wd G (shW κ tl) ad τ A s.heap H locs → W p l e room_1 s m args below meth c H locs (clT tl) (slT tl) Q (F0 m 499 ls []) := by
      intro tl ad ε τ H locs hl hI hM hW
      refine lv_iinc (v := iN ((i + 7 : Nat) : Int)) (lv' := [(3, .int (iN ((i + 7 : Nat) : Int))), (2, .ref (ad 17)), (1, .ref (ad 0)), (0, .ref b)]) hx hb dL_law_499 hl (k := 0) rfl (by rw [show Int32.ofInt 7 = iN 7 from rfl, iN_add]; congr 1) (by decide) rfl (fun ls hl => ?_)
      refine lv_goto (tgt := 28) hx hb dL_law_502 (by decide) ?_
      exact ih (i + 7) (by omega) tl ad ε τ H locs ls hl (by omega) hI hM hW
    refine lv_aload_n hx hb dL_law_37 rfl (lv_at hl 3 rfl) ?_
    refine lv_iload_n hx hb dL_law_38 rfl (lv_at hl 0 rfl) ?_
    refine k_sld hx hb hX hbl hbA hW i rfl (by omega) hL dL_law_39 ?_
    refine n_bipush hx hb dL_law_40 (by decide) ?_
    refine n_iand hx hb dL_law_42 ?_
    have h15 := and15 (xv xs i)
    generalize andI (xv xs i) 15 = v at h15 ⊢
    rcases (show v = 0 ∨ v = 1 ∨ v = 2 ∨ v = 3 ∨ v = 4 ∨ v = 5 ∨ v = 6 ∨ v = 7 ∨ v = 8 ∨ v = 9 ∨ v = 10 ∨ v = 11 ∨ v = 12 ∨ v = 13 ∨ v = 14 ∨ v = 15 by omega) with rfl | rfl | rfl | rfl | rfl | rfl | rfl | rfl | rfl | rfl | rfl | rfl | rfl | rfl | rfl | rfl
    · refine n_tableIn (v := 0) (tgt := 108) hx hb (rg_c _ rfl) rfl dL_law_43 (by decide) (by decide) rfl (by decide) ?_
      exact lc_event hκ S hK hE hA hX hbl hbA hL hi hl (csT tl) hI hM hW (fun ε τ H locs hI hM hW => next tl ad ε τ H locs hl hI hM hW)
    · refine n_tableIn (v := 1) (tgt := 183) hx hb (rg_c _ rfl) rfl dL_law_43 (by decide) (by decide) rfl (by decide) ?_
      exact lc_drop hκ S hK hE hA hX hbl hbA hL hi hl (csT tl) hI hM hW (fun ε τ H locs hI hM hW => next tl ad ε τ H locs hl hI hM hW)
    · refine n_tableIn (v := 2) (tgt := 196) hx hb (rg_c _ rfl) rfl dL_law_43 (by decide) (by decide) rfl (by decide) ?_
      exact lc_bound hκ S hK hE hA hX hbl hbA hL hi hl (csT tl) hI hM hW (fun ε τ H locs hI hM hW => next tl ad ε τ H locs hl hI hM hW)
    · refine n_tableIn (v := 3) (tgt := 229) hx hb (rg_c _ rfl) rfl dL_law_43 (by decide) (by decide) rfl (by decide) ?_
      exact lc_pin hκ S hK hE hA hX hbl hbA hL hi hl (csT tl) hI hM hW (fun ε τ H locs hI hM hW => next tl ad ε τ H locs hl hI hM hW)
    · refine n_tableIn (v := 4) (tgt := 262) hx hb (rg_c _ rfl) rfl dL_law_43 (by decide) (by decide) rfl (by decide) ?_
      exact lc_states hκ S hK hE hA hX hbl hbA hL hi hl (csT tl) hI hM hW (fun ε τ H locs hI hM hW => next tl ad ε τ H locs hl hI hM hW)
    · refine n_tableIn (v := 5) (tgt := 285) hx hb (rg_c _ rfl) rfl dL_law_43 (by decide) (by decide) rfl (by decide) ?_
      exact lc_state hκ S hK hE hA hX hbl hbA hL hi hl (csT tl) hI hM hW (fun ε τ H locs hI hM hW => next tl ad ε τ H locs hl hI hM hW)
    · refine n_tableIn (v := 6) (tgt := 328) hx hb (rg_c _ rfl) rfl dL_law_43 (by decide) (by decide) rfl (by decide) ?_
      exact lc_step hκ S hK hE hA hX hbl hbA hL hi hl (csT tl) hI hM hW (fun ε τ H locs hI hM hW => next tl ad ε τ H locs hl hI hM hW)
    · refine n_tableIn (v := 7) (tgt := 371) hx hb (rg_c _ rfl) rfl dL_law_43 (by decide) (by decide) rfl (by decide) ?_
      exact lc_price hκ S hK hE hA hX hbl hbA hL hi hl (csT tl) hI hM hW (fun ε τ H locs hI hM hW => next tl ad ε τ H locs hl hI hM hW)
    · refine n_tableIn (v := 8) (tgt := 384) hx hb (rg_c _ rfl) rfl dL_law_43 (by decide) (by decide) rfl (by decide) ?_
      exact lc_way hκ S hK hE hA hX hbl hbA hL hi hl (csT tl) hI hM hW (fun ε τ H locs hI hM hW => next tl ad ε τ H locs hl hI hM hW)
    · refine n_tableIn (v := 9) (tgt := 407) hx hb (rg_c _ rfl) rfl dL_law_43 (by decide) (by decide) rfl (by decide) ?_
      exact lc_stuck hκ S hK hE hA hX hbl hbA hL hi hl (csT tl) hI hM hW (fun ε τ H locs hI hM hW => next tl ad ε τ H locs hl hI hM hW)
    · refine n_tableIn (v := 10) (tgt := 420) hx hb (rg_c _ rfl) rfl dL_law_43 (by decide) (by decide) rfl (by decide) ?_
      exact lc_ways hκ S hK hE hA hX hbl hbA hL hi hl hI hM hW next
    · refine n_tableIn (v := 11) (tgt := 443) hx hb (rg_c _ rfl) rfl dL_law_43 (by decide) (by decide) rfl (by decide) ?_
      exact lc_told hκ S hK hE hA hX hbl hbA hL hi hl (csT tl) hI hM hW (fun ε τ H locs hI hM hW => next tl ad ε τ H locs hl hI hM hW)
    · refine n_tableIn (v := 12) (tgt := 466) hx hb (rg_c _ rfl) rfl dL_law_43 (by decide) (by decide) rfl (by decide) ?_
      exact lc_about hκ S hK hE hA hX hbl hbA hL hi hl (csT tl) hI hM hW (fun ε τ H locs hI hM hW => next tl ad ε τ H locs hl hI hM hW)
    · refine n_tableOut (tgt := 499) hx hb (rg_c _ rfl) (Or.inr (by decide)) dL_law_43 (by decide) ?_
      exact next tl ad ε σ H locs hl hI hM hW
    · refine n_tableOut (tgt := 499) hx hb (rg_c _ rfl) (Or.inr (by decide)) dL_law_43 (by decide) ?_
      exact next tl ad ε σ H locs hl hI hM hW
    · refine n_tableOut (tgt := 499) hx hb (rg_c _ rfl) (Or.inr (by decide)) dL_law_43 (by decide) ?_
      exact next tl ad ε σ H locs hl hI hM hW
end LAWC
