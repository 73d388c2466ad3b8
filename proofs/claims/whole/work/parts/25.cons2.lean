theorem wl_to2 (G : Gt) (ad : Nat → Nat) (σ : Mem) {sh : List Shp} {k ci j q : Nat} {fs : List Fld} (hk : sh[k]? = some (.inr (ci, fs))) (hf : fs[j]? = some (q + 3)) : wl G ad (up2 σ k j (q : Int)) 0 (sh.set k (.inr (ci, fs.set j 2))) = wl G ad σ 0 sh := by
  apply List.ext_getElem?
  intro i
  rw [wl_get, wl_get, List.getElem?_set]
  have hl : k < sh.length := (List.getElem?_eq_some_iff.mp hk).1
  by_cases hi : k = i
  · subst hi
    rw [if_pos rfl, if_pos hl, hk, Option.map_some, Option.map_some]
    simp only [Nat.zero_add, ce]
    congr 4
    apply List.ext_getElem?
    intro b
    rw [fv_get, fv_get, List.getElem?_set]
    have hjl : j < fs.length := (List.getElem?_eq_some_iff.mp hf).1
    by_cases hb : j = b
    · subst hb
      rw [if_pos rfl, if_pos hjl, hf, Option.map_some, Option.map_some]
      simp only [Nat.zero_add, fv1, up2, if_true, Int.toNat_natCast]
      simp
    · rw [if_neg hb]
      congr 1
      funext f
      simp only [Nat.zero_add, fv1, up2, if_true]
      rw [if_neg (show ¬ b = j from fun e => hb e.symm)]
  · rw [if_neg hi]
    congr 1
    funext c
    simp only [Nat.zero_add]
    rw [ce_ne G ad (τ := up2 σ k j (q : Int)) (σ := σ) (by funext b; exact if_neg (fun e => hi e.symm))]
theorem Wd.to2 {G : Gt} {ad : Nat → Nat} {σ : Mem} {sh : List Shp} {A : Nat → Prop} {H0 H : Heap} {locs : List Loc} {ci j q : Nat} {fs : List Fld} (hW : Wd G sh ad σ A H0 H locs) (k : Nat) (hk : sh[k]? = some (.inr (ci, fs))) (hf : fs[j]? = some (q + 3)) : Wd G (sh.set k (.inr (ci, fs.set j 2))) ad (up2 σ k j (q : Int)) A H0 H locs := by
  unfold Wd
  rw [wl_to2 G ad σ hk hf]
  exact hW
theorem x10_clamp {p : Program} {l : Launch} {e : Env} {R : Room} {s : State} {m : MethodId} {args : Array Value} {below : List Frame} {meth : Method} {c : Code} {H : Heap} {locs : List Loc} {cells slots : Nat} {Q : State → Prop} {ls : Array Slot} {rest : List Value} {x0 : Value} {v1 : Int} {κ : Nat} (hx : p.tables.exec = Jvm.exec) (hb : c.code = cX10_init) (hl : lv_has ls 3 [(0, x0), (1, .int (iN v1))]) (hr1 : rg v1) (hv1 : max 0 (min 4 v1) = (κ : Int))
    (k : W p l e R s m args below meth c H locs cells slots Q (F0 m 166 ls (.int (iN (κ : Int)) :: rest))) : W p l e R s m args below meth c H locs cells slots Q (F0 m 148 ls rest) := by
  refine lv_iload_n hx hb dX10_init_148 rfl (lv_at hl 1 rfl) ?_
  refine n_if_ge hx hb hr1 (X := 0 ≤ v1) (Y := v1 < 0) id id (tgt := 156) dX10_init_149 (by decide) (fun h => ?_) (fun h => ?_)
  · refine lv_iload_n hx hb dX10_init_156 rfl (lv_at hl 1 rfl) ?_
    refine n_iconst hx hb dX10_init_157 ?_
    refine n_icmp_le hx hb hr1 (rg_c _ rfl) (X := v1 ≤ 4) (Y := 4 < v1) id id (tgt := 165) dX10_init_158 (by decide) (fun h2 => ?_) (fun h2 => ?_)
    · refine lv_iload_n hx hb dX10_init_165 rfl (lv_at hl 1 rfl) ?_
      rw [show v1 = (κ : Int) by omega]
      exact k
    · refine n_iconst hx hb dX10_init_161 ?_
      refine lv_goto (tgt := 166) hx hb dX10_init_162 (by decide) ?_
      rw [show (4 : Int) = (κ : Int) by omega]
      exact k
  · refine n_iconst hx hb dX10_init_152 ?_
    refine lv_goto (tgt := 166) hx hb dX10_init_153 (by decide) ?_
    rw [show (0 : Int) = (κ : Int) by omega]
    exact k
theorem c_X10_init (l : Launch) (G : Gt) (κ : Nat) (hκ : κ < 5) (ad : Nat → Nat) (σ : Mem) (a17 : Nat) (h17 : ad 17 = a17) (v1 : Int) (hr1 : rg v1) (hv1 : max 0 (min 4 v1) = (κ : Int)) (hzz : hz 18 σ) : CN l yX10_init (Cond.code yX10_init cX10_init 3 none) ({ frames := 1, cells := 17, slots := 65172, locals := 24 } : Room) G ([.inr (8, [0, 4, 17, 1]), .inr (ciK κ, [5, 0, 13, 14, 15, 16, 0]), .inr (1, [6, 7, 8, 9, 10, 11, 12, 0]), .inl (0, 10), .inl (0, 40), .inl (0, 40), .inl (0, 40), .inl (0, 40), .inl (0, 40), .inl (0, 120), .inl (0, 40), .inl (0, 40 * wd κ), .inl (0, 40 * wd κ), .inl (0, 40 * wd κ), .inr (2, [0, 19, 18, 0, 0, 0]), .inl (0, 40), .inl (0, 40 * wd κ), .inr (9, [0, 0, 1, 1, 1, 1, 1, 1, 1, 0, 1, 1, 1, 1, 1, 1, 1, 1, 1, 1])] : List Shp) ([.inr (8, [0, 4, 17, 1]), .inr (ciK κ, [5, 0, 13, 14, 15, 16, 0]), .inr (1, [6, 7, 8, 9, 10, 11, 12, 0]), .inl (0, 10), .inl (0, 40), .inl (0, 40), .inl (0, 40), .inl (0, 40), .inl (0, 40), .inl (0, 120), .inl (0, 40), .inl (0, 40 * wd κ), .inl (0, 40 * wd κ), .inl (0, 40 * wd κ), .inr (2, [0, 19, 18, 0, 0, 0]), .inl (0, 40), .inl (0, 40 * wd κ), .inr (9, [0, 0, 21, 22, 23, 24, 25, 26, 27, 0, 28, 29, 30, 31, 32, 33, 34, 35, 36, 37]), .inl (0, 40), .inl (0, 40), .inl (0, 40), .inl (0, 40), .inl (0, 120), .inl (0, 40), .inl (0, 10), .inl (0, 40), .inl (0, 3200), .inl (0, 3200), .inl (0, 3200), .inl (0, 3200), .inl (0, 40), .inl (1, 3200), .inl (0, 48160), .inl (0, 301), .inl (0, 301)] : List Shp) ad σ (up2 (up2 (up2 (up2 (up2 (up2 (up2 (up2 (up2 (up2 (σ) 17 0 (κ : Int)) 24 0 10) 24 1 400) 24 2 30) 24 4 127) 24 5 34) 24 6 55) 24 7 62) 24 8 69) 24 9 76) [.ref a17, .int (iN v1)] 17 (65172) := by
  have hwd : 1 ≤ wd κ ∧ wd κ ≤ 80 := wdle κ
  refine s_allN (G := G) (sh := [.inr (8, [0, 4, 17, 1]), .inr (ciK κ, [5, 0, 13, 14, 15, 16, 0]), .inr (1, [6, 7, 8, 9, 10, 11, 12, 0]), .inl (0, 10), .inl (0, 40), .inl (0, 40), .inl (0, 40), .inl (0, 40), .inl (0, 40), .inl (0, 120), .inl (0, 40), .inl (0, 40 * wd κ), .inl (0, 40 * wd κ), .inl (0, 40 * wd κ), .inr (2, [0, 19, 18, 0, 0, 0]), .inl (0, 40), .inl (0, 40 * wd κ), .inr (9, [0, 0, 1, 1, 1, 1, 1, 1, 1, 0, 1, 1, 1, 1, 1, 1, 1, 1, 1, 1])]) (ad := ad) (σ := σ) (y := yX10_init) (code := cX10_init) (maxL := 3) (ret := none) (rm := ({ frames := 1, cells := 17, slots := 65172, locals := 24 } : Room)) (av := [.ref a17, .int (iN v1)]) (mc := 17) (ms := 65172) (Qc := fun sz => QN G 18 ([.inr (8, [0, 4, 17, 1]), .inr (ciK κ, [5, 0, 13, 14, 15, 16, 0]), .inr (1, [6, 7, 8, 9, 10, 11, 12, 0]), .inl (0, 10), .inl (0, 40), .inl (0, 40), .inl (0, 40), .inl (0, 40), .inl (0, 40), .inl (0, 120), .inl (0, 40), .inl (0, 40 * wd κ), .inl (0, 40 * wd κ), .inl (0, 40 * wd κ), .inr (2, [0, 19, 18, 0, 0, 0]), .inl (0, 40), .inl (0, 40 * wd κ), .inr (9, [0, 0, 21, 22, 23, 24, 25, 26, 27, 0, 28, 29, 30, 31, 32, 33, 34, 35, 36, 37]), .inl (0, 40), .inl (0, 40), .inl (0, 40), .inl (0, 40), .inl (0, 120), .inl (0, 40), .inl (0, 10), .inl (0, 40), .inl (0, 3200), .inl (0, 3200), .inl (0, 3200), .inl (0, 3200), .inl (0, 40), .inl (1, 3200), .inl (0, 48160), .inl (0, 301), .inl (0, 301)] : List Shp) ad (up2 (up2 (up2 (up2 (up2 (up2 (up2 (up2 (up2 (up2 (σ) 17 0 (κ : Int)) 24 0 10) 24 1 400) 24 2 30) 24 4 127) 24 5 34) 24 6 55) 24 7 62) 24 8 69) 24 9 76) (Aw ad 18 sz)) (by decide) (Nat.le_of_ble_eq_true rfl) ?_
  intro p e s m below meth c S hr hlk hin hK hE hW ls hl
  replace hin := hin rfl
  obtain ⟨hx, hb, hml, hown, hts⟩ := id S
  replace hl : lv_has ls 3 [(0, .ref a17), (1, .int (iN v1))] := hl
  have hA : ∀ q : Nat, s.heap.size ≤ q → Aw ad 18 s.heap.size q := Aw_new
  have had : ∀ i, i < 18 → ad i = ad i := fun _ _ => rfl
  change Ex (Aw ad 18 s.heap.size) s at hE
  change Wd G ([.inr (8, [0, 4, 17, 1]), .inr (ciK κ, [5, 0, 13, 14, 15, 16, 0]), .inr (1, [6, 7, 8, 9, 10, 11, 12, 0]), .inl (0, 10), .inl (0, 40), .inl (0, 40), .inl (0, 40), .inl (0, 40), .inl (0, 40), .inl (0, 120), .inl (0, 40), .inl (0, 40 * wd κ), .inl (0, 40 * wd κ), .inl (0, 40 * wd κ), .inr (2, [0, 19, 18, 0, 0, 0]), .inl (0, 40), .inl (0, 40 * wd κ), .inr (9, [0, 0, 1, 1, 1, 1, 1, 1, 1, 0, 1, 1, 1, 1, 1, 1, 1, 1, 1, 1])] : List Shp) ad σ (Aw ad 18 s.heap.size) s.heap s.heap [] at hW
  change W p l e _ s m _ below meth c s.heap [] 0 0 (MQ below (QN G 18 ([.inr (8, [0, 4, 17, 1]), .inr (ciK κ, [5, 0, 13, 14, 15, 16, 0]), .inr (1, [6, 7, 8, 9, 10, 11, 12, 0]), .inl (0, 10), .inl (0, 40), .inl (0, 40), .inl (0, 40), .inl (0, 40), .inl (0, 40), .inl (0, 120), .inl (0, 40), .inl (0, 40 * wd κ), .inl (0, 40 * wd κ), .inl (0, 40 * wd κ), .inr (2, [0, 19, 18, 0, 0, 0]), .inl (0, 40), .inl (0, 40 * wd κ), .inr (9, [0, 0, 21, 22, 23, 24, 25, 26, 27, 0, 28, 29, 30, 31, 32, 33, 34, 35, 36, 37]), .inl (0, 40), .inl (0, 40), .inl (0, 40), .inl (0, 40), .inl (0, 120), .inl (0, 40), .inl (0, 10), .inl (0, 40), .inl (0, 3200), .inl (0, 3200), .inl (0, 3200), .inl (0, 3200), .inl (0, 40), .inl (1, 3200), .inl (0, 48160), .inl (0, 301), .inl (0, 301)] : List Shp) ad (up2 (up2 (up2 (up2 (up2 (up2 (up2 (up2 (up2 (up2 (σ) 17 0 (κ : Int)) 24 0 10) 24 1 400) 24 2 30) 24 4 127) 24 5 34) 24 6 55) 24 7 62) 24 8 69) 24 9 76) (Aw ad 18 s.heap.size)) _ s 17 (65172) (Aw ad 18 s.heap.size)) _
  generalize Aw ad 18 s.heap.size = A at *
  refine lv_aload_n hx hb dX10_init_0 rfl (lv_at hl 0 rfl) ?_
  refine W.objInit hx hb hown (hts _ (List.mem_cons_of_mem _ al_761)) (hts _ (List.mem_cons_of_mem _ al_21)) (hts _ (List.mem_cons_of_mem _ al_22)) rfl (by rw [hml]; exact hl.1) rfl dX10_init_1 (Nat.le_of_ble_eq_true rfl) (Nat.le_of_ble_eq_true rfl) ?_
  refine lv_aload_n hx hb dX10_init_4 rfl (lv_at hl 0 rfl) ?_
  refine n_bipush hx hb dX10_init_5 (by decide) ?_
  refine k_newa (n := 18) (t := 0) (x := 40) (ty := .int) hx hb hts hK hW hA rfl hzz rfl (by decide) rfl al_76 (40) rfl (rg_c _ rfl) (by decide) (by show 0 + 1 ≤ 17; omega) (by show 0 + 40 ≤ 65172; omega) dX10_init_7 (fun ad1 a18 H ha h18 hW => ?_)
  replace h17 := (ha 17 (by decide)).trans h17
  replace had := fun i (hi : i < 18) => (ha i (by omega)).trans (had i hi)
  clear ha
  replace hW : Wd G ([.inr (8, [0, 4, 17, 1]), .inr (ciK κ, [5, 0, 13, 14, 15, 16, 0]), .inr (1, [6, 7, 8, 9, 10, 11, 12, 0]), .inl (0, 10), .inl (0, 40), .inl (0, 40), .inl (0, 40), .inl (0, 40), .inl (0, 40), .inl (0, 120), .inl (0, 40), .inl (0, 40 * wd κ), .inl (0, 40 * wd κ), .inl (0, 40 * wd κ), .inr (2, [0, 19, 18, 0, 0, 0]), .inl (0, 40), .inl (0, 40 * wd κ), .inr (9, [0, 0, 1, 1, 1, 1, 1, 1, 1, 0, 1, 1, 1, 1, 1, 1, 1, 1, 1, 1]), .inl (0, 40)] : List Shp) ad1 (σ) A s.heap H [] := hW
  replace hzz := hzz.mono (m := 19) (by decide)
  refine k_putr hx hb hts hown hK hW 17 h17 18 h18 rfl rfl uw_X10 tyX10 tyX10_ok nmX10 2 (by decide) (by decide) al_765 (fun _ h9 => h9) (Or.inr ⟨rfl, hin, rfl⟩) rfl rfl dX10_init_9 (fun H locs hW => ?_)
  replace hW : Wd G ([.inr (8, [0, 4, 17, 1]), .inr (ciK κ, [5, 0, 13, 14, 15, 16, 0]), .inr (1, [6, 7, 8, 9, 10, 11, 12, 0]), .inl (0, 10), .inl (0, 40), .inl (0, 40), .inl (0, 40), .inl (0, 40), .inl (0, 40), .inl (0, 120), .inl (0, 40), .inl (0, 40 * wd κ), .inl (0, 40 * wd κ), .inl (0, 40 * wd κ), .inr (2, [0, 19, 18, 0, 0, 0]), .inl (0, 40), .inl (0, 40 * wd κ), .inr (9, [0, 0, 21, 1, 1, 1, 1, 1, 1, 0, 1, 1, 1, 1, 1, 1, 1, 1, 1, 1]), .inl (0, 40)] : List Shp) ad1 (σ) A s.heap H locs := hW
  refine lv_aload_n hx hb dX10_init_12 rfl (lv_at hl 0 rfl) ?_
  refine n_bipush hx hb dX10_init_13 (by decide) ?_
  refine k_newa (n := 19) (t := 0) (x := 40) (ty := .int) hx hb hts hK hW hA rfl hzz rfl (by decide) rfl al_76 (40) rfl (rg_c _ rfl) (by decide) (by show 0 + 1 + 1 ≤ 17; omega) (by show 0 + 40 + 40 ≤ 65172; omega) dX10_init_15 (fun ad2 a19 H ha h19 hW => ?_)
  replace h17 := (ha 17 (by decide)).trans h17
  replace h18 := (ha 18 (by decide)).trans h18
  replace had := fun i (hi : i < 18) => (ha i (by omega)).trans (had i hi)
  clear ha
  replace hW : Wd G ([.inr (8, [0, 4, 17, 1]), .inr (ciK κ, [5, 0, 13, 14, 15, 16, 0]), .inr (1, [6, 7, 8, 9, 10, 11, 12, 0]), .inl (0, 10), .inl (0, 40), .inl (0, 40), .inl (0, 40), .inl (0, 40), .inl (0, 40), .inl (0, 120), .inl (0, 40), .inl (0, 40 * wd κ), .inl (0, 40 * wd κ), .inl (0, 40 * wd κ), .inr (2, [0, 19, 18, 0, 0, 0]), .inl (0, 40), .inl (0, 40 * wd κ), .inr (9, [0, 0, 21, 1, 1, 1, 1, 1, 1, 0, 1, 1, 1, 1, 1, 1, 1, 1, 1, 1]), .inl (0, 40), .inl (0, 40)] : List Shp) ad2 (σ) A s.heap H locs := hW
  replace hzz := hzz.mono (m := 20) (by decide)
  refine k_putr hx hb hts hown hK hW 17 h17 19 h19 rfl rfl uw_X10 tyX10 tyX10_ok nmX10 3 (by decide) (by decide) al_766 (fun _ h9 => h9) (Or.inr ⟨rfl, hin, rfl⟩) rfl rfl dX10_init_17 (fun H locs hW => ?_)
  replace hW : Wd G ([.inr (8, [0, 4, 17, 1]), .inr (ciK κ, [5, 0, 13, 14, 15, 16, 0]), .inr (1, [6, 7, 8, 9, 10, 11, 12, 0]), .inl (0, 10), .inl (0, 40), .inl (0, 40), .inl (0, 40), .inl (0, 40), .inl (0, 40), .inl (0, 120), .inl (0, 40), .inl (0, 40 * wd κ), .inl (0, 40 * wd κ), .inl (0, 40 * wd κ), .inr (2, [0, 19, 18, 0, 0, 0]), .inl (0, 40), .inl (0, 40 * wd κ), .inr (9, [0, 0, 21, 22, 1, 1, 1, 1, 1, 0, 1, 1, 1, 1, 1, 1, 1, 1, 1, 1]), .inl (0, 40), .inl (0, 40)] : List Shp) ad2 (σ) A s.heap H locs := hW
  refine lv_aload_n hx hb dX10_init_20 rfl (lv_at hl 0 rfl) ?_
  refine n_bipush hx hb dX10_init_21 (by decide) ?_
  refine k_newa (n := 20) (t := 0) (x := 40) (ty := .int) hx hb hts hK hW hA rfl hzz rfl (by decide) rfl al_76 (40) rfl (rg_c _ rfl) (by decide) (by show 0 + 1 + 1 + 1 ≤ 17; omega) (by show 0 + 40 + 40 + 40 ≤ 65172; omega) dX10_init_23 (fun ad3 a20 H ha h20 hW => ?_)
  replace h17 := (ha 17 (by decide)).trans h17
  replace h18 := (ha 18 (by decide)).trans h18
  replace h19 := (ha 19 (by decide)).trans h19
  replace had := fun i (hi : i < 18) => (ha i (by omega)).trans (had i hi)
  clear ha
  replace hW : Wd G ([.inr (8, [0, 4, 17, 1]), .inr (ciK κ, [5, 0, 13, 14, 15, 16, 0]), .inr (1, [6, 7, 8, 9, 10, 11, 12, 0]), .inl (0, 10), .inl (0, 40), .inl (0, 40), .inl (0, 40), .inl (0, 40), .inl (0, 40), .inl (0, 120), .inl (0, 40), .inl (0, 40 * wd κ), .inl (0, 40 * wd κ), .inl (0, 40 * wd κ), .inr (2, [0, 19, 18, 0, 0, 0]), .inl (0, 40), .inl (0, 40 * wd κ), .inr (9, [0, 0, 21, 22, 1, 1, 1, 1, 1, 0, 1, 1, 1, 1, 1, 1, 1, 1, 1, 1]), .inl (0, 40), .inl (0, 40), .inl (0, 40)] : List Shp) ad3 (σ) A s.heap H locs := hW
  replace hzz := hzz.mono (m := 21) (by decide)
  refine k_putr hx hb hts hown hK hW 17 h17 20 h20 rfl rfl uw_X10 tyX10 tyX10_ok nmX10 4 (by decide) (by decide) al_767 (fun _ h9 => h9) (Or.inr ⟨rfl, hin, rfl⟩) rfl rfl dX10_init_25 (fun H locs hW => ?_)
  replace hW : Wd G ([.inr (8, [0, 4, 17, 1]), .inr (ciK κ, [5, 0, 13, 14, 15, 16, 0]), .inr (1, [6, 7, 8, 9, 10, 11, 12, 0]), .inl (0, 10), .inl (0, 40), .inl (0, 40), .inl (0, 40), .inl (0, 40), .inl (0, 40), .inl (0, 120), .inl (0, 40), .inl (0, 40 * wd κ), .inl (0, 40 * wd κ), .inl (0, 40 * wd κ), .inr (2, [0, 19, 18, 0, 0, 0]), .inl (0, 40), .inl (0, 40 * wd κ), .inr (9, [0, 0, 21, 22, 23, 1, 1, 1, 1, 0, 1, 1, 1, 1, 1, 1, 1, 1, 1, 1]), .inl (0, 40), .inl (0, 40), .inl (0, 40)] : List Shp) ad3 (σ) A s.heap H locs := hW
  refine lv_aload_n hx hb dX10_init_28 rfl (lv_at hl 0 rfl) ?_
  refine n_bipush hx hb dX10_init_29 (by decide) ?_
  refine k_newa (n := 21) (t := 0) (x := 40) (ty := .int) hx hb hts hK hW hA rfl hzz rfl (by decide) rfl al_76 (40) rfl (rg_c _ rfl) (by decide) (by show 0 + 1 + 1 + 1 + 1 ≤ 17; omega) (by show 0 + 40 + 40 + 40 + 40 ≤ 65172; omega) dX10_init_31 (fun ad4 a21 H ha h21 hW => ?_)
  replace h17 := (ha 17 (by decide)).trans h17
  replace h18 := (ha 18 (by decide)).trans h18
  replace h19 := (ha 19 (by decide)).trans h19
  replace h20 := (ha 20 (by decide)).trans h20
  replace had := fun i (hi : i < 18) => (ha i (by omega)).trans (had i hi)
  clear ha
  replace hW : Wd G ([.inr (8, [0, 4, 17, 1]), .inr (ciK κ, [5, 0, 13, 14, 15, 16, 0]), .inr (1, [6, 7, 8, 9, 10, 11, 12, 0]), .inl (0, 10), .inl (0, 40), .inl (0, 40), .inl (0, 40), .inl (0, 40), .inl (0, 40), .inl (0, 120), .inl (0, 40), .inl (0, 40 * wd κ), .inl (0, 40 * wd κ), .inl (0, 40 * wd κ), .inr (2, [0, 19, 18, 0, 0, 0]), .inl (0, 40), .inl (0, 40 * wd κ), .inr (9, [0, 0, 21, 22, 23, 1, 1, 1, 1, 0, 1, 1, 1, 1, 1, 1, 1, 1, 1, 1]), .inl (0, 40), .inl (0, 40), .inl (0, 40), .inl (0, 40)] : List Shp) ad4 (σ) A s.heap H locs := hW
  replace hzz := hzz.mono (m := 22) (by decide)
  refine k_putr hx hb hts hown hK hW 17 h17 21 h21 rfl rfl uw_X10 tyX10 tyX10_ok nmX10 5 (by decide) (by decide) al_768 (fun _ h9 => h9) (Or.inr ⟨rfl, hin, rfl⟩) rfl rfl dX10_init_33 (fun H locs hW => ?_)
  replace hW : Wd G ([.inr (8, [0, 4, 17, 1]), .inr (ciK κ, [5, 0, 13, 14, 15, 16, 0]), .inr (1, [6, 7, 8, 9, 10, 11, 12, 0]), .inl (0, 10), .inl (0, 40), .inl (0, 40), .inl (0, 40), .inl (0, 40), .inl (0, 40), .inl (0, 120), .inl (0, 40), .inl (0, 40 * wd κ), .inl (0, 40 * wd κ), .inl (0, 40 * wd κ), .inr (2, [0, 19, 18, 0, 0, 0]), .inl (0, 40), .inl (0, 40 * wd κ), .inr (9, [0, 0, 21, 22, 23, 24, 1, 1, 1, 0, 1, 1, 1, 1, 1, 1, 1, 1, 1, 1]), .inl (0, 40), .inl (0, 40), .inl (0, 40), .inl (0, 40)] : List Shp) ad4 (σ) A s.heap H locs := hW
  refine lv_aload_n hx hb dX10_init_36 rfl (lv_at hl 0 rfl) ?_
  refine n_bipush hx hb dX10_init_37 (by decide) ?_
  refine k_newa (n := 22) (t := 0) (x := 120) (ty := .int) hx hb hts hK hW hA rfl hzz rfl (by decide) rfl al_76 (120) rfl (rg_c _ rfl) (by decide) (by show 0 + 1 + 1 + 1 + 1 + 1 ≤ 17; omega) (by show 0 + 40 + 40 + 40 + 40 + 120 ≤ 65172; omega) dX10_init_39 (fun ad5 a22 H ha h22 hW => ?_)
  replace h17 := (ha 17 (by decide)).trans h17
  replace h18 := (ha 18 (by decide)).trans h18
  replace h19 := (ha 19 (by decide)).trans h19
  replace h20 := (ha 20 (by decide)).trans h20
  replace h21 := (ha 21 (by decide)).trans h21
  replace had := fun i (hi : i < 18) => (ha i (by omega)).trans (had i hi)
  clear ha
  replace hW : Wd G ([.inr (8, [0, 4, 17, 1]), .inr (ciK κ, [5, 0, 13, 14, 15, 16, 0]), .inr (1, [6, 7, 8, 9, 10, 11, 12, 0]), .inl (0, 10), .inl (0, 40), .inl (0, 40), .inl (0, 40), .inl (0, 40), .inl (0, 40), .inl (0, 120), .inl (0, 40), .inl (0, 40 * wd κ), .inl (0, 40 * wd κ), .inl (0, 40 * wd κ), .inr (2, [0, 19, 18, 0, 0, 0]), .inl (0, 40), .inl (0, 40 * wd κ), .inr (9, [0, 0, 21, 22, 23, 24, 1, 1, 1, 0, 1, 1, 1, 1, 1, 1, 1, 1, 1, 1]), .inl (0, 40), .inl (0, 40), .inl (0, 40), .inl (0, 40), .inl (0, 120)] : List Shp) ad5 (σ) A s.heap H locs := hW
  replace hzz := hzz.mono (m := 23) (by decide)
  refine k_putr hx hb hts hown hK hW 17 h17 22 h22 rfl rfl uw_X10 tyX10 tyX10_ok nmX10 6 (by decide) (by decide) al_769 (fun _ h9 => h9) (Or.inr ⟨rfl, hin, rfl⟩) rfl rfl dX10_init_41 (fun H locs hW => ?_)
  replace hW : Wd G ([.inr (8, [0, 4, 17, 1]), .inr (ciK κ, [5, 0, 13, 14, 15, 16, 0]), .inr (1, [6, 7, 8, 9, 10, 11, 12, 0]), .inl (0, 10), .inl (0, 40), .inl (0, 40), .inl (0, 40), .inl (0, 40), .inl (0, 40), .inl (0, 120), .inl (0, 40), .inl (0, 40 * wd κ), .inl (0, 40 * wd κ), .inl (0, 40 * wd κ), .inr (2, [0, 19, 18, 0, 0, 0]), .inl (0, 40), .inl (0, 40 * wd κ), .inr (9, [0, 0, 21, 22, 23, 24, 25, 1, 1, 0, 1, 1, 1, 1, 1, 1, 1, 1, 1, 1]), .inl (0, 40), .inl (0, 40), .inl (0, 40), .inl (0, 40), .inl (0, 120)] : List Shp) ad5 (σ) A s.heap H locs := hW
  refine lv_aload_n hx hb dX10_init_44 rfl (lv_at hl 0 rfl) ?_
  refine n_bipush hx hb dX10_init_45 (by decide) ?_
  refine k_newa (n := 23) (t := 0) (x := 40) (ty := .int) hx hb hts hK hW hA rfl hzz rfl (by decide) rfl al_76 (40) rfl (rg_c _ rfl) (by decide) (by show 0 + 1 + 1 + 1 + 1 + 1 + 1 ≤ 17; omega) (by show 0 + 40 + 40 + 40 + 40 + 120 + 40 ≤ 65172; omega) dX10_init_47 (fun ad6 a23 H ha h23 hW => ?_)
  replace h17 := (ha 17 (by decide)).trans h17
  replace h18 := (ha 18 (by decide)).trans h18
  replace h19 := (ha 19 (by decide)).trans h19
  replace h20 := (ha 20 (by decide)).trans h20
  replace h21 := (ha 21 (by decide)).trans h21
  replace h22 := (ha 22 (by decide)).trans h22
  replace had := fun i (hi : i < 18) => (ha i (by omega)).trans (had i hi)
  clear ha
  replace hW : Wd G ([.inr (8, [0, 4, 17, 1]), .inr (ciK κ, [5, 0, 13, 14, 15, 16, 0]), .inr (1, [6, 7, 8, 9, 10, 11, 12, 0]), .inl (0, 10), .inl (0, 40), .inl (0, 40), .inl (0, 40), .inl (0, 40), .inl (0, 40), .inl (0, 120), .inl (0, 40), .inl (0, 40 * wd κ), .inl (0, 40 * wd κ), .inl (0, 40 * wd κ), .inr (2, [0, 19, 18, 0, 0, 0]), .inl (0, 40), .inl (0, 40 * wd κ), .inr (9, [0, 0, 21, 22, 23, 24, 25, 1, 1, 0, 1, 1, 1, 1, 1, 1, 1, 1, 1, 1]), .inl (0, 40), .inl (0, 40), .inl (0, 40), .inl (0, 40), .inl (0, 120), .inl (0, 40)] : List Shp) ad6 (σ) A s.heap H locs := hW
  replace hzz := hzz.mono (m := 24) (by decide)
  refine k_putr hx hb hts hown hK hW 17 h17 23 h23 rfl rfl uw_X10 tyX10 tyX10_ok nmX10 7 (by decide) (by decide) al_770 (fun _ h9 => h9) (Or.inr ⟨rfl, hin, rfl⟩) rfl rfl dX10_init_49 (fun H locs hW => ?_)
  replace hW : Wd G ([.inr (8, [0, 4, 17, 1]), .inr (ciK κ, [5, 0, 13, 14, 15, 16, 0]), .inr (1, [6, 7, 8, 9, 10, 11, 12, 0]), .inl (0, 10), .inl (0, 40), .inl (0, 40), .inl (0, 40), .inl (0, 40), .inl (0, 40), .inl (0, 120), .inl (0, 40), .inl (0, 40 * wd κ), .inl (0, 40 * wd κ), .inl (0, 40 * wd κ), .inr (2, [0, 19, 18, 0, 0, 0]), .inl (0, 40), .inl (0, 40 * wd κ), .inr (9, [0, 0, 21, 22, 23, 24, 25, 26, 1, 0, 1, 1, 1, 1, 1, 1, 1, 1, 1, 1]), .inl (0, 40), .inl (0, 40), .inl (0, 40), .inl (0, 40), .inl (0, 120), .inl (0, 40)] : List Shp) ad6 (σ) A s.heap H locs := hW
  refine lv_aload_n hx hb dX10_init_52 rfl (lv_at hl 0 rfl) ?_
  refine n_bipush hx hb dX10_init_53 (by decide) ?_
  refine k_newa (n := 24) (t := 0) (x := 10) (ty := .int) hx hb hts hK hW hA rfl hzz rfl (by decide) rfl al_76 (10) rfl (rg_c _ rfl) (by decide) (by show 0 + 1 + 1 + 1 + 1 + 1 + 1 + 1 ≤ 17; omega) (by show 0 + 40 + 40 + 40 + 40 + 120 + 40 + 10 ≤ 65172; omega) dX10_init_55 (fun ad7 a24 H ha h24 hW => ?_)
  replace h17 := (ha 17 (by decide)).trans h17
  replace h18 := (ha 18 (by decide)).trans h18
  replace h19 := (ha 19 (by decide)).trans h19
  replace h20 := (ha 20 (by decide)).trans h20
  replace h21 := (ha 21 (by decide)).trans h21
  replace h22 := (ha 22 (by decide)).trans h22
  replace h23 := (ha 23 (by decide)).trans h23
  replace had := fun i (hi : i < 18) => (ha i (by omega)).trans (had i hi)
  clear ha
  replace hW : Wd G ([.inr (8, [0, 4, 17, 1]), .inr (ciK κ, [5, 0, 13, 14, 15, 16, 0]), .inr (1, [6, 7, 8, 9, 10, 11, 12, 0]), .inl (0, 10), .inl (0, 40), .inl (0, 40), .inl (0, 40), .inl (0, 40), .inl (0, 40), .inl (0, 120), .inl (0, 40), .inl (0, 40 * wd κ), .inl (0, 40 * wd κ), .inl (0, 40 * wd κ), .inr (2, [0, 19, 18, 0, 0, 0]), .inl (0, 40), .inl (0, 40 * wd κ), .inr (9, [0, 0, 21, 22, 23, 24, 25, 26, 1, 0, 1, 1, 1, 1, 1, 1, 1, 1, 1, 1]), .inl (0, 40), .inl (0, 40), .inl (0, 40), .inl (0, 40), .inl (0, 120), .inl (0, 40), .inl (0, 10)] : List Shp) ad7 (σ) A s.heap H locs := hW
  replace hzz := hzz.mono (m := 25) (by decide)
  refine k_putr hx hb hts hown hK hW 17 h17 24 h24 rfl rfl uw_X10 tyX10 tyX10_ok nmX10 8 (by decide) (by decide) al_771 (fun _ h9 => h9) (Or.inr ⟨rfl, hin, rfl⟩) rfl rfl dX10_init_57 (fun H locs hW => ?_)
  replace hW : Wd G ([.inr (8, [0, 4, 17, 1]), .inr (ciK κ, [5, 0, 13, 14, 15, 16, 0]), .inr (1, [6, 7, 8, 9, 10, 11, 12, 0]), .inl (0, 10), .inl (0, 40), .inl (0, 40), .inl (0, 40), .inl (0, 40), .inl (0, 40), .inl (0, 120), .inl (0, 40), .inl (0, 40 * wd κ), .inl (0, 40 * wd κ), .inl (0, 40 * wd κ), .inr (2, [0, 19, 18, 0, 0, 0]), .inl (0, 40), .inl (0, 40 * wd κ), .inr (9, [0, 0, 21, 22, 23, 24, 25, 26, 27, 0, 1, 1, 1, 1, 1, 1, 1, 1, 1, 1]), .inl (0, 40), .inl (0, 40), .inl (0, 40), .inl (0, 40), .inl (0, 120), .inl (0, 40), .inl (0, 10)] : List Shp) ad7 (σ) A s.heap H locs := hW
  refine lv_aload_n hx hb dX10_init_60 rfl (lv_at hl 0 rfl) ?_
  refine n_bipush hx hb dX10_init_61 (by decide) ?_
  refine k_newa (n := 25) (t := 0) (x := 40) (ty := .int) hx hb hts hK hW hA rfl hzz rfl (by decide) rfl al_76 (40) rfl (rg_c _ rfl) (by decide) (by show 0 + 1 + 1 + 1 + 1 + 1 + 1 + 1 + 1 ≤ 17; omega) (by show 0 + 40 + 40 + 40 + 40 + 120 + 40 + 10 + 40 ≤ 65172; omega) dX10_init_63 (fun ad8 a25 H ha h25 hW => ?_)
  replace h17 := (ha 17 (by decide)).trans h17
  replace h18 := (ha 18 (by decide)).trans h18
  replace h19 := (ha 19 (by decide)).trans h19
  replace h20 := (ha 20 (by decide)).trans h20
  replace h21 := (ha 21 (by decide)).trans h21
  replace h22 := (ha 22 (by decide)).trans h22
  replace h23 := (ha 23 (by decide)).trans h23
  replace h24 := (ha 24 (by decide)).trans h24
  replace had := fun i (hi : i < 18) => (ha i (by omega)).trans (had i hi)
  clear ha
  replace hW : Wd G ([.inr (8, [0, 4, 17, 1]), .inr (ciK κ, [5, 0, 13, 14, 15, 16, 0]), .inr (1, [6, 7, 8, 9, 10, 11, 12, 0]), .inl (0, 10), .inl (0, 40), .inl (0, 40), .inl (0, 40), .inl (0, 40), .inl (0, 40), .inl (0, 120), .inl (0, 40), .inl (0, 40 * wd κ), .inl (0, 40 * wd κ), .inl (0, 40 * wd κ), .inr (2, [0, 19, 18, 0, 0, 0]), .inl (0, 40), .inl (0, 40 * wd κ), .inr (9, [0, 0, 21, 22, 23, 24, 25, 26, 27, 0, 1, 1, 1, 1, 1, 1, 1, 1, 1, 1]), .inl (0, 40), .inl (0, 40), .inl (0, 40), .inl (0, 40), .inl (0, 120), .inl (0, 40), .inl (0, 10), .inl (0, 40)] : List Shp) ad8 (σ) A s.heap H locs := hW
  replace hzz := hzz.mono (m := 26) (by decide)
  refine k_putr hx hb hts hown hK hW 17 h17 25 h25 rfl rfl uw_X10 tyX10 tyX10_ok nmX10 10 (by decide) (by decide) al_773 (fun _ h9 => h9) (Or.inr ⟨rfl, hin, rfl⟩) rfl rfl dX10_init_65 (fun H locs hW => ?_)
  replace hW : Wd G ([.inr (8, [0, 4, 17, 1]), .inr (ciK κ, [5, 0, 13, 14, 15, 16, 0]), .inr (1, [6, 7, 8, 9, 10, 11, 12, 0]), .inl (0, 10), .inl (0, 40), .inl (0, 40), .inl (0, 40), .inl (0, 40), .inl (0, 40), .inl (0, 120), .inl (0, 40), .inl (0, 40 * wd κ), .inl (0, 40 * wd κ), .inl (0, 40 * wd κ), .inr (2, [0, 19, 18, 0, 0, 0]), .inl (0, 40), .inl (0, 40 * wd κ), .inr (9, [0, 0, 21, 22, 23, 24, 25, 26, 27, 0, 28, 1, 1, 1, 1, 1, 1, 1, 1, 1]), .inl (0, 40), .inl (0, 40), .inl (0, 40), .inl (0, 40), .inl (0, 120), .inl (0, 40), .inl (0, 10), .inl (0, 40)] : List Shp) ad8 (σ) A s.heap H locs := hW
  refine lv_aload_n hx hb dX10_init_68 rfl (lv_at hl 0 rfl) ?_
  refine n_sipush hx hb dX10_init_69 (by decide) ?_
  refine k_newa (n := 26) (t := 0) (x := 3200) (ty := .int) hx hb hts hK hW hA rfl hzz rfl (by decide) rfl al_76 (3200) rfl (rg_c _ rfl) (by decide) (by show 0 + 1 + 1 + 1 + 1 + 1 + 1 + 1 + 1 + 1 ≤ 17; omega) (by show 0 + 40 + 40 + 40 + 40 + 120 + 40 + 10 + 40 + 3200 ≤ 65172; omega) dX10_init_72 (fun ad9 a26 H ha h26 hW => ?_)
  replace h17 := (ha 17 (by decide)).trans h17
  replace h18 := (ha 18 (by decide)).trans h18
  replace h19 := (ha 19 (by decide)).trans h19
  replace h20 := (ha 20 (by decide)).trans h20
  replace h21 := (ha 21 (by decide)).trans h21
  replace h22 := (ha 22 (by decide)).trans h22
  replace h23 := (ha 23 (by decide)).trans h23
  replace h24 := (ha 24 (by decide)).trans h24
  replace h25 := (ha 25 (by decide)).trans h25
  replace had := fun i (hi : i < 18) => (ha i (by omega)).trans (had i hi)
  clear ha
  replace hW : Wd G ([.inr (8, [0, 4, 17, 1]), .inr (ciK κ, [5, 0, 13, 14, 15, 16, 0]), .inr (1, [6, 7, 8, 9, 10, 11, 12, 0]), .inl (0, 10), .inl (0, 40), .inl (0, 40), .inl (0, 40), .inl (0, 40), .inl (0, 40), .inl (0, 120), .inl (0, 40), .inl (0, 40 * wd κ), .inl (0, 40 * wd κ), .inl (0, 40 * wd κ), .inr (2, [0, 19, 18, 0, 0, 0]), .inl (0, 40), .inl (0, 40 * wd κ), .inr (9, [0, 0, 21, 22, 23, 24, 25, 26, 27, 0, 28, 1, 1, 1, 1, 1, 1, 1, 1, 1]), .inl (0, 40), .inl (0, 40), .inl (0, 40), .inl (0, 40), .inl (0, 120), .inl (0, 40), .inl (0, 10), .inl (0, 40), .inl (0, 3200)] : List Shp) ad9 (σ) A s.heap H locs := hW
  replace hzz := hzz.mono (m := 27) (by decide)
  refine k_putr hx hb hts hown hK hW 17 h17 26 h26 rfl rfl uw_X10 tyX10 tyX10_ok nmX10 11 (by decide) (by decide) al_774 (fun _ h9 => h9) (Or.inr ⟨rfl, hin, rfl⟩) rfl rfl dX10_init_74 (fun H locs hW => ?_)
  replace hW : Wd G ([.inr (8, [0, 4, 17, 1]), .inr (ciK κ, [5, 0, 13, 14, 15, 16, 0]), .inr (1, [6, 7, 8, 9, 10, 11, 12, 0]), .inl (0, 10), .inl (0, 40), .inl (0, 40), .inl (0, 40), .inl (0, 40), .inl (0, 40), .inl (0, 120), .inl (0, 40), .inl (0, 40 * wd κ), .inl (0, 40 * wd κ), .inl (0, 40 * wd κ), .inr (2, [0, 19, 18, 0, 0, 0]), .inl (0, 40), .inl (0, 40 * wd κ), .inr (9, [0, 0, 21, 22, 23, 24, 25, 26, 27, 0, 28, 29, 1, 1, 1, 1, 1, 1, 1, 1]), .inl (0, 40), .inl (0, 40), .inl (0, 40), .inl (0, 40), .inl (0, 120), .inl (0, 40), .inl (0, 10), .inl (0, 40), .inl (0, 3200)] : List Shp) ad9 (σ) A s.heap H locs := hW
  refine lv_aload_n hx hb dX10_init_77 rfl (lv_at hl 0 rfl) ?_
  refine n_sipush hx hb dX10_init_78 (by decide) ?_
  refine k_newa (n := 27) (t := 0) (x := 3200) (ty := .int) hx hb hts hK hW hA rfl hzz rfl (by decide) rfl al_76 (3200) rfl (rg_c _ rfl) (by decide) (by show 0 + 1 + 1 + 1 + 1 + 1 + 1 + 1 + 1 + 1 + 1 ≤ 17; omega) (by show 0 + 40 + 40 + 40 + 40 + 120 + 40 + 10 + 40 + 3200 + 3200 ≤ 65172; omega) dX10_init_81 (fun ad10 a27 H ha h27 hW => ?_)
  replace h17 := (ha 17 (by decide)).trans h17
  replace h18 := (ha 18 (by decide)).trans h18
  replace h19 := (ha 19 (by decide)).trans h19
  replace h20 := (ha 20 (by decide)).trans h20
  replace h21 := (ha 21 (by decide)).trans h21
  replace h22 := (ha 22 (by decide)).trans h22
  replace h23 := (ha 23 (by decide)).trans h23
  replace h24 := (ha 24 (by decide)).trans h24
  replace h25 := (ha 25 (by decide)).trans h25
  replace h26 := (ha 26 (by decide)).trans h26
  replace had := fun i (hi : i < 18) => (ha i (by omega)).trans (had i hi)
  clear ha
  replace hW : Wd G ([.inr (8, [0, 4, 17, 1]), .inr (ciK κ, [5, 0, 13, 14, 15, 16, 0]), .inr (1, [6, 7, 8, 9, 10, 11, 12, 0]), .inl (0, 10), .inl (0, 40), .inl (0, 40), .inl (0, 40), .inl (0, 40), .inl (0, 40), .inl (0, 120), .inl (0, 40), .inl (0, 40 * wd κ), .inl (0, 40 * wd κ), .inl (0, 40 * wd κ), .inr (2, [0, 19, 18, 0, 0, 0]), .inl (0, 40), .inl (0, 40 * wd κ), .inr (9, [0, 0, 21, 22, 23, 24, 25, 26, 27, 0, 28, 29, 1, 1, 1, 1, 1, 1, 1, 1]), .inl (0, 40), .inl (0, 40), .inl (0, 40), .inl (0, 40), .inl (0, 120), .inl (0, 40), .inl (0, 10), .inl (0, 40), .inl (0, 3200), .inl (0, 3200)] : List Shp) ad10 (σ) A s.heap H locs := hW
  replace hzz := hzz.mono (m := 28) (by decide)
  refine k_putr hx hb hts hown hK hW 17 h17 27 h27 rfl rfl uw_X10 tyX10 tyX10_ok nmX10 12 (by decide) (by decide) al_775 (fun _ h9 => h9) (Or.inr ⟨rfl, hin, rfl⟩) rfl rfl dX10_init_83 (fun H locs hW => ?_)
  replace hW : Wd G ([.inr (8, [0, 4, 17, 1]), .inr (ciK κ, [5, 0, 13, 14, 15, 16, 0]), .inr (1, [6, 7, 8, 9, 10, 11, 12, 0]), .inl (0, 10), .inl (0, 40), .inl (0, 40), .inl (0, 40), .inl (0, 40), .inl (0, 40), .inl (0, 120), .inl (0, 40), .inl (0, 40 * wd κ), .inl (0, 40 * wd κ), .inl (0, 40 * wd κ), .inr (2, [0, 19, 18, 0, 0, 0]), .inl (0, 40), .inl (0, 40 * wd κ), .inr (9, [0, 0, 21, 22, 23, 24, 25, 26, 27, 0, 28, 29, 30, 1, 1, 1, 1, 1, 1, 1]), .inl (0, 40), .inl (0, 40), .inl (0, 40), .inl (0, 40), .inl (0, 120), .inl (0, 40), .inl (0, 10), .inl (0, 40), .inl (0, 3200), .inl (0, 3200)] : List Shp) ad10 (σ) A s.heap H locs := hW
  refine lv_aload_n hx hb dX10_init_86 rfl (lv_at hl 0 rfl) ?_
  refine n_sipush hx hb dX10_init_87 (by decide) ?_
  refine k_newa (n := 28) (t := 0) (x := 3200) (ty := .int) hx hb hts hK hW hA rfl hzz rfl (by decide) rfl al_76 (3200) rfl (rg_c _ rfl) (by decide) (by show 0 + 1 + 1 + 1 + 1 + 1 + 1 + 1 + 1 + 1 + 1 + 1 ≤ 17; omega) (by show 0 + 40 + 40 + 40 + 40 + 120 + 40 + 10 + 40 + 3200 + 3200 + 3200 ≤ 65172; omega) dX10_init_90 (fun ad11 a28 H ha h28 hW => ?_)
  replace h17 := (ha 17 (by decide)).trans h17
  replace h18 := (ha 18 (by decide)).trans h18
  replace h19 := (ha 19 (by decide)).trans h19
  replace h20 := (ha 20 (by decide)).trans h20
  replace h21 := (ha 21 (by decide)).trans h21
  replace h22 := (ha 22 (by decide)).trans h22
  replace h23 := (ha 23 (by decide)).trans h23
  replace h24 := (ha 24 (by decide)).trans h24
  replace h25 := (ha 25 (by decide)).trans h25
  replace h26 := (ha 26 (by decide)).trans h26
  replace h27 := (ha 27 (by decide)).trans h27
  replace had := fun i (hi : i < 18) => (ha i (by omega)).trans (had i hi)
  clear ha
  replace hW : Wd G ([.inr (8, [0, 4, 17, 1]), .inr (ciK κ, [5, 0, 13, 14, 15, 16, 0]), .inr (1, [6, 7, 8, 9, 10, 11, 12, 0]), .inl (0, 10), .inl (0, 40), .inl (0, 40), .inl (0, 40), .inl (0, 40), .inl (0, 40), .inl (0, 120), .inl (0, 40), .inl (0, 40 * wd κ), .inl (0, 40 * wd κ), .inl (0, 40 * wd κ), .inr (2, [0, 19, 18, 0, 0, 0]), .inl (0, 40), .inl (0, 40 * wd κ), .inr (9, [0, 0, 21, 22, 23, 24, 25, 26, 27, 0, 28, 29, 30, 1, 1, 1, 1, 1, 1, 1]), .inl (0, 40), .inl (0, 40), .inl (0, 40), .inl (0, 40), .inl (0, 120), .inl (0, 40), .inl (0, 10), .inl (0, 40), .inl (0, 3200), .inl (0, 3200), .inl (0, 3200)] : List Shp) ad11 (σ) A s.heap H locs := hW
  replace hzz := hzz.mono (m := 29) (by decide)
  refine k_putr hx hb hts hown hK hW 17 h17 28 h28 rfl rfl uw_X10 tyX10 tyX10_ok nmX10 13 (by decide) (by decide) al_776 (fun _ h9 => h9) (Or.inr ⟨rfl, hin, rfl⟩) rfl rfl dX10_init_92 (fun H locs hW => ?_)
  replace hW : Wd G ([.inr (8, [0, 4, 17, 1]), .inr (ciK κ, [5, 0, 13, 14, 15, 16, 0]), .inr (1, [6, 7, 8, 9, 10, 11, 12, 0]), .inl (0, 10), .inl (0, 40), .inl (0, 40), .inl (0, 40), .inl (0, 40), .inl (0, 40), .inl (0, 120), .inl (0, 40), .inl (0, 40 * wd κ), .inl (0, 40 * wd κ), .inl (0, 40 * wd κ), .inr (2, [0, 19, 18, 0, 0, 0]), .inl (0, 40), .inl (0, 40 * wd κ), .inr (9, [0, 0, 21, 22, 23, 24, 25, 26, 27, 0, 28, 29, 30, 31, 1, 1, 1, 1, 1, 1]), .inl (0, 40), .inl (0, 40), .inl (0, 40), .inl (0, 40), .inl (0, 120), .inl (0, 40), .inl (0, 10), .inl (0, 40), .inl (0, 3200), .inl (0, 3200), .inl (0, 3200)] : List Shp) ad11 (σ) A s.heap H locs := hW
  refine lv_aload_n hx hb dX10_init_95 rfl (lv_at hl 0 rfl) ?_
  refine n_sipush hx hb dX10_init_96 (by decide) ?_
  refine k_newa (n := 29) (t := 0) (x := 3200) (ty := .int) hx hb hts hK hW hA rfl hzz rfl (by decide) rfl al_76 (3200) rfl (rg_c _ rfl) (by decide) (by show 0 + 1 + 1 + 1 + 1 + 1 + 1 + 1 + 1 + 1 + 1 + 1 + 1 ≤ 17; omega) (by show 0 + 40 + 40 + 40 + 40 + 120 + 40 + 10 + 40 + 3200 + 3200 + 3200 + 3200 ≤ 65172; omega) dX10_init_99 (fun ad12 a29 H ha h29 hW => ?_)
  replace h17 := (ha 17 (by decide)).trans h17
  replace h18 := (ha 18 (by decide)).trans h18
  replace h19 := (ha 19 (by decide)).trans h19
  replace h20 := (ha 20 (by decide)).trans h20
  replace h21 := (ha 21 (by decide)).trans h21
  replace h22 := (ha 22 (by decide)).trans h22
  replace h23 := (ha 23 (by decide)).trans h23
  replace h24 := (ha 24 (by decide)).trans h24
  replace h25 := (ha 25 (by decide)).trans h25
  replace h26 := (ha 26 (by decide)).trans h26
  replace h27 := (ha 27 (by decide)).trans h27
  replace h28 := (ha 28 (by decide)).trans h28
  replace had := fun i (hi : i < 18) => (ha i (by omega)).trans (had i hi)
  clear ha
  replace hW : Wd G ([.inr (8, [0, 4, 17, 1]), .inr (ciK κ, [5, 0, 13, 14, 15, 16, 0]), .inr (1, [6, 7, 8, 9, 10, 11, 12, 0]), .inl (0, 10), .inl (0, 40), .inl (0, 40), .inl (0, 40), .inl (0, 40), .inl (0, 40), .inl (0, 120), .inl (0, 40), .inl (0, 40 * wd κ), .inl (0, 40 * wd κ), .inl (0, 40 * wd κ), .inr (2, [0, 19, 18, 0, 0, 0]), .inl (0, 40), .inl (0, 40 * wd κ), .inr (9, [0, 0, 21, 22, 23, 24, 25, 26, 27, 0, 28, 29, 30, 31, 1, 1, 1, 1, 1, 1]), .inl (0, 40), .inl (0, 40), .inl (0, 40), .inl (0, 40), .inl (0, 120), .inl (0, 40), .inl (0, 10), .inl (0, 40), .inl (0, 3200), .inl (0, 3200), .inl (0, 3200), .inl (0, 3200)] : List Shp) ad12 (σ) A s.heap H locs := hW
  replace hzz := hzz.mono (m := 30) (by decide)
  refine k_putr hx hb hts hown hK hW 17 h17 29 h29 rfl rfl uw_X10 tyX10 tyX10_ok nmX10 14 (by decide) (by decide) al_777 (fun _ h9 => h9) (Or.inr ⟨rfl, hin, rfl⟩) rfl rfl dX10_init_101 (fun H locs hW => ?_)
  replace hW : Wd G ([.inr (8, [0, 4, 17, 1]), .inr (ciK κ, [5, 0, 13, 14, 15, 16, 0]), .inr (1, [6, 7, 8, 9, 10, 11, 12, 0]), .inl (0, 10), .inl (0, 40), .inl (0, 40), .inl (0, 40), .inl (0, 40), .inl (0, 40), .inl (0, 120), .inl (0, 40), .inl (0, 40 * wd κ), .inl (0, 40 * wd κ), .inl (0, 40 * wd κ), .inr (2, [0, 19, 18, 0, 0, 0]), .inl (0, 40), .inl (0, 40 * wd κ), .inr (9, [0, 0, 21, 22, 23, 24, 25, 26, 27, 0, 28, 29, 30, 31, 32, 1, 1, 1, 1, 1]), .inl (0, 40), .inl (0, 40), .inl (0, 40), .inl (0, 40), .inl (0, 120), .inl (0, 40), .inl (0, 10), .inl (0, 40), .inl (0, 3200), .inl (0, 3200), .inl (0, 3200), .inl (0, 3200)] : List Shp) ad12 (σ) A s.heap H locs := hW
  refine lv_aload_n hx hb dX10_init_104 rfl (lv_at hl 0 rfl) ?_
  refine n_bipush hx hb dX10_init_105 (by decide) ?_
  refine k_newa (n := 30) (t := 0) (x := 40) (ty := .int) hx hb hts hK hW hA rfl hzz rfl (by decide) rfl al_76 (40) rfl (rg_c _ rfl) (by decide) (by show 0 + 1 + 1 + 1 + 1 + 1 + 1 + 1 + 1 + 1 + 1 + 1 + 1 + 1 ≤ 17; omega) (by show 0 + 40 + 40 + 40 + 40 + 120 + 40 + 10 + 40 + 3200 + 3200 + 3200 + 3200 + 40 ≤ 65172; omega) dX10_init_107 (fun ad13 a30 H ha h30 hW => ?_)
  replace h17 := (ha 17 (by decide)).trans h17
  replace h18 := (ha 18 (by decide)).trans h18
  replace h19 := (ha 19 (by decide)).trans h19
  replace h20 := (ha 20 (by decide)).trans h20
  replace h21 := (ha 21 (by decide)).trans h21
  replace h22 := (ha 22 (by decide)).trans h22
  replace h23 := (ha 23 (by decide)).trans h23
  replace h24 := (ha 24 (by decide)).trans h24
  replace h25 := (ha 25 (by decide)).trans h25
  replace h26 := (ha 26 (by decide)).trans h26
  replace h27 := (ha 27 (by decide)).trans h27
  replace h28 := (ha 28 (by decide)).trans h28
  replace h29 := (ha 29 (by decide)).trans h29
  replace had := fun i (hi : i < 18) => (ha i (by omega)).trans (had i hi)
  clear ha
  replace hW : Wd G ([.inr (8, [0, 4, 17, 1]), .inr (ciK κ, [5, 0, 13, 14, 15, 16, 0]), .inr (1, [6, 7, 8, 9, 10, 11, 12, 0]), .inl (0, 10), .inl (0, 40), .inl (0, 40), .inl (0, 40), .inl (0, 40), .inl (0, 40), .inl (0, 120), .inl (0, 40), .inl (0, 40 * wd κ), .inl (0, 40 * wd κ), .inl (0, 40 * wd κ), .inr (2, [0, 19, 18, 0, 0, 0]), .inl (0, 40), .inl (0, 40 * wd κ), .inr (9, [0, 0, 21, 22, 23, 24, 25, 26, 27, 0, 28, 29, 30, 31, 32, 1, 1, 1, 1, 1]), .inl (0, 40), .inl (0, 40), .inl (0, 40), .inl (0, 40), .inl (0, 120), .inl (0, 40), .inl (0, 10), .inl (0, 40), .inl (0, 3200), .inl (0, 3200), .inl (0, 3200), .inl (0, 3200), .inl (0, 40)] : List Shp) ad13 (σ) A s.heap H locs := hW
  replace hzz := hzz.mono (m := 31) (by decide)
  refine k_putr hx hb hts hown hK hW 17 h17 30 h30 rfl rfl uw_X10 tyX10 tyX10_ok nmX10 15 (by decide) (by decide) al_778 (fun _ h9 => h9) (Or.inr ⟨rfl, hin, rfl⟩) rfl rfl dX10_init_109 (fun H locs hW => ?_)
  replace hW : Wd G ([.inr (8, [0, 4, 17, 1]), .inr (ciK κ, [5, 0, 13, 14, 15, 16, 0]), .inr (1, [6, 7, 8, 9, 10, 11, 12, 0]), .inl (0, 10), .inl (0, 40), .inl (0, 40), .inl (0, 40), .inl (0, 40), .inl (0, 40), .inl (0, 120), .inl (0, 40), .inl (0, 40 * wd κ), .inl (0, 40 * wd κ), .inl (0, 40 * wd κ), .inr (2, [0, 19, 18, 0, 0, 0]), .inl (0, 40), .inl (0, 40 * wd κ), .inr (9, [0, 0, 21, 22, 23, 24, 25, 26, 27, 0, 28, 29, 30, 31, 32, 33, 1, 1, 1, 1]), .inl (0, 40), .inl (0, 40), .inl (0, 40), .inl (0, 40), .inl (0, 120), .inl (0, 40), .inl (0, 10), .inl (0, 40), .inl (0, 3200), .inl (0, 3200), .inl (0, 3200), .inl (0, 3200), .inl (0, 40)] : List Shp) ad13 (σ) A s.heap H locs := hW
  refine lv_aload_n hx hb dX10_init_112 rfl (lv_at hl 0 rfl) ?_
  refine n_sipush hx hb dX10_init_113 (by decide) ?_
  refine k_newa (n := 31) (t := 1) (x := 3200) (ty := .boolean) hx hb hts hK hW hA rfl hzz rfl (by decide) rfl al_824 (3200) rfl (rg_c _ rfl) (by decide) (by show 0 + 1 + 1 + 1 + 1 + 1 + 1 + 1 + 1 + 1 + 1 + 1 + 1 + 1 + 1 ≤ 17; omega) (by show 0 + 40 + 40 + 40 + 40 + 120 + 40 + 10 + 40 + 3200 + 3200 + 3200 + 3200 + 40 + 3200 ≤ 65172; omega) dX10_init_116 (fun ad14 a31 H ha h31 hW => ?_)
  replace h17 := (ha 17 (by decide)).trans h17
  replace h18 := (ha 18 (by decide)).trans h18
  replace h19 := (ha 19 (by decide)).trans h19
  replace h20 := (ha 20 (by decide)).trans h20
  replace h21 := (ha 21 (by decide)).trans h21
  replace h22 := (ha 22 (by decide)).trans h22
  replace h23 := (ha 23 (by decide)).trans h23
  replace h24 := (ha 24 (by decide)).trans h24
  replace h25 := (ha 25 (by decide)).trans h25
  replace h26 := (ha 26 (by decide)).trans h26
  replace h27 := (ha 27 (by decide)).trans h27
  replace h28 := (ha 28 (by decide)).trans h28
  replace h29 := (ha 29 (by decide)).trans h29
  replace h30 := (ha 30 (by decide)).trans h30
  replace had := fun i (hi : i < 18) => (ha i (by omega)).trans (had i hi)
  clear ha
  replace hW : Wd G ([.inr (8, [0, 4, 17, 1]), .inr (ciK κ, [5, 0, 13, 14, 15, 16, 0]), .inr (1, [6, 7, 8, 9, 10, 11, 12, 0]), .inl (0, 10), .inl (0, 40), .inl (0, 40), .inl (0, 40), .inl (0, 40), .inl (0, 40), .inl (0, 120), .inl (0, 40), .inl (0, 40 * wd κ), .inl (0, 40 * wd κ), .inl (0, 40 * wd κ), .inr (2, [0, 19, 18, 0, 0, 0]), .inl (0, 40), .inl (0, 40 * wd κ), .inr (9, [0, 0, 21, 22, 23, 24, 25, 26, 27, 0, 28, 29, 30, 31, 32, 33, 1, 1, 1, 1]), .inl (0, 40), .inl (0, 40), .inl (0, 40), .inl (0, 40), .inl (0, 120), .inl (0, 40), .inl (0, 10), .inl (0, 40), .inl (0, 3200), .inl (0, 3200), .inl (0, 3200), .inl (0, 3200), .inl (0, 40), .inl (1, 3200)] : List Shp) ad14 (σ) A s.heap H locs := hW
  replace hzz := hzz.mono (m := 32) (by decide)
  refine k_putr hx hb hts hown hK hW 17 h17 31 h31 rfl rfl uw_X10 tyX10 tyX10_ok nmX10 16 (by decide) (by decide) al_779 (fun _ h9 => h9) (Or.inr ⟨rfl, hin, rfl⟩) rfl rfl dX10_init_118 (fun H locs hW => ?_)
  replace hW : Wd G ([.inr (8, [0, 4, 17, 1]), .inr (ciK κ, [5, 0, 13, 14, 15, 16, 0]), .inr (1, [6, 7, 8, 9, 10, 11, 12, 0]), .inl (0, 10), .inl (0, 40), .inl (0, 40), .inl (0, 40), .inl (0, 40), .inl (0, 40), .inl (0, 120), .inl (0, 40), .inl (0, 40 * wd κ), .inl (0, 40 * wd κ), .inl (0, 40 * wd κ), .inr (2, [0, 19, 18, 0, 0, 0]), .inl (0, 40), .inl (0, 40 * wd κ), .inr (9, [0, 0, 21, 22, 23, 24, 25, 26, 27, 0, 28, 29, 30, 31, 32, 33, 34, 1, 1, 1]), .inl (0, 40), .inl (0, 40), .inl (0, 40), .inl (0, 40), .inl (0, 120), .inl (0, 40), .inl (0, 10), .inl (0, 40), .inl (0, 3200), .inl (0, 3200), .inl (0, 3200), .inl (0, 3200), .inl (0, 40), .inl (1, 3200)] : List Shp) ad14 (σ) A s.heap H locs := hW
  refine lv_aload_n hx hb dX10_init_121 rfl (lv_at hl 0 rfl) ?_
  refine n_ldc (n := 48160) hx hb hown (hts _ (List.mem_cons_of_mem _ al_762)) (by decide) dX10_init_122 ?_
  refine k_newa (n := 32) (t := 0) (x := 48160) (ty := .int) hx hb hts hK hW hA rfl hzz rfl (by decide) rfl al_76 (48160) rfl (rg_c _ rfl) (by decide) (by show 0 + 1 + 1 + 1 + 1 + 1 + 1 + 1 + 1 + 1 + 1 + 1 + 1 + 1 + 1 + 1 ≤ 17; omega) (by show 0 + 40 + 40 + 40 + 40 + 120 + 40 + 10 + 40 + 3200 + 3200 + 3200 + 3200 + 40 + 3200 + 48160 ≤ 65172; omega) dX10_init_124 (fun ad15 a32 H ha h32 hW => ?_)
  replace h17 := (ha 17 (by decide)).trans h17
  replace h18 := (ha 18 (by decide)).trans h18
  replace h19 := (ha 19 (by decide)).trans h19
  replace h20 := (ha 20 (by decide)).trans h20
  replace h21 := (ha 21 (by decide)).trans h21
  replace h22 := (ha 22 (by decide)).trans h22
  replace h23 := (ha 23 (by decide)).trans h23
  replace h24 := (ha 24 (by decide)).trans h24
  replace h25 := (ha 25 (by decide)).trans h25
  replace h26 := (ha 26 (by decide)).trans h26
  replace h27 := (ha 27 (by decide)).trans h27
  replace h28 := (ha 28 (by decide)).trans h28
  replace h29 := (ha 29 (by decide)).trans h29
  replace h30 := (ha 30 (by decide)).trans h30
  replace h31 := (ha 31 (by decide)).trans h31
  replace had := fun i (hi : i < 18) => (ha i (by omega)).trans (had i hi)
  clear ha
  replace hW : Wd G ([.inr (8, [0, 4, 17, 1]), .inr (ciK κ, [5, 0, 13, 14, 15, 16, 0]), .inr (1, [6, 7, 8, 9, 10, 11, 12, 0]), .inl (0, 10), .inl (0, 40), .inl (0, 40), .inl (0, 40), .inl (0, 40), .inl (0, 40), .inl (0, 120), .inl (0, 40), .inl (0, 40 * wd κ), .inl (0, 40 * wd κ), .inl (0, 40 * wd κ), .inr (2, [0, 19, 18, 0, 0, 0]), .inl (0, 40), .inl (0, 40 * wd κ), .inr (9, [0, 0, 21, 22, 23, 24, 25, 26, 27, 0, 28, 29, 30, 31, 32, 33, 34, 1, 1, 1]), .inl (0, 40), .inl (0, 40), .inl (0, 40), .inl (0, 40), .inl (0, 120), .inl (0, 40), .inl (0, 10), .inl (0, 40), .inl (0, 3200), .inl (0, 3200), .inl (0, 3200), .inl (0, 3200), .inl (0, 40), .inl (1, 3200), .inl (0, 48160)] : List Shp) ad15 (σ) A s.heap H locs := hW
  replace hzz := hzz.mono (m := 33) (by decide)
  refine k_putr hx hb hts hown hK hW 17 h17 32 h32 rfl rfl uw_X10 tyX10 tyX10_ok nmX10 17 (by decide) (by decide) al_780 (fun _ h9 => h9) (Or.inr ⟨rfl, hin, rfl⟩) rfl rfl dX10_init_126 (fun H locs hW => ?_)
  replace hW : Wd G ([.inr (8, [0, 4, 17, 1]), .inr (ciK κ, [5, 0, 13, 14, 15, 16, 0]), .inr (1, [6, 7, 8, 9, 10, 11, 12, 0]), .inl (0, 10), .inl (0, 40), .inl (0, 40), .inl (0, 40), .inl (0, 40), .inl (0, 40), .inl (0, 120), .inl (0, 40), .inl (0, 40 * wd κ), .inl (0, 40 * wd κ), .inl (0, 40 * wd κ), .inr (2, [0, 19, 18, 0, 0, 0]), .inl (0, 40), .inl (0, 40 * wd κ), .inr (9, [0, 0, 21, 22, 23, 24, 25, 26, 27, 0, 28, 29, 30, 31, 32, 33, 34, 35, 1, 1]), .inl (0, 40), .inl (0, 40), .inl (0, 40), .inl (0, 40), .inl (0, 120), .inl (0, 40), .inl (0, 10), .inl (0, 40), .inl (0, 3200), .inl (0, 3200), .inl (0, 3200), .inl (0, 3200), .inl (0, 40), .inl (1, 3200), .inl (0, 48160)] : List Shp) ad15 (σ) A s.heap H locs := hW
  refine lv_aload_n hx hb dX10_init_129 rfl (lv_at hl 0 rfl) ?_
  refine n_sipush hx hb dX10_init_130 (by decide) ?_
  refine k_newa (n := 33) (t := 0) (x := 301) (ty := .int) hx hb hts hK hW hA rfl hzz rfl (by decide) rfl al_76 (301) rfl (rg_c _ rfl) (by decide) (by show 0 + 1 + 1 + 1 + 1 + 1 + 1 + 1 + 1 + 1 + 1 + 1 + 1 + 1 + 1 + 1 + 1 ≤ 17; omega) (by show 0 + 40 + 40 + 40 + 40 + 120 + 40 + 10 + 40 + 3200 + 3200 + 3200 + 3200 + 40 + 3200 + 48160 + 301 ≤ 65172; omega) dX10_init_133 (fun ad16 a33 H ha h33 hW => ?_)
  replace h17 := (ha 17 (by decide)).trans h17
  replace h18 := (ha 18 (by decide)).trans h18
  replace h19 := (ha 19 (by decide)).trans h19
  replace h20 := (ha 20 (by decide)).trans h20
  replace h21 := (ha 21 (by decide)).trans h21
  replace h22 := (ha 22 (by decide)).trans h22
  replace h23 := (ha 23 (by decide)).trans h23
  replace h24 := (ha 24 (by decide)).trans h24
  replace h25 := (ha 25 (by decide)).trans h25
  replace h26 := (ha 26 (by decide)).trans h26
  replace h27 := (ha 27 (by decide)).trans h27
  replace h28 := (ha 28 (by decide)).trans h28
  replace h29 := (ha 29 (by decide)).trans h29
  replace h30 := (ha 30 (by decide)).trans h30
  replace h31 := (ha 31 (by decide)).trans h31
  replace h32 := (ha 32 (by decide)).trans h32
  replace had := fun i (hi : i < 18) => (ha i (by omega)).trans (had i hi)
  clear ha
  replace hW : Wd G ([.inr (8, [0, 4, 17, 1]), .inr (ciK κ, [5, 0, 13, 14, 15, 16, 0]), .inr (1, [6, 7, 8, 9, 10, 11, 12, 0]), .inl (0, 10), .inl (0, 40), .inl (0, 40), .inl (0, 40), .inl (0, 40), .inl (0, 40), .inl (0, 120), .inl (0, 40), .inl (0, 40 * wd κ), .inl (0, 40 * wd κ), .inl (0, 40 * wd κ), .inr (2, [0, 19, 18, 0, 0, 0]), .inl (0, 40), .inl (0, 40 * wd κ), .inr (9, [0, 0, 21, 22, 23, 24, 25, 26, 27, 0, 28, 29, 30, 31, 32, 33, 34, 35, 1, 1]), .inl (0, 40), .inl (0, 40), .inl (0, 40), .inl (0, 40), .inl (0, 120), .inl (0, 40), .inl (0, 10), .inl (0, 40), .inl (0, 3200), .inl (0, 3200), .inl (0, 3200), .inl (0, 3200), .inl (0, 40), .inl (1, 3200), .inl (0, 48160), .inl (0, 301)] : List Shp) ad16 (σ) A s.heap H locs := hW
  replace hzz := hzz.mono (m := 34) (by decide)
  refine k_putr hx hb hts hown hK hW 17 h17 33 h33 rfl rfl uw_X10 tyX10 tyX10_ok nmX10 18 (by decide) (by decide) al_781 (fun _ h9 => h9) (Or.inr ⟨rfl, hin, rfl⟩) rfl rfl dX10_init_135 (fun H locs hW => ?_)
  replace hW : Wd G ([.inr (8, [0, 4, 17, 1]), .inr (ciK κ, [5, 0, 13, 14, 15, 16, 0]), .inr (1, [6, 7, 8, 9, 10, 11, 12, 0]), .inl (0, 10), .inl (0, 40), .inl (0, 40), .inl (0, 40), .inl (0, 40), .inl (0, 40), .inl (0, 120), .inl (0, 40), .inl (0, 40 * wd κ), .inl (0, 40 * wd κ), .inl (0, 40 * wd κ), .inr (2, [0, 19, 18, 0, 0, 0]), .inl (0, 40), .inl (0, 40 * wd κ), .inr (9, [0, 0, 21, 22, 23, 24, 25, 26, 27, 0, 28, 29, 30, 31, 32, 33, 34, 35, 36, 1]), .inl (0, 40), .inl (0, 40), .inl (0, 40), .inl (0, 40), .inl (0, 120), .inl (0, 40), .inl (0, 10), .inl (0, 40), .inl (0, 3200), .inl (0, 3200), .inl (0, 3200), .inl (0, 3200), .inl (0, 40), .inl (1, 3200), .inl (0, 48160), .inl (0, 301)] : List Shp) ad16 (σ) A s.heap H locs := hW
  refine lv_aload_n hx hb dX10_init_138 rfl (lv_at hl 0 rfl) ?_
  refine n_sipush hx hb dX10_init_139 (by decide) ?_
  refine k_newa (n := 34) (t := 0) (x := 301) (ty := .int) hx hb hts hK hW hA rfl hzz rfl (by decide) rfl al_76 (301) rfl (rg_c _ rfl) (by decide) (by show 0 + 1 + 1 + 1 + 1 + 1 + 1 + 1 + 1 + 1 + 1 + 1 + 1 + 1 + 1 + 1 + 1 + 1 ≤ 17; omega) (by show 0 + 40 + 40 + 40 + 40 + 120 + 40 + 10 + 40 + 3200 + 3200 + 3200 + 3200 + 40 + 3200 + 48160 + 301 + 301 ≤ 65172; omega) dX10_init_142 (fun ad17 a34 H ha h34 hW => ?_)
  replace h17 := (ha 17 (by decide)).trans h17
  replace h18 := (ha 18 (by decide)).trans h18
  replace h19 := (ha 19 (by decide)).trans h19
  replace h20 := (ha 20 (by decide)).trans h20
  replace h21 := (ha 21 (by decide)).trans h21
  replace h22 := (ha 22 (by decide)).trans h22
  replace h23 := (ha 23 (by decide)).trans h23
  replace h24 := (ha 24 (by decide)).trans h24
  replace h25 := (ha 25 (by decide)).trans h25
  replace h26 := (ha 26 (by decide)).trans h26
  replace h27 := (ha 27 (by decide)).trans h27
  replace h28 := (ha 28 (by decide)).trans h28
  replace h29 := (ha 29 (by decide)).trans h29
  replace h30 := (ha 30 (by decide)).trans h30
  replace h31 := (ha 31 (by decide)).trans h31
  replace h32 := (ha 32 (by decide)).trans h32
  replace h33 := (ha 33 (by decide)).trans h33
  replace had := fun i (hi : i < 18) => (ha i (by omega)).trans (had i hi)
  clear ha
  replace hW : Wd G ([.inr (8, [0, 4, 17, 1]), .inr (ciK κ, [5, 0, 13, 14, 15, 16, 0]), .inr (1, [6, 7, 8, 9, 10, 11, 12, 0]), .inl (0, 10), .inl (0, 40), .inl (0, 40), .inl (0, 40), .inl (0, 40), .inl (0, 40), .inl (0, 120), .inl (0, 40), .inl (0, 40 * wd κ), .inl (0, 40 * wd κ), .inl (0, 40 * wd κ), .inr (2, [0, 19, 18, 0, 0, 0]), .inl (0, 40), .inl (0, 40 * wd κ), .inr (9, [0, 0, 21, 22, 23, 24, 25, 26, 27, 0, 28, 29, 30, 31, 32, 33, 34, 35, 36, 1]), .inl (0, 40), .inl (0, 40), .inl (0, 40), .inl (0, 40), .inl (0, 120), .inl (0, 40), .inl (0, 10), .inl (0, 40), .inl (0, 3200), .inl (0, 3200), .inl (0, 3200), .inl (0, 3200), .inl (0, 40), .inl (1, 3200), .inl (0, 48160), .inl (0, 301), .inl (0, 301)] : List Shp) ad17 (σ) A s.heap H locs := hW
  replace hzz := hzz.mono (m := 35) (by decide)
  refine k_putr hx hb hts hown hK hW 17 h17 34 h34 rfl rfl uw_X10 tyX10 tyX10_ok nmX10 19 (by decide) (by decide) al_782 (fun _ h9 => h9) (Or.inr ⟨rfl, hin, rfl⟩) rfl rfl dX10_init_144 (fun H locs hW => ?_)
  replace hW : Wd G ([.inr (8, [0, 4, 17, 1]), .inr (ciK κ, [5, 0, 13, 14, 15, 16, 0]), .inr (1, [6, 7, 8, 9, 10, 11, 12, 0]), .inl (0, 10), .inl (0, 40), .inl (0, 40), .inl (0, 40), .inl (0, 40), .inl (0, 40), .inl (0, 120), .inl (0, 40), .inl (0, 40 * wd κ), .inl (0, 40 * wd κ), .inl (0, 40 * wd κ), .inr (2, [0, 19, 18, 0, 0, 0]), .inl (0, 40), .inl (0, 40 * wd κ), .inr (9, [0, 0, 21, 22, 23, 24, 25, 26, 27, 0, 28, 29, 30, 31, 32, 33, 34, 35, 36, 37]), .inl (0, 40), .inl (0, 40), .inl (0, 40), .inl (0, 40), .inl (0, 120), .inl (0, 40), .inl (0, 10), .inl (0, 40), .inl (0, 3200), .inl (0, 3200), .inl (0, 3200), .inl (0, 3200), .inl (0, 40), .inl (1, 3200), .inl (0, 48160), .inl (0, 301), .inl (0, 301)] : List Shp) ad17 (σ) A s.heap H locs := hW
  refine lv_aload_n hx hb dX10_init_147 rfl (lv_at hl 0 rfl) ?_
  refine x10_clamp hx hb hl hr1 hv1 ?_
  refine k_put hx hb hts hown hK hW 17 h17 rfl rfl uw_X10 tyX10 tyX10_ok nmX10 0 (by decide) rfl al_763 (fun _ h9 => h9) (Or.inr ⟨rfl, hin, rfl⟩) rfl rfl dX10_init_166 (fun H locs hW => ?_)
  replace hW : Wd G ([.inr (8, [0, 4, 17, 1]), .inr (ciK κ, [5, 0, 13, 14, 15, 16, 0]), .inr (1, [6, 7, 8, 9, 10, 11, 12, 0]), .inl (0, 10), .inl (0, 40), .inl (0, 40), .inl (0, 40), .inl (0, 40), .inl (0, 40), .inl (0, 120), .inl (0, 40), .inl (0, 40 * wd κ), .inl (0, 40 * wd κ), .inl (0, 40 * wd κ), .inr (2, [0, 19, 18, 0, 0, 0]), .inl (0, 40), .inl (0, 40 * wd κ), .inr (9, [0, 0, 21, 22, 23, 24, 25, 26, 27, 0, 28, 29, 30, 31, 32, 33, 34, 35, 36, 37]), .inl (0, 40), .inl (0, 40), .inl (0, 40), .inl (0, 40), .inl (0, 120), .inl (0, 40), .inl (0, 10), .inl (0, 40), .inl (0, 3200), .inl (0, 3200), .inl (0, 3200), .inl (0, 3200), .inl (0, 40), .inl (1, 3200), .inl (0, 48160), .inl (0, 301), .inl (0, 301)] : List Shp) ad17 (up2 (σ) 17 0 (κ : Int)) A s.heap H locs := hW
  replace hzz : hz 35 (up2 (σ) 17 0 (κ : Int)) := hzz.up (by decide)
  refine lv_aload_n hx hb dX10_init_169 rfl (lv_at hl 0 rfl) ?_
  refine k_getr hx hb hts hown hK hW 17 h17 h24 rfl rfl uw_X10 8 (by decide) rfl al_771 (fun _ h9 => h9) dX10_init_170 ?_
  refine n_iconst hx hb dX10_init_173 ?_
  refine n_bipush hx hb dX10_init_174 (by decide) ?_
  refine k_ast hx hb hK hW 24 h24 rfl (by exact inb_c _ _ rfl) dX10_init_176 (fun H locs hW => ?_)
  replace hW : Wd G ([.inr (8, [0, 4, 17, 1]), .inr (ciK κ, [5, 0, 13, 14, 15, 16, 0]), .inr (1, [6, 7, 8, 9, 10, 11, 12, 0]), .inl (0, 10), .inl (0, 40), .inl (0, 40), .inl (0, 40), .inl (0, 40), .inl (0, 40), .inl (0, 120), .inl (0, 40), .inl (0, 40 * wd κ), .inl (0, 40 * wd κ), .inl (0, 40 * wd κ), .inr (2, [0, 19, 18, 0, 0, 0]), .inl (0, 40), .inl (0, 40 * wd κ), .inr (9, [0, 0, 21, 22, 23, 24, 25, 26, 27, 0, 28, 29, 30, 31, 32, 33, 34, 35, 36, 37]), .inl (0, 40), .inl (0, 40), .inl (0, 40), .inl (0, 40), .inl (0, 120), .inl (0, 40), .inl (0, 10), .inl (0, 40), .inl (0, 3200), .inl (0, 3200), .inl (0, 3200), .inl (0, 3200), .inl (0, 40), .inl (1, 3200), .inl (0, 48160), .inl (0, 301), .inl (0, 301)] : List Shp) ad17 (up2 (up2 (σ) 17 0 (κ : Int)) 24 0 10) A s.heap H locs := hW
  replace hzz : hz 35 (up2 (up2 (σ) 17 0 (κ : Int)) 24 0 10) := hzz.up (by decide)
  refine lv_aload_n hx hb dX10_init_177 rfl (lv_at hl 0 rfl) ?_
  refine k_getr hx hb hts hown hK hW 17 h17 h24 rfl rfl uw_X10 8 (by decide) rfl al_771 (fun _ h9 => h9) dX10_init_178 ?_
  refine n_iconst hx hb dX10_init_181 ?_
  refine n_sipush hx hb dX10_init_182 (by decide) ?_
  refine k_ast hx hb hK hW 24 h24 rfl (by exact inb_c _ _ rfl) dX10_init_185 (fun H locs hW => ?_)
  replace hW : Wd G ([.inr (8, [0, 4, 17, 1]), .inr (ciK κ, [5, 0, 13, 14, 15, 16, 0]), .inr (1, [6, 7, 8, 9, 10, 11, 12, 0]), .inl (0, 10), .inl (0, 40), .inl (0, 40), .inl (0, 40), .inl (0, 40), .inl (0, 40), .inl (0, 120), .inl (0, 40), .inl (0, 40 * wd κ), .inl (0, 40 * wd κ), .inl (0, 40 * wd κ), .inr (2, [0, 19, 18, 0, 0, 0]), .inl (0, 40), .inl (0, 40 * wd κ), .inr (9, [0, 0, 21, 22, 23, 24, 25, 26, 27, 0, 28, 29, 30, 31, 32, 33, 34, 35, 36, 37]), .inl (0, 40), .inl (0, 40), .inl (0, 40), .inl (0, 40), .inl (0, 120), .inl (0, 40), .inl (0, 10), .inl (0, 40), .inl (0, 3200), .inl (0, 3200), .inl (0, 3200), .inl (0, 3200), .inl (0, 40), .inl (1, 3200), .inl (0, 48160), .inl (0, 301), .inl (0, 301)] : List Shp) ad17 (up2 (up2 (up2 (σ) 17 0 (κ : Int)) 24 0 10) 24 1 400) A s.heap H locs := hW
  replace hzz : hz 35 (up2 (up2 (up2 (σ) 17 0 (κ : Int)) 24 0 10) 24 1 400) := hzz.up (by decide)
  refine lv_aload_n hx hb dX10_init_186 rfl (lv_at hl 0 rfl) ?_
  refine k_getr hx hb hts hown hK hW 17 h17 h24 rfl rfl uw_X10 8 (by decide) rfl al_771 (fun _ h9 => h9) dX10_init_187 ?_
  refine n_iconst hx hb dX10_init_190 ?_
  refine n_bipush hx hb dX10_init_191 (by decide) ?_
  refine k_ast hx hb hK hW 24 h24 rfl (by exact inb_c _ _ rfl) dX10_init_193 (fun H locs hW => ?_)
  replace hW : Wd G ([.inr (8, [0, 4, 17, 1]), .inr (ciK κ, [5, 0, 13, 14, 15, 16, 0]), .inr (1, [6, 7, 8, 9, 10, 11, 12, 0]), .inl (0, 10), .inl (0, 40), .inl (0, 40), .inl (0, 40), .inl (0, 40), .inl (0, 40), .inl (0, 120), .inl (0, 40), .inl (0, 40 * wd κ), .inl (0, 40 * wd κ), .inl (0, 40 * wd κ), .inr (2, [0, 19, 18, 0, 0, 0]), .inl (0, 40), .inl (0, 40 * wd κ), .inr (9, [0, 0, 21, 22, 23, 24, 25, 26, 27, 0, 28, 29, 30, 31, 32, 33, 34, 35, 36, 37]), .inl (0, 40), .inl (0, 40), .inl (0, 40), .inl (0, 40), .inl (0, 120), .inl (0, 40), .inl (0, 10), .inl (0, 40), .inl (0, 3200), .inl (0, 3200), .inl (0, 3200), .inl (0, 3200), .inl (0, 40), .inl (1, 3200), .inl (0, 48160), .inl (0, 301), .inl (0, 301)] : List Shp) ad17 (up2 (up2 (up2 (up2 (σ) 17 0 (κ : Int)) 24 0 10) 24 1 400) 24 2 30) A s.heap H locs := hW
  replace hzz : hz 35 (up2 (up2 (up2 (up2 (σ) 17 0 (κ : Int)) 24 0 10) 24 1 400) 24 2 30) := hzz.up (by decide)
  refine lv_aload_n hx hb dX10_init_194 rfl (lv_at hl 0 rfl) ?_
  refine k_getr hx hb hts hown hK hW 17 h17 h24 rfl rfl uw_X10 8 (by decide) rfl al_771 (fun _ h9 => h9) dX10_init_195 ?_
  refine n_iconst hx hb dX10_init_198 ?_
  refine n_bipush hx hb dX10_init_199 (by decide) ?_
  refine k_ast hx hb hK hW 24 h24 rfl (by exact inb_c _ _ rfl) dX10_init_201 (fun H locs hW => ?_)
  replace hW : Wd G ([.inr (8, [0, 4, 17, 1]), .inr (ciK κ, [5, 0, 13, 14, 15, 16, 0]), .inr (1, [6, 7, 8, 9, 10, 11, 12, 0]), .inl (0, 10), .inl (0, 40), .inl (0, 40), .inl (0, 40), .inl (0, 40), .inl (0, 40), .inl (0, 120), .inl (0, 40), .inl (0, 40 * wd κ), .inl (0, 40 * wd κ), .inl (0, 40 * wd κ), .inr (2, [0, 19, 18, 0, 0, 0]), .inl (0, 40), .inl (0, 40 * wd κ), .inr (9, [0, 0, 21, 22, 23, 24, 25, 26, 27, 0, 28, 29, 30, 31, 32, 33, 34, 35, 36, 37]), .inl (0, 40), .inl (0, 40), .inl (0, 40), .inl (0, 40), .inl (0, 120), .inl (0, 40), .inl (0, 10), .inl (0, 40), .inl (0, 3200), .inl (0, 3200), .inl (0, 3200), .inl (0, 3200), .inl (0, 40), .inl (1, 3200), .inl (0, 48160), .inl (0, 301), .inl (0, 301)] : List Shp) ad17 (up2 (up2 (up2 (up2 (up2 (σ) 17 0 (κ : Int)) 24 0 10) 24 1 400) 24 2 30) 24 4 127) A s.heap H locs := hW
  replace hzz : hz 35 (up2 (up2 (up2 (up2 (up2 (σ) 17 0 (κ : Int)) 24 0 10) 24 1 400) 24 2 30) 24 4 127) := hzz.up (by decide)
  refine lv_aload_n hx hb dX10_init_202 rfl (lv_at hl 0 rfl) ?_
  refine k_getr hx hb hts hown hK hW 17 h17 h24 rfl rfl uw_X10 8 (by decide) rfl al_771 (fun _ h9 => h9) dX10_init_203 ?_
  refine n_iconst hx hb dX10_init_206 ?_
  refine n_bipush hx hb dX10_init_207 (by decide) ?_
  refine k_ast hx hb hK hW 24 h24 rfl (by exact inb_c _ _ rfl) dX10_init_209 (fun H locs hW => ?_)
  replace hW : Wd G ([.inr (8, [0, 4, 17, 1]), .inr (ciK κ, [5, 0, 13, 14, 15, 16, 0]), .inr (1, [6, 7, 8, 9, 10, 11, 12, 0]), .inl (0, 10), .inl (0, 40), .inl (0, 40), .inl (0, 40), .inl (0, 40), .inl (0, 40), .inl (0, 120), .inl (0, 40), .inl (0, 40 * wd κ), .inl (0, 40 * wd κ), .inl (0, 40 * wd κ), .inr (2, [0, 19, 18, 0, 0, 0]), .inl (0, 40), .inl (0, 40 * wd κ), .inr (9, [0, 0, 21, 22, 23, 24, 25, 26, 27, 0, 28, 29, 30, 31, 32, 33, 34, 35, 36, 37]), .inl (0, 40), .inl (0, 40), .inl (0, 40), .inl (0, 40), .inl (0, 120), .inl (0, 40), .inl (0, 10), .inl (0, 40), .inl (0, 3200), .inl (0, 3200), .inl (0, 3200), .inl (0, 3200), .inl (0, 40), .inl (1, 3200), .inl (0, 48160), .inl (0, 301), .inl (0, 301)] : List Shp) ad17 (up2 (up2 (up2 (up2 (up2 (up2 (σ) 17 0 (κ : Int)) 24 0 10) 24 1 400) 24 2 30) 24 4 127) 24 5 34) A s.heap H locs := hW
  replace hzz : hz 35 (up2 (up2 (up2 (up2 (up2 (up2 (σ) 17 0 (κ : Int)) 24 0 10) 24 1 400) 24 2 30) 24 4 127) 24 5 34) := hzz.up (by decide)
  refine n_iconst hx hb dX10_init_210 ?_
  refine lv_istore_n (lv' := [(2, .int (iN 0)), (0, .ref a17), (1, .int (iN v1))]) hx hb dX10_init_211 rfl hl (by decide) rfl (fun ls hl => ?_)
  refine lv_iload_n hx hb dX10_init_212 rfl (lv_at hl 0 rfl) ?_
  refine n_iconst hx hb dX10_init_213 ?_
  refine n_icmp_ge hx hb (rg_c _ rfl) (rg_c _ rfl) (X := False) (Y := True) (fun h => absurd h (by decide)) (fun h => trivial) (tgt := 239) dX10_init_214 (by decide) (fun h => h.elim) (fun h => ?_)
  refine lv_aload_n hx hb dX10_init_217 rfl (lv_at hl 1 rfl) ?_
  refine k_getr hx hb hts hown hK hW 17 h17 h24 rfl rfl uw_X10 8 (by decide) rfl al_771 (fun _ h9 => h9) dX10_init_218 ?_
  refine n_bipush hx hb dX10_init_221 (by decide) ?_
  refine lv_iload_n hx hb dX10_init_223 rfl (lv_at hl 0 rfl) ?_
  refine n_iadd hx hb dX10_init_224 ?_
  refine n_bipush hx hb dX10_init_225 (by decide) ?_
  refine n_bipush hx hb dX10_init_227 (by decide) ?_
  refine lv_iload_n hx hb dX10_init_229 rfl (lv_at hl 0 rfl) ?_
  refine n_imul hx hb dX10_init_230 ?_
  refine n_iadd hx hb dX10_init_231 ?_
  refine k_ast hx hb hK hW 24 h24 rfl (by exact inb_c _ _ rfl) dX10_init_232 (fun H locs hW => ?_)
  replace hW : Wd G ([.inr (8, [0, 4, 17, 1]), .inr (ciK κ, [5, 0, 13, 14, 15, 16, 0]), .inr (1, [6, 7, 8, 9, 10, 11, 12, 0]), .inl (0, 10), .inl (0, 40), .inl (0, 40), .inl (0, 40), .inl (0, 40), .inl (0, 40), .inl (0, 120), .inl (0, 40), .inl (0, 40 * wd κ), .inl (0, 40 * wd κ), .inl (0, 40 * wd κ), .inr (2, [0, 19, 18, 0, 0, 0]), .inl (0, 40), .inl (0, 40 * wd κ), .inr (9, [0, 0, 21, 22, 23, 24, 25, 26, 27, 0, 28, 29, 30, 31, 32, 33, 34, 35, 36, 37]), .inl (0, 40), .inl (0, 40), .inl (0, 40), .inl (0, 40), .inl (0, 120), .inl (0, 40), .inl (0, 10), .inl (0, 40), .inl (0, 3200), .inl (0, 3200), .inl (0, 3200), .inl (0, 3200), .inl (0, 40), .inl (1, 3200), .inl (0, 48160), .inl (0, 301), .inl (0, 301)] : List Shp) ad17 (up2 (up2 (up2 (up2 (up2 (up2 (up2 (σ) 17 0 (κ : Int)) 24 0 10) 24 1 400) 24 2 30) 24 4 127) 24 5 34) 24 6 55) A s.heap H locs := hW
  replace hzz : hz 35 (up2 (up2 (up2 (up2 (up2 (up2 (up2 (σ) 17 0 (κ : Int)) 24 0 10) 24 1 400) 24 2 30) 24 4 127) 24 5 34) 24 6 55) := hzz.up (by decide)
  refine lv_iinc (v := iN 1) (lv' := [(2, .int (iN 1)), (0, .ref a17), (1, .int (iN v1))]) hx hb dX10_init_233 hl (k := 0) rfl (by decide) (by decide) rfl (fun ls hl => ?_)
  refine lv_goto (tgt := 212) hx hb dX10_init_236 (by decide) ?_
  refine lv_iload_n hx hb dX10_init_212 rfl (lv_at hl 0 rfl) ?_
  refine n_iconst hx hb dX10_init_213 ?_
  refine n_icmp_ge hx hb (rg_c _ rfl) (rg_c _ rfl) (X := False) (Y := True) (fun h => absurd h (by decide)) (fun h => trivial) (tgt := 239) dX10_init_214 (by decide) (fun h => h.elim) (fun h => ?_)
  refine lv_aload_n hx hb dX10_init_217 rfl (lv_at hl 1 rfl) ?_
  refine k_getr hx hb hts hown hK hW 17 h17 h24 rfl rfl uw_X10 8 (by decide) rfl al_771 (fun _ h9 => h9) dX10_init_218 ?_
  refine n_bipush hx hb dX10_init_221 (by decide) ?_
  refine lv_iload_n hx hb dX10_init_223 rfl (lv_at hl 0 rfl) ?_
  refine n_iadd hx hb dX10_init_224 ?_
  refine n_bipush hx hb dX10_init_225 (by decide) ?_
  refine n_bipush hx hb dX10_init_227 (by decide) ?_
  refine lv_iload_n hx hb dX10_init_229 rfl (lv_at hl 0 rfl) ?_
  refine n_imul hx hb dX10_init_230 ?_
  refine n_iadd hx hb dX10_init_231 ?_
  refine k_ast hx hb hK hW 24 h24 rfl (by exact inb_c _ _ rfl) dX10_init_232 (fun H locs hW => ?_)
  replace hW : Wd G ([.inr (8, [0, 4, 17, 1]), .inr (ciK κ, [5, 0, 13, 14, 15, 16, 0]), .inr (1, [6, 7, 8, 9, 10, 11, 12, 0]), .inl (0, 10), .inl (0, 40), .inl (0, 40), .inl (0, 40), .inl (0, 40), .inl (0, 40), .inl (0, 120), .inl (0, 40), .inl (0, 40 * wd κ), .inl (0, 40 * wd κ), .inl (0, 40 * wd κ), .inr (2, [0, 19, 18, 0, 0, 0]), .inl (0, 40), .inl (0, 40 * wd κ), .inr (9, [0, 0, 21, 22, 23, 24, 25, 26, 27, 0, 28, 29, 30, 31, 32, 33, 34, 35, 36, 37]), .inl (0, 40), .inl (0, 40), .inl (0, 40), .inl (0, 40), .inl (0, 120), .inl (0, 40), .inl (0, 10), .inl (0, 40), .inl (0, 3200), .inl (0, 3200), .inl (0, 3200), .inl (0, 3200), .inl (0, 40), .inl (1, 3200), .inl (0, 48160), .inl (0, 301), .inl (0, 301)] : List Shp) ad17 (up2 (up2 (up2 (up2 (up2 (up2 (up2 (up2 (σ) 17 0 (κ : Int)) 24 0 10) 24 1 400) 24 2 30) 24 4 127) 24 5 34) 24 6 55) 24 7 62) A s.heap H locs := hW
  replace hzz : hz 35 (up2 (up2 (up2 (up2 (up2 (up2 (up2 (up2 (σ) 17 0 (κ : Int)) 24 0 10) 24 1 400) 24 2 30) 24 4 127) 24 5 34) 24 6 55) 24 7 62) := hzz.up (by decide)
  refine lv_iinc (v := iN 2) (lv' := [(2, .int (iN 2)), (0, .ref a17), (1, .int (iN v1))]) hx hb dX10_init_233 hl (k := 0) rfl (by decide) (by decide) rfl (fun ls hl => ?_)
  refine lv_goto (tgt := 212) hx hb dX10_init_236 (by decide) ?_
  refine lv_iload_n hx hb dX10_init_212 rfl (lv_at hl 0 rfl) ?_
  refine n_iconst hx hb dX10_init_213 ?_
  refine n_icmp_ge hx hb (rg_c _ rfl) (rg_c _ rfl) (X := False) (Y := True) (fun h => absurd h (by decide)) (fun h => trivial) (tgt := 239) dX10_init_214 (by decide) (fun h => h.elim) (fun h => ?_)
  refine lv_aload_n hx hb dX10_init_217 rfl (lv_at hl 1 rfl) ?_
  refine k_getr hx hb hts hown hK hW 17 h17 h24 rfl rfl uw_X10 8 (by decide) rfl al_771 (fun _ h9 => h9) dX10_init_218 ?_
  refine n_bipush hx hb dX10_init_221 (by decide) ?_
  refine lv_iload_n hx hb dX10_init_223 rfl (lv_at hl 0 rfl) ?_
  refine n_iadd hx hb dX10_init_224 ?_
  refine n_bipush hx hb dX10_init_225 (by decide) ?_
  refine n_bipush hx hb dX10_init_227 (by decide) ?_
  refine lv_iload_n hx hb dX10_init_229 rfl (lv_at hl 0 rfl) ?_
  refine n_imul hx hb dX10_init_230 ?_
  refine n_iadd hx hb dX10_init_231 ?_
  refine k_ast hx hb hK hW 24 h24 rfl (by exact inb_c _ _ rfl) dX10_init_232 (fun H locs hW => ?_)
  replace hW : Wd G ([.inr (8, [0, 4, 17, 1]), .inr (ciK κ, [5, 0, 13, 14, 15, 16, 0]), .inr (1, [6, 7, 8, 9, 10, 11, 12, 0]), .inl (0, 10), .inl (0, 40), .inl (0, 40), .inl (0, 40), .inl (0, 40), .inl (0, 40), .inl (0, 120), .inl (0, 40), .inl (0, 40 * wd κ), .inl (0, 40 * wd κ), .inl (0, 40 * wd κ), .inr (2, [0, 19, 18, 0, 0, 0]), .inl (0, 40), .inl (0, 40 * wd κ), .inr (9, [0, 0, 21, 22, 23, 24, 25, 26, 27, 0, 28, 29, 30, 31, 32, 33, 34, 35, 36, 37]), .inl (0, 40), .inl (0, 40), .inl (0, 40), .inl (0, 40), .inl (0, 120), .inl (0, 40), .inl (0, 10), .inl (0, 40), .inl (0, 3200), .inl (0, 3200), .inl (0, 3200), .inl (0, 3200), .inl (0, 40), .inl (1, 3200), .inl (0, 48160), .inl (0, 301), .inl (0, 301)] : List Shp) ad17 (up2 (up2 (up2 (up2 (up2 (up2 (up2 (up2 (up2 (σ) 17 0 (κ : Int)) 24 0 10) 24 1 400) 24 2 30) 24 4 127) 24 5 34) 24 6 55) 24 7 62) 24 8 69) A s.heap H locs := hW
  replace hzz : hz 35 (up2 (up2 (up2 (up2 (up2 (up2 (up2 (up2 (up2 (σ) 17 0 (κ : Int)) 24 0 10) 24 1 400) 24 2 30) 24 4 127) 24 5 34) 24 6 55) 24 7 62) 24 8 69) := hzz.up (by decide)
  refine lv_iinc (v := iN 3) (lv' := [(2, .int (iN 3)), (0, .ref a17), (1, .int (iN v1))]) hx hb dX10_init_233 hl (k := 0) rfl (by decide) (by decide) rfl (fun ls hl => ?_)
  refine lv_goto (tgt := 212) hx hb dX10_init_236 (by decide) ?_
  refine lv_iload_n hx hb dX10_init_212 rfl (lv_at hl 0 rfl) ?_
  refine n_iconst hx hb dX10_init_213 ?_
  refine n_icmp_ge hx hb (rg_c _ rfl) (rg_c _ rfl) (X := False) (Y := True) (fun h => absurd h (by decide)) (fun h => trivial) (tgt := 239) dX10_init_214 (by decide) (fun h => h.elim) (fun h => ?_)
  refine lv_aload_n hx hb dX10_init_217 rfl (lv_at hl 1 rfl) ?_
  refine k_getr hx hb hts hown hK hW 17 h17 h24 rfl rfl uw_X10 8 (by decide) rfl al_771 (fun _ h9 => h9) dX10_init_218 ?_
  refine n_bipush hx hb dX10_init_221 (by decide) ?_
  refine lv_iload_n hx hb dX10_init_223 rfl (lv_at hl 0 rfl) ?_
  refine n_iadd hx hb dX10_init_224 ?_
  refine n_bipush hx hb dX10_init_225 (by decide) ?_
  refine n_bipush hx hb dX10_init_227 (by decide) ?_
  refine lv_iload_n hx hb dX10_init_229 rfl (lv_at hl 0 rfl) ?_
  refine n_imul hx hb dX10_init_230 ?_
  refine n_iadd hx hb dX10_init_231 ?_
  refine k_ast hx hb hK hW 24 h24 rfl (by exact inb_c _ _ rfl) dX10_init_232 (fun H locs hW => ?_)
  replace hW : Wd G ([.inr (8, [0, 4, 17, 1]), .inr (ciK κ, [5, 0, 13, 14, 15, 16, 0]), .inr (1, [6, 7, 8, 9, 10, 11, 12, 0]), .inl (0, 10), .inl (0, 40), .inl (0, 40), .inl (0, 40), .inl (0, 40), .inl (0, 40), .inl (0, 120), .inl (0, 40), .inl (0, 40 * wd κ), .inl (0, 40 * wd κ), .inl (0, 40 * wd κ), .inr (2, [0, 19, 18, 0, 0, 0]), .inl (0, 40), .inl (0, 40 * wd κ), .inr (9, [0, 0, 21, 22, 23, 24, 25, 26, 27, 0, 28, 29, 30, 31, 32, 33, 34, 35, 36, 37]), .inl (0, 40), .inl (0, 40), .inl (0, 40), .inl (0, 40), .inl (0, 120), .inl (0, 40), .inl (0, 10), .inl (0, 40), .inl (0, 3200), .inl (0, 3200), .inl (0, 3200), .inl (0, 3200), .inl (0, 40), .inl (1, 3200), .inl (0, 48160), .inl (0, 301), .inl (0, 301)] : List Shp) ad17 (up2 (up2 (up2 (up2 (up2 (up2 (up2 (up2 (up2 (up2 (σ) 17 0 (κ : Int)) 24 0 10) 24 1 400) 24 2 30) 24 4 127) 24 5 34) 24 6 55) 24 7 62) 24 8 69) 24 9 76) A s.heap H locs := hW
  replace hzz : hz 35 (up2 (up2 (up2 (up2 (up2 (up2 (up2 (up2 (up2 (up2 (σ) 17 0 (κ : Int)) 24 0 10) 24 1 400) 24 2 30) 24 4 127) 24 5 34) 24 6 55) 24 7 62) 24 8 69) 24 9 76) := hzz.up (by decide)
  refine lv_iinc (v := iN 4) (lv' := [(2, .int (iN 4)), (0, .ref a17), (1, .int (iN v1))]) hx hb dX10_init_233 hl (k := 0) rfl (by decide) (by decide) rfl (fun ls hl => ?_)
  refine lv_goto (tgt := 212) hx hb dX10_init_236 (by decide) ?_
  refine lv_iload_n hx hb dX10_init_212 rfl (lv_at hl 0 rfl) ?_
  refine n_iconst hx hb dX10_init_213 ?_
  refine n_icmp_ge hx hb (rg_c _ rfl) (rg_c _ rfl) (X := True) (Y := False) (fun h => trivial) (fun h => absurd h (by decide)) (tgt := 239) dX10_init_214 (by decide) (fun h => ?_) (fun h => h.elim)
  refine W.widen (k := 17) (n := 65172) (by show 0 + 1 + 1 + 1 + 1 + 1 + 1 + 1 + 1 + 1 + 1 + 1 + 1 + 1 + 1 + 1 + 1 + 1 ≤ 17; omega) (by show 0 + 40 + 40 + 40 + 40 + 120 + 40 + 10 + 40 + 3200 + 3200 + 3200 + 3200 + 40 + 3200 + 48160 + 301 + 301 ≤ 65172; omega) ?_
  exact r_CN (sz := 0) hx hb hr hlk hK hW had dX10_init_239
theorem c_X7_init (l : Launch) (G : Gt) (κ : Nat) (hκ : κ < 5) (ad : Nat → Nat) (σ : Mem) (a35 : Nat) (h35 : ad 35 = a35) (v1 : Int) (hv1 : v1 = ((wd κ : Nat) : Int)) (hzz : hz 36 σ) : CN l yX7_init (Cond.code yX7_init cX7_init 2 none) ({ frames := 1, cells := 5, slots := 903 + 602 * wd κ, locals := 30 } : Room) G ([.inr (8, [0, 4, 17, 1]), .inr (ciK κ, [5, 0, 13, 14, 15, 16, 0]), .inr (1, [6, 7, 8, 9, 10, 11, 12, 0]), .inl (0, 10), .inl (0, 40), .inl (0, 40), .inl (0, 40), .inl (0, 40), .inl (0, 40), .inl (0, 120), .inl (0, 40), .inl (0, 40 * wd κ), .inl (0, 40 * wd κ), .inl (0, 40 * wd κ), .inr (2, [0, 19, 18, 0, 0, 0]), .inl (0, 40), .inl (0, 40 * wd κ), .inr (9, [0, 0, 21, 22, 23, 24, 25, 26, 27, 0, 28, 29, 30, 31, 32, 33, 34, 35, 36, 37]), .inl (0, 40), .inl (0, 40), .inl (0, 40), .inl (0, 40), .inl (0, 120), .inl (0, 40), .inl (0, 10), .inl (0, 40), .inl (0, 3200), .inl (0, 3200), .inl (0, 3200), .inl (0, 3200), .inl (0, 40), .inl (1, 3200), .inl (0, 48160), .inl (0, 301), .inl (0, 301), .inr (6, [1, 1, 1, 1, 1, 0])] : List Shp) ([.inr (8, [0, 4, 17, 1]), .inr (ciK κ, [5, 0, 13, 14, 15, 16, 0]), .inr (1, [6, 7, 8, 9, 10, 11, 12, 0]), .inl (0, 10), .inl (0, 40), .inl (0, 40), .inl (0, 40), .inl (0, 40), .inl (0, 40), .inl (0, 120), .inl (0, 40), .inl (0, 40 * wd κ), .inl (0, 40 * wd κ), .inl (0, 40 * wd κ), .inr (2, [0, 19, 18, 0, 0, 0]), .inl (0, 40), .inl (0, 40 * wd κ), .inr (9, [0, 0, 21, 22, 23, 24, 25, 26, 27, 0, 28, 29, 30, 31, 32, 33, 34, 35, 36, 37]), .inl (0, 40), .inl (0, 40), .inl (0, 40), .inl (0, 40), .inl (0, 120), .inl (0, 40), .inl (0, 10), .inl (0, 40), .inl (0, 3200), .inl (0, 3200), .inl (0, 3200), .inl (0, 3200), .inl (0, 40), .inl (1, 3200), .inl (0, 48160), .inl (0, 301), .inl (0, 301), .inr (6, [2, 2, 2, 2, 41, 0]), .inl (0, 301), .inl (0, 301), .inl (0, 301), .inl (0, wd κ * 301), .inl (0, wd κ * 301)] : List Shp) ad σ (up2 (up2 (up2 (up2 (up2 (σ) 35 5 (-1)) 35 0 39) 35 1 40) 35 2 36) 35 3 37) [.ref a35, .int (iN v1)] 5 (903 + 602 * wd κ) := by
  have hwd : 1 ≤ wd κ ∧ wd κ ≤ 80 := wdle κ
  refine s_allN (G := G) (sh := [.inr (8, [0, 4, 17, 1]), .inr (ciK κ, [5, 0, 13, 14, 15, 16, 0]), .inr (1, [6, 7, 8, 9, 10, 11, 12, 0]), .inl (0, 10), .inl (0, 40), .inl (0, 40), .inl (0, 40), .inl (0, 40), .inl (0, 40), .inl (0, 120), .inl (0, 40), .inl (0, 40 * wd κ), .inl (0, 40 * wd κ), .inl (0, 40 * wd κ), .inr (2, [0, 19, 18, 0, 0, 0]), .inl (0, 40), .inl (0, 40 * wd κ), .inr (9, [0, 0, 21, 22, 23, 24, 25, 26, 27, 0, 28, 29, 30, 31, 32, 33, 34, 35, 36, 37]), .inl (0, 40), .inl (0, 40), .inl (0, 40), .inl (0, 40), .inl (0, 120), .inl (0, 40), .inl (0, 10), .inl (0, 40), .inl (0, 3200), .inl (0, 3200), .inl (0, 3200), .inl (0, 3200), .inl (0, 40), .inl (1, 3200), .inl (0, 48160), .inl (0, 301), .inl (0, 301), .inr (6, [1, 1, 1, 1, 1, 0])]) (ad := ad) (σ := σ) (y := yX7_init) (code := cX7_init) (maxL := 2) (ret := none) (rm := ({ frames := 1, cells := 5, slots := 903 + 602 * wd κ, locals := 30 } : Room)) (av := [.ref a35, .int (iN v1)]) (mc := 5) (ms := 903 + 602 * wd κ) (Qc := fun sz => QN G 36 ([.inr (8, [0, 4, 17, 1]), .inr (ciK κ, [5, 0, 13, 14, 15, 16, 0]), .inr (1, [6, 7, 8, 9, 10, 11, 12, 0]), .inl (0, 10), .inl (0, 40), .inl (0, 40), .inl (0, 40), .inl (0, 40), .inl (0, 40), .inl (0, 120), .inl (0, 40), .inl (0, 40 * wd κ), .inl (0, 40 * wd κ), .inl (0, 40 * wd κ), .inr (2, [0, 19, 18, 0, 0, 0]), .inl (0, 40), .inl (0, 40 * wd κ), .inr (9, [0, 0, 21, 22, 23, 24, 25, 26, 27, 0, 28, 29, 30, 31, 32, 33, 34, 35, 36, 37]), .inl (0, 40), .inl (0, 40), .inl (0, 40), .inl (0, 40), .inl (0, 120), .inl (0, 40), .inl (0, 10), .inl (0, 40), .inl (0, 3200), .inl (0, 3200), .inl (0, 3200), .inl (0, 3200), .inl (0, 40), .inl (1, 3200), .inl (0, 48160), .inl (0, 301), .inl (0, 301), .inr (6, [2, 2, 2, 2, 41, 0]), .inl (0, 301), .inl (0, 301), .inl (0, 301), .inl (0, wd κ * 301), .inl (0, wd κ * 301)] : List Shp) ad (up2 (up2 (up2 (up2 (up2 (σ) 35 5 (-1)) 35 0 39) 35 1 40) 35 2 36) 35 3 37) (Aw ad 36 sz)) (by decide) (Nat.le_of_ble_eq_true rfl) ?_
  intro p e s m below meth c S hr hlk hin hK hE hW ls hl
  replace hin := hin rfl
  obtain ⟨hx, hb, hml, hown, hts⟩ := id S
  replace hl : lv_has ls 2 [(0, .ref a35), (1, .int (iN v1))] := hl
  have hA : ∀ q : Nat, s.heap.size ≤ q → Aw ad 36 s.heap.size q := Aw_new
  have had : ∀ i, i < 36 → ad i = ad i := fun _ _ => rfl
  change Ex (Aw ad 36 s.heap.size) s at hE
  change Wd G ([.inr (8, [0, 4, 17, 1]), .inr (ciK κ, [5, 0, 13, 14, 15, 16, 0]), .inr (1, [6, 7, 8, 9, 10, 11, 12, 0]), .inl (0, 10), .inl (0, 40), .inl (0, 40), .inl (0, 40), .inl (0, 40), .inl (0, 40), .inl (0, 120), .inl (0, 40), .inl (0, 40 * wd κ), .inl (0, 40 * wd κ), .inl (0, 40 * wd κ), .inr (2, [0, 19, 18, 0, 0, 0]), .inl (0, 40), .inl (0, 40 * wd κ), .inr (9, [0, 0, 21, 22, 23, 24, 25, 26, 27, 0, 28, 29, 30, 31, 32, 33, 34, 35, 36, 37]), .inl (0, 40), .inl (0, 40), .inl (0, 40), .inl (0, 40), .inl (0, 120), .inl (0, 40), .inl (0, 10), .inl (0, 40), .inl (0, 3200), .inl (0, 3200), .inl (0, 3200), .inl (0, 3200), .inl (0, 40), .inl (1, 3200), .inl (0, 48160), .inl (0, 301), .inl (0, 301), .inr (6, [1, 1, 1, 1, 1, 0])] : List Shp) ad σ (Aw ad 36 s.heap.size) s.heap s.heap [] at hW
  change W p l e _ s m _ below meth c s.heap [] 0 0 (MQ below (QN G 36 ([.inr (8, [0, 4, 17, 1]), .inr (ciK κ, [5, 0, 13, 14, 15, 16, 0]), .inr (1, [6, 7, 8, 9, 10, 11, 12, 0]), .inl (0, 10), .inl (0, 40), .inl (0, 40), .inl (0, 40), .inl (0, 40), .inl (0, 40), .inl (0, 120), .inl (0, 40), .inl (0, 40 * wd κ), .inl (0, 40 * wd κ), .inl (0, 40 * wd κ), .inr (2, [0, 19, 18, 0, 0, 0]), .inl (0, 40), .inl (0, 40 * wd κ), .inr (9, [0, 0, 21, 22, 23, 24, 25, 26, 27, 0, 28, 29, 30, 31, 32, 33, 34, 35, 36, 37]), .inl (0, 40), .inl (0, 40), .inl (0, 40), .inl (0, 40), .inl (0, 120), .inl (0, 40), .inl (0, 10), .inl (0, 40), .inl (0, 3200), .inl (0, 3200), .inl (0, 3200), .inl (0, 3200), .inl (0, 40), .inl (1, 3200), .inl (0, 48160), .inl (0, 301), .inl (0, 301), .inr (6, [2, 2, 2, 2, 41, 0]), .inl (0, 301), .inl (0, 301), .inl (0, 301), .inl (0, wd κ * 301), .inl (0, wd κ * 301)] : List Shp) ad (up2 (up2 (up2 (up2 (up2 (σ) 35 5 (-1)) 35 0 39) 35 1 40) 35 2 36) 35 3 37) (Aw ad 36 s.heap.size)) _ s 5 (903 + 602 * wd κ) (Aw ad 36 s.heap.size)) _
  generalize Aw ad 36 s.heap.size = A at *
  refine lv_aload_n hx hb dX7_init_0 rfl (lv_at hl 0 rfl) ?_
  refine W.objInit hx hb hown (hts _ (List.mem_cons_of_mem _ al_645)) (hts _ (List.mem_cons_of_mem _ al_21)) (hts _ (List.mem_cons_of_mem _ al_22)) rfl (by rw [hml]; exact hl.1) rfl dX7_init_1 (Nat.le_of_ble_eq_true rfl) (Nat.le_of_ble_eq_true rfl) ?_
  refine lv_aload_n hx hb dX7_init_4 rfl (lv_at hl 0 rfl) ?_
  refine n_sipush hx hb dX7_init_5 (by decide) ?_
  refine k_newa (n := 36) (t := 0) (x := 301) (ty := .int) hx hb hts hK hW hA rfl hzz rfl (by decide) rfl al_76 (301) rfl (rg_c _ rfl) (by decide) (by show 0 + 1 ≤ 5; omega) (by show 0 + 301 ≤ 903 + 602 * wd κ; omega) dX7_init_8 (fun ad1 a36 H ha h36 hW => ?_)
  replace h35 := (ha 35 (by decide)).trans h35
  replace had := fun i (hi : i < 36) => (ha i (by omega)).trans (had i hi)
  clear ha
  replace hW : Wd G ([.inr (8, [0, 4, 17, 1]), .inr (ciK κ, [5, 0, 13, 14, 15, 16, 0]), .inr (1, [6, 7, 8, 9, 10, 11, 12, 0]), .inl (0, 10), .inl (0, 40), .inl (0, 40), .inl (0, 40), .inl (0, 40), .inl (0, 40), .inl (0, 120), .inl (0, 40), .inl (0, 40 * wd κ), .inl (0, 40 * wd κ), .inl (0, 40 * wd κ), .inr (2, [0, 19, 18, 0, 0, 0]), .inl (0, 40), .inl (0, 40 * wd κ), .inr (9, [0, 0, 21, 22, 23, 24, 25, 26, 27, 0, 28, 29, 30, 31, 32, 33, 34, 35, 36, 37]), .inl (0, 40), .inl (0, 40), .inl (0, 40), .inl (0, 40), .inl (0, 120), .inl (0, 40), .inl (0, 10), .inl (0, 40), .inl (0, 3200), .inl (0, 3200), .inl (0, 3200), .inl (0, 3200), .inl (0, 40), .inl (1, 3200), .inl (0, 48160), .inl (0, 301), .inl (0, 301), .inr (6, [1, 1, 1, 1, 1, 0]), .inl (0, 301)] : List Shp) ad1 (σ) A s.heap H [] := hW
  replace hzz := hzz.mono (m := 37) (by decide)
  refine k_putr hx hb hts hown hK hW 35 h35 36 h36 rfl rfl uw_X7 tyX7 tyX7_ok nmX7 2 (by decide) (by decide) al_649 (fun _ h9 => h9) (Or.inl rfl) rfl rfl dX7_init_10 (fun H locs hW => ?_)
  replace hW : Wd G ([.inr (8, [0, 4, 17, 1]), .inr (ciK κ, [5, 0, 13, 14, 15, 16, 0]), .inr (1, [6, 7, 8, 9, 10, 11, 12, 0]), .inl (0, 10), .inl (0, 40), .inl (0, 40), .inl (0, 40), .inl (0, 40), .inl (0, 40), .inl (0, 120), .inl (0, 40), .inl (0, 40 * wd κ), .inl (0, 40 * wd κ), .inl (0, 40 * wd κ), .inr (2, [0, 19, 18, 0, 0, 0]), .inl (0, 40), .inl (0, 40 * wd κ), .inr (9, [0, 0, 21, 22, 23, 24, 25, 26, 27, 0, 28, 29, 30, 31, 32, 33, 34, 35, 36, 37]), .inl (0, 40), .inl (0, 40), .inl (0, 40), .inl (0, 40), .inl (0, 120), .inl (0, 40), .inl (0, 10), .inl (0, 40), .inl (0, 3200), .inl (0, 3200), .inl (0, 3200), .inl (0, 3200), .inl (0, 40), .inl (1, 3200), .inl (0, 48160), .inl (0, 301), .inl (0, 301), .inr (6, [1, 1, 39, 1, 1, 0]), .inl (0, 301)] : List Shp) ad1 (σ) A s.heap H locs := hW
  refine lv_aload_n hx hb dX7_init_13 rfl (lv_at hl 0 rfl) ?_
  refine n_sipush hx hb dX7_init_14 (by decide) ?_
  refine k_newa (n := 37) (t := 0) (x := 301) (ty := .int) hx hb hts hK hW hA rfl hzz rfl (by decide) rfl al_76 (301) rfl (rg_c _ rfl) (by decide) (by show 0 + 1 + 1 ≤ 5; omega) (by show 0 + 301 + 301 ≤ 903 + 602 * wd κ; omega) dX7_init_17 (fun ad2 a37 H ha h37 hW => ?_)
  replace h35 := (ha 35 (by decide)).trans h35
  replace h36 := (ha 36 (by decide)).trans h36
  replace had := fun i (hi : i < 36) => (ha i (by omega)).trans (had i hi)
  clear ha
  replace hW : Wd G ([.inr (8, [0, 4, 17, 1]), .inr (ciK κ, [5, 0, 13, 14, 15, 16, 0]), .inr (1, [6, 7, 8, 9, 10, 11, 12, 0]), .inl (0, 10), .inl (0, 40), .inl (0, 40), .inl (0, 40), .inl (0, 40), .inl (0, 40), .inl (0, 120), .inl (0, 40), .inl (0, 40 * wd κ), .inl (0, 40 * wd κ), .inl (0, 40 * wd κ), .inr (2, [0, 19, 18, 0, 0, 0]), .inl (0, 40), .inl (0, 40 * wd κ), .inr (9, [0, 0, 21, 22, 23, 24, 25, 26, 27, 0, 28, 29, 30, 31, 32, 33, 34, 35, 36, 37]), .inl (0, 40), .inl (0, 40), .inl (0, 40), .inl (0, 40), .inl (0, 120), .inl (0, 40), .inl (0, 10), .inl (0, 40), .inl (0, 3200), .inl (0, 3200), .inl (0, 3200), .inl (0, 3200), .inl (0, 40), .inl (1, 3200), .inl (0, 48160), .inl (0, 301), .inl (0, 301), .inr (6, [1, 1, 39, 1, 1, 0]), .inl (0, 301), .inl (0, 301)] : List Shp) ad2 (σ) A s.heap H locs := hW
  replace hzz := hzz.mono (m := 38) (by decide)
  refine k_putr hx hb hts hown hK hW 35 h35 37 h37 rfl rfl uw_X7 tyX7 tyX7_ok nmX7 3 (by decide) (by decide) al_650 (fun _ h9 => h9) (Or.inl rfl) rfl rfl dX7_init_19 (fun H locs hW => ?_)
  replace hW : Wd G ([.inr (8, [0, 4, 17, 1]), .inr (ciK κ, [5, 0, 13, 14, 15, 16, 0]), .inr (1, [6, 7, 8, 9, 10, 11, 12, 0]), .inl (0, 10), .inl (0, 40), .inl (0, 40), .inl (0, 40), .inl (0, 40), .inl (0, 40), .inl (0, 120), .inl (0, 40), .inl (0, 40 * wd κ), .inl (0, 40 * wd κ), .inl (0, 40 * wd κ), .inr (2, [0, 19, 18, 0, 0, 0]), .inl (0, 40), .inl (0, 40 * wd κ), .inr (9, [0, 0, 21, 22, 23, 24, 25, 26, 27, 0, 28, 29, 30, 31, 32, 33, 34, 35, 36, 37]), .inl (0, 40), .inl (0, 40), .inl (0, 40), .inl (0, 40), .inl (0, 120), .inl (0, 40), .inl (0, 10), .inl (0, 40), .inl (0, 3200), .inl (0, 3200), .inl (0, 3200), .inl (0, 3200), .inl (0, 40), .inl (1, 3200), .inl (0, 48160), .inl (0, 301), .inl (0, 301), .inr (6, [1, 1, 39, 40, 1, 0]), .inl (0, 301), .inl (0, 301)] : List Shp) ad2 (σ) A s.heap H locs := hW
  refine lv_aload_n hx hb dX7_init_22 rfl (lv_at hl 0 rfl) ?_
  refine n_sipush hx hb dX7_init_23 (by decide) ?_
  refine k_newa (n := 38) (t := 0) (x := 301) (ty := .int) hx hb hts hK hW hA rfl hzz rfl (by decide) rfl al_76 (301) rfl (rg_c _ rfl) (by decide) (by show 0 + 1 + 1 + 1 ≤ 5; omega) (by show 0 + 301 + 301 + 301 ≤ 903 + 602 * wd κ; omega) dX7_init_26 (fun ad3 a38 H ha h38 hW => ?_)
  replace h35 := (ha 35 (by decide)).trans h35
  replace h36 := (ha 36 (by decide)).trans h36
  replace h37 := (ha 37 (by decide)).trans h37
  replace had := fun i (hi : i < 36) => (ha i (by omega)).trans (had i hi)
  clear ha
  replace hW : Wd G ([.inr (8, [0, 4, 17, 1]), .inr (ciK κ, [5, 0, 13, 14, 15, 16, 0]), .inr (1, [6, 7, 8, 9, 10, 11, 12, 0]), .inl (0, 10), .inl (0, 40), .inl (0, 40), .inl (0, 40), .inl (0, 40), .inl (0, 40), .inl (0, 120), .inl (0, 40), .inl (0, 40 * wd κ), .inl (0, 40 * wd κ), .inl (0, 40 * wd κ), .inr (2, [0, 19, 18, 0, 0, 0]), .inl (0, 40), .inl (0, 40 * wd κ), .inr (9, [0, 0, 21, 22, 23, 24, 25, 26, 27, 0, 28, 29, 30, 31, 32, 33, 34, 35, 36, 37]), .inl (0, 40), .inl (0, 40), .inl (0, 40), .inl (0, 40), .inl (0, 120), .inl (0, 40), .inl (0, 10), .inl (0, 40), .inl (0, 3200), .inl (0, 3200), .inl (0, 3200), .inl (0, 3200), .inl (0, 40), .inl (1, 3200), .inl (0, 48160), .inl (0, 301), .inl (0, 301), .inr (6, [1, 1, 39, 40, 1, 0]), .inl (0, 301), .inl (0, 301), .inl (0, 301)] : List Shp) ad3 (σ) A s.heap H locs := hW
  replace hzz := hzz.mono (m := 39) (by decide)
  refine k_putr hx hb hts hown hK hW 35 h35 38 h38 rfl rfl uw_X7 tyX7 tyX7_ok nmX7 4 (by decide) (by decide) al_651 (fun _ h9 => h9) (Or.inr ⟨rfl, hin, rfl⟩) rfl rfl dX7_init_28 (fun H locs hW => ?_)
  replace hW : Wd G ([.inr (8, [0, 4, 17, 1]), .inr (ciK κ, [5, 0, 13, 14, 15, 16, 0]), .inr (1, [6, 7, 8, 9, 10, 11, 12, 0]), .inl (0, 10), .inl (0, 40), .inl (0, 40), .inl (0, 40), .inl (0, 40), .inl (0, 40), .inl (0, 120), .inl (0, 40), .inl (0, 40 * wd κ), .inl (0, 40 * wd κ), .inl (0, 40 * wd κ), .inr (2, [0, 19, 18, 0, 0, 0]), .inl (0, 40), .inl (0, 40 * wd κ), .inr (9, [0, 0, 21, 22, 23, 24, 25, 26, 27, 0, 28, 29, 30, 31, 32, 33, 34, 35, 36, 37]), .inl (0, 40), .inl (0, 40), .inl (0, 40), .inl (0, 40), .inl (0, 120), .inl (0, 40), .inl (0, 10), .inl (0, 40), .inl (0, 3200), .inl (0, 3200), .inl (0, 3200), .inl (0, 3200), .inl (0, 40), .inl (1, 3200), .inl (0, 48160), .inl (0, 301), .inl (0, 301), .inr (6, [1, 1, 39, 40, 41, 0]), .inl (0, 301), .inl (0, 301), .inl (0, 301)] : List Shp) ad3 (σ) A s.heap H locs := hW
  refine lv_aload_n hx hb dX7_init_31 rfl (lv_at hl 0 rfl) ?_
  refine n_iconst hx hb dX7_init_32 ?_
  refine k_put hx hb hts hown hK hW 35 h35 rfl rfl uw_X7 tyX7 tyX7_ok nmX7 5 (by decide) rfl al_652 (fun _ h9 => h9) (Or.inl rfl) rfl rfl dX7_init_33 (fun H locs hW => ?_)
  replace hW : Wd G ([.inr (8, [0, 4, 17, 1]), .inr (ciK κ, [5, 0, 13, 14, 15, 16, 0]), .inr (1, [6, 7, 8, 9, 10, 11, 12, 0]), .inl (0, 10), .inl (0, 40), .inl (0, 40), .inl (0, 40), .inl (0, 40), .inl (0, 40), .inl (0, 120), .inl (0, 40), .inl (0, 40 * wd κ), .inl (0, 40 * wd κ), .inl (0, 40 * wd κ), .inr (2, [0, 19, 18, 0, 0, 0]), .inl (0, 40), .inl (0, 40 * wd κ), .inr (9, [0, 0, 21, 22, 23, 24, 25, 26, 27, 0, 28, 29, 30, 31, 32, 33, 34, 35, 36, 37]), .inl (0, 40), .inl (0, 40), .inl (0, 40), .inl (0, 40), .inl (0, 120), .inl (0, 40), .inl (0, 10), .inl (0, 40), .inl (0, 3200), .inl (0, 3200), .inl (0, 3200), .inl (0, 3200), .inl (0, 40), .inl (1, 3200), .inl (0, 48160), .inl (0, 301), .inl (0, 301), .inr (6, [1, 1, 39, 40, 41, 0]), .inl (0, 301), .inl (0, 301), .inl (0, 301)] : List Shp) ad3 (up2 (σ) 35 5 (-1)) A s.heap H locs := hW
  replace hzz : hz 39 (up2 (σ) 35 5 (-1)) := hzz.up (by decide)
  refine lv_aload_n hx hb dX7_init_36 rfl (lv_at hl 0 rfl) ?_
  refine n_iconst hx hb dX7_init_37 ?_
  refine lv_iload_n hx hb dX7_init_38 rfl (lv_at hl 1 rfl) ?_
  refine n_mmax hx hb (hml.trans hl.1.symm) hown (hts _ (List.mem_cons_of_mem _ al_646)) (hts _ (List.mem_cons_of_mem _ al_27)) (hts _ (List.mem_cons_of_mem _ al_2)) (hts _ (List.mem_cons_of_mem _ al_28)) (Nat.le_of_ble_eq_true rfl) (Nat.le_of_ble_eq_true rfl) (by show 0 + 1 + 1 + 1 + 0 ≤ 5; omega) (by show 0 + 301 + 301 + 301 + 0 ≤ 903 + 602 * wd κ; omega) (rg_c _ rfl) (by simp only [rg]; omega) dX7_init_39 ?_
  rw [show max 1 v1 = ((wd κ : Nat) : Int) by omega]
  refine n_sipush hx hb dX7_init_42 (by decide) ?_
  refine n_imul hx hb dX7_init_45 ?_
  refine k_newa (n := 39) (t := 0) (x := (((wd κ : Nat) : Int) * 301)) (ty := .int) hx hb hts hK hW hA rfl hzz rfl (by decide) rfl al_76 (wd κ * 301) (by omega) (by simp only [rg]; omega) (by omega) (by show 0 + 1 + 1 + 1 + 1 ≤ 5; omega) (by show 0 + 301 + 301 + 301 + wd κ * 301 ≤ 903 + 602 * wd κ; omega) dX7_init_46 (fun ad4 a39 H ha h39 hW => ?_)
  replace h35 := (ha 35 (by decide)).trans h35
  replace h36 := (ha 36 (by decide)).trans h36
  replace h37 := (ha 37 (by decide)).trans h37
  replace h38 := (ha 38 (by decide)).trans h38
  replace had := fun i (hi : i < 36) => (ha i (by omega)).trans (had i hi)
  clear ha
  replace hW : Wd G ([.inr (8, [0, 4, 17, 1]), .inr (ciK κ, [5, 0, 13, 14, 15, 16, 0]), .inr (1, [6, 7, 8, 9, 10, 11, 12, 0]), .inl (0, 10), .inl (0, 40), .inl (0, 40), .inl (0, 40), .inl (0, 40), .inl (0, 40), .inl (0, 120), .inl (0, 40), .inl (0, 40 * wd κ), .inl (0, 40 * wd κ), .inl (0, 40 * wd κ), .inr (2, [0, 19, 18, 0, 0, 0]), .inl (0, 40), .inl (0, 40 * wd κ), .inr (9, [0, 0, 21, 22, 23, 24, 25, 26, 27, 0, 28, 29, 30, 31, 32, 33, 34, 35, 36, 37]), .inl (0, 40), .inl (0, 40), .inl (0, 40), .inl (0, 40), .inl (0, 120), .inl (0, 40), .inl (0, 10), .inl (0, 40), .inl (0, 3200), .inl (0, 3200), .inl (0, 3200), .inl (0, 3200), .inl (0, 40), .inl (1, 3200), .inl (0, 48160), .inl (0, 301), .inl (0, 301), .inr (6, [1, 1, 39, 40, 41, 0]), .inl (0, 301), .inl (0, 301), .inl (0, 301), .inl (0, wd κ * 301)] : List Shp) ad4 (up2 (σ) 35 5 (-1)) A s.heap H locs := hW
  replace hzz := hzz.mono (m := 40) (by decide)
  refine k_putr hx hb hts hown hK hW 35 h35 39 h39 rfl rfl uw_X7 tyX7 tyX7_ok nmX7 0 (by decide) (by decide) al_647 (fun _ h9 => h9) (Or.inl rfl) rfl rfl dX7_init_48 (fun H locs hW => ?_)
  replace hW : Wd G ([.inr (8, [0, 4, 17, 1]), .inr (ciK κ, [5, 0, 13, 14, 15, 16, 0]), .inr (1, [6, 7, 8, 9, 10, 11, 12, 0]), .inl (0, 10), .inl (0, 40), .inl (0, 40), .inl (0, 40), .inl (0, 40), .inl (0, 40), .inl (0, 120), .inl (0, 40), .inl (0, 40 * wd κ), .inl (0, 40 * wd κ), .inl (0, 40 * wd κ), .inr (2, [0, 19, 18, 0, 0, 0]), .inl (0, 40), .inl (0, 40 * wd κ), .inr (9, [0, 0, 21, 22, 23, 24, 25, 26, 27, 0, 28, 29, 30, 31, 32, 33, 34, 35, 36, 37]), .inl (0, 40), .inl (0, 40), .inl (0, 40), .inl (0, 40), .inl (0, 120), .inl (0, 40), .inl (0, 10), .inl (0, 40), .inl (0, 3200), .inl (0, 3200), .inl (0, 3200), .inl (0, 3200), .inl (0, 40), .inl (1, 3200), .inl (0, 48160), .inl (0, 301), .inl (0, 301), .inr (6, [42, 1, 39, 40, 41, 0]), .inl (0, 301), .inl (0, 301), .inl (0, 301), .inl (0, wd κ * 301)] : List Shp) ad4 (up2 (σ) 35 5 (-1)) A s.heap H locs := hW
  refine lv_aload_n hx hb dX7_init_51 rfl (lv_at hl 0 rfl) ?_
  refine n_iconst hx hb dX7_init_52 ?_
  refine lv_iload_n hx hb dX7_init_53 rfl (lv_at hl 1 rfl) ?_
  refine n_mmax hx hb (hml.trans hl.1.symm) hown (hts _ (List.mem_cons_of_mem _ al_646)) (hts _ (List.mem_cons_of_mem _ al_27)) (hts _ (List.mem_cons_of_mem _ al_2)) (hts _ (List.mem_cons_of_mem _ al_28)) (Nat.le_of_ble_eq_true rfl) (Nat.le_of_ble_eq_true rfl) (by show 0 + 1 + 1 + 1 + 1 + 0 ≤ 5; omega) (by show 0 + 301 + 301 + 301 + wd κ * 301 + 0 ≤ 903 + 602 * wd κ; omega) (rg_c _ rfl) (by simp only [rg]; omega) dX7_init_54 ?_
  rw [show max 1 v1 = ((wd κ : Nat) : Int) by omega]
  refine n_sipush hx hb dX7_init_57 (by decide) ?_
  refine n_imul hx hb dX7_init_60 ?_
  refine k_newa (n := 40) (t := 0) (x := (((wd κ : Nat) : Int) * 301)) (ty := .int) hx hb hts hK hW hA rfl hzz rfl (by decide) rfl al_76 (wd κ * 301) (by omega) (by simp only [rg]; omega) (by omega) (by show 0 + 1 + 1 + 1 + 1 + 1 ≤ 5; omega) (by show 0 + 301 + 301 + 301 + wd κ * 301 + wd κ * 301 ≤ 903 + 602 * wd κ; omega) dX7_init_61 (fun ad5 a40 H ha h40 hW => ?_)
  replace h35 := (ha 35 (by decide)).trans h35
  replace h36 := (ha 36 (by decide)).trans h36
  replace h37 := (ha 37 (by decide)).trans h37
  replace h38 := (ha 38 (by decide)).trans h38
  replace h39 := (ha 39 (by decide)).trans h39
  replace had := fun i (hi : i < 36) => (ha i (by omega)).trans (had i hi)
  clear ha
  replace hW : Wd G ([.inr (8, [0, 4, 17, 1]), .inr (ciK κ, [5, 0, 13, 14, 15, 16, 0]), .inr (1, [6, 7, 8, 9, 10, 11, 12, 0]), .inl (0, 10), .inl (0, 40), .inl (0, 40), .inl (0, 40), .inl (0, 40), .inl (0, 40), .inl (0, 120), .inl (0, 40), .inl (0, 40 * wd κ), .inl (0, 40 * wd κ), .inl (0, 40 * wd κ), .inr (2, [0, 19, 18, 0, 0, 0]), .inl (0, 40), .inl (0, 40 * wd κ), .inr (9, [0, 0, 21, 22, 23, 24, 25, 26, 27, 0, 28, 29, 30, 31, 32, 33, 34, 35, 36, 37]), .inl (0, 40), .inl (0, 40), .inl (0, 40), .inl (0, 40), .inl (0, 120), .inl (0, 40), .inl (0, 10), .inl (0, 40), .inl (0, 3200), .inl (0, 3200), .inl (0, 3200), .inl (0, 3200), .inl (0, 40), .inl (1, 3200), .inl (0, 48160), .inl (0, 301), .inl (0, 301), .inr (6, [42, 1, 39, 40, 41, 0]), .inl (0, 301), .inl (0, 301), .inl (0, 301), .inl (0, wd κ * 301), .inl (0, wd κ * 301)] : List Shp) ad5 (up2 (σ) 35 5 (-1)) A s.heap H locs := hW
  replace hzz := hzz.mono (m := 41) (by decide)
  refine k_putr hx hb hts hown hK hW 35 h35 40 h40 rfl rfl uw_X7 tyX7 tyX7_ok nmX7 1 (by decide) (by decide) al_648 (fun _ h9 => h9) (Or.inl rfl) rfl rfl dX7_init_63 (fun H locs hW => ?_)
  replace hW : Wd G ([.inr (8, [0, 4, 17, 1]), .inr (ciK κ, [5, 0, 13, 14, 15, 16, 0]), .inr (1, [6, 7, 8, 9, 10, 11, 12, 0]), .inl (0, 10), .inl (0, 40), .inl (0, 40), .inl (0, 40), .inl (0, 40), .inl (0, 40), .inl (0, 120), .inl (0, 40), .inl (0, 40 * wd κ), .inl (0, 40 * wd κ), .inl (0, 40 * wd κ), .inr (2, [0, 19, 18, 0, 0, 0]), .inl (0, 40), .inl (0, 40 * wd κ), .inr (9, [0, 0, 21, 22, 23, 24, 25, 26, 27, 0, 28, 29, 30, 31, 32, 33, 34, 35, 36, 37]), .inl (0, 40), .inl (0, 40), .inl (0, 40), .inl (0, 40), .inl (0, 120), .inl (0, 40), .inl (0, 10), .inl (0, 40), .inl (0, 3200), .inl (0, 3200), .inl (0, 3200), .inl (0, 3200), .inl (0, 40), .inl (1, 3200), .inl (0, 48160), .inl (0, 301), .inl (0, 301), .inr (6, [42, 43, 39, 40, 41, 0]), .inl (0, 301), .inl (0, 301), .inl (0, 301), .inl (0, wd κ * 301), .inl (0, wd κ * 301)] : List Shp) ad5 (up2 (σ) 35 5 (-1)) A s.heap H locs := hW
  replace hW := Wd.to2 (q := 39) hW 35 (j := 0) rfl rfl
  replace hW := Wd.to2 (q := 40) hW 35 (j := 1) rfl rfl
  replace hW := Wd.to2 (q := 36) hW 35 (j := 2) rfl rfl
  replace hW := Wd.to2 (q := 37) hW 35 (j := 3) rfl rfl
  replace hW : Wd G ([.inr (8, [0, 4, 17, 1]), .inr (ciK κ, [5, 0, 13, 14, 15, 16, 0]), .inr (1, [6, 7, 8, 9, 10, 11, 12, 0]), .inl (0, 10), .inl (0, 40), .inl (0, 40), .inl (0, 40), .inl (0, 40), .inl (0, 40), .inl (0, 120), .inl (0, 40), .inl (0, 40 * wd κ), .inl (0, 40 * wd κ), .inl (0, 40 * wd κ), .inr (2, [0, 19, 18, 0, 0, 0]), .inl (0, 40), .inl (0, 40 * wd κ), .inr (9, [0, 0, 21, 22, 23, 24, 25, 26, 27, 0, 28, 29, 30, 31, 32, 33, 34, 35, 36, 37]), .inl (0, 40), .inl (0, 40), .inl (0, 40), .inl (0, 40), .inl (0, 120), .inl (0, 40), .inl (0, 10), .inl (0, 40), .inl (0, 3200), .inl (0, 3200), .inl (0, 3200), .inl (0, 3200), .inl (0, 40), .inl (1, 3200), .inl (0, 48160), .inl (0, 301), .inl (0, 301), .inr (6, [2, 2, 2, 2, 41, 0]), .inl (0, 301), .inl (0, 301), .inl (0, 301), .inl (0, wd κ * 301), .inl (0, wd κ * 301)] : List Shp) ad5 (up2 (up2 (up2 (up2 (up2 (σ) 35 5 (-1)) 35 0 39) 35 1 40) 35 2 36) 35 3 37) A s.heap H locs := hW
  refine W.widen (k := 5) (n := 903 + 602 * wd κ) (by show 0 + 1 + 1 + 1 + 1 + 1 ≤ 5; omega) (by show 0 + 301 + 301 + 301 + wd κ * 301 + wd κ * 301 ≤ 903 + 602 * wd κ; omega) ?_
  exact r_CN (sz := 0) hx hb hr hlk hK hW had dX7_init_66
