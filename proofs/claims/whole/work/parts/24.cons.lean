theorem wdle (κ : Nat) : 1 ≤ wd κ ∧ wd κ ≤ 80 := by
  unfold wd
  split <;> decide
theorem c_X1_init (l : Launch) (G : Gt) (κ : Nat) (hκ : κ < 5) (ad : Nat → Nat) (σ : Mem) (a2 : Nat) (h2 : ad 2 = a2) (hzz : hz 3 σ) : CN l yX1_init (Cond.code yX1_init cX1_init 1 none) ({ frames := 1, cells := 7, slots := 330, locals := 24 } : Room) G ([.inr (8, [0, 1, 1, 1]), .inr (ciK κ, [1, 0, 1, 1, 1, 1, 0]), .inr (1, [1, 1, 1, 1, 1, 1, 1, 0])] : List Shp) ([.inr (8, [0, 1, 1, 1]), .inr (ciK κ, [1, 0, 1, 1, 1, 1, 0]), .inr (1, [6, 7, 8, 9, 10, 11, 12, 0]), .inl (0, 10), .inl (0, 40), .inl (0, 40), .inl (0, 40), .inl (0, 40), .inl (0, 40), .inl (0, 120)] : List Shp) ad σ (up2 (up2 (up2 (up2 (up2 (up2 (up2 (up2 (up2 (up2 (up2 (σ) 3 0 10) 3 1 400) 3 2 30) 3 3 0) 3 4 127) 3 5 34) 3 6 55) 3 7 62) 3 8 69) 3 9 76) 2 7 0) [.ref a2] 7 (330) := by
  have hwd : 1 ≤ wd κ ∧ wd κ ≤ 80 := wdle κ
  refine s_allN (G := G) (sh := [.inr (8, [0, 1, 1, 1]), .inr (ciK κ, [1, 0, 1, 1, 1, 1, 0]), .inr (1, [1, 1, 1, 1, 1, 1, 1, 0])]) (ad := ad) (σ := σ) (y := yX1_init) (code := cX1_init) (maxL := 1) (ret := none) (rm := ({ frames := 1, cells := 7, slots := 330, locals := 24 } : Room)) (av := [.ref a2]) (mc := 7) (ms := 330) (Qc := fun sz => QN G 3 ([.inr (8, [0, 1, 1, 1]), .inr (ciK κ, [1, 0, 1, 1, 1, 1, 0]), .inr (1, [6, 7, 8, 9, 10, 11, 12, 0]), .inl (0, 10), .inl (0, 40), .inl (0, 40), .inl (0, 40), .inl (0, 40), .inl (0, 40), .inl (0, 120)] : List Shp) ad (up2 (up2 (up2 (up2 (up2 (up2 (up2 (up2 (up2 (up2 (up2 (σ) 3 0 10) 3 1 400) 3 2 30) 3 3 0) 3 4 127) 3 5 34) 3 6 55) 3 7 62) 3 8 69) 3 9 76) 2 7 0) (Aw ad 3 sz)) (by decide) (Nat.le_of_ble_eq_true rfl) ?_
  intro p e s m below meth c S hr hlk hin hK hE hW ls hl
  replace hin := hin rfl
  obtain ⟨hx, hb, hml, hown, hts⟩ := id S
  replace hl : lv_has ls 1 [(0, .ref a2)] := hl
  have hA : ∀ q : Nat, s.heap.size ≤ q → Aw ad 3 s.heap.size q := Aw_new
  have had : ∀ i, i < 3 → ad i = ad i := fun _ _ => rfl
  change Ex (Aw ad 3 s.heap.size) s at hE
  change Wd G ([.inr (8, [0, 1, 1, 1]), .inr (ciK κ, [1, 0, 1, 1, 1, 1, 0]), .inr (1, [1, 1, 1, 1, 1, 1, 1, 0])] : List Shp) ad σ (Aw ad 3 s.heap.size) s.heap s.heap [] at hW
  change W p l e _ s m _ below meth c s.heap [] 0 0 (MQ below (QN G 3 ([.inr (8, [0, 1, 1, 1]), .inr (ciK κ, [1, 0, 1, 1, 1, 1, 0]), .inr (1, [6, 7, 8, 9, 10, 11, 12, 0]), .inl (0, 10), .inl (0, 40), .inl (0, 40), .inl (0, 40), .inl (0, 40), .inl (0, 40), .inl (0, 120)] : List Shp) ad (up2 (up2 (up2 (up2 (up2 (up2 (up2 (up2 (up2 (up2 (up2 (σ) 3 0 10) 3 1 400) 3 2 30) 3 3 0) 3 4 127) 3 5 34) 3 6 55) 3 7 62) 3 8 69) 3 9 76) 2 7 0) (Aw ad 3 s.heap.size)) _ s 7 (330) (Aw ad 3 s.heap.size)) _
  generalize Aw ad 3 s.heap.size = A at *
  refine lv_aload_n hx hb dX1_init_0 rfl (lv_at hl 0 rfl) ?_
  refine W.objInit hx hb hown (hts _ (List.mem_cons_of_mem _ al_46)) (hts _ (List.mem_cons_of_mem _ al_21)) (hts _ (List.mem_cons_of_mem _ al_22)) rfl (by rw [hml]; exact hl.1) rfl dX1_init_1 (Nat.le_of_ble_eq_true rfl) (Nat.le_of_ble_eq_true rfl) ?_
  refine lv_aload_n hx hb dX1_init_4 rfl (lv_at hl 0 rfl) ?_
  refine n_bipush hx hb dX1_init_5 (by decide) ?_
  refine k_newa (n := 3) (t := 0) (x := 10) (ty := .int) hx hb hts hK hW hA rfl hzz rfl (by decide) rfl al_76 (10) rfl (rg_c _ rfl) (by decide) (by show 0 + 1 ≤ 7; omega) (by show 0 + 10 ≤ 330; omega) dX1_init_7 (fun ad1 a3 H ha h3 hW => ?_)
  replace h2 := (ha 2 (by decide)).trans h2
  replace had := fun i (hi : i < 3) => (ha i (by omega)).trans (had i hi)
  clear ha
  replace hW : Wd G ([.inr (8, [0, 1, 1, 1]), .inr (ciK κ, [1, 0, 1, 1, 1, 1, 0]), .inr (1, [1, 1, 1, 1, 1, 1, 1, 0]), .inl (0, 10)] : List Shp) ad1 (σ) A s.heap H [] := hW
  replace hzz := hzz.mono (m := 4) (by decide)
  refine lv_dup hx hb dX1_init_9 rfl ?_
  refine n_iconst hx hb dX1_init_10 ?_
  refine n_bipush hx hb dX1_init_11 (by decide) ?_
  refine k_ast hx hb hK hW 3 h3 rfl (by exact inb_c _ _ rfl) dX1_init_13 (fun H locs hW => ?_)
  replace hW : Wd G ([.inr (8, [0, 1, 1, 1]), .inr (ciK κ, [1, 0, 1, 1, 1, 1, 0]), .inr (1, [1, 1, 1, 1, 1, 1, 1, 0]), .inl (0, 10)] : List Shp) ad1 (up2 (σ) 3 0 10) A s.heap H locs := hW
  replace hzz : hz 4 (up2 (σ) 3 0 10) := hzz.up (by decide)
  refine lv_dup hx hb dX1_init_14 rfl ?_
  refine n_iconst hx hb dX1_init_15 ?_
  refine n_sipush hx hb dX1_init_16 (by decide) ?_
  refine k_ast hx hb hK hW 3 h3 rfl (by exact inb_c _ _ rfl) dX1_init_19 (fun H locs hW => ?_)
  replace hW : Wd G ([.inr (8, [0, 1, 1, 1]), .inr (ciK κ, [1, 0, 1, 1, 1, 1, 0]), .inr (1, [1, 1, 1, 1, 1, 1, 1, 0]), .inl (0, 10)] : List Shp) ad1 (up2 (up2 (σ) 3 0 10) 3 1 400) A s.heap H locs := hW
  replace hzz : hz 4 (up2 (up2 (σ) 3 0 10) 3 1 400) := hzz.up (by decide)
  refine lv_dup hx hb dX1_init_20 rfl ?_
  refine n_iconst hx hb dX1_init_21 ?_
  refine n_bipush hx hb dX1_init_22 (by decide) ?_
  refine k_ast hx hb hK hW 3 h3 rfl (by exact inb_c _ _ rfl) dX1_init_24 (fun H locs hW => ?_)
  replace hW : Wd G ([.inr (8, [0, 1, 1, 1]), .inr (ciK κ, [1, 0, 1, 1, 1, 1, 0]), .inr (1, [1, 1, 1, 1, 1, 1, 1, 0]), .inl (0, 10)] : List Shp) ad1 (up2 (up2 (up2 (σ) 3 0 10) 3 1 400) 3 2 30) A s.heap H locs := hW
  replace hzz : hz 4 (up2 (up2 (up2 (σ) 3 0 10) 3 1 400) 3 2 30) := hzz.up (by decide)
  refine lv_dup hx hb dX1_init_25 rfl ?_
  refine n_iconst hx hb dX1_init_26 ?_
  refine n_iconst hx hb dX1_init_27 ?_
  refine k_ast hx hb hK hW 3 h3 rfl (by exact inb_c _ _ rfl) dX1_init_28 (fun H locs hW => ?_)
  replace hW : Wd G ([.inr (8, [0, 1, 1, 1]), .inr (ciK κ, [1, 0, 1, 1, 1, 1, 0]), .inr (1, [1, 1, 1, 1, 1, 1, 1, 0]), .inl (0, 10)] : List Shp) ad1 (up2 (up2 (up2 (up2 (σ) 3 0 10) 3 1 400) 3 2 30) 3 3 0) A s.heap H locs := hW
  replace hzz : hz 4 (up2 (up2 (up2 (up2 (σ) 3 0 10) 3 1 400) 3 2 30) 3 3 0) := hzz.up (by decide)
  refine lv_dup hx hb dX1_init_29 rfl ?_
  refine n_iconst hx hb dX1_init_30 ?_
  refine n_bipush hx hb dX1_init_31 (by decide) ?_
  refine k_ast hx hb hK hW 3 h3 rfl (by exact inb_c _ _ rfl) dX1_init_33 (fun H locs hW => ?_)
  replace hW : Wd G ([.inr (8, [0, 1, 1, 1]), .inr (ciK κ, [1, 0, 1, 1, 1, 1, 0]), .inr (1, [1, 1, 1, 1, 1, 1, 1, 0]), .inl (0, 10)] : List Shp) ad1 (up2 (up2 (up2 (up2 (up2 (σ) 3 0 10) 3 1 400) 3 2 30) 3 3 0) 3 4 127) A s.heap H locs := hW
  replace hzz : hz 4 (up2 (up2 (up2 (up2 (up2 (σ) 3 0 10) 3 1 400) 3 2 30) 3 3 0) 3 4 127) := hzz.up (by decide)
  refine lv_dup hx hb dX1_init_34 rfl ?_
  refine n_iconst hx hb dX1_init_35 ?_
  refine n_bipush hx hb dX1_init_36 (by decide) ?_
  refine k_ast hx hb hK hW 3 h3 rfl (by exact inb_c _ _ rfl) dX1_init_38 (fun H locs hW => ?_)
  replace hW : Wd G ([.inr (8, [0, 1, 1, 1]), .inr (ciK κ, [1, 0, 1, 1, 1, 1, 0]), .inr (1, [1, 1, 1, 1, 1, 1, 1, 0]), .inl (0, 10)] : List Shp) ad1 (up2 (up2 (up2 (up2 (up2 (up2 (σ) 3 0 10) 3 1 400) 3 2 30) 3 3 0) 3 4 127) 3 5 34) A s.heap H locs := hW
  replace hzz : hz 4 (up2 (up2 (up2 (up2 (up2 (up2 (σ) 3 0 10) 3 1 400) 3 2 30) 3 3 0) 3 4 127) 3 5 34) := hzz.up (by decide)
  refine lv_dup hx hb dX1_init_39 rfl ?_
  refine n_bipush hx hb dX1_init_40 (by decide) ?_
  refine n_bipush hx hb dX1_init_42 (by decide) ?_
  refine k_ast hx hb hK hW 3 h3 rfl (by exact inb_c _ _ rfl) dX1_init_44 (fun H locs hW => ?_)
  replace hW : Wd G ([.inr (8, [0, 1, 1, 1]), .inr (ciK κ, [1, 0, 1, 1, 1, 1, 0]), .inr (1, [1, 1, 1, 1, 1, 1, 1, 0]), .inl (0, 10)] : List Shp) ad1 (up2 (up2 (up2 (up2 (up2 (up2 (up2 (σ) 3 0 10) 3 1 400) 3 2 30) 3 3 0) 3 4 127) 3 5 34) 3 6 55) A s.heap H locs := hW
  replace hzz : hz 4 (up2 (up2 (up2 (up2 (up2 (up2 (up2 (σ) 3 0 10) 3 1 400) 3 2 30) 3 3 0) 3 4 127) 3 5 34) 3 6 55) := hzz.up (by decide)
  refine lv_dup hx hb dX1_init_45 rfl ?_
  refine n_bipush hx hb dX1_init_46 (by decide) ?_
  refine n_bipush hx hb dX1_init_48 (by decide) ?_
  refine k_ast hx hb hK hW 3 h3 rfl (by exact inb_c _ _ rfl) dX1_init_50 (fun H locs hW => ?_)
  replace hW : Wd G ([.inr (8, [0, 1, 1, 1]), .inr (ciK κ, [1, 0, 1, 1, 1, 1, 0]), .inr (1, [1, 1, 1, 1, 1, 1, 1, 0]), .inl (0, 10)] : List Shp) ad1 (up2 (up2 (up2 (up2 (up2 (up2 (up2 (up2 (σ) 3 0 10) 3 1 400) 3 2 30) 3 3 0) 3 4 127) 3 5 34) 3 6 55) 3 7 62) A s.heap H locs := hW
  replace hzz : hz 4 (up2 (up2 (up2 (up2 (up2 (up2 (up2 (up2 (σ) 3 0 10) 3 1 400) 3 2 30) 3 3 0) 3 4 127) 3 5 34) 3 6 55) 3 7 62) := hzz.up (by decide)
  refine lv_dup hx hb dX1_init_51 rfl ?_
  refine n_bipush hx hb dX1_init_52 (by decide) ?_
  refine n_bipush hx hb dX1_init_54 (by decide) ?_
  refine k_ast hx hb hK hW 3 h3 rfl (by exact inb_c _ _ rfl) dX1_init_56 (fun H locs hW => ?_)
  replace hW : Wd G ([.inr (8, [0, 1, 1, 1]), .inr (ciK κ, [1, 0, 1, 1, 1, 1, 0]), .inr (1, [1, 1, 1, 1, 1, 1, 1, 0]), .inl (0, 10)] : List Shp) ad1 (up2 (up2 (up2 (up2 (up2 (up2 (up2 (up2 (up2 (σ) 3 0 10) 3 1 400) 3 2 30) 3 3 0) 3 4 127) 3 5 34) 3 6 55) 3 7 62) 3 8 69) A s.heap H locs := hW
  replace hzz : hz 4 (up2 (up2 (up2 (up2 (up2 (up2 (up2 (up2 (up2 (σ) 3 0 10) 3 1 400) 3 2 30) 3 3 0) 3 4 127) 3 5 34) 3 6 55) 3 7 62) 3 8 69) := hzz.up (by decide)
  refine lv_dup hx hb dX1_init_57 rfl ?_
  refine n_bipush hx hb dX1_init_58 (by decide) ?_
  refine n_bipush hx hb dX1_init_60 (by decide) ?_
  refine k_ast hx hb hK hW 3 h3 rfl (by exact inb_c _ _ rfl) dX1_init_62 (fun H locs hW => ?_)
  replace hW : Wd G ([.inr (8, [0, 1, 1, 1]), .inr (ciK κ, [1, 0, 1, 1, 1, 1, 0]), .inr (1, [1, 1, 1, 1, 1, 1, 1, 0]), .inl (0, 10)] : List Shp) ad1 (up2 (up2 (up2 (up2 (up2 (up2 (up2 (up2 (up2 (up2 (σ) 3 0 10) 3 1 400) 3 2 30) 3 3 0) 3 4 127) 3 5 34) 3 6 55) 3 7 62) 3 8 69) 3 9 76) A s.heap H locs := hW
  replace hzz : hz 4 (up2 (up2 (up2 (up2 (up2 (up2 (up2 (up2 (up2 (up2 (σ) 3 0 10) 3 1 400) 3 2 30) 3 3 0) 3 4 127) 3 5 34) 3 6 55) 3 7 62) 3 8 69) 3 9 76) := hzz.up (by decide)
  refine k_putr hx hb hts hown hK hW 2 h2 3 h3 rfl rfl uw_X1 tyX1 tyX1_ok nmX1 0 (by decide) (by decide) al_47 (fun _ h9 => h9) (Or.inr ⟨rfl, hin, rfl⟩) rfl rfl dX1_init_63 (fun H locs hW => ?_)
  replace hW : Wd G ([.inr (8, [0, 1, 1, 1]), .inr (ciK κ, [1, 0, 1, 1, 1, 1, 0]), .inr (1, [6, 1, 1, 1, 1, 1, 1, 0]), .inl (0, 10)] : List Shp) ad1 (up2 (up2 (up2 (up2 (up2 (up2 (up2 (up2 (up2 (up2 (σ) 3 0 10) 3 1 400) 3 2 30) 3 3 0) 3 4 127) 3 5 34) 3 6 55) 3 7 62) 3 8 69) 3 9 76) A s.heap H locs := hW
  refine lv_aload_n hx hb dX1_init_66 rfl (lv_at hl 0 rfl) ?_
  refine n_bipush hx hb dX1_init_67 (by decide) ?_
  refine k_newa (n := 4) (t := 0) (x := 40) (ty := .int) hx hb hts hK hW hA rfl hzz rfl (by decide) rfl al_76 (40) rfl (rg_c _ rfl) (by decide) (by show 0 + 1 + 1 ≤ 7; omega) (by show 0 + 10 + 40 ≤ 330; omega) dX1_init_69 (fun ad2 a4 H ha h4 hW => ?_)
  replace h2 := (ha 2 (by decide)).trans h2
  replace h3 := (ha 3 (by decide)).trans h3
  replace had := fun i (hi : i < 3) => (ha i (by omega)).trans (had i hi)
  clear ha
  replace hW : Wd G ([.inr (8, [0, 1, 1, 1]), .inr (ciK κ, [1, 0, 1, 1, 1, 1, 0]), .inr (1, [6, 1, 1, 1, 1, 1, 1, 0]), .inl (0, 10), .inl (0, 40)] : List Shp) ad2 (up2 (up2 (up2 (up2 (up2 (up2 (up2 (up2 (up2 (up2 (σ) 3 0 10) 3 1 400) 3 2 30) 3 3 0) 3 4 127) 3 5 34) 3 6 55) 3 7 62) 3 8 69) 3 9 76) A s.heap H locs := hW
  replace hzz := hzz.mono (m := 5) (by decide)
  refine k_putr hx hb hts hown hK hW 2 h2 4 h4 rfl rfl uw_X1 tyX1 tyX1_ok nmX1 1 (by decide) (by decide) al_48 (fun _ h9 => h9) (Or.inr ⟨rfl, hin, rfl⟩) rfl rfl dX1_init_71 (fun H locs hW => ?_)
  replace hW : Wd G ([.inr (8, [0, 1, 1, 1]), .inr (ciK κ, [1, 0, 1, 1, 1, 1, 0]), .inr (1, [6, 7, 1, 1, 1, 1, 1, 0]), .inl (0, 10), .inl (0, 40)] : List Shp) ad2 (up2 (up2 (up2 (up2 (up2 (up2 (up2 (up2 (up2 (up2 (σ) 3 0 10) 3 1 400) 3 2 30) 3 3 0) 3 4 127) 3 5 34) 3 6 55) 3 7 62) 3 8 69) 3 9 76) A s.heap H locs := hW
  refine lv_aload_n hx hb dX1_init_74 rfl (lv_at hl 0 rfl) ?_
  refine n_bipush hx hb dX1_init_75 (by decide) ?_
  refine k_newa (n := 5) (t := 0) (x := 40) (ty := .int) hx hb hts hK hW hA rfl hzz rfl (by decide) rfl al_76 (40) rfl (rg_c _ rfl) (by decide) (by show 0 + 1 + 1 + 1 ≤ 7; omega) (by show 0 + 10 + 40 + 40 ≤ 330; omega) dX1_init_77 (fun ad3 a5 H ha h5 hW => ?_)
  replace h2 := (ha 2 (by decide)).trans h2
  replace h3 := (ha 3 (by decide)).trans h3
  replace h4 := (ha 4 (by decide)).trans h4
  replace had := fun i (hi : i < 3) => (ha i (by omega)).trans (had i hi)
  clear ha
  replace hW : Wd G ([.inr (8, [0, 1, 1, 1]), .inr (ciK κ, [1, 0, 1, 1, 1, 1, 0]), .inr (1, [6, 7, 1, 1, 1, 1, 1, 0]), .inl (0, 10), .inl (0, 40), .inl (0, 40)] : List Shp) ad3 (up2 (up2 (up2 (up2 (up2 (up2 (up2 (up2 (up2 (up2 (σ) 3 0 10) 3 1 400) 3 2 30) 3 3 0) 3 4 127) 3 5 34) 3 6 55) 3 7 62) 3 8 69) 3 9 76) A s.heap H locs := hW
  replace hzz := hzz.mono (m := 6) (by decide)
  refine k_putr hx hb hts hown hK hW 2 h2 5 h5 rfl rfl uw_X1 tyX1 tyX1_ok nmX1 2 (by decide) (by decide) al_49 (fun _ h9 => h9) (Or.inr ⟨rfl, hin, rfl⟩) rfl rfl dX1_init_79 (fun H locs hW => ?_)
  replace hW : Wd G ([.inr (8, [0, 1, 1, 1]), .inr (ciK κ, [1, 0, 1, 1, 1, 1, 0]), .inr (1, [6, 7, 8, 1, 1, 1, 1, 0]), .inl (0, 10), .inl (0, 40), .inl (0, 40)] : List Shp) ad3 (up2 (up2 (up2 (up2 (up2 (up2 (up2 (up2 (up2 (up2 (σ) 3 0 10) 3 1 400) 3 2 30) 3 3 0) 3 4 127) 3 5 34) 3 6 55) 3 7 62) 3 8 69) 3 9 76) A s.heap H locs := hW
  refine lv_aload_n hx hb dX1_init_82 rfl (lv_at hl 0 rfl) ?_
  refine n_bipush hx hb dX1_init_83 (by decide) ?_
  refine k_newa (n := 6) (t := 0) (x := 40) (ty := .int) hx hb hts hK hW hA rfl hzz rfl (by decide) rfl al_76 (40) rfl (rg_c _ rfl) (by decide) (by show 0 + 1 + 1 + 1 + 1 ≤ 7; omega) (by show 0 + 10 + 40 + 40 + 40 ≤ 330; omega) dX1_init_85 (fun ad4 a6 H ha h6 hW => ?_)
  replace h2 := (ha 2 (by decide)).trans h2
  replace h3 := (ha 3 (by decide)).trans h3
  replace h4 := (ha 4 (by decide)).trans h4
  replace h5 := (ha 5 (by decide)).trans h5
  replace had := fun i (hi : i < 3) => (ha i (by omega)).trans (had i hi)
  clear ha
  replace hW : Wd G ([.inr (8, [0, 1, 1, 1]), .inr (ciK κ, [1, 0, 1, 1, 1, 1, 0]), .inr (1, [6, 7, 8, 1, 1, 1, 1, 0]), .inl (0, 10), .inl (0, 40), .inl (0, 40), .inl (0, 40)] : List Shp) ad4 (up2 (up2 (up2 (up2 (up2 (up2 (up2 (up2 (up2 (up2 (σ) 3 0 10) 3 1 400) 3 2 30) 3 3 0) 3 4 127) 3 5 34) 3 6 55) 3 7 62) 3 8 69) 3 9 76) A s.heap H locs := hW
  replace hzz := hzz.mono (m := 7) (by decide)
  refine k_putr hx hb hts hown hK hW 2 h2 6 h6 rfl rfl uw_X1 tyX1 tyX1_ok nmX1 3 (by decide) (by decide) al_50 (fun _ h9 => h9) (Or.inr ⟨rfl, hin, rfl⟩) rfl rfl dX1_init_87 (fun H locs hW => ?_)
  replace hW : Wd G ([.inr (8, [0, 1, 1, 1]), .inr (ciK κ, [1, 0, 1, 1, 1, 1, 0]), .inr (1, [6, 7, 8, 9, 1, 1, 1, 0]), .inl (0, 10), .inl (0, 40), .inl (0, 40), .inl (0, 40)] : List Shp) ad4 (up2 (up2 (up2 (up2 (up2 (up2 (up2 (up2 (up2 (up2 (σ) 3 0 10) 3 1 400) 3 2 30) 3 3 0) 3 4 127) 3 5 34) 3 6 55) 3 7 62) 3 8 69) 3 9 76) A s.heap H locs := hW
  refine lv_aload_n hx hb dX1_init_90 rfl (lv_at hl 0 rfl) ?_
  refine n_bipush hx hb dX1_init_91 (by decide) ?_
  refine k_newa (n := 7) (t := 0) (x := 40) (ty := .int) hx hb hts hK hW hA rfl hzz rfl (by decide) rfl al_76 (40) rfl (rg_c _ rfl) (by decide) (by show 0 + 1 + 1 + 1 + 1 + 1 ≤ 7; omega) (by show 0 + 10 + 40 + 40 + 40 + 40 ≤ 330; omega) dX1_init_93 (fun ad5 a7 H ha h7 hW => ?_)
  replace h2 := (ha 2 (by decide)).trans h2
  replace h3 := (ha 3 (by decide)).trans h3
  replace h4 := (ha 4 (by decide)).trans h4
  replace h5 := (ha 5 (by decide)).trans h5
  replace h6 := (ha 6 (by decide)).trans h6
  replace had := fun i (hi : i < 3) => (ha i (by omega)).trans (had i hi)
  clear ha
  replace hW : Wd G ([.inr (8, [0, 1, 1, 1]), .inr (ciK κ, [1, 0, 1, 1, 1, 1, 0]), .inr (1, [6, 7, 8, 9, 1, 1, 1, 0]), .inl (0, 10), .inl (0, 40), .inl (0, 40), .inl (0, 40), .inl (0, 40)] : List Shp) ad5 (up2 (up2 (up2 (up2 (up2 (up2 (up2 (up2 (up2 (up2 (σ) 3 0 10) 3 1 400) 3 2 30) 3 3 0) 3 4 127) 3 5 34) 3 6 55) 3 7 62) 3 8 69) 3 9 76) A s.heap H locs := hW
  replace hzz := hzz.mono (m := 8) (by decide)
  refine k_putr hx hb hts hown hK hW 2 h2 7 h7 rfl rfl uw_X1 tyX1 tyX1_ok nmX1 4 (by decide) (by decide) al_51 (fun _ h9 => h9) (Or.inr ⟨rfl, hin, rfl⟩) rfl rfl dX1_init_95 (fun H locs hW => ?_)
  replace hW : Wd G ([.inr (8, [0, 1, 1, 1]), .inr (ciK κ, [1, 0, 1, 1, 1, 1, 0]), .inr (1, [6, 7, 8, 9, 10, 1, 1, 0]), .inl (0, 10), .inl (0, 40), .inl (0, 40), .inl (0, 40), .inl (0, 40)] : List Shp) ad5 (up2 (up2 (up2 (up2 (up2 (up2 (up2 (up2 (up2 (up2 (σ) 3 0 10) 3 1 400) 3 2 30) 3 3 0) 3 4 127) 3 5 34) 3 6 55) 3 7 62) 3 8 69) 3 9 76) A s.heap H locs := hW
  refine lv_aload_n hx hb dX1_init_98 rfl (lv_at hl 0 rfl) ?_
  refine n_bipush hx hb dX1_init_99 (by decide) ?_
  refine k_newa (n := 8) (t := 0) (x := 40) (ty := .int) hx hb hts hK hW hA rfl hzz rfl (by decide) rfl al_76 (40) rfl (rg_c _ rfl) (by decide) (by show 0 + 1 + 1 + 1 + 1 + 1 + 1 ≤ 7; omega) (by show 0 + 10 + 40 + 40 + 40 + 40 + 40 ≤ 330; omega) dX1_init_101 (fun ad6 a8 H ha h8 hW => ?_)
  replace h2 := (ha 2 (by decide)).trans h2
  replace h3 := (ha 3 (by decide)).trans h3
  replace h4 := (ha 4 (by decide)).trans h4
  replace h5 := (ha 5 (by decide)).trans h5
  replace h6 := (ha 6 (by decide)).trans h6
  replace h7 := (ha 7 (by decide)).trans h7
  replace had := fun i (hi : i < 3) => (ha i (by omega)).trans (had i hi)
  clear ha
  replace hW : Wd G ([.inr (8, [0, 1, 1, 1]), .inr (ciK κ, [1, 0, 1, 1, 1, 1, 0]), .inr (1, [6, 7, 8, 9, 10, 1, 1, 0]), .inl (0, 10), .inl (0, 40), .inl (0, 40), .inl (0, 40), .inl (0, 40), .inl (0, 40)] : List Shp) ad6 (up2 (up2 (up2 (up2 (up2 (up2 (up2 (up2 (up2 (up2 (σ) 3 0 10) 3 1 400) 3 2 30) 3 3 0) 3 4 127) 3 5 34) 3 6 55) 3 7 62) 3 8 69) 3 9 76) A s.heap H locs := hW
  replace hzz := hzz.mono (m := 9) (by decide)
  refine k_putr hx hb hts hown hK hW 2 h2 8 h8 rfl rfl uw_X1 tyX1 tyX1_ok nmX1 5 (by decide) (by decide) al_52 (fun _ h9 => h9) (Or.inr ⟨rfl, hin, rfl⟩) rfl rfl dX1_init_103 (fun H locs hW => ?_)
  replace hW : Wd G ([.inr (8, [0, 1, 1, 1]), .inr (ciK κ, [1, 0, 1, 1, 1, 1, 0]), .inr (1, [6, 7, 8, 9, 10, 11, 1, 0]), .inl (0, 10), .inl (0, 40), .inl (0, 40), .inl (0, 40), .inl (0, 40), .inl (0, 40)] : List Shp) ad6 (up2 (up2 (up2 (up2 (up2 (up2 (up2 (up2 (up2 (up2 (σ) 3 0 10) 3 1 400) 3 2 30) 3 3 0) 3 4 127) 3 5 34) 3 6 55) 3 7 62) 3 8 69) 3 9 76) A s.heap H locs := hW
  refine lv_aload_n hx hb dX1_init_106 rfl (lv_at hl 0 rfl) ?_
  refine n_bipush hx hb dX1_init_107 (by decide) ?_
  refine k_newa (n := 9) (t := 0) (x := 120) (ty := .int) hx hb hts hK hW hA rfl hzz rfl (by decide) rfl al_76 (120) rfl (rg_c _ rfl) (by decide) (by show 0 + 1 + 1 + 1 + 1 + 1 + 1 + 1 ≤ 7; omega) (by show 0 + 10 + 40 + 40 + 40 + 40 + 40 + 120 ≤ 330; omega) dX1_init_109 (fun ad7 a9 H ha h9 hW => ?_)
  replace h2 := (ha 2 (by decide)).trans h2
  replace h3 := (ha 3 (by decide)).trans h3
  replace h4 := (ha 4 (by decide)).trans h4
  replace h5 := (ha 5 (by decide)).trans h5
  replace h6 := (ha 6 (by decide)).trans h6
  replace h7 := (ha 7 (by decide)).trans h7
  replace h8 := (ha 8 (by decide)).trans h8
  replace had := fun i (hi : i < 3) => (ha i (by omega)).trans (had i hi)
  clear ha
  replace hW : Wd G ([.inr (8, [0, 1, 1, 1]), .inr (ciK κ, [1, 0, 1, 1, 1, 1, 0]), .inr (1, [6, 7, 8, 9, 10, 11, 1, 0]), .inl (0, 10), .inl (0, 40), .inl (0, 40), .inl (0, 40), .inl (0, 40), .inl (0, 40), .inl (0, 120)] : List Shp) ad7 (up2 (up2 (up2 (up2 (up2 (up2 (up2 (up2 (up2 (up2 (σ) 3 0 10) 3 1 400) 3 2 30) 3 3 0) 3 4 127) 3 5 34) 3 6 55) 3 7 62) 3 8 69) 3 9 76) A s.heap H locs := hW
  replace hzz := hzz.mono (m := 10) (by decide)
  refine k_putr hx hb hts hown hK hW 2 h2 9 h9 rfl rfl uw_X1 tyX1 tyX1_ok nmX1 6 (by decide) (by decide) al_53 (fun _ h9 => h9) (Or.inr ⟨rfl, hin, rfl⟩) rfl rfl dX1_init_111 (fun H locs hW => ?_)
  replace hW : Wd G ([.inr (8, [0, 1, 1, 1]), .inr (ciK κ, [1, 0, 1, 1, 1, 1, 0]), .inr (1, [6, 7, 8, 9, 10, 11, 12, 0]), .inl (0, 10), .inl (0, 40), .inl (0, 40), .inl (0, 40), .inl (0, 40), .inl (0, 40), .inl (0, 120)] : List Shp) ad7 (up2 (up2 (up2 (up2 (up2 (up2 (up2 (up2 (up2 (up2 (σ) 3 0 10) 3 1 400) 3 2 30) 3 3 0) 3 4 127) 3 5 34) 3 6 55) 3 7 62) 3 8 69) 3 9 76) A s.heap H locs := hW
  refine lv_aload_n hx hb dX1_init_114 rfl (lv_at hl 0 rfl) ?_
  refine n_iconst hx hb dX1_init_115 ?_
  refine k_put hx hb hts hown hK hW 2 h2 rfl rfl uw_X1 tyX1 tyX1_ok nmX1 7 (by decide) rfl al_54 (fun _ h9 => h9) (Or.inl rfl) rfl rfl dX1_init_116 (fun H locs hW => ?_)
  replace hW : Wd G ([.inr (8, [0, 1, 1, 1]), .inr (ciK κ, [1, 0, 1, 1, 1, 1, 0]), .inr (1, [6, 7, 8, 9, 10, 11, 12, 0]), .inl (0, 10), .inl (0, 40), .inl (0, 40), .inl (0, 40), .inl (0, 40), .inl (0, 40), .inl (0, 120)] : List Shp) ad7 (up2 (up2 (up2 (up2 (up2 (up2 (up2 (up2 (up2 (up2 (up2 (σ) 3 0 10) 3 1 400) 3 2 30) 3 3 0) 3 4 127) 3 5 34) 3 6 55) 3 7 62) 3 8 69) 3 9 76) 2 7 0) A s.heap H locs := hW
  replace hzz : hz 10 (up2 (up2 (up2 (up2 (up2 (up2 (up2 (up2 (up2 (up2 (up2 (σ) 3 0 10) 3 1 400) 3 2 30) 3 3 0) 3 4 127) 3 5 34) 3 6 55) 3 7 62) 3 8 69) 3 9 76) 2 7 0) := hzz.up (by decide)
  refine W.widen (k := 7) (n := 330) (by show 0 + 1 + 1 + 1 + 1 + 1 + 1 + 1 ≤ 7; omega) (by show 0 + 10 + 40 + 40 + 40 + 40 + 40 + 120 ≤ 330; omega) ?_
  exact r_CN (sz := 0) hx hb hr hlk hK hW had dX1_init_119
theorem c_X2_init (l : Launch) (G : Gt) (κ : Nat) (hκ : κ < 5) (ad : Nat → Nat) (σ : Mem) (a1 : Nat) (h1 : ad 1 = a1) (v1 : Int) (hv1 : v1 = ((wd κ : Nat) : Int)) (hzz : hz 2 σ) : CN l yX2_init (Cond.code yX2_init cX2_init 2 none) ({ frames := 2, cells := 12, slots := 378 + 120 * wd κ, locals := 44 } : Room) G ([.inr (8, [0, 1, 1, 1]), .inr (ciK κ, [1, 0, 1, 1, 1, 1, 0])] : List Shp) ([.inr (8, [0, 1, 1, 1]), .inr (ciK κ, [5, 0, 13, 14, 15, 16, 0]), .inr (1, [6, 7, 8, 9, 10, 11, 12, 0]), .inl (0, 10), .inl (0, 40), .inl (0, 40), .inl (0, 40), .inl (0, 40), .inl (0, 40), .inl (0, 120), .inl (0, 40), .inl (0, 40 * wd κ), .inl (0, 40 * wd κ), .inl (0, 40 * wd κ)] : List Shp) ad σ (up2 (up2 (up2 (up2 (up2 (up2 (up2 (up2 (up2 (up2 (up2 (up2 (up2 (σ) 3 0 10) 3 1 400) 3 2 30) 3 3 0) 3 4 127) 3 5 34) 3 6 55) 3 7 62) 3 8 69) 3 9 76) 2 7 0) 1 6 0) 1 1 ((wd κ : Nat) : Int)) [.ref a1, .int (iN v1)] 12 (378 + 120 * wd κ) := by
  have hwd : 1 ≤ wd κ ∧ wd κ ≤ 80 := wdle κ
  refine s_allN (G := G) (sh := [.inr (8, [0, 1, 1, 1]), .inr (ciK κ, [1, 0, 1, 1, 1, 1, 0])]) (ad := ad) (σ := σ) (y := yX2_init) (code := cX2_init) (maxL := 2) (ret := none) (rm := ({ frames := 2, cells := 12, slots := 378 + 120 * wd κ, locals := 44 } : Room)) (av := [.ref a1, .int (iN v1)]) (mc := 12) (ms := 378 + 120 * wd κ) (Qc := fun sz => QN G 2 ([.inr (8, [0, 1, 1, 1]), .inr (ciK κ, [5, 0, 13, 14, 15, 16, 0]), .inr (1, [6, 7, 8, 9, 10, 11, 12, 0]), .inl (0, 10), .inl (0, 40), .inl (0, 40), .inl (0, 40), .inl (0, 40), .inl (0, 40), .inl (0, 120), .inl (0, 40), .inl (0, 40 * wd κ), .inl (0, 40 * wd κ), .inl (0, 40 * wd κ)] : List Shp) ad (up2 (up2 (up2 (up2 (up2 (up2 (up2 (up2 (up2 (up2 (up2 (up2 (up2 (σ) 3 0 10) 3 1 400) 3 2 30) 3 3 0) 3 4 127) 3 5 34) 3 6 55) 3 7 62) 3 8 69) 3 9 76) 2 7 0) 1 6 0) 1 1 ((wd κ : Nat) : Int)) (Aw ad 2 sz)) (by decide) (Nat.le_of_ble_eq_true rfl) ?_
  intro p e s m below meth c S hr hlk hin hK hE hW ls hl
  replace hin := hin rfl
  obtain ⟨hx, hb, hml, hown, hts⟩ := id S
  replace hl : lv_has ls 2 [(0, .ref a1), (1, .int (iN v1))] := hl
  have hA : ∀ q : Nat, s.heap.size ≤ q → Aw ad 2 s.heap.size q := Aw_new
  have had : ∀ i, i < 2 → ad i = ad i := fun _ _ => rfl
  change Ex (Aw ad 2 s.heap.size) s at hE
  change Wd G ([.inr (8, [0, 1, 1, 1]), .inr (ciK κ, [1, 0, 1, 1, 1, 1, 0])] : List Shp) ad σ (Aw ad 2 s.heap.size) s.heap s.heap [] at hW
  change W p l e _ s m _ below meth c s.heap [] 0 0 (MQ below (QN G 2 ([.inr (8, [0, 1, 1, 1]), .inr (ciK κ, [5, 0, 13, 14, 15, 16, 0]), .inr (1, [6, 7, 8, 9, 10, 11, 12, 0]), .inl (0, 10), .inl (0, 40), .inl (0, 40), .inl (0, 40), .inl (0, 40), .inl (0, 40), .inl (0, 120), .inl (0, 40), .inl (0, 40 * wd κ), .inl (0, 40 * wd κ), .inl (0, 40 * wd κ)] : List Shp) ad (up2 (up2 (up2 (up2 (up2 (up2 (up2 (up2 (up2 (up2 (up2 (up2 (up2 (σ) 3 0 10) 3 1 400) 3 2 30) 3 3 0) 3 4 127) 3 5 34) 3 6 55) 3 7 62) 3 8 69) 3 9 76) 2 7 0) 1 6 0) 1 1 ((wd κ : Nat) : Int)) (Aw ad 2 s.heap.size)) _ s 12 (378 + 120 * wd κ) (Aw ad 2 s.heap.size)) _
  generalize Aw ad 2 s.heap.size = A at *
  refine lv_aload_n hx hb dX2_init_0 rfl (lv_at hl 0 rfl) ?_
  refine W.objInit hx hb hown (hts _ (List.mem_cons_of_mem _ al_40)) (hts _ (List.mem_cons_of_mem _ al_21)) (hts _ (List.mem_cons_of_mem _ al_22)) rfl (by rw [hml]; exact hl.1) rfl dX2_init_1 (Nat.le_of_ble_eq_true rfl) (Nat.le_of_ble_eq_true rfl) ?_
  refine lv_aload_n hx hb dX2_init_4 rfl (lv_at hl 0 rfl) ?_
  refine k_new (n := 2) (ci := 1) hx hb hts hown hK hW hA rfl hzz rfl rfl uw_X1 tyX1 tyX1_ok al_41 al_42 al_5 [1, 1, 1, 1, 1, 1, 1, 0] rfl (fun j hj => by rcases (show j = 0 ∨ j = 1 ∨ j = 2 ∨ j = 3 ∨ j = 4 ∨ j = 5 ∨ j = 6 ∨ j = 7 by omega) with rfl | rfl | rfl | rfl | rfl | rfl | rfl | rfl <;> rfl) (by show 0 + 1 ≤ 12; omega) (by show 0 + 8 ≤ 378 + 120 * wd κ; omega) dX2_init_5 (fun ad1 a2 H ha h2 hW => ?_)
  replace h1 := (ha 1 (by decide)).trans h1
  replace had := fun i (hi : i < 2) => (ha i (by omega)).trans (had i hi)
  clear ha
  replace hW : Wd G ([.inr (8, [0, 1, 1, 1]), .inr (ciK κ, [1, 0, 1, 1, 1, 1, 0]), .inr (1, [1, 1, 1, 1, 1, 1, 1, 0])] : List Shp) ad1 (σ) A s.heap H [] := hW
  replace hzz := hzz.mono (m := 3) (by decide)
  refine lv_dup hx hb dX2_init_8 rfl ?_
  refine fin_CN (n := 3) hA hW rfl (run_IN (a := a2) (As := []) (rest := [.ref a2, .ref a1]) 0 S hK hE hA hW (c_X1_init l G κ hκ ad1 (σ) a2 h2 hzz H.size) rfl al_44 al_5 al_45 rfl (show yX1_init.cls ≠ "java/lang/invoke/MethodHandle" ∧ yX1_init.cls ≠ "java/lang/invoke/VarHandle" ∧ (parseMethodDescriptor yX1_init.desc).map (fun d => d.parameters.length) = some 0 by decide +kernel) rfl rfl ⟨Nat.le_of_ble_eq_true rfl, Nat.le_of_ble_eq_true rfl⟩ rfl hl.1 rfl (Nat.le_of_ble_eq_true rfl) dX2_init_9 ⟨(by show 0 + 1 + 7 ≤ 12; omega), (by show 0 + 8 + 330 ≤ 378 + 120 * wd κ; omega)⟩) (fun ad2 H locs ha hW => ?_)
  replace h1 := (ha 1 (by decide)).trans h1
  replace h2 := (ha 2 (by decide)).trans h2
  replace had := fun i (hi : i < 2) => (ha i (by omega)).trans (had i hi)
  clear ha
  replace hW : Wd G ([.inr (8, [0, 1, 1, 1]), .inr (ciK κ, [1, 0, 1, 1, 1, 1, 0]), .inr (1, [6, 7, 8, 9, 10, 11, 12, 0]), .inl (0, 10), .inl (0, 40), .inl (0, 40), .inl (0, 40), .inl (0, 40), .inl (0, 40), .inl (0, 120)] : List Shp) ad2 (up2 (up2 (up2 (up2 (up2 (up2 (up2 (up2 (up2 (up2 (up2 (σ) 3 0 10) 3 1 400) 3 2 30) 3 3 0) 3 4 127) 3 5 34) 3 6 55) 3 7 62) 3 8 69) 3 9 76) 2 7 0) A s.heap H locs := hW
  replace hzz : hz 10 (up2 (up2 (up2 (up2 (up2 (up2 (up2 (up2 (up2 (up2 (up2 (σ) 3 0 10) 3 1 400) 3 2 30) 3 3 0) 3 4 127) 3 5 34) 3 6 55) 3 7 62) 3 8 69) 3 9 76) 2 7 0) := ((((((((((((hzz.mono (m := 10) (by decide)).up (by decide)).up (by decide)).up (by decide)).up (by decide)).up (by decide)).up (by decide)).up (by decide)).up (by decide)).up (by decide)).up (by decide)).up (by decide))
  refine k_putr hx hb hts hown hK hW 1 h1 2 h2 rfl (hcP hκ) (uwP hκ) tyX0 tyX0_ok nmX0 0 (by decide) (by decide) al_78 (fun _ h9 => h9) (Or.inr ⟨rfl, hin, rfl⟩) rfl rfl dX2_init_12 (fun H locs hW => ?_)
  replace hW : Wd G ([.inr (8, [0, 1, 1, 1]), .inr (ciK κ, [5, 0, 1, 1, 1, 1, 0]), .inr (1, [6, 7, 8, 9, 10, 11, 12, 0]), .inl (0, 10), .inl (0, 40), .inl (0, 40), .inl (0, 40), .inl (0, 40), .inl (0, 40), .inl (0, 120)] : List Shp) ad2 (up2 (up2 (up2 (up2 (up2 (up2 (up2 (up2 (up2 (up2 (up2 (σ) 3 0 10) 3 1 400) 3 2 30) 3 3 0) 3 4 127) 3 5 34) 3 6 55) 3 7 62) 3 8 69) 3 9 76) 2 7 0) A s.heap H locs := hW
  refine lv_aload_n hx hb dX2_init_15 rfl (lv_at hl 0 rfl) ?_
  refine n_bipush hx hb dX2_init_16 (by decide) ?_
  refine k_newa (n := 10) (t := 0) (x := 40) (ty := .int) hx hb hts hK hW hA rfl hzz rfl (by decide) rfl al_76 (40) rfl (rg_c _ rfl) (by decide) (by show 0 + 1 + 7 + 1 ≤ 12; omega) (by show 0 + 8 + 330 + 40 ≤ 378 + 120 * wd κ; omega) dX2_init_18 (fun ad3 a10 H ha h10 hW => ?_)
  replace h1 := (ha 1 (by decide)).trans h1
  replace h2 := (ha 2 (by decide)).trans h2
  replace had := fun i (hi : i < 2) => (ha i (by omega)).trans (had i hi)
  clear ha
  replace hW : Wd G ([.inr (8, [0, 1, 1, 1]), .inr (ciK κ, [5, 0, 1, 1, 1, 1, 0]), .inr (1, [6, 7, 8, 9, 10, 11, 12, 0]), .inl (0, 10), .inl (0, 40), .inl (0, 40), .inl (0, 40), .inl (0, 40), .inl (0, 40), .inl (0, 120), .inl (0, 40)] : List Shp) ad3 (up2 (up2 (up2 (up2 (up2 (up2 (up2 (up2 (up2 (up2 (up2 (σ) 3 0 10) 3 1 400) 3 2 30) 3 3 0) 3 4 127) 3 5 34) 3 6 55) 3 7 62) 3 8 69) 3 9 76) 2 7 0) A s.heap H locs := hW
  replace hzz := hzz.mono (m := 11) (by decide)
  refine k_putr hx hb hts hown hK hW 1 h1 10 h10 rfl (hcP hκ) (uwP hκ) tyX0 tyX0_ok nmX0 2 (by decide) (by decide) al_94 (fun _ h9 => h9) (Or.inr ⟨rfl, hin, rfl⟩) rfl rfl dX2_init_20 (fun H locs hW => ?_)
  replace hW : Wd G ([.inr (8, [0, 1, 1, 1]), .inr (ciK κ, [5, 0, 13, 1, 1, 1, 0]), .inr (1, [6, 7, 8, 9, 10, 11, 12, 0]), .inl (0, 10), .inl (0, 40), .inl (0, 40), .inl (0, 40), .inl (0, 40), .inl (0, 40), .inl (0, 120), .inl (0, 40)] : List Shp) ad3 (up2 (up2 (up2 (up2 (up2 (up2 (up2 (up2 (up2 (up2 (up2 (σ) 3 0 10) 3 1 400) 3 2 30) 3 3 0) 3 4 127) 3 5 34) 3 6 55) 3 7 62) 3 8 69) 3 9 76) 2 7 0) A s.heap H locs := hW
  refine lv_aload_n hx hb dX2_init_23 rfl (lv_at hl 0 rfl) ?_
  refine n_iconst hx hb dX2_init_24 ?_
  refine k_put hx hb hts hown hK hW 1 h1 rfl (hcP hκ) (uwP hκ) tyX0 tyX0_ok nmX0 6 (by decide) rfl al_98 (fun _ h9 => h9) (Or.inl rfl) rfl rfl dX2_init_25 (fun H locs hW => ?_)
  replace hW : Wd G ([.inr (8, [0, 1, 1, 1]), .inr (ciK κ, [5, 0, 13, 1, 1, 1, 0]), .inr (1, [6, 7, 8, 9, 10, 11, 12, 0]), .inl (0, 10), .inl (0, 40), .inl (0, 40), .inl (0, 40), .inl (0, 40), .inl (0, 40), .inl (0, 120), .inl (0, 40)] : List Shp) ad3 (up2 (up2 (up2 (up2 (up2 (up2 (up2 (up2 (up2 (up2 (up2 (up2 (σ) 3 0 10) 3 1 400) 3 2 30) 3 3 0) 3 4 127) 3 5 34) 3 6 55) 3 7 62) 3 8 69) 3 9 76) 2 7 0) 1 6 0) A s.heap H locs := hW
  replace hzz : hz 11 (up2 (up2 (up2 (up2 (up2 (up2 (up2 (up2 (up2 (up2 (up2 (up2 (σ) 3 0 10) 3 1 400) 3 2 30) 3 3 0) 3 4 127) 3 5 34) 3 6 55) 3 7 62) 3 8 69) 3 9 76) 2 7 0) 1 6 0) := hzz.up (by decide)
  refine lv_aload_n hx hb dX2_init_28 rfl (lv_at hl 0 rfl) ?_
  refine n_iconst hx hb dX2_init_29 ?_
  refine lv_iload_n hx hb dX2_init_30 rfl (lv_at hl 1 rfl) ?_
  refine n_mmax hx hb (hml.trans hl.1.symm) hown (hts _ (List.mem_cons_of_mem _ al_77)) (hts _ (List.mem_cons_of_mem _ al_27)) (hts _ (List.mem_cons_of_mem _ al_2)) (hts _ (List.mem_cons_of_mem _ al_28)) (Nat.le_of_ble_eq_true rfl) (Nat.le_of_ble_eq_true rfl) (by show 0 + 1 + 7 + 1 + 0 ≤ 12; omega) (by show 0 + 8 + 330 + 40 + 0 ≤ 378 + 120 * wd κ; omega) (rg_c _ rfl) (by simp only [rg]; omega) dX2_init_31 ?_
  rw [show max 1 v1 = ((wd κ : Nat) : Int) by omega]
  refine k_put hx hb hts hown hK hW 1 h1 rfl (hcP hκ) (uwP hκ) tyX0 tyX0_ok nmX0 1 (by decide) rfl al_92 (fun _ h9 => h9) (Or.inr ⟨rfl, hin, rfl⟩) rfl rfl dX2_init_34 (fun H locs hW => ?_)
  replace hW : Wd G ([.inr (8, [0, 1, 1, 1]), .inr (ciK κ, [5, 0, 13, 1, 1, 1, 0]), .inr (1, [6, 7, 8, 9, 10, 11, 12, 0]), .inl (0, 10), .inl (0, 40), .inl (0, 40), .inl (0, 40), .inl (0, 40), .inl (0, 40), .inl (0, 120), .inl (0, 40)] : List Shp) ad3 (up2 (up2 (up2 (up2 (up2 (up2 (up2 (up2 (up2 (up2 (up2 (up2 (up2 (σ) 3 0 10) 3 1 400) 3 2 30) 3 3 0) 3 4 127) 3 5 34) 3 6 55) 3 7 62) 3 8 69) 3 9 76) 2 7 0) 1 6 0) 1 1 ((wd κ : Nat) : Int)) A s.heap H locs := hW
  replace hzz : hz 11 (up2 (up2 (up2 (up2 (up2 (up2 (up2 (up2 (up2 (up2 (up2 (up2 (up2 (σ) 3 0 10) 3 1 400) 3 2 30) 3 3 0) 3 4 127) 3 5 34) 3 6 55) 3 7 62) 3 8 69) 3 9 76) 2 7 0) 1 6 0) 1 1 ((wd κ : Nat) : Int)) := hzz.up (by decide)
  refine lv_aload_n hx hb dX2_init_37 rfl (lv_at hl 0 rfl) ?_
  refine n_bipush hx hb dX2_init_38 (by decide) ?_
  refine lv_aload_n hx hb dX2_init_40 rfl (lv_at hl 0 rfl) ?_
  refine k_get (v := ((wd κ : Nat) : Int)) hx hb hts hown hK hW 1 h1 rfl (hcP hκ) (uwP hκ) 1 (by decide) rfl al_92 (fun _ h9 => h9) rfl dX2_init_41 ?_
  refine n_imul hx hb dX2_init_44 ?_
  refine k_newa (n := 11) (t := 0) (x := (40 * ((wd κ : Nat) : Int))) (ty := .int) hx hb hts hK hW hA rfl hzz rfl (by decide) rfl al_76 (40 * wd κ) (by omega) (by simp only [rg]; omega) (by omega) (by show 0 + 1 + 7 + 1 + 1 ≤ 12; omega) (by show 0 + 8 + 330 + 40 + 40 * wd κ ≤ 378 + 120 * wd κ; omega) dX2_init_45 (fun ad4 a11 H ha h11 hW => ?_)
  replace h1 := (ha 1 (by decide)).trans h1
  replace h2 := (ha 2 (by decide)).trans h2
  replace h10 := (ha 10 (by decide)).trans h10
  replace had := fun i (hi : i < 2) => (ha i (by omega)).trans (had i hi)
  clear ha
  replace hW : Wd G ([.inr (8, [0, 1, 1, 1]), .inr (ciK κ, [5, 0, 13, 1, 1, 1, 0]), .inr (1, [6, 7, 8, 9, 10, 11, 12, 0]), .inl (0, 10), .inl (0, 40), .inl (0, 40), .inl (0, 40), .inl (0, 40), .inl (0, 40), .inl (0, 120), .inl (0, 40), .inl (0, 40 * wd κ)] : List Shp) ad4 (up2 (up2 (up2 (up2 (up2 (up2 (up2 (up2 (up2 (up2 (up2 (up2 (up2 (σ) 3 0 10) 3 1 400) 3 2 30) 3 3 0) 3 4 127) 3 5 34) 3 6 55) 3 7 62) 3 8 69) 3 9 76) 2 7 0) 1 6 0) 1 1 ((wd κ : Nat) : Int)) A s.heap H locs := hW
  replace hzz := hzz.mono (m := 12) (by decide)
  refine k_putr hx hb hts hown hK hW 1 h1 11 h11 rfl (hcP hκ) (uwP hκ) tyX0 tyX0_ok nmX0 3 (by decide) (by decide) al_95 (fun _ h9 => h9) (Or.inr ⟨rfl, hin, rfl⟩) rfl rfl dX2_init_47 (fun H locs hW => ?_)
  replace hW : Wd G ([.inr (8, [0, 1, 1, 1]), .inr (ciK κ, [5, 0, 13, 14, 1, 1, 0]), .inr (1, [6, 7, 8, 9, 10, 11, 12, 0]), .inl (0, 10), .inl (0, 40), .inl (0, 40), .inl (0, 40), .inl (0, 40), .inl (0, 40), .inl (0, 120), .inl (0, 40), .inl (0, 40 * wd κ)] : List Shp) ad4 (up2 (up2 (up2 (up2 (up2 (up2 (up2 (up2 (up2 (up2 (up2 (up2 (up2 (σ) 3 0 10) 3 1 400) 3 2 30) 3 3 0) 3 4 127) 3 5 34) 3 6 55) 3 7 62) 3 8 69) 3 9 76) 2 7 0) 1 6 0) 1 1 ((wd κ : Nat) : Int)) A s.heap H locs := hW
  refine lv_aload_n hx hb dX2_init_50 rfl (lv_at hl 0 rfl) ?_
  refine n_bipush hx hb dX2_init_51 (by decide) ?_
  refine lv_aload_n hx hb dX2_init_53 rfl (lv_at hl 0 rfl) ?_
  refine k_get (v := ((wd κ : Nat) : Int)) hx hb hts hown hK hW 1 h1 rfl (hcP hκ) (uwP hκ) 1 (by decide) rfl al_92 (fun _ h9 => h9) rfl dX2_init_54 ?_
  refine n_imul hx hb dX2_init_57 ?_
  refine k_newa (n := 12) (t := 0) (x := (40 * ((wd κ : Nat) : Int))) (ty := .int) hx hb hts hK hW hA rfl hzz rfl (by decide) rfl al_76 (40 * wd κ) (by omega) (by simp only [rg]; omega) (by omega) (by show 0 + 1 + 7 + 1 + 1 + 1 ≤ 12; omega) (by show 0 + 8 + 330 + 40 + 40 * wd κ + 40 * wd κ ≤ 378 + 120 * wd κ; omega) dX2_init_58 (fun ad5 a12 H ha h12 hW => ?_)
  replace h1 := (ha 1 (by decide)).trans h1
  replace h2 := (ha 2 (by decide)).trans h2
  replace h10 := (ha 10 (by decide)).trans h10
  replace h11 := (ha 11 (by decide)).trans h11
  replace had := fun i (hi : i < 2) => (ha i (by omega)).trans (had i hi)
  clear ha
  replace hW : Wd G ([.inr (8, [0, 1, 1, 1]), .inr (ciK κ, [5, 0, 13, 14, 1, 1, 0]), .inr (1, [6, 7, 8, 9, 10, 11, 12, 0]), .inl (0, 10), .inl (0, 40), .inl (0, 40), .inl (0, 40), .inl (0, 40), .inl (0, 40), .inl (0, 120), .inl (0, 40), .inl (0, 40 * wd κ), .inl (0, 40 * wd κ)] : List Shp) ad5 (up2 (up2 (up2 (up2 (up2 (up2 (up2 (up2 (up2 (up2 (up2 (up2 (up2 (σ) 3 0 10) 3 1 400) 3 2 30) 3 3 0) 3 4 127) 3 5 34) 3 6 55) 3 7 62) 3 8 69) 3 9 76) 2 7 0) 1 6 0) 1 1 ((wd κ : Nat) : Int)) A s.heap H locs := hW
  replace hzz := hzz.mono (m := 13) (by decide)
  refine k_putr hx hb hts hown hK hW 1 h1 12 h12 rfl (hcP hκ) (uwP hκ) tyX0 tyX0_ok nmX0 4 (by decide) (by decide) al_96 (fun _ h9 => h9) (Or.inr ⟨rfl, hin, rfl⟩) rfl rfl dX2_init_60 (fun H locs hW => ?_)
  replace hW : Wd G ([.inr (8, [0, 1, 1, 1]), .inr (ciK κ, [5, 0, 13, 14, 15, 1, 0]), .inr (1, [6, 7, 8, 9, 10, 11, 12, 0]), .inl (0, 10), .inl (0, 40), .inl (0, 40), .inl (0, 40), .inl (0, 40), .inl (0, 40), .inl (0, 120), .inl (0, 40), .inl (0, 40 * wd κ), .inl (0, 40 * wd κ)] : List Shp) ad5 (up2 (up2 (up2 (up2 (up2 (up2 (up2 (up2 (up2 (up2 (up2 (up2 (up2 (σ) 3 0 10) 3 1 400) 3 2 30) 3 3 0) 3 4 127) 3 5 34) 3 6 55) 3 7 62) 3 8 69) 3 9 76) 2 7 0) 1 6 0) 1 1 ((wd κ : Nat) : Int)) A s.heap H locs := hW
  refine lv_aload_n hx hb dX2_init_63 rfl (lv_at hl 0 rfl) ?_
  refine n_bipush hx hb dX2_init_64 (by decide) ?_
  refine lv_aload_n hx hb dX2_init_66 rfl (lv_at hl 0 rfl) ?_
  refine k_get (v := ((wd κ : Nat) : Int)) hx hb hts hown hK hW 1 h1 rfl (hcP hκ) (uwP hκ) 1 (by decide) rfl al_92 (fun _ h9 => h9) rfl dX2_init_67 ?_
  refine n_imul hx hb dX2_init_70 ?_
  refine k_newa (n := 13) (t := 0) (x := (40 * ((wd κ : Nat) : Int))) (ty := .int) hx hb hts hK hW hA rfl hzz rfl (by decide) rfl al_76 (40 * wd κ) (by omega) (by simp only [rg]; omega) (by omega) (by show 0 + 1 + 7 + 1 + 1 + 1 + 1 ≤ 12; omega) (by show 0 + 8 + 330 + 40 + 40 * wd κ + 40 * wd κ + 40 * wd κ ≤ 378 + 120 * wd κ; omega) dX2_init_71 (fun ad6 a13 H ha h13 hW => ?_)
  replace h1 := (ha 1 (by decide)).trans h1
  replace h2 := (ha 2 (by decide)).trans h2
  replace h10 := (ha 10 (by decide)).trans h10
  replace h11 := (ha 11 (by decide)).trans h11
  replace h12 := (ha 12 (by decide)).trans h12
  replace had := fun i (hi : i < 2) => (ha i (by omega)).trans (had i hi)
  clear ha
  replace hW : Wd G ([.inr (8, [0, 1, 1, 1]), .inr (ciK κ, [5, 0, 13, 14, 15, 1, 0]), .inr (1, [6, 7, 8, 9, 10, 11, 12, 0]), .inl (0, 10), .inl (0, 40), .inl (0, 40), .inl (0, 40), .inl (0, 40), .inl (0, 40), .inl (0, 120), .inl (0, 40), .inl (0, 40 * wd κ), .inl (0, 40 * wd κ), .inl (0, 40 * wd κ)] : List Shp) ad6 (up2 (up2 (up2 (up2 (up2 (up2 (up2 (up2 (up2 (up2 (up2 (up2 (up2 (σ) 3 0 10) 3 1 400) 3 2 30) 3 3 0) 3 4 127) 3 5 34) 3 6 55) 3 7 62) 3 8 69) 3 9 76) 2 7 0) 1 6 0) 1 1 ((wd κ : Nat) : Int)) A s.heap H locs := hW
  replace hzz := hzz.mono (m := 14) (by decide)
  refine k_putr hx hb hts hown hK hW 1 h1 13 h13 rfl (hcP hκ) (uwP hκ) tyX0 tyX0_ok nmX0 5 (by decide) (by decide) al_97 (fun _ h9 => h9) (Or.inr ⟨rfl, hin, rfl⟩) rfl rfl dX2_init_73 (fun H locs hW => ?_)
  replace hW : Wd G ([.inr (8, [0, 1, 1, 1]), .inr (ciK κ, [5, 0, 13, 14, 15, 16, 0]), .inr (1, [6, 7, 8, 9, 10, 11, 12, 0]), .inl (0, 10), .inl (0, 40), .inl (0, 40), .inl (0, 40), .inl (0, 40), .inl (0, 40), .inl (0, 120), .inl (0, 40), .inl (0, 40 * wd κ), .inl (0, 40 * wd κ), .inl (0, 40 * wd κ)] : List Shp) ad6 (up2 (up2 (up2 (up2 (up2 (up2 (up2 (up2 (up2 (up2 (up2 (up2 (up2 (σ) 3 0 10) 3 1 400) 3 2 30) 3 3 0) 3 4 127) 3 5 34) 3 6 55) 3 7 62) 3 8 69) 3 9 76) 2 7 0) 1 6 0) 1 1 ((wd κ : Nat) : Int)) A s.heap H locs := hW
  refine W.widen (k := 12) (n := 378 + 120 * wd κ) (by show 0 + 1 + 7 + 1 + 1 + 1 + 1 ≤ 12; omega) (by show 0 + 8 + 330 + 40 + 40 * wd κ + 40 * wd κ + 40 * wd κ ≤ 378 + 120 * wd κ; omega) ?_
  exact r_CN (sz := 0) hx hb hr hlk hK hW had dX2_init_76
theorem c_X0_init (l : Launch) (G : Gt) (ad : Nat → Nat) (σ : Mem) (a1 : Nat) (h1 : ad 1 = a1) (hzz : hz 2 σ) : CN l yX0_init (Cond.code yX0_init cX0_init 1 none) ({ frames := 3, cells := 12, slots := 378 + 120 * wd 0, locals := 65 } : Room) G ([.inr (8, [0, 1, 1, 1]), .inr (ciK 0, [1, 0, 1, 1, 1, 1, 0])] : List Shp) ([.inr (8, [0, 1, 1, 1]), .inr (ciK 0, [5, 0, 13, 14, 15, 16, 0]), .inr (1, [6, 7, 8, 9, 10, 11, 12, 0]), .inl (0, 10), .inl (0, 40), .inl (0, 40), .inl (0, 40), .inl (0, 40), .inl (0, 40), .inl (0, 120), .inl (0, 40), .inl (0, 40 * wd 0), .inl (0, 40 * wd 0), .inl (0, 40 * wd 0)] : List Shp) ad σ (up2 (up2 (up2 (up2 (up2 (up2 (up2 (up2 (up2 (up2 (up2 (up2 (up2 (σ) 3 0 10) 3 1 400) 3 2 30) 3 3 0) 3 4 127) 3 5 34) 3 6 55) 3 7 62) 3 8 69) 3 9 76) 2 7 0) 1 6 0) 1 1 ((wd 0 : Nat) : Int)) [.ref a1] 12 (378 + 120 * wd 0) := by
  refine s_allN (G := G) (sh := [.inr (8, [0, 1, 1, 1]), .inr (ciK 0, [1, 0, 1, 1, 1, 1, 0])]) (ad := ad) (σ := σ) (y := yX0_init) (code := cX0_init) (maxL := 1) (ret := none) (rm := ({ frames := 3, cells := 12, slots := 378 + 120 * wd 0, locals := 65 } : Room)) (av := [.ref a1]) (mc := 12) (ms := 378 + 120 * wd 0) (Qc := fun sz => QN G 2 ([.inr (8, [0, 1, 1, 1]), .inr (ciK 0, [5, 0, 13, 14, 15, 16, 0]), .inr (1, [6, 7, 8, 9, 10, 11, 12, 0]), .inl (0, 10), .inl (0, 40), .inl (0, 40), .inl (0, 40), .inl (0, 40), .inl (0, 40), .inl (0, 120), .inl (0, 40), .inl (0, 40 * wd 0), .inl (0, 40 * wd 0), .inl (0, 40 * wd 0)] : List Shp) ad (up2 (up2 (up2 (up2 (up2 (up2 (up2 (up2 (up2 (up2 (up2 (up2 (up2 (σ) 3 0 10) 3 1 400) 3 2 30) 3 3 0) 3 4 127) 3 5 34) 3 6 55) 3 7 62) 3 8 69) 3 9 76) 2 7 0) 1 6 0) 1 1 ((wd 0 : Nat) : Int)) (Aw ad 2 sz)) (by decide) (Nat.le_of_ble_eq_true rfl) ?_
  intro p e s m below meth c S hr hlk hin hK hE hW ls hl
  replace hin := hin rfl
  obtain ⟨hx, hb, hml, hown, hts⟩ := id S
  replace hl : lv_has ls 1 [(0, .ref a1)] := hl
  have hA : ∀ q : Nat, s.heap.size ≤ q → Aw ad 2 s.heap.size q := Aw_new
  have had : ∀ i, i < 2 → ad i = ad i := fun _ _ => rfl
  change Ex (Aw ad 2 s.heap.size) s at hE
  change Wd G ([.inr (8, [0, 1, 1, 1]), .inr (ciK 0, [1, 0, 1, 1, 1, 1, 0])] : List Shp) ad σ (Aw ad 2 s.heap.size) s.heap s.heap [] at hW
  change W p l e _ s m _ below meth c s.heap [] 0 0 (MQ below (QN G 2 ([.inr (8, [0, 1, 1, 1]), .inr (ciK 0, [5, 0, 13, 14, 15, 16, 0]), .inr (1, [6, 7, 8, 9, 10, 11, 12, 0]), .inl (0, 10), .inl (0, 40), .inl (0, 40), .inl (0, 40), .inl (0, 40), .inl (0, 40), .inl (0, 120), .inl (0, 40), .inl (0, 40 * wd 0), .inl (0, 40 * wd 0), .inl (0, 40 * wd 0)] : List Shp) ad (up2 (up2 (up2 (up2 (up2 (up2 (up2 (up2 (up2 (up2 (up2 (up2 (up2 (σ) 3 0 10) 3 1 400) 3 2 30) 3 3 0) 3 4 127) 3 5 34) 3 6 55) 3 7 62) 3 8 69) 3 9 76) 2 7 0) 1 6 0) 1 1 ((wd 0 : Nat) : Int)) (Aw ad 2 s.heap.size)) _ s 12 (378 + 120 * wd 0) (Aw ad 2 s.heap.size)) _
  generalize Aw ad 2 s.heap.size = A at *
  refine lv_aload_n hx hb dX0_init_0 rfl (lv_at hl 0 rfl) ?_
  refine n_bipush hx hb dX0_init_1 (by decide) ?_
  refine fin_CN (n := 2) hA hW rfl (run_IA (a := a1) (As := [.int (iN 10)]) (rest := []) S hK hE hA hW (c_X2_init l G 0 (by decide) ad (σ) a1 h1 10 rfl hzz s.heap.size) al_37 al_38 al_3 al_39 rfl (show yX2_init.cls ≠ "java/lang/invoke/MethodHandle" ∧ yX2_init.cls ≠ "java/lang/invoke/VarHandle" ∧ (parseMethodDescriptor yX2_init.desc).map (fun d => d.parameters.length) = some 1 by decide +kernel) rfl rfl ⟨Nat.le_of_ble_eq_true rfl, Nat.le_of_ble_eq_true rfl⟩ rfl hl.1 rfl (Nat.le_of_ble_eq_true rfl) dX0_init_3 ⟨(by show 0 + 12 ≤ 12; omega), (by show 0 + 378 + 120 * wd 0 ≤ 378 + 120 * wd 0; omega)⟩) (fun ad1 H locs ha hW => ?_)
  replace h1 := (ha 1 (by decide)).trans h1
  replace had := fun i (hi : i < 2) => (ha i (by omega)).trans (had i hi)
  clear ha
  replace hW : Wd G ([.inr (8, [0, 1, 1, 1]), .inr (ciK 0, [5, 0, 13, 14, 15, 16, 0]), .inr (1, [6, 7, 8, 9, 10, 11, 12, 0]), .inl (0, 10), .inl (0, 40), .inl (0, 40), .inl (0, 40), .inl (0, 40), .inl (0, 40), .inl (0, 120), .inl (0, 40), .inl (0, 40 * wd 0), .inl (0, 40 * wd 0), .inl (0, 40 * wd 0)] : List Shp) ad1 (up2 (up2 (up2 (up2 (up2 (up2 (up2 (up2 (up2 (up2 (up2 (up2 (up2 (σ) 3 0 10) 3 1 400) 3 2 30) 3 3 0) 3 4 127) 3 5 34) 3 6 55) 3 7 62) 3 8 69) 3 9 76) 2 7 0) 1 6 0) 1 1 ((wd 0 : Nat) : Int)) A s.heap H locs := hW
  replace hzz : hz 14 (up2 (up2 (up2 (up2 (up2 (up2 (up2 (up2 (up2 (up2 (up2 (up2 (up2 (σ) 3 0 10) 3 1 400) 3 2 30) 3 3 0) 3 4 127) 3 5 34) 3 6 55) 3 7 62) 3 8 69) 3 9 76) 2 7 0) 1 6 0) 1 1 ((wd 0 : Nat) : Int)) := ((((((((((((((hzz.mono (m := 14) (by decide)).up (by decide)).up (by decide)).up (by decide)).up (by decide)).up (by decide)).up (by decide)).up (by decide)).up (by decide)).up (by decide)).up (by decide)).up (by decide)).up (by decide)).up (by decide))
  refine W.widen (k := 12) (n := 378 + 120 * wd 0) (by show 0 + 12 ≤ 12; omega) (by show 0 + 378 + 120 * wd 0 ≤ 378 + 120 * wd 0; omega) ?_
  exact r_CN (sz := 0) hx hb hr hlk hK hW had dX0_init_6
theorem c_X9_playerOf_0 (l : Launch) (G : Gt) (ad : Nat → Nat) (σ : Mem) (hzz : hz 1 σ) : CR l yX9_playerOf (Cond.code yX9_playerOf cX9_playerOf 1 (some (.object "PlaySpans$Player"))) ({ frames := 4, cells := 13, slots := 385 + 120 * wd 0, locals := 85 } : Room) G ([.inr (8, [0, 1, 1, 1])] : List Shp) ([.inr (8, [0, 1, 1, 1]), .inr (ciK 0, [5, 0, 13, 14, 15, 16, 0]), .inr (1, [6, 7, 8, 9, 10, 11, 12, 0]), .inl (0, 10), .inl (0, 40), .inl (0, 40), .inl (0, 40), .inl (0, 40), .inl (0, 40), .inl (0, 120), .inl (0, 40), .inl (0, 40 * wd 0), .inl (0, 40 * wd 0), .inl (0, 40 * wd 0)] : List Shp) ad σ (up2 (up2 (up2 (up2 (up2 (up2 (up2 (up2 (up2 (up2 (up2 (up2 (up2 (σ) 3 0 10) 3 1 400) 3 2 30) 3 3 0) 3 4 127) 3 5 34) 3 6 55) 3 7 62) 3 8 69) 3 9 76) 2 7 0) 1 6 0) 1 1 ((wd 0 : Nat) : Int)) [.int (iN 0)] 13 (385 + 120 * wd 0) := by
  refine s_allN (G := G) (sh := [.inr (8, [0, 1, 1, 1])]) (ad := ad) (σ := σ) (y := yX9_playerOf) (code := cX9_playerOf) (maxL := 1) (ret := (some (.object "PlaySpans$Player"))) (rm := ({ frames := 4, cells := 13, slots := 385 + 120 * wd 0, locals := 85 } : Room)) (av := [.int (iN 0)]) (mc := 13) (ms := 385 + 120 * wd 0) (Qc := fun sz => QR G 1 ([.inr (8, [0, 1, 1, 1]), .inr (ciK 0, [5, 0, 13, 14, 15, 16, 0]), .inr (1, [6, 7, 8, 9, 10, 11, 12, 0]), .inl (0, 10), .inl (0, 40), .inl (0, 40), .inl (0, 40), .inl (0, 40), .inl (0, 40), .inl (0, 120), .inl (0, 40), .inl (0, 40 * wd 0), .inl (0, 40 * wd 0), .inl (0, 40 * wd 0)] : List Shp) ad (up2 (up2 (up2 (up2 (up2 (up2 (up2 (up2 (up2 (up2 (up2 (up2 (up2 (σ) 3 0 10) 3 1 400) 3 2 30) 3 3 0) 3 4 127) 3 5 34) 3 6 55) 3 7 62) 3 8 69) 3 9 76) 2 7 0) 1 6 0) 1 1 ((wd 0 : Nat) : Int)) (Aw ad 1 sz)) (by decide) (Nat.le_of_ble_eq_true rfl) ?_
  intro p e s m below meth c S hr hlk hin hK hE hW ls hl
  obtain ⟨hx, hb, hml, hown, hts⟩ := id S
  replace hl : lv_has ls 1 [(0, .int (iN 0))] := hl
  have hA : ∀ q : Nat, s.heap.size ≤ q → Aw ad 1 s.heap.size q := Aw_new
  have had : ∀ i, i < 1 → ad i = ad i := fun _ _ => rfl
  change Ex (Aw ad 1 s.heap.size) s at hE
  change Wd G ([.inr (8, [0, 1, 1, 1])] : List Shp) ad σ (Aw ad 1 s.heap.size) s.heap s.heap [] at hW
  change W p l e _ s m _ below meth c s.heap [] 0 0 (MQ below (QR G 1 ([.inr (8, [0, 1, 1, 1]), .inr (ciK 0, [5, 0, 13, 14, 15, 16, 0]), .inr (1, [6, 7, 8, 9, 10, 11, 12, 0]), .inl (0, 10), .inl (0, 40), .inl (0, 40), .inl (0, 40), .inl (0, 40), .inl (0, 40), .inl (0, 120), .inl (0, 40), .inl (0, 40 * wd 0), .inl (0, 40 * wd 0), .inl (0, 40 * wd 0)] : List Shp) ad (up2 (up2 (up2 (up2 (up2 (up2 (up2 (up2 (up2 (up2 (up2 (up2 (up2 (σ) 3 0 10) 3 1 400) 3 2 30) 3 3 0) 3 4 127) 3 5 34) 3 6 55) 3 7 62) 3 8 69) 3 9 76) 2 7 0) 1 6 0) 1 1 ((wd 0 : Nat) : Int)) (Aw ad 1 s.heap.size)) _ s 13 (385 + 120 * wd 0) (Aw ad 1 s.heap.size)) _
  generalize Aw ad 1 s.heap.size = A at *
  refine lv_iload_n hx hb dX9_playerOf_0 rfl (lv_at hl 0 rfl) ?_
  refine n_tableIn (v := 0) (tgt := 32) hx hb (rg_c _ rfl) rfl dX9_playerOf_1 (by decide) (by decide) rfl (by decide) ?_
  refine k_new (n := 1) (ci := 0) hx hb hts hown hK hW hA rfl hzz rfl rfl uw_X0 tyX0 tyX0_ok al_32 al_33 al_4 [1, 0, 1, 1, 1, 1, 0] rfl (fun j hj => by rcases (show j = 0 ∨ j = 1 ∨ j = 2 ∨ j = 3 ∨ j = 4 ∨ j = 5 ∨ j = 6 by omega) with rfl | rfl | rfl | rfl | rfl | rfl | rfl <;> rfl) (by show 0 + 1 ≤ 13; omega) (by show 0 + 7 ≤ 385 + 120 * wd 0; omega) dX9_playerOf_32 (fun ad1 a1 H ha h1 hW => ?_)
  replace had := fun i (hi : i < 1) => (ha i (by omega)).trans (had i hi)
  clear ha
  replace hW : Wd G ([.inr (8, [0, 1, 1, 1]), .inr (ciK 0, [1, 0, 1, 1, 1, 1, 0])] : List Shp) ad1 (σ) A s.heap H [] := hW
  replace hzz := hzz.mono (m := 2) (by decide)
  refine lv_dup hx hb dX9_playerOf_35 rfl ?_
  refine fin_CN (n := 2) hA hW rfl (run_IA (a := a1) (As := []) (rest := [.ref a1]) S hK hE hA hW (c_X0_init l G ad1 (σ) a1 h1 hzz H.size) al_34 al_35 al_4 al_36 rfl (show yX0_init.cls ≠ "java/lang/invoke/MethodHandle" ∧ yX0_init.cls ≠ "java/lang/invoke/VarHandle" ∧ (parseMethodDescriptor yX0_init.desc).map (fun d => d.parameters.length) = some 0 by decide +kernel) rfl rfl ⟨Nat.le_of_ble_eq_true rfl, Nat.le_of_ble_eq_true rfl⟩ rfl hl.1 rfl (Nat.le_of_ble_eq_true rfl) dX9_playerOf_36 ⟨(by show 0 + 1 + 12 ≤ 13; omega), (by show 0 + 7 + 378 + 120 * wd 0 ≤ 385 + 120 * wd 0; omega)⟩) (fun ad2 H locs ha hW => ?_)
  replace h1 := (ha 1 (by decide)).trans h1
  replace had := fun i (hi : i < 1) => (ha i (by omega)).trans (had i hi)
  clear ha
  replace hW : Wd G ([.inr (8, [0, 1, 1, 1]), .inr (ciK 0, [5, 0, 13, 14, 15, 16, 0]), .inr (1, [6, 7, 8, 9, 10, 11, 12, 0]), .inl (0, 10), .inl (0, 40), .inl (0, 40), .inl (0, 40), .inl (0, 40), .inl (0, 40), .inl (0, 120), .inl (0, 40), .inl (0, 40 * wd 0), .inl (0, 40 * wd 0), .inl (0, 40 * wd 0)] : List Shp) ad2 (up2 (up2 (up2 (up2 (up2 (up2 (up2 (up2 (up2 (up2 (up2 (up2 (up2 (σ) 3 0 10) 3 1 400) 3 2 30) 3 3 0) 3 4 127) 3 5 34) 3 6 55) 3 7 62) 3 8 69) 3 9 76) 2 7 0) 1 6 0) 1 1 ((wd 0 : Nat) : Int)) A s.heap H locs := hW
  replace hzz : hz 14 (up2 (up2 (up2 (up2 (up2 (up2 (up2 (up2 (up2 (up2 (up2 (up2 (up2 (σ) 3 0 10) 3 1 400) 3 2 30) 3 3 0) 3 4 127) 3 5 34) 3 6 55) 3 7 62) 3 8 69) 3 9 76) 2 7 0) 1 6 0) 1 1 ((wd 0 : Nat) : Int)) := ((((((((((((((hzz.mono (m := 14) (by decide)).up (by decide)).up (by decide)).up (by decide)).up (by decide)).up (by decide)).up (by decide)).up (by decide)).up (by decide)).up (by decide)).up (by decide)).up (by decide)).up (by decide)).up (by decide))
  refine W.widen (k := 13) (n := 385 + 120 * wd 0) (by show 0 + 1 + 12 ≤ 13; omega) (by show 0 + 7 + 378 + 120 * wd 0 ≤ 385 + 120 * wd 0; omega) ?_
  exact W.aret (v := .ref a1) hx hb hr (Or.inl ⟨_, rfl⟩) (Or.inr ⟨_, rfl⟩) (fun t ht hWm => ⟨⟨ad2, a1, rfl, had, h1, by rw [ht]; exact hW.1, va_K.moved hWm.alike hK, hW.2.1⟩, hW.2.2.F ht⟩) hW.2.2.2.2 dX9_playerOf_39 hlk
theorem c_X6_init (l : Launch) (G : Gt) (ad : Nat → Nat) (σ : Mem) (a1 : Nat) (h1 : ad 1 = a1) (hzz : hz 2 σ) : CN l yX6_init (Cond.code yX6_init cX6_init 1 none) ({ frames := 3, cells := 12, slots := 378 + 120 * wd 1, locals := 65 } : Room) G ([.inr (8, [0, 1, 1, 1]), .inr (ciK 1, [1, 0, 1, 1, 1, 1, 0])] : List Shp) ([.inr (8, [0, 1, 1, 1]), .inr (ciK 1, [5, 0, 13, 14, 15, 16, 0]), .inr (1, [6, 7, 8, 9, 10, 11, 12, 0]), .inl (0, 10), .inl (0, 40), .inl (0, 40), .inl (0, 40), .inl (0, 40), .inl (0, 40), .inl (0, 120), .inl (0, 40), .inl (0, 40 * wd 1), .inl (0, 40 * wd 1), .inl (0, 40 * wd 1)] : List Shp) ad σ (up2 (up2 (up2 (up2 (up2 (up2 (up2 (up2 (up2 (up2 (up2 (up2 (up2 (σ) 3 0 10) 3 1 400) 3 2 30) 3 3 0) 3 4 127) 3 5 34) 3 6 55) 3 7 62) 3 8 69) 3 9 76) 2 7 0) 1 6 0) 1 1 ((wd 1 : Nat) : Int)) [.ref a1] 12 (378 + 120 * wd 1) := by
  refine s_allN (G := G) (sh := [.inr (8, [0, 1, 1, 1]), .inr (ciK 1, [1, 0, 1, 1, 1, 1, 0])]) (ad := ad) (σ := σ) (y := yX6_init) (code := cX6_init) (maxL := 1) (ret := none) (rm := ({ frames := 3, cells := 12, slots := 378 + 120 * wd 1, locals := 65 } : Room)) (av := [.ref a1]) (mc := 12) (ms := 378 + 120 * wd 1) (Qc := fun sz => QN G 2 ([.inr (8, [0, 1, 1, 1]), .inr (ciK 1, [5, 0, 13, 14, 15, 16, 0]), .inr (1, [6, 7, 8, 9, 10, 11, 12, 0]), .inl (0, 10), .inl (0, 40), .inl (0, 40), .inl (0, 40), .inl (0, 40), .inl (0, 40), .inl (0, 120), .inl (0, 40), .inl (0, 40 * wd 1), .inl (0, 40 * wd 1), .inl (0, 40 * wd 1)] : List Shp) ad (up2 (up2 (up2 (up2 (up2 (up2 (up2 (up2 (up2 (up2 (up2 (up2 (up2 (σ) 3 0 10) 3 1 400) 3 2 30) 3 3 0) 3 4 127) 3 5 34) 3 6 55) 3 7 62) 3 8 69) 3 9 76) 2 7 0) 1 6 0) 1 1 ((wd 1 : Nat) : Int)) (Aw ad 2 sz)) (by decide) (Nat.le_of_ble_eq_true rfl) ?_
  intro p e s m below meth c S hr hlk hin hK hE hW ls hl
  replace hin := hin rfl
  obtain ⟨hx, hb, hml, hown, hts⟩ := id S
  replace hl : lv_has ls 1 [(0, .ref a1)] := hl
  have hA : ∀ q : Nat, s.heap.size ≤ q → Aw ad 2 s.heap.size q := Aw_new
  have had : ∀ i, i < 2 → ad i = ad i := fun _ _ => rfl
  change Ex (Aw ad 2 s.heap.size) s at hE
  change Wd G ([.inr (8, [0, 1, 1, 1]), .inr (ciK 1, [1, 0, 1, 1, 1, 1, 0])] : List Shp) ad σ (Aw ad 2 s.heap.size) s.heap s.heap [] at hW
  change W p l e _ s m _ below meth c s.heap [] 0 0 (MQ below (QN G 2 ([.inr (8, [0, 1, 1, 1]), .inr (ciK 1, [5, 0, 13, 14, 15, 16, 0]), .inr (1, [6, 7, 8, 9, 10, 11, 12, 0]), .inl (0, 10), .inl (0, 40), .inl (0, 40), .inl (0, 40), .inl (0, 40), .inl (0, 40), .inl (0, 120), .inl (0, 40), .inl (0, 40 * wd 1), .inl (0, 40 * wd 1), .inl (0, 40 * wd 1)] : List Shp) ad (up2 (up2 (up2 (up2 (up2 (up2 (up2 (up2 (up2 (up2 (up2 (up2 (up2 (σ) 3 0 10) 3 1 400) 3 2 30) 3 3 0) 3 4 127) 3 5 34) 3 6 55) 3 7 62) 3 8 69) 3 9 76) 2 7 0) 1 6 0) 1 1 ((wd 1 : Nat) : Int)) (Aw ad 2 s.heap.size)) _ s 12 (378 + 120 * wd 1) (Aw ad 2 s.heap.size)) _
  generalize Aw ad 2 s.heap.size = A at *
  refine lv_aload_n hx hb dX6_init_0 rfl (lv_at hl 0 rfl) ?_
  refine n_bipush hx hb dX6_init_1 (by decide) ?_
  refine fin_CN (n := 2) hA hW rfl (run_IA (a := a1) (As := [.int (iN 48)]) (rest := []) S hK hE hA hW (c_X2_init l G 1 (by decide) ad (σ) a1 h1 48 rfl hzz s.heap.size) al_120 al_38 al_3 al_39 rfl (show yX2_init.cls ≠ "java/lang/invoke/MethodHandle" ∧ yX2_init.cls ≠ "java/lang/invoke/VarHandle" ∧ (parseMethodDescriptor yX2_init.desc).map (fun d => d.parameters.length) = some 1 by decide +kernel) rfl rfl ⟨Nat.le_of_ble_eq_true rfl, Nat.le_of_ble_eq_true rfl⟩ rfl hl.1 rfl (Nat.le_of_ble_eq_true rfl) dX6_init_3 ⟨(by show 0 + 12 ≤ 12; omega), (by show 0 + 378 + 120 * wd 1 ≤ 378 + 120 * wd 1; omega)⟩) (fun ad1 H locs ha hW => ?_)
  replace h1 := (ha 1 (by decide)).trans h1
  replace had := fun i (hi : i < 2) => (ha i (by omega)).trans (had i hi)
  clear ha
  replace hW : Wd G ([.inr (8, [0, 1, 1, 1]), .inr (ciK 1, [5, 0, 13, 14, 15, 16, 0]), .inr (1, [6, 7, 8, 9, 10, 11, 12, 0]), .inl (0, 10), .inl (0, 40), .inl (0, 40), .inl (0, 40), .inl (0, 40), .inl (0, 40), .inl (0, 120), .inl (0, 40), .inl (0, 40 * wd 1), .inl (0, 40 * wd 1), .inl (0, 40 * wd 1)] : List Shp) ad1 (up2 (up2 (up2 (up2 (up2 (up2 (up2 (up2 (up2 (up2 (up2 (up2 (up2 (σ) 3 0 10) 3 1 400) 3 2 30) 3 3 0) 3 4 127) 3 5 34) 3 6 55) 3 7 62) 3 8 69) 3 9 76) 2 7 0) 1 6 0) 1 1 ((wd 1 : Nat) : Int)) A s.heap H locs := hW
  replace hzz : hz 14 (up2 (up2 (up2 (up2 (up2 (up2 (up2 (up2 (up2 (up2 (up2 (up2 (up2 (σ) 3 0 10) 3 1 400) 3 2 30) 3 3 0) 3 4 127) 3 5 34) 3 6 55) 3 7 62) 3 8 69) 3 9 76) 2 7 0) 1 6 0) 1 1 ((wd 1 : Nat) : Int)) := ((((((((((((((hzz.mono (m := 14) (by decide)).up (by decide)).up (by decide)).up (by decide)).up (by decide)).up (by decide)).up (by decide)).up (by decide)).up (by decide)).up (by decide)).up (by decide)).up (by decide)).up (by decide)).up (by decide))
  refine W.widen (k := 12) (n := 378 + 120 * wd 1) (by show 0 + 12 ≤ 12; omega) (by show 0 + 378 + 120 * wd 1 ≤ 378 + 120 * wd 1; omega) ?_
  exact r_CN (sz := 0) hx hb hr hlk hK hW had dX6_init_6
theorem c_X9_playerOf_1 (l : Launch) (G : Gt) (ad : Nat → Nat) (σ : Mem) (hzz : hz 1 σ) : CR l yX9_playerOf (Cond.code yX9_playerOf cX9_playerOf 1 (some (.object "PlaySpans$Player"))) ({ frames := 4, cells := 13, slots := 385 + 120 * wd 1, locals := 85 } : Room) G ([.inr (8, [0, 1, 1, 1])] : List Shp) ([.inr (8, [0, 1, 1, 1]), .inr (ciK 1, [5, 0, 13, 14, 15, 16, 0]), .inr (1, [6, 7, 8, 9, 10, 11, 12, 0]), .inl (0, 10), .inl (0, 40), .inl (0, 40), .inl (0, 40), .inl (0, 40), .inl (0, 40), .inl (0, 120), .inl (0, 40), .inl (0, 40 * wd 1), .inl (0, 40 * wd 1), .inl (0, 40 * wd 1)] : List Shp) ad σ (up2 (up2 (up2 (up2 (up2 (up2 (up2 (up2 (up2 (up2 (up2 (up2 (up2 (σ) 3 0 10) 3 1 400) 3 2 30) 3 3 0) 3 4 127) 3 5 34) 3 6 55) 3 7 62) 3 8 69) 3 9 76) 2 7 0) 1 6 0) 1 1 ((wd 1 : Nat) : Int)) [.int (iN 1)] 13 (385 + 120 * wd 1) := by
  refine s_allN (G := G) (sh := [.inr (8, [0, 1, 1, 1])]) (ad := ad) (σ := σ) (y := yX9_playerOf) (code := cX9_playerOf) (maxL := 1) (ret := (some (.object "PlaySpans$Player"))) (rm := ({ frames := 4, cells := 13, slots := 385 + 120 * wd 1, locals := 85 } : Room)) (av := [.int (iN 1)]) (mc := 13) (ms := 385 + 120 * wd 1) (Qc := fun sz => QR G 1 ([.inr (8, [0, 1, 1, 1]), .inr (ciK 1, [5, 0, 13, 14, 15, 16, 0]), .inr (1, [6, 7, 8, 9, 10, 11, 12, 0]), .inl (0, 10), .inl (0, 40), .inl (0, 40), .inl (0, 40), .inl (0, 40), .inl (0, 40), .inl (0, 120), .inl (0, 40), .inl (0, 40 * wd 1), .inl (0, 40 * wd 1), .inl (0, 40 * wd 1)] : List Shp) ad (up2 (up2 (up2 (up2 (up2 (up2 (up2 (up2 (up2 (up2 (up2 (up2 (up2 (σ) 3 0 10) 3 1 400) 3 2 30) 3 3 0) 3 4 127) 3 5 34) 3 6 55) 3 7 62) 3 8 69) 3 9 76) 2 7 0) 1 6 0) 1 1 ((wd 1 : Nat) : Int)) (Aw ad 1 sz)) (by decide) (Nat.le_of_ble_eq_true rfl) ?_
  intro p e s m below meth c S hr hlk hin hK hE hW ls hl
  obtain ⟨hx, hb, hml, hown, hts⟩ := id S
  replace hl : lv_has ls 1 [(0, .int (iN 1))] := hl
  have hA : ∀ q : Nat, s.heap.size ≤ q → Aw ad 1 s.heap.size q := Aw_new
  have had : ∀ i, i < 1 → ad i = ad i := fun _ _ => rfl
  change Ex (Aw ad 1 s.heap.size) s at hE
  change Wd G ([.inr (8, [0, 1, 1, 1])] : List Shp) ad σ (Aw ad 1 s.heap.size) s.heap s.heap [] at hW
  change W p l e _ s m _ below meth c s.heap [] 0 0 (MQ below (QR G 1 ([.inr (8, [0, 1, 1, 1]), .inr (ciK 1, [5, 0, 13, 14, 15, 16, 0]), .inr (1, [6, 7, 8, 9, 10, 11, 12, 0]), .inl (0, 10), .inl (0, 40), .inl (0, 40), .inl (0, 40), .inl (0, 40), .inl (0, 40), .inl (0, 120), .inl (0, 40), .inl (0, 40 * wd 1), .inl (0, 40 * wd 1), .inl (0, 40 * wd 1)] : List Shp) ad (up2 (up2 (up2 (up2 (up2 (up2 (up2 (up2 (up2 (up2 (up2 (up2 (up2 (σ) 3 0 10) 3 1 400) 3 2 30) 3 3 0) 3 4 127) 3 5 34) 3 6 55) 3 7 62) 3 8 69) 3 9 76) 2 7 0) 1 6 0) 1 1 ((wd 1 : Nat) : Int)) (Aw ad 1 s.heap.size)) _ s 13 (385 + 120 * wd 1) (Aw ad 1 s.heap.size)) _
  generalize Aw ad 1 s.heap.size = A at *
  refine lv_iload_n hx hb dX9_playerOf_0 rfl (lv_at hl 0 rfl) ?_
  refine n_tableIn (v := 1) (tgt := 40) hx hb (rg_c _ rfl) rfl dX9_playerOf_1 (by decide) (by decide) rfl (by decide) ?_
  refine k_new (n := 1) (ci := 5) hx hb hts hown hK hW hA rfl hzz rfl rfl uw_X6 tyX6 tyX6_ok al_115 al_116 al_6 [1, 0, 1, 1, 1, 1, 0] rfl (fun j hj => by rcases (show j = 0 ∨ j = 1 ∨ j = 2 ∨ j = 3 ∨ j = 4 ∨ j = 5 ∨ j = 6 by omega) with rfl | rfl | rfl | rfl | rfl | rfl | rfl <;> rfl) (by show 0 + 1 ≤ 13; omega) (by show 0 + 7 ≤ 385 + 120 * wd 1; omega) dX9_playerOf_40 (fun ad1 a1 H ha h1 hW => ?_)
  replace had := fun i (hi : i < 1) => (ha i (by omega)).trans (had i hi)
  clear ha
  replace hW : Wd G ([.inr (8, [0, 1, 1, 1]), .inr (ciK 1, [1, 0, 1, 1, 1, 1, 0])] : List Shp) ad1 (σ) A s.heap H [] := hW
  replace hzz := hzz.mono (m := 2) (by decide)
  refine lv_dup hx hb dX9_playerOf_43 rfl ?_
  refine fin_CN (n := 2) hA hW rfl (run_IA (a := a1) (As := []) (rest := [.ref a1]) S hK hE hA hW (c_X6_init l G ad1 (σ) a1 h1 hzz H.size) al_117 al_118 al_6 al_119 rfl (show yX6_init.cls ≠ "java/lang/invoke/MethodHandle" ∧ yX6_init.cls ≠ "java/lang/invoke/VarHandle" ∧ (parseMethodDescriptor yX6_init.desc).map (fun d => d.parameters.length) = some 0 by decide +kernel) rfl rfl ⟨Nat.le_of_ble_eq_true rfl, Nat.le_of_ble_eq_true rfl⟩ rfl hl.1 rfl (Nat.le_of_ble_eq_true rfl) dX9_playerOf_44 ⟨(by show 0 + 1 + 12 ≤ 13; omega), (by show 0 + 7 + 378 + 120 * wd 1 ≤ 385 + 120 * wd 1; omega)⟩) (fun ad2 H locs ha hW => ?_)
  replace h1 := (ha 1 (by decide)).trans h1
  replace had := fun i (hi : i < 1) => (ha i (by omega)).trans (had i hi)
  clear ha
  replace hW : Wd G ([.inr (8, [0, 1, 1, 1]), .inr (ciK 1, [5, 0, 13, 14, 15, 16, 0]), .inr (1, [6, 7, 8, 9, 10, 11, 12, 0]), .inl (0, 10), .inl (0, 40), .inl (0, 40), .inl (0, 40), .inl (0, 40), .inl (0, 40), .inl (0, 120), .inl (0, 40), .inl (0, 40 * wd 1), .inl (0, 40 * wd 1), .inl (0, 40 * wd 1)] : List Shp) ad2 (up2 (up2 (up2 (up2 (up2 (up2 (up2 (up2 (up2 (up2 (up2 (up2 (up2 (σ) 3 0 10) 3 1 400) 3 2 30) 3 3 0) 3 4 127) 3 5 34) 3 6 55) 3 7 62) 3 8 69) 3 9 76) 2 7 0) 1 6 0) 1 1 ((wd 1 : Nat) : Int)) A s.heap H locs := hW
  replace hzz : hz 14 (up2 (up2 (up2 (up2 (up2 (up2 (up2 (up2 (up2 (up2 (up2 (up2 (up2 (σ) 3 0 10) 3 1 400) 3 2 30) 3 3 0) 3 4 127) 3 5 34) 3 6 55) 3 7 62) 3 8 69) 3 9 76) 2 7 0) 1 6 0) 1 1 ((wd 1 : Nat) : Int)) := ((((((((((((((hzz.mono (m := 14) (by decide)).up (by decide)).up (by decide)).up (by decide)).up (by decide)).up (by decide)).up (by decide)).up (by decide)).up (by decide)).up (by decide)).up (by decide)).up (by decide)).up (by decide)).up (by decide))
  refine W.widen (k := 13) (n := 385 + 120 * wd 1) (by show 0 + 1 + 12 ≤ 13; omega) (by show 0 + 7 + 378 + 120 * wd 1 ≤ 385 + 120 * wd 1; omega) ?_
  exact W.aret (v := .ref a1) hx hb hr (Or.inl ⟨_, rfl⟩) (Or.inr ⟨_, rfl⟩) (fun t ht hWm => ⟨⟨ad2, a1, rfl, had, h1, by rw [ht]; exact hW.1, va_K.moved hWm.alike hK, hW.2.1⟩, hW.2.2.F ht⟩) hW.2.2.2.2 dX9_playerOf_47 hlk
theorem c_X8_init (l : Launch) (G : Gt) (ad : Nat → Nat) (σ : Mem) (a1 : Nat) (h1 : ad 1 = a1) (hzz : hz 2 σ) : CN l yX8_init (Cond.code yX8_init cX8_init 1 none) ({ frames := 3, cells := 12, slots := 378 + 120 * wd 2, locals := 65 } : Room) G ([.inr (8, [0, 1, 1, 1]), .inr (ciK 2, [1, 0, 1, 1, 1, 1, 0])] : List Shp) ([.inr (8, [0, 1, 1, 1]), .inr (ciK 2, [5, 0, 13, 14, 15, 16, 0]), .inr (1, [6, 7, 8, 9, 10, 11, 12, 0]), .inl (0, 10), .inl (0, 40), .inl (0, 40), .inl (0, 40), .inl (0, 40), .inl (0, 40), .inl (0, 120), .inl (0, 40), .inl (0, 40 * wd 2), .inl (0, 40 * wd 2), .inl (0, 40 * wd 2)] : List Shp) ad σ (up2 (up2 (up2 (up2 (up2 (up2 (up2 (up2 (up2 (up2 (up2 (up2 (up2 (σ) 3 0 10) 3 1 400) 3 2 30) 3 3 0) 3 4 127) 3 5 34) 3 6 55) 3 7 62) 3 8 69) 3 9 76) 2 7 0) 1 6 0) 1 1 ((wd 2 : Nat) : Int)) [.ref a1] 12 (378 + 120 * wd 2) := by
  refine s_allN (G := G) (sh := [.inr (8, [0, 1, 1, 1]), .inr (ciK 2, [1, 0, 1, 1, 1, 1, 0])]) (ad := ad) (σ := σ) (y := yX8_init) (code := cX8_init) (maxL := 1) (ret := none) (rm := ({ frames := 3, cells := 12, slots := 378 + 120 * wd 2, locals := 65 } : Room)) (av := [.ref a1]) (mc := 12) (ms := 378 + 120 * wd 2) (Qc := fun sz => QN G 2 ([.inr (8, [0, 1, 1, 1]), .inr (ciK 2, [5, 0, 13, 14, 15, 16, 0]), .inr (1, [6, 7, 8, 9, 10, 11, 12, 0]), .inl (0, 10), .inl (0, 40), .inl (0, 40), .inl (0, 40), .inl (0, 40), .inl (0, 40), .inl (0, 120), .inl (0, 40), .inl (0, 40 * wd 2), .inl (0, 40 * wd 2), .inl (0, 40 * wd 2)] : List Shp) ad (up2 (up2 (up2 (up2 (up2 (up2 (up2 (up2 (up2 (up2 (up2 (up2 (up2 (σ) 3 0 10) 3 1 400) 3 2 30) 3 3 0) 3 4 127) 3 5 34) 3 6 55) 3 7 62) 3 8 69) 3 9 76) 2 7 0) 1 6 0) 1 1 ((wd 2 : Nat) : Int)) (Aw ad 2 sz)) (by decide) (Nat.le_of_ble_eq_true rfl) ?_
  intro p e s m below meth c S hr hlk hin hK hE hW ls hl
  replace hin := hin rfl
  obtain ⟨hx, hb, hml, hown, hts⟩ := id S
  replace hl : lv_has ls 1 [(0, .ref a1)] := hl
  have hA : ∀ q : Nat, s.heap.size ≤ q → Aw ad 2 s.heap.size q := Aw_new
  have had : ∀ i, i < 2 → ad i = ad i := fun _ _ => rfl
  change Ex (Aw ad 2 s.heap.size) s at hE
  change Wd G ([.inr (8, [0, 1, 1, 1]), .inr (ciK 2, [1, 0, 1, 1, 1, 1, 0])] : List Shp) ad σ (Aw ad 2 s.heap.size) s.heap s.heap [] at hW
  change W p l e _ s m _ below meth c s.heap [] 0 0 (MQ below (QN G 2 ([.inr (8, [0, 1, 1, 1]), .inr (ciK 2, [5, 0, 13, 14, 15, 16, 0]), .inr (1, [6, 7, 8, 9, 10, 11, 12, 0]), .inl (0, 10), .inl (0, 40), .inl (0, 40), .inl (0, 40), .inl (0, 40), .inl (0, 40), .inl (0, 120), .inl (0, 40), .inl (0, 40 * wd 2), .inl (0, 40 * wd 2), .inl (0, 40 * wd 2)] : List Shp) ad (up2 (up2 (up2 (up2 (up2 (up2 (up2 (up2 (up2 (up2 (up2 (up2 (up2 (σ) 3 0 10) 3 1 400) 3 2 30) 3 3 0) 3 4 127) 3 5 34) 3 6 55) 3 7 62) 3 8 69) 3 9 76) 2 7 0) 1 6 0) 1 1 ((wd 2 : Nat) : Int)) (Aw ad 2 s.heap.size)) _ s 12 (378 + 120 * wd 2) (Aw ad 2 s.heap.size)) _
  generalize Aw ad 2 s.heap.size = A at *
  refine lv_aload_n hx hb dX8_init_0 rfl (lv_at hl 0 rfl) ?_
  refine n_bipush hx hb dX8_init_1 (by decide) ?_
  refine fin_CN (n := 2) hA hW rfl (run_IA (a := a1) (As := [.int (iN 40)]) (rest := []) S hK hE hA hW (c_X2_init l G 2 (by decide) ad (σ) a1 h1 40 rfl hzz s.heap.size) al_134 al_38 al_3 al_39 rfl (show yX2_init.cls ≠ "java/lang/invoke/MethodHandle" ∧ yX2_init.cls ≠ "java/lang/invoke/VarHandle" ∧ (parseMethodDescriptor yX2_init.desc).map (fun d => d.parameters.length) = some 1 by decide +kernel) rfl rfl ⟨Nat.le_of_ble_eq_true rfl, Nat.le_of_ble_eq_true rfl⟩ rfl hl.1 rfl (Nat.le_of_ble_eq_true rfl) dX8_init_3 ⟨(by show 0 + 12 ≤ 12; omega), (by show 0 + 378 + 120 * wd 2 ≤ 378 + 120 * wd 2; omega)⟩) (fun ad1 H locs ha hW => ?_)
  replace h1 := (ha 1 (by decide)).trans h1
  replace had := fun i (hi : i < 2) => (ha i (by omega)).trans (had i hi)
  clear ha
  replace hW : Wd G ([.inr (8, [0, 1, 1, 1]), .inr (ciK 2, [5, 0, 13, 14, 15, 16, 0]), .inr (1, [6, 7, 8, 9, 10, 11, 12, 0]), .inl (0, 10), .inl (0, 40), .inl (0, 40), .inl (0, 40), .inl (0, 40), .inl (0, 40), .inl (0, 120), .inl (0, 40), .inl (0, 40 * wd 2), .inl (0, 40 * wd 2), .inl (0, 40 * wd 2)] : List Shp) ad1 (up2 (up2 (up2 (up2 (up2 (up2 (up2 (up2 (up2 (up2 (up2 (up2 (up2 (σ) 3 0 10) 3 1 400) 3 2 30) 3 3 0) 3 4 127) 3 5 34) 3 6 55) 3 7 62) 3 8 69) 3 9 76) 2 7 0) 1 6 0) 1 1 ((wd 2 : Nat) : Int)) A s.heap H locs := hW
  replace hzz : hz 14 (up2 (up2 (up2 (up2 (up2 (up2 (up2 (up2 (up2 (up2 (up2 (up2 (up2 (σ) 3 0 10) 3 1 400) 3 2 30) 3 3 0) 3 4 127) 3 5 34) 3 6 55) 3 7 62) 3 8 69) 3 9 76) 2 7 0) 1 6 0) 1 1 ((wd 2 : Nat) : Int)) := ((((((((((((((hzz.mono (m := 14) (by decide)).up (by decide)).up (by decide)).up (by decide)).up (by decide)).up (by decide)).up (by decide)).up (by decide)).up (by decide)).up (by decide)).up (by decide)).up (by decide)).up (by decide)).up (by decide))
  refine W.widen (k := 12) (n := 378 + 120 * wd 2) (by show 0 + 12 ≤ 12; omega) (by show 0 + 378 + 120 * wd 2 ≤ 378 + 120 * wd 2; omega) ?_
  exact r_CN (sz := 0) hx hb hr hlk hK hW had dX8_init_6
theorem c_X9_playerOf_2 (l : Launch) (G : Gt) (ad : Nat → Nat) (σ : Mem) (hzz : hz 1 σ) : CR l yX9_playerOf (Cond.code yX9_playerOf cX9_playerOf 1 (some (.object "PlaySpans$Player"))) ({ frames := 4, cells := 13, slots := 385 + 120 * wd 2, locals := 85 } : Room) G ([.inr (8, [0, 1, 1, 1])] : List Shp) ([.inr (8, [0, 1, 1, 1]), .inr (ciK 2, [5, 0, 13, 14, 15, 16, 0]), .inr (1, [6, 7, 8, 9, 10, 11, 12, 0]), .inl (0, 10), .inl (0, 40), .inl (0, 40), .inl (0, 40), .inl (0, 40), .inl (0, 40), .inl (0, 120), .inl (0, 40), .inl (0, 40 * wd 2), .inl (0, 40 * wd 2), .inl (0, 40 * wd 2)] : List Shp) ad σ (up2 (up2 (up2 (up2 (up2 (up2 (up2 (up2 (up2 (up2 (up2 (up2 (up2 (σ) 3 0 10) 3 1 400) 3 2 30) 3 3 0) 3 4 127) 3 5 34) 3 6 55) 3 7 62) 3 8 69) 3 9 76) 2 7 0) 1 6 0) 1 1 ((wd 2 : Nat) : Int)) [.int (iN 2)] 13 (385 + 120 * wd 2) := by
  refine s_allN (G := G) (sh := [.inr (8, [0, 1, 1, 1])]) (ad := ad) (σ := σ) (y := yX9_playerOf) (code := cX9_playerOf) (maxL := 1) (ret := (some (.object "PlaySpans$Player"))) (rm := ({ frames := 4, cells := 13, slots := 385 + 120 * wd 2, locals := 85 } : Room)) (av := [.int (iN 2)]) (mc := 13) (ms := 385 + 120 * wd 2) (Qc := fun sz => QR G 1 ([.inr (8, [0, 1, 1, 1]), .inr (ciK 2, [5, 0, 13, 14, 15, 16, 0]), .inr (1, [6, 7, 8, 9, 10, 11, 12, 0]), .inl (0, 10), .inl (0, 40), .inl (0, 40), .inl (0, 40), .inl (0, 40), .inl (0, 40), .inl (0, 120), .inl (0, 40), .inl (0, 40 * wd 2), .inl (0, 40 * wd 2), .inl (0, 40 * wd 2)] : List Shp) ad (up2 (up2 (up2 (up2 (up2 (up2 (up2 (up2 (up2 (up2 (up2 (up2 (up2 (σ) 3 0 10) 3 1 400) 3 2 30) 3 3 0) 3 4 127) 3 5 34) 3 6 55) 3 7 62) 3 8 69) 3 9 76) 2 7 0) 1 6 0) 1 1 ((wd 2 : Nat) : Int)) (Aw ad 1 sz)) (by decide) (Nat.le_of_ble_eq_true rfl) ?_
  intro p e s m below meth c S hr hlk hin hK hE hW ls hl
  obtain ⟨hx, hb, hml, hown, hts⟩ := id S
  replace hl : lv_has ls 1 [(0, .int (iN 2))] := hl
  have hA : ∀ q : Nat, s.heap.size ≤ q → Aw ad 1 s.heap.size q := Aw_new
  have had : ∀ i, i < 1 → ad i = ad i := fun _ _ => rfl
  change Ex (Aw ad 1 s.heap.size) s at hE
  change Wd G ([.inr (8, [0, 1, 1, 1])] : List Shp) ad σ (Aw ad 1 s.heap.size) s.heap s.heap [] at hW
  change W p l e _ s m _ below meth c s.heap [] 0 0 (MQ below (QR G 1 ([.inr (8, [0, 1, 1, 1]), .inr (ciK 2, [5, 0, 13, 14, 15, 16, 0]), .inr (1, [6, 7, 8, 9, 10, 11, 12, 0]), .inl (0, 10), .inl (0, 40), .inl (0, 40), .inl (0, 40), .inl (0, 40), .inl (0, 40), .inl (0, 120), .inl (0, 40), .inl (0, 40 * wd 2), .inl (0, 40 * wd 2), .inl (0, 40 * wd 2)] : List Shp) ad (up2 (up2 (up2 (up2 (up2 (up2 (up2 (up2 (up2 (up2 (up2 (up2 (up2 (σ) 3 0 10) 3 1 400) 3 2 30) 3 3 0) 3 4 127) 3 5 34) 3 6 55) 3 7 62) 3 8 69) 3 9 76) 2 7 0) 1 6 0) 1 1 ((wd 2 : Nat) : Int)) (Aw ad 1 s.heap.size)) _ s 13 (385 + 120 * wd 2) (Aw ad 1 s.heap.size)) _
  generalize Aw ad 1 s.heap.size = A at *
  refine lv_iload_n hx hb dX9_playerOf_0 rfl (lv_at hl 0 rfl) ?_
  refine n_tableIn (v := 2) (tgt := 48) hx hb (rg_c _ rfl) rfl dX9_playerOf_1 (by decide) (by decide) rfl (by decide) ?_
  refine k_new (n := 1) (ci := 7) hx hb hts hown hK hW hA rfl hzz rfl rfl uw_X8 tyX8 tyX8_ok al_129 al_130 al_7 [1, 0, 1, 1, 1, 1, 0] rfl (fun j hj => by rcases (show j = 0 ∨ j = 1 ∨ j = 2 ∨ j = 3 ∨ j = 4 ∨ j = 5 ∨ j = 6 by omega) with rfl | rfl | rfl | rfl | rfl | rfl | rfl <;> rfl) (by show 0 + 1 ≤ 13; omega) (by show 0 + 7 ≤ 385 + 120 * wd 2; omega) dX9_playerOf_48 (fun ad1 a1 H ha h1 hW => ?_)
  replace had := fun i (hi : i < 1) => (ha i (by omega)).trans (had i hi)
  clear ha
  replace hW : Wd G ([.inr (8, [0, 1, 1, 1]), .inr (ciK 2, [1, 0, 1, 1, 1, 1, 0])] : List Shp) ad1 (σ) A s.heap H [] := hW
  replace hzz := hzz.mono (m := 2) (by decide)
  refine lv_dup hx hb dX9_playerOf_51 rfl ?_
  refine fin_CN (n := 2) hA hW rfl (run_IA (a := a1) (As := []) (rest := [.ref a1]) S hK hE hA hW (c_X8_init l G ad1 (σ) a1 h1 hzz H.size) al_131 al_132 al_7 al_133 rfl (show yX8_init.cls ≠ "java/lang/invoke/MethodHandle" ∧ yX8_init.cls ≠ "java/lang/invoke/VarHandle" ∧ (parseMethodDescriptor yX8_init.desc).map (fun d => d.parameters.length) = some 0 by decide +kernel) rfl rfl ⟨Nat.le_of_ble_eq_true rfl, Nat.le_of_ble_eq_true rfl⟩ rfl hl.1 rfl (Nat.le_of_ble_eq_true rfl) dX9_playerOf_52 ⟨(by show 0 + 1 + 12 ≤ 13; omega), (by show 0 + 7 + 378 + 120 * wd 2 ≤ 385 + 120 * wd 2; omega)⟩) (fun ad2 H locs ha hW => ?_)
  replace h1 := (ha 1 (by decide)).trans h1
  replace had := fun i (hi : i < 1) => (ha i (by omega)).trans (had i hi)
  clear ha
  replace hW : Wd G ([.inr (8, [0, 1, 1, 1]), .inr (ciK 2, [5, 0, 13, 14, 15, 16, 0]), .inr (1, [6, 7, 8, 9, 10, 11, 12, 0]), .inl (0, 10), .inl (0, 40), .inl (0, 40), .inl (0, 40), .inl (0, 40), .inl (0, 40), .inl (0, 120), .inl (0, 40), .inl (0, 40 * wd 2), .inl (0, 40 * wd 2), .inl (0, 40 * wd 2)] : List Shp) ad2 (up2 (up2 (up2 (up2 (up2 (up2 (up2 (up2 (up2 (up2 (up2 (up2 (up2 (σ) 3 0 10) 3 1 400) 3 2 30) 3 3 0) 3 4 127) 3 5 34) 3 6 55) 3 7 62) 3 8 69) 3 9 76) 2 7 0) 1 6 0) 1 1 ((wd 2 : Nat) : Int)) A s.heap H locs := hW
  replace hzz : hz 14 (up2 (up2 (up2 (up2 (up2 (up2 (up2 (up2 (up2 (up2 (up2 (up2 (up2 (σ) 3 0 10) 3 1 400) 3 2 30) 3 3 0) 3 4 127) 3 5 34) 3 6 55) 3 7 62) 3 8 69) 3 9 76) 2 7 0) 1 6 0) 1 1 ((wd 2 : Nat) : Int)) := ((((((((((((((hzz.mono (m := 14) (by decide)).up (by decide)).up (by decide)).up (by decide)).up (by decide)).up (by decide)).up (by decide)).up (by decide)).up (by decide)).up (by decide)).up (by decide)).up (by decide)).up (by decide)).up (by decide))
  refine W.widen (k := 13) (n := 385 + 120 * wd 2) (by show 0 + 1 + 12 ≤ 13; omega) (by show 0 + 7 + 378 + 120 * wd 2 ≤ 385 + 120 * wd 2; omega) ?_
  exact W.aret (v := .ref a1) hx hb hr (Or.inl ⟨_, rfl⟩) (Or.inr ⟨_, rfl⟩) (fun t ht hWm => ⟨⟨ad2, a1, rfl, had, h1, by rw [ht]; exact hW.1, va_K.moved hWm.alike hK, hW.2.1⟩, hW.2.2.F ht⟩) hW.2.2.2.2 dX9_playerOf_55 hlk
theorem c_X4_init (l : Launch) (G : Gt) (ad : Nat → Nat) (σ : Mem) (a1 : Nat) (h1 : ad 1 = a1) (hzz : hz 2 σ) : CN l yX4_init (Cond.code yX4_init cX4_init 1 none) ({ frames := 3, cells := 12, slots := 378 + 120 * wd 3, locals := 65 } : Room) G ([.inr (8, [0, 1, 1, 1]), .inr (ciK 3, [1, 0, 1, 1, 1, 1, 0])] : List Shp) ([.inr (8, [0, 1, 1, 1]), .inr (ciK 3, [5, 0, 13, 14, 15, 16, 0]), .inr (1, [6, 7, 8, 9, 10, 11, 12, 0]), .inl (0, 10), .inl (0, 40), .inl (0, 40), .inl (0, 40), .inl (0, 40), .inl (0, 40), .inl (0, 120), .inl (0, 40), .inl (0, 40 * wd 3), .inl (0, 40 * wd 3), .inl (0, 40 * wd 3)] : List Shp) ad σ (up2 (up2 (up2 (up2 (up2 (up2 (up2 (up2 (up2 (up2 (up2 (up2 (up2 (σ) 3 0 10) 3 1 400) 3 2 30) 3 3 0) 3 4 127) 3 5 34) 3 6 55) 3 7 62) 3 8 69) 3 9 76) 2 7 0) 1 6 0) 1 1 ((wd 3 : Nat) : Int)) [.ref a1] 12 (378 + 120 * wd 3) := by
  refine s_allN (G := G) (sh := [.inr (8, [0, 1, 1, 1]), .inr (ciK 3, [1, 0, 1, 1, 1, 1, 0])]) (ad := ad) (σ := σ) (y := yX4_init) (code := cX4_init) (maxL := 1) (ret := none) (rm := ({ frames := 3, cells := 12, slots := 378 + 120 * wd 3, locals := 65 } : Room)) (av := [.ref a1]) (mc := 12) (ms := 378 + 120 * wd 3) (Qc := fun sz => QN G 2 ([.inr (8, [0, 1, 1, 1]), .inr (ciK 3, [5, 0, 13, 14, 15, 16, 0]), .inr (1, [6, 7, 8, 9, 10, 11, 12, 0]), .inl (0, 10), .inl (0, 40), .inl (0, 40), .inl (0, 40), .inl (0, 40), .inl (0, 40), .inl (0, 120), .inl (0, 40), .inl (0, 40 * wd 3), .inl (0, 40 * wd 3), .inl (0, 40 * wd 3)] : List Shp) ad (up2 (up2 (up2 (up2 (up2 (up2 (up2 (up2 (up2 (up2 (up2 (up2 (up2 (σ) 3 0 10) 3 1 400) 3 2 30) 3 3 0) 3 4 127) 3 5 34) 3 6 55) 3 7 62) 3 8 69) 3 9 76) 2 7 0) 1 6 0) 1 1 ((wd 3 : Nat) : Int)) (Aw ad 2 sz)) (by decide) (Nat.le_of_ble_eq_true rfl) ?_
  intro p e s m below meth c S hr hlk hin hK hE hW ls hl
  replace hin := hin rfl
  obtain ⟨hx, hb, hml, hown, hts⟩ := id S
  replace hl : lv_has ls 1 [(0, .ref a1)] := hl
  have hA : ∀ q : Nat, s.heap.size ≤ q → Aw ad 2 s.heap.size q := Aw_new
  have had : ∀ i, i < 2 → ad i = ad i := fun _ _ => rfl
  change Ex (Aw ad 2 s.heap.size) s at hE
  change Wd G ([.inr (8, [0, 1, 1, 1]), .inr (ciK 3, [1, 0, 1, 1, 1, 1, 0])] : List Shp) ad σ (Aw ad 2 s.heap.size) s.heap s.heap [] at hW
  change W p l e _ s m _ below meth c s.heap [] 0 0 (MQ below (QN G 2 ([.inr (8, [0, 1, 1, 1]), .inr (ciK 3, [5, 0, 13, 14, 15, 16, 0]), .inr (1, [6, 7, 8, 9, 10, 11, 12, 0]), .inl (0, 10), .inl (0, 40), .inl (0, 40), .inl (0, 40), .inl (0, 40), .inl (0, 40), .inl (0, 120), .inl (0, 40), .inl (0, 40 * wd 3), .inl (0, 40 * wd 3), .inl (0, 40 * wd 3)] : List Shp) ad (up2 (up2 (up2 (up2 (up2 (up2 (up2 (up2 (up2 (up2 (up2 (up2 (up2 (σ) 3 0 10) 3 1 400) 3 2 30) 3 3 0) 3 4 127) 3 5 34) 3 6 55) 3 7 62) 3 8 69) 3 9 76) 2 7 0) 1 6 0) 1 1 ((wd 3 : Nat) : Int)) (Aw ad 2 s.heap.size)) _ s 12 (378 + 120 * wd 3) (Aw ad 2 s.heap.size)) _
  generalize Aw ad 2 s.heap.size = A at *
  refine lv_aload_n hx hb dX4_init_0 rfl (lv_at hl 0 rfl) ?_
  refine n_bipush hx hb dX4_init_1 (by decide) ?_
  refine fin_CN (n := 2) hA hW rfl (run_IA (a := a1) (As := [.int (iN 7)]) (rest := []) S hK hE hA hW (c_X2_init l G 3 (by decide) ad (σ) a1 h1 7 rfl hzz s.heap.size) al_148 al_38 al_3 al_39 rfl (show yX2_init.cls ≠ "java/lang/invoke/MethodHandle" ∧ yX2_init.cls ≠ "java/lang/invoke/VarHandle" ∧ (parseMethodDescriptor yX2_init.desc).map (fun d => d.parameters.length) = some 1 by decide +kernel) rfl rfl ⟨Nat.le_of_ble_eq_true rfl, Nat.le_of_ble_eq_true rfl⟩ rfl hl.1 rfl (Nat.le_of_ble_eq_true rfl) dX4_init_3 ⟨(by show 0 + 12 ≤ 12; omega), (by show 0 + 378 + 120 * wd 3 ≤ 378 + 120 * wd 3; omega)⟩) (fun ad1 H locs ha hW => ?_)
  replace h1 := (ha 1 (by decide)).trans h1
  replace had := fun i (hi : i < 2) => (ha i (by omega)).trans (had i hi)
  clear ha
  replace hW : Wd G ([.inr (8, [0, 1, 1, 1]), .inr (ciK 3, [5, 0, 13, 14, 15, 16, 0]), .inr (1, [6, 7, 8, 9, 10, 11, 12, 0]), .inl (0, 10), .inl (0, 40), .inl (0, 40), .inl (0, 40), .inl (0, 40), .inl (0, 40), .inl (0, 120), .inl (0, 40), .inl (0, 40 * wd 3), .inl (0, 40 * wd 3), .inl (0, 40 * wd 3)] : List Shp) ad1 (up2 (up2 (up2 (up2 (up2 (up2 (up2 (up2 (up2 (up2 (up2 (up2 (up2 (σ) 3 0 10) 3 1 400) 3 2 30) 3 3 0) 3 4 127) 3 5 34) 3 6 55) 3 7 62) 3 8 69) 3 9 76) 2 7 0) 1 6 0) 1 1 ((wd 3 : Nat) : Int)) A s.heap H locs := hW
  replace hzz : hz 14 (up2 (up2 (up2 (up2 (up2 (up2 (up2 (up2 (up2 (up2 (up2 (up2 (up2 (σ) 3 0 10) 3 1 400) 3 2 30) 3 3 0) 3 4 127) 3 5 34) 3 6 55) 3 7 62) 3 8 69) 3 9 76) 2 7 0) 1 6 0) 1 1 ((wd 3 : Nat) : Int)) := ((((((((((((((hzz.mono (m := 14) (by decide)).up (by decide)).up (by decide)).up (by decide)).up (by decide)).up (by decide)).up (by decide)).up (by decide)).up (by decide)).up (by decide)).up (by decide)).up (by decide)).up (by decide)).up (by decide))
  refine W.widen (k := 12) (n := 378 + 120 * wd 3) (by show 0 + 12 ≤ 12; omega) (by show 0 + 378 + 120 * wd 3 ≤ 378 + 120 * wd 3; omega) ?_
  exact r_CN (sz := 0) hx hb hr hlk hK hW had dX4_init_6
theorem c_X9_playerOf_3 (l : Launch) (G : Gt) (ad : Nat → Nat) (σ : Mem) (hzz : hz 1 σ) : CR l yX9_playerOf (Cond.code yX9_playerOf cX9_playerOf 1 (some (.object "PlaySpans$Player"))) ({ frames := 4, cells := 13, slots := 385 + 120 * wd 3, locals := 85 } : Room) G ([.inr (8, [0, 1, 1, 1])] : List Shp) ([.inr (8, [0, 1, 1, 1]), .inr (ciK 3, [5, 0, 13, 14, 15, 16, 0]), .inr (1, [6, 7, 8, 9, 10, 11, 12, 0]), .inl (0, 10), .inl (0, 40), .inl (0, 40), .inl (0, 40), .inl (0, 40), .inl (0, 40), .inl (0, 120), .inl (0, 40), .inl (0, 40 * wd 3), .inl (0, 40 * wd 3), .inl (0, 40 * wd 3)] : List Shp) ad σ (up2 (up2 (up2 (up2 (up2 (up2 (up2 (up2 (up2 (up2 (up2 (up2 (up2 (σ) 3 0 10) 3 1 400) 3 2 30) 3 3 0) 3 4 127) 3 5 34) 3 6 55) 3 7 62) 3 8 69) 3 9 76) 2 7 0) 1 6 0) 1 1 ((wd 3 : Nat) : Int)) [.int (iN 3)] 13 (385 + 120 * wd 3) := by
  refine s_allN (G := G) (sh := [.inr (8, [0, 1, 1, 1])]) (ad := ad) (σ := σ) (y := yX9_playerOf) (code := cX9_playerOf) (maxL := 1) (ret := (some (.object "PlaySpans$Player"))) (rm := ({ frames := 4, cells := 13, slots := 385 + 120 * wd 3, locals := 85 } : Room)) (av := [.int (iN 3)]) (mc := 13) (ms := 385 + 120 * wd 3) (Qc := fun sz => QR G 1 ([.inr (8, [0, 1, 1, 1]), .inr (ciK 3, [5, 0, 13, 14, 15, 16, 0]), .inr (1, [6, 7, 8, 9, 10, 11, 12, 0]), .inl (0, 10), .inl (0, 40), .inl (0, 40), .inl (0, 40), .inl (0, 40), .inl (0, 40), .inl (0, 120), .inl (0, 40), .inl (0, 40 * wd 3), .inl (0, 40 * wd 3), .inl (0, 40 * wd 3)] : List Shp) ad (up2 (up2 (up2 (up2 (up2 (up2 (up2 (up2 (up2 (up2 (up2 (up2 (up2 (σ) 3 0 10) 3 1 400) 3 2 30) 3 3 0) 3 4 127) 3 5 34) 3 6 55) 3 7 62) 3 8 69) 3 9 76) 2 7 0) 1 6 0) 1 1 ((wd 3 : Nat) : Int)) (Aw ad 1 sz)) (by decide) (Nat.le_of_ble_eq_true rfl) ?_
  intro p e s m below meth c S hr hlk hin hK hE hW ls hl
  obtain ⟨hx, hb, hml, hown, hts⟩ := id S
  replace hl : lv_has ls 1 [(0, .int (iN 3))] := hl
  have hA : ∀ q : Nat, s.heap.size ≤ q → Aw ad 1 s.heap.size q := Aw_new
  have had : ∀ i, i < 1 → ad i = ad i := fun _ _ => rfl
  change Ex (Aw ad 1 s.heap.size) s at hE
  change Wd G ([.inr (8, [0, 1, 1, 1])] : List Shp) ad σ (Aw ad 1 s.heap.size) s.heap s.heap [] at hW
  change W p l e _ s m _ below meth c s.heap [] 0 0 (MQ below (QR G 1 ([.inr (8, [0, 1, 1, 1]), .inr (ciK 3, [5, 0, 13, 14, 15, 16, 0]), .inr (1, [6, 7, 8, 9, 10, 11, 12, 0]), .inl (0, 10), .inl (0, 40), .inl (0, 40), .inl (0, 40), .inl (0, 40), .inl (0, 40), .inl (0, 120), .inl (0, 40), .inl (0, 40 * wd 3), .inl (0, 40 * wd 3), .inl (0, 40 * wd 3)] : List Shp) ad (up2 (up2 (up2 (up2 (up2 (up2 (up2 (up2 (up2 (up2 (up2 (up2 (up2 (σ) 3 0 10) 3 1 400) 3 2 30) 3 3 0) 3 4 127) 3 5 34) 3 6 55) 3 7 62) 3 8 69) 3 9 76) 2 7 0) 1 6 0) 1 1 ((wd 3 : Nat) : Int)) (Aw ad 1 s.heap.size)) _ s 13 (385 + 120 * wd 3) (Aw ad 1 s.heap.size)) _
  generalize Aw ad 1 s.heap.size = A at *
  refine lv_iload_n hx hb dX9_playerOf_0 rfl (lv_at hl 0 rfl) ?_
  refine n_tableIn (v := 3) (tgt := 56) hx hb (rg_c _ rfl) rfl dX9_playerOf_1 (by decide) (by decide) rfl (by decide) ?_
  refine k_new (n := 1) (ci := 3) hx hb hts hown hK hW hA rfl hzz rfl rfl uw_X4 tyX4 tyX4_ok al_143 al_144 al_8 [1, 0, 1, 1, 1, 1, 0] rfl (fun j hj => by rcases (show j = 0 ∨ j = 1 ∨ j = 2 ∨ j = 3 ∨ j = 4 ∨ j = 5 ∨ j = 6 by omega) with rfl | rfl | rfl | rfl | rfl | rfl | rfl <;> rfl) (by show 0 + 1 ≤ 13; omega) (by show 0 + 7 ≤ 385 + 120 * wd 3; omega) dX9_playerOf_56 (fun ad1 a1 H ha h1 hW => ?_)
  replace had := fun i (hi : i < 1) => (ha i (by omega)).trans (had i hi)
  clear ha
  replace hW : Wd G ([.inr (8, [0, 1, 1, 1]), .inr (ciK 3, [1, 0, 1, 1, 1, 1, 0])] : List Shp) ad1 (σ) A s.heap H [] := hW
  replace hzz := hzz.mono (m := 2) (by decide)
  refine lv_dup hx hb dX9_playerOf_59 rfl ?_
  refine fin_CN (n := 2) hA hW rfl (run_IA (a := a1) (As := []) (rest := [.ref a1]) S hK hE hA hW (c_X4_init l G ad1 (σ) a1 h1 hzz H.size) al_145 al_146 al_8 al_147 rfl (show yX4_init.cls ≠ "java/lang/invoke/MethodHandle" ∧ yX4_init.cls ≠ "java/lang/invoke/VarHandle" ∧ (parseMethodDescriptor yX4_init.desc).map (fun d => d.parameters.length) = some 0 by decide +kernel) rfl rfl ⟨Nat.le_of_ble_eq_true rfl, Nat.le_of_ble_eq_true rfl⟩ rfl hl.1 rfl (Nat.le_of_ble_eq_true rfl) dX9_playerOf_60 ⟨(by show 0 + 1 + 12 ≤ 13; omega), (by show 0 + 7 + 378 + 120 * wd 3 ≤ 385 + 120 * wd 3; omega)⟩) (fun ad2 H locs ha hW => ?_)
  replace h1 := (ha 1 (by decide)).trans h1
  replace had := fun i (hi : i < 1) => (ha i (by omega)).trans (had i hi)
  clear ha
  replace hW : Wd G ([.inr (8, [0, 1, 1, 1]), .inr (ciK 3, [5, 0, 13, 14, 15, 16, 0]), .inr (1, [6, 7, 8, 9, 10, 11, 12, 0]), .inl (0, 10), .inl (0, 40), .inl (0, 40), .inl (0, 40), .inl (0, 40), .inl (0, 40), .inl (0, 120), .inl (0, 40), .inl (0, 40 * wd 3), .inl (0, 40 * wd 3), .inl (0, 40 * wd 3)] : List Shp) ad2 (up2 (up2 (up2 (up2 (up2 (up2 (up2 (up2 (up2 (up2 (up2 (up2 (up2 (σ) 3 0 10) 3 1 400) 3 2 30) 3 3 0) 3 4 127) 3 5 34) 3 6 55) 3 7 62) 3 8 69) 3 9 76) 2 7 0) 1 6 0) 1 1 ((wd 3 : Nat) : Int)) A s.heap H locs := hW
  replace hzz : hz 14 (up2 (up2 (up2 (up2 (up2 (up2 (up2 (up2 (up2 (up2 (up2 (up2 (up2 (σ) 3 0 10) 3 1 400) 3 2 30) 3 3 0) 3 4 127) 3 5 34) 3 6 55) 3 7 62) 3 8 69) 3 9 76) 2 7 0) 1 6 0) 1 1 ((wd 3 : Nat) : Int)) := ((((((((((((((hzz.mono (m := 14) (by decide)).up (by decide)).up (by decide)).up (by decide)).up (by decide)).up (by decide)).up (by decide)).up (by decide)).up (by decide)).up (by decide)).up (by decide)).up (by decide)).up (by decide)).up (by decide))
  refine W.widen (k := 13) (n := 385 + 120 * wd 3) (by show 0 + 1 + 12 ≤ 13; omega) (by show 0 + 7 + 378 + 120 * wd 3 ≤ 385 + 120 * wd 3; omega) ?_
  exact W.aret (v := .ref a1) hx hb hr (Or.inl ⟨_, rfl⟩) (Or.inr ⟨_, rfl⟩) (fun t ht hWm => ⟨⟨ad2, a1, rfl, had, h1, by rw [ht]; exact hW.1, va_K.moved hWm.alike hK, hW.2.1⟩, hW.2.2.F ht⟩) hW.2.2.2.2 dX9_playerOf_63 hlk
theorem c_X5_init (l : Launch) (G : Gt) (ad : Nat → Nat) (σ : Mem) (a1 : Nat) (h1 : ad 1 = a1) (hzz : hz 2 σ) : CN l yX5_init (Cond.code yX5_init cX5_init 1 none) ({ frames := 3, cells := 12, slots := 378 + 120 * wd 4, locals := 65 } : Room) G ([.inr (8, [0, 1, 1, 1]), .inr (ciK 4, [1, 0, 1, 1, 1, 1, 0])] : List Shp) ([.inr (8, [0, 1, 1, 1]), .inr (ciK 4, [5, 0, 13, 14, 15, 16, 0]), .inr (1, [6, 7, 8, 9, 10, 11, 12, 0]), .inl (0, 10), .inl (0, 40), .inl (0, 40), .inl (0, 40), .inl (0, 40), .inl (0, 40), .inl (0, 120), .inl (0, 40), .inl (0, 40 * wd 4), .inl (0, 40 * wd 4), .inl (0, 40 * wd 4)] : List Shp) ad σ (up2 (up2 (up2 (up2 (up2 (up2 (up2 (up2 (up2 (up2 (up2 (up2 (up2 (σ) 3 0 10) 3 1 400) 3 2 30) 3 3 0) 3 4 127) 3 5 34) 3 6 55) 3 7 62) 3 8 69) 3 9 76) 2 7 0) 1 6 0) 1 1 ((wd 4 : Nat) : Int)) [.ref a1] 12 (378 + 120 * wd 4) := by
  refine s_allN (G := G) (sh := [.inr (8, [0, 1, 1, 1]), .inr (ciK 4, [1, 0, 1, 1, 1, 1, 0])]) (ad := ad) (σ := σ) (y := yX5_init) (code := cX5_init) (maxL := 1) (ret := none) (rm := ({ frames := 3, cells := 12, slots := 378 + 120 * wd 4, locals := 65 } : Room)) (av := [.ref a1]) (mc := 12) (ms := 378 + 120 * wd 4) (Qc := fun sz => QN G 2 ([.inr (8, [0, 1, 1, 1]), .inr (ciK 4, [5, 0, 13, 14, 15, 16, 0]), .inr (1, [6, 7, 8, 9, 10, 11, 12, 0]), .inl (0, 10), .inl (0, 40), .inl (0, 40), .inl (0, 40), .inl (0, 40), .inl (0, 40), .inl (0, 120), .inl (0, 40), .inl (0, 40 * wd 4), .inl (0, 40 * wd 4), .inl (0, 40 * wd 4)] : List Shp) ad (up2 (up2 (up2 (up2 (up2 (up2 (up2 (up2 (up2 (up2 (up2 (up2 (up2 (σ) 3 0 10) 3 1 400) 3 2 30) 3 3 0) 3 4 127) 3 5 34) 3 6 55) 3 7 62) 3 8 69) 3 9 76) 2 7 0) 1 6 0) 1 1 ((wd 4 : Nat) : Int)) (Aw ad 2 sz)) (by decide) (Nat.le_of_ble_eq_true rfl) ?_
  intro p e s m below meth c S hr hlk hin hK hE hW ls hl
  replace hin := hin rfl
  obtain ⟨hx, hb, hml, hown, hts⟩ := id S
  replace hl : lv_has ls 1 [(0, .ref a1)] := hl
  have hA : ∀ q : Nat, s.heap.size ≤ q → Aw ad 2 s.heap.size q := Aw_new
  have had : ∀ i, i < 2 → ad i = ad i := fun _ _ => rfl
  change Ex (Aw ad 2 s.heap.size) s at hE
  change Wd G ([.inr (8, [0, 1, 1, 1]), .inr (ciK 4, [1, 0, 1, 1, 1, 1, 0])] : List Shp) ad σ (Aw ad 2 s.heap.size) s.heap s.heap [] at hW
  change W p l e _ s m _ below meth c s.heap [] 0 0 (MQ below (QN G 2 ([.inr (8, [0, 1, 1, 1]), .inr (ciK 4, [5, 0, 13, 14, 15, 16, 0]), .inr (1, [6, 7, 8, 9, 10, 11, 12, 0]), .inl (0, 10), .inl (0, 40), .inl (0, 40), .inl (0, 40), .inl (0, 40), .inl (0, 40), .inl (0, 120), .inl (0, 40), .inl (0, 40 * wd 4), .inl (0, 40 * wd 4), .inl (0, 40 * wd 4)] : List Shp) ad (up2 (up2 (up2 (up2 (up2 (up2 (up2 (up2 (up2 (up2 (up2 (up2 (up2 (σ) 3 0 10) 3 1 400) 3 2 30) 3 3 0) 3 4 127) 3 5 34) 3 6 55) 3 7 62) 3 8 69) 3 9 76) 2 7 0) 1 6 0) 1 1 ((wd 4 : Nat) : Int)) (Aw ad 2 s.heap.size)) _ s 12 (378 + 120 * wd 4) (Aw ad 2 s.heap.size)) _
  generalize Aw ad 2 s.heap.size = A at *
  refine lv_aload_n hx hb dX5_init_0 rfl (lv_at hl 0 rfl) ?_
  refine n_bipush hx hb dX5_init_1 (by decide) ?_
  refine fin_CN (n := 2) hA hW rfl (run_IA (a := a1) (As := [.int (iN 80)]) (rest := []) S hK hE hA hW (c_X2_init l G 4 (by decide) ad (σ) a1 h1 80 rfl hzz s.heap.size) al_162 al_38 al_3 al_39 rfl (show yX2_init.cls ≠ "java/lang/invoke/MethodHandle" ∧ yX2_init.cls ≠ "java/lang/invoke/VarHandle" ∧ (parseMethodDescriptor yX2_init.desc).map (fun d => d.parameters.length) = some 1 by decide +kernel) rfl rfl ⟨Nat.le_of_ble_eq_true rfl, Nat.le_of_ble_eq_true rfl⟩ rfl hl.1 rfl (Nat.le_of_ble_eq_true rfl) dX5_init_3 ⟨(by show 0 + 12 ≤ 12; omega), (by show 0 + 378 + 120 * wd 4 ≤ 378 + 120 * wd 4; omega)⟩) (fun ad1 H locs ha hW => ?_)
  replace h1 := (ha 1 (by decide)).trans h1
  replace had := fun i (hi : i < 2) => (ha i (by omega)).trans (had i hi)
  clear ha
  replace hW : Wd G ([.inr (8, [0, 1, 1, 1]), .inr (ciK 4, [5, 0, 13, 14, 15, 16, 0]), .inr (1, [6, 7, 8, 9, 10, 11, 12, 0]), .inl (0, 10), .inl (0, 40), .inl (0, 40), .inl (0, 40), .inl (0, 40), .inl (0, 40), .inl (0, 120), .inl (0, 40), .inl (0, 40 * wd 4), .inl (0, 40 * wd 4), .inl (0, 40 * wd 4)] : List Shp) ad1 (up2 (up2 (up2 (up2 (up2 (up2 (up2 (up2 (up2 (up2 (up2 (up2 (up2 (σ) 3 0 10) 3 1 400) 3 2 30) 3 3 0) 3 4 127) 3 5 34) 3 6 55) 3 7 62) 3 8 69) 3 9 76) 2 7 0) 1 6 0) 1 1 ((wd 4 : Nat) : Int)) A s.heap H locs := hW
  replace hzz : hz 14 (up2 (up2 (up2 (up2 (up2 (up2 (up2 (up2 (up2 (up2 (up2 (up2 (up2 (σ) 3 0 10) 3 1 400) 3 2 30) 3 3 0) 3 4 127) 3 5 34) 3 6 55) 3 7 62) 3 8 69) 3 9 76) 2 7 0) 1 6 0) 1 1 ((wd 4 : Nat) : Int)) := ((((((((((((((hzz.mono (m := 14) (by decide)).up (by decide)).up (by decide)).up (by decide)).up (by decide)).up (by decide)).up (by decide)).up (by decide)).up (by decide)).up (by decide)).up (by decide)).up (by decide)).up (by decide)).up (by decide))
  refine W.widen (k := 12) (n := 378 + 120 * wd 4) (by show 0 + 12 ≤ 12; omega) (by show 0 + 378 + 120 * wd 4 ≤ 378 + 120 * wd 4; omega) ?_
  exact r_CN (sz := 0) hx hb hr hlk hK hW had dX5_init_6
theorem c_X9_playerOf_4 (l : Launch) (G : Gt) (ad : Nat → Nat) (σ : Mem) (hzz : hz 1 σ) : CR l yX9_playerOf (Cond.code yX9_playerOf cX9_playerOf 1 (some (.object "PlaySpans$Player"))) ({ frames := 4, cells := 13, slots := 385 + 120 * wd 4, locals := 85 } : Room) G ([.inr (8, [0, 1, 1, 1])] : List Shp) ([.inr (8, [0, 1, 1, 1]), .inr (ciK 4, [5, 0, 13, 14, 15, 16, 0]), .inr (1, [6, 7, 8, 9, 10, 11, 12, 0]), .inl (0, 10), .inl (0, 40), .inl (0, 40), .inl (0, 40), .inl (0, 40), .inl (0, 40), .inl (0, 120), .inl (0, 40), .inl (0, 40 * wd 4), .inl (0, 40 * wd 4), .inl (0, 40 * wd 4)] : List Shp) ad σ (up2 (up2 (up2 (up2 (up2 (up2 (up2 (up2 (up2 (up2 (up2 (up2 (up2 (σ) 3 0 10) 3 1 400) 3 2 30) 3 3 0) 3 4 127) 3 5 34) 3 6 55) 3 7 62) 3 8 69) 3 9 76) 2 7 0) 1 6 0) 1 1 ((wd 4 : Nat) : Int)) [.int (iN 4)] 13 (385 + 120 * wd 4) := by
  refine s_allN (G := G) (sh := [.inr (8, [0, 1, 1, 1])]) (ad := ad) (σ := σ) (y := yX9_playerOf) (code := cX9_playerOf) (maxL := 1) (ret := (some (.object "PlaySpans$Player"))) (rm := ({ frames := 4, cells := 13, slots := 385 + 120 * wd 4, locals := 85 } : Room)) (av := [.int (iN 4)]) (mc := 13) (ms := 385 + 120 * wd 4) (Qc := fun sz => QR G 1 ([.inr (8, [0, 1, 1, 1]), .inr (ciK 4, [5, 0, 13, 14, 15, 16, 0]), .inr (1, [6, 7, 8, 9, 10, 11, 12, 0]), .inl (0, 10), .inl (0, 40), .inl (0, 40), .inl (0, 40), .inl (0, 40), .inl (0, 40), .inl (0, 120), .inl (0, 40), .inl (0, 40 * wd 4), .inl (0, 40 * wd 4), .inl (0, 40 * wd 4)] : List Shp) ad (up2 (up2 (up2 (up2 (up2 (up2 (up2 (up2 (up2 (up2 (up2 (up2 (up2 (σ) 3 0 10) 3 1 400) 3 2 30) 3 3 0) 3 4 127) 3 5 34) 3 6 55) 3 7 62) 3 8 69) 3 9 76) 2 7 0) 1 6 0) 1 1 ((wd 4 : Nat) : Int)) (Aw ad 1 sz)) (by decide) (Nat.le_of_ble_eq_true rfl) ?_
  intro p e s m below meth c S hr hlk hin hK hE hW ls hl
  obtain ⟨hx, hb, hml, hown, hts⟩ := id S
  replace hl : lv_has ls 1 [(0, .int (iN 4))] := hl
  have hA : ∀ q : Nat, s.heap.size ≤ q → Aw ad 1 s.heap.size q := Aw_new
  have had : ∀ i, i < 1 → ad i = ad i := fun _ _ => rfl
  change Ex (Aw ad 1 s.heap.size) s at hE
  change Wd G ([.inr (8, [0, 1, 1, 1])] : List Shp) ad σ (Aw ad 1 s.heap.size) s.heap s.heap [] at hW
  change W p l e _ s m _ below meth c s.heap [] 0 0 (MQ below (QR G 1 ([.inr (8, [0, 1, 1, 1]), .inr (ciK 4, [5, 0, 13, 14, 15, 16, 0]), .inr (1, [6, 7, 8, 9, 10, 11, 12, 0]), .inl (0, 10), .inl (0, 40), .inl (0, 40), .inl (0, 40), .inl (0, 40), .inl (0, 40), .inl (0, 120), .inl (0, 40), .inl (0, 40 * wd 4), .inl (0, 40 * wd 4), .inl (0, 40 * wd 4)] : List Shp) ad (up2 (up2 (up2 (up2 (up2 (up2 (up2 (up2 (up2 (up2 (up2 (up2 (up2 (σ) 3 0 10) 3 1 400) 3 2 30) 3 3 0) 3 4 127) 3 5 34) 3 6 55) 3 7 62) 3 8 69) 3 9 76) 2 7 0) 1 6 0) 1 1 ((wd 4 : Nat) : Int)) (Aw ad 1 s.heap.size)) _ s 13 (385 + 120 * wd 4) (Aw ad 1 s.heap.size)) _
  generalize Aw ad 1 s.heap.size = A at *
  refine lv_iload_n hx hb dX9_playerOf_0 rfl (lv_at hl 0 rfl) ?_
  refine n_tableOut (tgt := 64) hx hb (rg_c _ rfl) (Or.inr (by decide)) dX9_playerOf_1 (by decide) ?_
  refine k_new (n := 1) (ci := 4) hx hb hts hown hK hW hA rfl hzz rfl rfl uw_X5 tyX5 tyX5_ok al_157 al_158 al_9 [1, 0, 1, 1, 1, 1, 0] rfl (fun j hj => by rcases (show j = 0 ∨ j = 1 ∨ j = 2 ∨ j = 3 ∨ j = 4 ∨ j = 5 ∨ j = 6 by omega) with rfl | rfl | rfl | rfl | rfl | rfl | rfl <;> rfl) (by show 0 + 1 ≤ 13; omega) (by show 0 + 7 ≤ 385 + 120 * wd 4; omega) dX9_playerOf_64 (fun ad1 a1 H ha h1 hW => ?_)
  replace had := fun i (hi : i < 1) => (ha i (by omega)).trans (had i hi)
  clear ha
  replace hW : Wd G ([.inr (8, [0, 1, 1, 1]), .inr (ciK 4, [1, 0, 1, 1, 1, 1, 0])] : List Shp) ad1 (σ) A s.heap H [] := hW
  replace hzz := hzz.mono (m := 2) (by decide)
  refine lv_dup hx hb dX9_playerOf_67 rfl ?_
  refine fin_CN (n := 2) hA hW rfl (run_IA (a := a1) (As := []) (rest := [.ref a1]) S hK hE hA hW (c_X5_init l G ad1 (σ) a1 h1 hzz H.size) al_159 al_160 al_9 al_161 rfl (show yX5_init.cls ≠ "java/lang/invoke/MethodHandle" ∧ yX5_init.cls ≠ "java/lang/invoke/VarHandle" ∧ (parseMethodDescriptor yX5_init.desc).map (fun d => d.parameters.length) = some 0 by decide +kernel) rfl rfl ⟨Nat.le_of_ble_eq_true rfl, Nat.le_of_ble_eq_true rfl⟩ rfl hl.1 rfl (Nat.le_of_ble_eq_true rfl) dX9_playerOf_68 ⟨(by show 0 + 1 + 12 ≤ 13; omega), (by show 0 + 7 + 378 + 120 * wd 4 ≤ 385 + 120 * wd 4; omega)⟩) (fun ad2 H locs ha hW => ?_)
  replace h1 := (ha 1 (by decide)).trans h1
  replace had := fun i (hi : i < 1) => (ha i (by omega)).trans (had i hi)
  clear ha
  replace hW : Wd G ([.inr (8, [0, 1, 1, 1]), .inr (ciK 4, [5, 0, 13, 14, 15, 16, 0]), .inr (1, [6, 7, 8, 9, 10, 11, 12, 0]), .inl (0, 10), .inl (0, 40), .inl (0, 40), .inl (0, 40), .inl (0, 40), .inl (0, 40), .inl (0, 120), .inl (0, 40), .inl (0, 40 * wd 4), .inl (0, 40 * wd 4), .inl (0, 40 * wd 4)] : List Shp) ad2 (up2 (up2 (up2 (up2 (up2 (up2 (up2 (up2 (up2 (up2 (up2 (up2 (up2 (σ) 3 0 10) 3 1 400) 3 2 30) 3 3 0) 3 4 127) 3 5 34) 3 6 55) 3 7 62) 3 8 69) 3 9 76) 2 7 0) 1 6 0) 1 1 ((wd 4 : Nat) : Int)) A s.heap H locs := hW
  replace hzz : hz 14 (up2 (up2 (up2 (up2 (up2 (up2 (up2 (up2 (up2 (up2 (up2 (up2 (up2 (σ) 3 0 10) 3 1 400) 3 2 30) 3 3 0) 3 4 127) 3 5 34) 3 6 55) 3 7 62) 3 8 69) 3 9 76) 2 7 0) 1 6 0) 1 1 ((wd 4 : Nat) : Int)) := ((((((((((((((hzz.mono (m := 14) (by decide)).up (by decide)).up (by decide)).up (by decide)).up (by decide)).up (by decide)).up (by decide)).up (by decide)).up (by decide)).up (by decide)).up (by decide)).up (by decide)).up (by decide)).up (by decide))
  refine W.widen (k := 13) (n := 385 + 120 * wd 4) (by show 0 + 1 + 12 ≤ 13; omega) (by show 0 + 7 + 378 + 120 * wd 4 ≤ 385 + 120 * wd 4; omega) ?_
  exact W.aret (v := .ref a1) hx hb hr (Or.inl ⟨_, rfl⟩) (Or.inr ⟨_, rfl⟩) (fun t ht hWm => ⟨⟨ad2, a1, rfl, had, h1, by rw [ht]; exact hW.1, va_K.moved hWm.alike hK, hW.2.1⟩, hW.2.2.F ht⟩) hW.2.2.2.2 dX9_playerOf_71 hlk
theorem c_X9_playerOf (l : Launch) (G : Gt) (κ : Nat) (hκ : κ < 5) (ad : Nat → Nat) (σ : Mem) (hzz : hz 1 σ) : CR l yX9_playerOf (Cond.code yX9_playerOf cX9_playerOf 1 (some (.object "PlaySpans$Player"))) ({ frames := 4, cells := 13, slots := 385 + 120 * wd κ, locals := 85 } : Room) G ([.inr (8, [0, 1, 1, 1])] : List Shp) ([.inr (8, [0, 1, 1, 1]), .inr (ciK κ, [5, 0, 13, 14, 15, 16, 0]), .inr (1, [6, 7, 8, 9, 10, 11, 12, 0]), .inl (0, 10), .inl (0, 40), .inl (0, 40), .inl (0, 40), .inl (0, 40), .inl (0, 40), .inl (0, 120), .inl (0, 40), .inl (0, 40 * wd κ), .inl (0, 40 * wd κ), .inl (0, 40 * wd κ)] : List Shp) ad σ (up2 (up2 (up2 (up2 (up2 (up2 (up2 (up2 (up2 (up2 (up2 (up2 (up2 (σ) 3 0 10) 3 1 400) 3 2 30) 3 3 0) 3 4 127) 3 5 34) 3 6 55) 3 7 62) 3 8 69) 3 9 76) 2 7 0) 1 6 0) 1 1 ((wd κ : Nat) : Int)) [.int (iN (κ : Int))] 13 (385 + 120 * wd κ) :=
  k5 (P := fun κ => CR l yX9_playerOf (Cond.code yX9_playerOf cX9_playerOf 1 (some (.object "PlaySpans$Player"))) ({ frames := 4, cells := 13, slots := 385 + 120 * wd κ, locals := 85 } : Room) G ([.inr (8, [0, 1, 1, 1])] : List Shp) ([.inr (8, [0, 1, 1, 1]), .inr (ciK κ, [5, 0, 13, 14, 15, 16, 0]), .inr (1, [6, 7, 8, 9, 10, 11, 12, 0]), .inl (0, 10), .inl (0, 40), .inl (0, 40), .inl (0, 40), .inl (0, 40), .inl (0, 40), .inl (0, 120), .inl (0, 40), .inl (0, 40 * wd κ), .inl (0, 40 * wd κ), .inl (0, 40 * wd κ)] : List Shp) ad σ (up2 (up2 (up2 (up2 (up2 (up2 (up2 (up2 (up2 (up2 (up2 (up2 (up2 (σ) 3 0 10) 3 1 400) 3 2 30) 3 3 0) 3 4 127) 3 5 34) 3 6 55) 3 7 62) 3 8 69) 3 9 76) 2 7 0) 1 6 0) 1 1 ((wd κ : Nat) : Int)) [.int (iN (κ : Int))] 13 (385 + 120 * wd κ)) hκ (c_X9_playerOf_0 l G ad σ hzz) (c_X9_playerOf_1 l G ad σ hzz) (c_X9_playerOf_2 l G ad σ hzz) (c_X9_playerOf_3 l G ad σ hzz) (c_X9_playerOf_4 l G ad σ hzz)
theorem c_X3_init (l : Launch) (G : Gt) (κ : Nat) (hκ : κ < 5) (ad : Nat → Nat) (σ : Mem) (a14 : Nat) (h14 : ad 14 = a14) (v1 : Int) (hv1 : v1 = ((wd κ : Nat) : Int)) (hzz : hz 15 σ) : CN l yX3_init (Cond.code yX3_init cX3_init 2 none) ({ frames := 1, cells := 2, slots := 40 + 40 * wd κ, locals := 30 } : Room) G ([.inr (8, [0, 4, 1, 1]), .inr (ciK κ, [5, 0, 13, 14, 15, 16, 0]), .inr (1, [6, 7, 8, 9, 10, 11, 12, 0]), .inl (0, 10), .inl (0, 40), .inl (0, 40), .inl (0, 40), .inl (0, 40), .inl (0, 40), .inl (0, 120), .inl (0, 40), .inl (0, 40 * wd κ), .inl (0, 40 * wd κ), .inl (0, 40 * wd κ), .inr (2, [0, 1, 1, 0, 0, 0])] : List Shp) ([.inr (8, [0, 4, 1, 1]), .inr (ciK κ, [5, 0, 13, 14, 15, 16, 0]), .inr (1, [6, 7, 8, 9, 10, 11, 12, 0]), .inl (0, 10), .inl (0, 40), .inl (0, 40), .inl (0, 40), .inl (0, 40), .inl (0, 40), .inl (0, 120), .inl (0, 40), .inl (0, 40 * wd κ), .inl (0, 40 * wd κ), .inl (0, 40 * wd κ), .inr (2, [0, 19, 18, 0, 0, 0]), .inl (0, 40), .inl (0, 40 * wd κ)] : List Shp) ad σ (up2 (up2 (up2 (up2 (σ) 14 3 0) 14 4 (-2)) 14 5 0) 14 0 ((wd κ : Nat) : Int)) [.ref a14, .int (iN v1)] 2 (40 + 40 * wd κ) := by
  have hwd : 1 ≤ wd κ ∧ wd κ ≤ 80 := wdle κ
  refine s_allN (G := G) (sh := [.inr (8, [0, 4, 1, 1]), .inr (ciK κ, [5, 0, 13, 14, 15, 16, 0]), .inr (1, [6, 7, 8, 9, 10, 11, 12, 0]), .inl (0, 10), .inl (0, 40), .inl (0, 40), .inl (0, 40), .inl (0, 40), .inl (0, 40), .inl (0, 120), .inl (0, 40), .inl (0, 40 * wd κ), .inl (0, 40 * wd κ), .inl (0, 40 * wd κ), .inr (2, [0, 1, 1, 0, 0, 0])]) (ad := ad) (σ := σ) (y := yX3_init) (code := cX3_init) (maxL := 2) (ret := none) (rm := ({ frames := 1, cells := 2, slots := 40 + 40 * wd κ, locals := 30 } : Room)) (av := [.ref a14, .int (iN v1)]) (mc := 2) (ms := 40 + 40 * wd κ) (Qc := fun sz => QN G 15 ([.inr (8, [0, 4, 1, 1]), .inr (ciK κ, [5, 0, 13, 14, 15, 16, 0]), .inr (1, [6, 7, 8, 9, 10, 11, 12, 0]), .inl (0, 10), .inl (0, 40), .inl (0, 40), .inl (0, 40), .inl (0, 40), .inl (0, 40), .inl (0, 120), .inl (0, 40), .inl (0, 40 * wd κ), .inl (0, 40 * wd κ), .inl (0, 40 * wd κ), .inr (2, [0, 19, 18, 0, 0, 0]), .inl (0, 40), .inl (0, 40 * wd κ)] : List Shp) ad (up2 (up2 (up2 (up2 (σ) 14 3 0) 14 4 (-2)) 14 5 0) 14 0 ((wd κ : Nat) : Int)) (Aw ad 15 sz)) (by decide) (Nat.le_of_ble_eq_true rfl) ?_
  intro p e s m below meth c S hr hlk hin hK hE hW ls hl
  replace hin := hin rfl
  obtain ⟨hx, hb, hml, hown, hts⟩ := id S
  replace hl : lv_has ls 2 [(0, .ref a14), (1, .int (iN v1))] := hl
  have hA : ∀ q : Nat, s.heap.size ≤ q → Aw ad 15 s.heap.size q := Aw_new
  have had : ∀ i, i < 15 → ad i = ad i := fun _ _ => rfl
  change Ex (Aw ad 15 s.heap.size) s at hE
  change Wd G ([.inr (8, [0, 4, 1, 1]), .inr (ciK κ, [5, 0, 13, 14, 15, 16, 0]), .inr (1, [6, 7, 8, 9, 10, 11, 12, 0]), .inl (0, 10), .inl (0, 40), .inl (0, 40), .inl (0, 40), .inl (0, 40), .inl (0, 40), .inl (0, 120), .inl (0, 40), .inl (0, 40 * wd κ), .inl (0, 40 * wd κ), .inl (0, 40 * wd κ), .inr (2, [0, 1, 1, 0, 0, 0])] : List Shp) ad σ (Aw ad 15 s.heap.size) s.heap s.heap [] at hW
  change W p l e _ s m _ below meth c s.heap [] 0 0 (MQ below (QN G 15 ([.inr (8, [0, 4, 1, 1]), .inr (ciK κ, [5, 0, 13, 14, 15, 16, 0]), .inr (1, [6, 7, 8, 9, 10, 11, 12, 0]), .inl (0, 10), .inl (0, 40), .inl (0, 40), .inl (0, 40), .inl (0, 40), .inl (0, 40), .inl (0, 120), .inl (0, 40), .inl (0, 40 * wd κ), .inl (0, 40 * wd κ), .inl (0, 40 * wd κ), .inr (2, [0, 19, 18, 0, 0, 0]), .inl (0, 40), .inl (0, 40 * wd κ)] : List Shp) ad (up2 (up2 (up2 (up2 (σ) 14 3 0) 14 4 (-2)) 14 5 0) 14 0 ((wd κ : Nat) : Int)) (Aw ad 15 s.heap.size)) _ s 2 (40 + 40 * wd κ) (Aw ad 15 s.heap.size)) _
  generalize Aw ad 15 s.heap.size = A at *
  refine lv_aload_n hx hb dX3_init_0 rfl (lv_at hl 0 rfl) ?_
  refine W.objInit hx hb hown (hts _ (List.mem_cons_of_mem _ al_176)) (hts _ (List.mem_cons_of_mem _ al_21)) (hts _ (List.mem_cons_of_mem _ al_22)) rfl (by rw [hml]; exact hl.1) rfl dX3_init_1 (Nat.le_of_ble_eq_true rfl) (Nat.le_of_ble_eq_true rfl) ?_
  refine lv_aload_n hx hb dX3_init_4 rfl (lv_at hl 0 rfl) ?_
  refine n_bipush hx hb dX3_init_5 (by decide) ?_
  refine k_newa (n := 15) (t := 0) (x := 40) (ty := .int) hx hb hts hK hW hA rfl hzz rfl (by decide) rfl al_76 (40) rfl (rg_c _ rfl) (by decide) (by show 0 + 1 ≤ 2; omega) (by show 0 + 40 ≤ 40 + 40 * wd κ; omega) dX3_init_7 (fun ad1 a15 H ha h15 hW => ?_)
  replace h14 := (ha 14 (by decide)).trans h14
  replace had := fun i (hi : i < 15) => (ha i (by omega)).trans (had i hi)
  clear ha
  replace hW : Wd G ([.inr (8, [0, 4, 1, 1]), .inr (ciK κ, [5, 0, 13, 14, 15, 16, 0]), .inr (1, [6, 7, 8, 9, 10, 11, 12, 0]), .inl (0, 10), .inl (0, 40), .inl (0, 40), .inl (0, 40), .inl (0, 40), .inl (0, 40), .inl (0, 120), .inl (0, 40), .inl (0, 40 * wd κ), .inl (0, 40 * wd κ), .inl (0, 40 * wd κ), .inr (2, [0, 1, 1, 0, 0, 0]), .inl (0, 40)] : List Shp) ad1 (σ) A s.heap H [] := hW
  replace hzz := hzz.mono (m := 16) (by decide)
  refine k_putr hx hb hts hown hK hW 14 h14 15 h15 rfl rfl uw_X3 tyX3 tyX3_ok nmX3 2 (by decide) (by decide) al_180 (fun _ h9 => h9) (Or.inr ⟨rfl, hin, rfl⟩) rfl rfl dX3_init_9 (fun H locs hW => ?_)
  replace hW : Wd G ([.inr (8, [0, 4, 1, 1]), .inr (ciK κ, [5, 0, 13, 14, 15, 16, 0]), .inr (1, [6, 7, 8, 9, 10, 11, 12, 0]), .inl (0, 10), .inl (0, 40), .inl (0, 40), .inl (0, 40), .inl (0, 40), .inl (0, 40), .inl (0, 120), .inl (0, 40), .inl (0, 40 * wd κ), .inl (0, 40 * wd κ), .inl (0, 40 * wd κ), .inr (2, [0, 1, 18, 0, 0, 0]), .inl (0, 40)] : List Shp) ad1 (σ) A s.heap H locs := hW
  refine lv_aload_n hx hb dX3_init_12 rfl (lv_at hl 0 rfl) ?_
  refine n_iconst hx hb dX3_init_13 ?_
  refine k_put hx hb hts hown hK hW 14 h14 rfl rfl uw_X3 tyX3 tyX3_ok nmX3 3 (by decide) rfl al_181 (fun _ h9 => h9) (Or.inl rfl) rfl rfl dX3_init_14 (fun H locs hW => ?_)
  replace hW : Wd G ([.inr (8, [0, 4, 1, 1]), .inr (ciK κ, [5, 0, 13, 14, 15, 16, 0]), .inr (1, [6, 7, 8, 9, 10, 11, 12, 0]), .inl (0, 10), .inl (0, 40), .inl (0, 40), .inl (0, 40), .inl (0, 40), .inl (0, 40), .inl (0, 120), .inl (0, 40), .inl (0, 40 * wd κ), .inl (0, 40 * wd κ), .inl (0, 40 * wd κ), .inr (2, [0, 1, 18, 0, 0, 0]), .inl (0, 40)] : List Shp) ad1 (up2 (σ) 14 3 0) A s.heap H locs := hW
  replace hzz : hz 16 (up2 (σ) 14 3 0) := hzz.up (by decide)
  refine lv_aload_n hx hb dX3_init_17 rfl (lv_at hl 0 rfl) ?_
  refine n_bipush hx hb dX3_init_18 (by decide) ?_
  refine k_put hx hb hts hown hK hW 14 h14 rfl rfl uw_X3 tyX3 tyX3_ok nmX3 4 (by decide) rfl al_183 (fun _ h9 => h9) (Or.inl rfl) rfl rfl dX3_init_20 (fun H locs hW => ?_)
  replace hW : Wd G ([.inr (8, [0, 4, 1, 1]), .inr (ciK κ, [5, 0, 13, 14, 15, 16, 0]), .inr (1, [6, 7, 8, 9, 10, 11, 12, 0]), .inl (0, 10), .inl (0, 40), .inl (0, 40), .inl (0, 40), .inl (0, 40), .inl (0, 40), .inl (0, 120), .inl (0, 40), .inl (0, 40 * wd κ), .inl (0, 40 * wd κ), .inl (0, 40 * wd κ), .inr (2, [0, 1, 18, 0, 0, 0]), .inl (0, 40)] : List Shp) ad1 (up2 (up2 (σ) 14 3 0) 14 4 (-2)) A s.heap H locs := hW
  replace hzz : hz 16 (up2 (up2 (σ) 14 3 0) 14 4 (-2)) := hzz.up (by decide)
  refine lv_aload_n hx hb dX3_init_23 rfl (lv_at hl 0 rfl) ?_
  refine n_iconst hx hb dX3_init_24 ?_
  refine k_put hx hb hts hown hK hW 14 h14 rfl rfl uw_X3 tyX3 tyX3_ok nmX3 5 (by decide) rfl al_185 (fun _ h9 => h9) (Or.inl rfl) rfl rfl dX3_init_25 (fun H locs hW => ?_)
  replace hW : Wd G ([.inr (8, [0, 4, 1, 1]), .inr (ciK κ, [5, 0, 13, 14, 15, 16, 0]), .inr (1, [6, 7, 8, 9, 10, 11, 12, 0]), .inl (0, 10), .inl (0, 40), .inl (0, 40), .inl (0, 40), .inl (0, 40), .inl (0, 40), .inl (0, 120), .inl (0, 40), .inl (0, 40 * wd κ), .inl (0, 40 * wd κ), .inl (0, 40 * wd κ), .inr (2, [0, 1, 18, 0, 0, 0]), .inl (0, 40)] : List Shp) ad1 (up2 (up2 (up2 (σ) 14 3 0) 14 4 (-2)) 14 5 0) A s.heap H locs := hW
  replace hzz : hz 16 (up2 (up2 (up2 (σ) 14 3 0) 14 4 (-2)) 14 5 0) := hzz.up (by decide)
  refine lv_aload_n hx hb dX3_init_28 rfl (lv_at hl 0 rfl) ?_
  refine n_iconst hx hb dX3_init_29 ?_
  refine lv_iload_n hx hb dX3_init_30 rfl (lv_at hl 1 rfl) ?_
  refine n_mmax hx hb (hml.trans hl.1.symm) hown (hts _ (List.mem_cons_of_mem _ al_177)) (hts _ (List.mem_cons_of_mem _ al_27)) (hts _ (List.mem_cons_of_mem _ al_2)) (hts _ (List.mem_cons_of_mem _ al_28)) (Nat.le_of_ble_eq_true rfl) (Nat.le_of_ble_eq_true rfl) (by show 0 + 1 + 0 ≤ 2; omega) (by show 0 + 40 + 0 ≤ 40 + 40 * wd κ; omega) (rg_c _ rfl) (by simp only [rg]; omega) dX3_init_31 ?_
  rw [show max 1 v1 = ((wd κ : Nat) : Int) by omega]
  refine k_put hx hb hts hown hK hW 14 h14 rfl rfl uw_X3 tyX3 tyX3_ok nmX3 0 (by decide) rfl al_178 (fun _ h9 => h9) (Or.inr ⟨rfl, hin, rfl⟩) rfl rfl dX3_init_34 (fun H locs hW => ?_)
  replace hW : Wd G ([.inr (8, [0, 4, 1, 1]), .inr (ciK κ, [5, 0, 13, 14, 15, 16, 0]), .inr (1, [6, 7, 8, 9, 10, 11, 12, 0]), .inl (0, 10), .inl (0, 40), .inl (0, 40), .inl (0, 40), .inl (0, 40), .inl (0, 40), .inl (0, 120), .inl (0, 40), .inl (0, 40 * wd κ), .inl (0, 40 * wd κ), .inl (0, 40 * wd κ), .inr (2, [0, 1, 18, 0, 0, 0]), .inl (0, 40)] : List Shp) ad1 (up2 (up2 (up2 (up2 (σ) 14 3 0) 14 4 (-2)) 14 5 0) 14 0 ((wd κ : Nat) : Int)) A s.heap H locs := hW
  replace hzz : hz 16 (up2 (up2 (up2 (up2 (σ) 14 3 0) 14 4 (-2)) 14 5 0) 14 0 ((wd κ : Nat) : Int)) := hzz.up (by decide)
  refine lv_aload_n hx hb dX3_init_37 rfl (lv_at hl 0 rfl) ?_
  refine n_bipush hx hb dX3_init_38 (by decide) ?_
  refine lv_aload_n hx hb dX3_init_40 rfl (lv_at hl 0 rfl) ?_
  refine k_get (v := ((wd κ : Nat) : Int)) hx hb hts hown hK hW 14 h14 rfl rfl uw_X3 0 (by decide) rfl al_178 (fun _ h9 => h9) rfl dX3_init_41 ?_
  refine n_imul hx hb dX3_init_44 ?_
  refine k_newa (n := 16) (t := 0) (x := (40 * ((wd κ : Nat) : Int))) (ty := .int) hx hb hts hK hW hA rfl hzz rfl (by decide) rfl al_76 (40 * wd κ) (by omega) (by simp only [rg]; omega) (by omega) (by show 0 + 1 + 1 ≤ 2; omega) (by show 0 + 40 + 40 * wd κ ≤ 40 + 40 * wd κ; omega) dX3_init_45 (fun ad2 a16 H ha h16 hW => ?_)
  replace h14 := (ha 14 (by decide)).trans h14
  replace h15 := (ha 15 (by decide)).trans h15
  replace had := fun i (hi : i < 15) => (ha i (by omega)).trans (had i hi)
  clear ha
  replace hW : Wd G ([.inr (8, [0, 4, 1, 1]), .inr (ciK κ, [5, 0, 13, 14, 15, 16, 0]), .inr (1, [6, 7, 8, 9, 10, 11, 12, 0]), .inl (0, 10), .inl (0, 40), .inl (0, 40), .inl (0, 40), .inl (0, 40), .inl (0, 40), .inl (0, 120), .inl (0, 40), .inl (0, 40 * wd κ), .inl (0, 40 * wd κ), .inl (0, 40 * wd κ), .inr (2, [0, 1, 18, 0, 0, 0]), .inl (0, 40), .inl (0, 40 * wd κ)] : List Shp) ad2 (up2 (up2 (up2 (up2 (σ) 14 3 0) 14 4 (-2)) 14 5 0) 14 0 ((wd κ : Nat) : Int)) A s.heap H locs := hW
  replace hzz := hzz.mono (m := 17) (by decide)
  refine k_putr hx hb hts hown hK hW 14 h14 16 h16 rfl rfl uw_X3 tyX3 tyX3_ok nmX3 1 (by decide) (by decide) al_179 (fun _ h9 => h9) (Or.inr ⟨rfl, hin, rfl⟩) rfl rfl dX3_init_47 (fun H locs hW => ?_)
  replace hW : Wd G ([.inr (8, [0, 4, 1, 1]), .inr (ciK κ, [5, 0, 13, 14, 15, 16, 0]), .inr (1, [6, 7, 8, 9, 10, 11, 12, 0]), .inl (0, 10), .inl (0, 40), .inl (0, 40), .inl (0, 40), .inl (0, 40), .inl (0, 40), .inl (0, 120), .inl (0, 40), .inl (0, 40 * wd κ), .inl (0, 40 * wd κ), .inl (0, 40 * wd κ), .inr (2, [0, 19, 18, 0, 0, 0]), .inl (0, 40), .inl (0, 40 * wd κ)] : List Shp) ad2 (up2 (up2 (up2 (up2 (σ) 14 3 0) 14 4 (-2)) 14 5 0) 14 0 ((wd κ : Nat) : Int)) A s.heap H locs := hW
  refine W.widen (k := 2) (n := 40 + 40 * wd κ) (by show 0 + 1 + 1 ≤ 2; omega) (by show 0 + 40 + 40 * wd κ ≤ 40 + 40 * wd κ; omega) ?_
  exact r_CN (sz := 0) hx hb hr hlk hK hW had dX3_init_50
theorem c_X9_init (l : Launch) (G : Gt) (κ : Nat) (hκ : κ < 5) (ad : Nat → Nat) (σ : Mem) (a0 : Nat) (h0 : ad 0 = a0) (v1 : Int) (hr1 : rg v1) (hv1 : max 0 (min 4 v1) = (κ : Int)) (hzz : hz 1 σ) : CN l yX9_init (Cond.code yX9_init cX9_init 2 none) ({ frames := 5, cells := 16, slots := 431 + 160 * wd κ, locals := 105 } : Room) G ([.inr (8, [0, 1, 1, 1])] : List Shp) ([.inr (8, [0, 4, 17, 1]), .inr (ciK κ, [5, 0, 13, 14, 15, 16, 0]), .inr (1, [6, 7, 8, 9, 10, 11, 12, 0]), .inl (0, 10), .inl (0, 40), .inl (0, 40), .inl (0, 40), .inl (0, 40), .inl (0, 40), .inl (0, 120), .inl (0, 40), .inl (0, 40 * wd κ), .inl (0, 40 * wd κ), .inl (0, 40 * wd κ), .inr (2, [0, 19, 18, 0, 0, 0]), .inl (0, 40), .inl (0, 40 * wd κ)] : List Shp) ad σ (up2 (up2 (up2 (up2 (up2 (up2 (up2 (up2 (up2 (up2 (up2 (up2 (up2 (up2 (up2 (up2 (up2 (up2 (σ) 0 0 (κ : Int)) 3 0 10) 3 1 400) 3 2 30) 3 3 0) 3 4 127) 3 5 34) 3 6 55) 3 7 62) 3 8 69) 3 9 76) 2 7 0) 1 6 0) 1 1 ((wd κ : Nat) : Int)) 14 3 0) 14 4 (-2)) 14 5 0) 14 0 ((wd κ : Nat) : Int)) [.ref a0, .int (iN v1)] 16 (431 + 160 * wd κ) := by
  have hwd : 1 ≤ wd κ ∧ wd κ ≤ 80 := wdle κ
  refine s_allN (G := G) (sh := [.inr (8, [0, 1, 1, 1])]) (ad := ad) (σ := σ) (y := yX9_init) (code := cX9_init) (maxL := 2) (ret := none) (rm := ({ frames := 5, cells := 16, slots := 431 + 160 * wd κ, locals := 105 } : Room)) (av := [.ref a0, .int (iN v1)]) (mc := 16) (ms := 431 + 160 * wd κ) (Qc := fun sz => QN G 1 ([.inr (8, [0, 4, 17, 1]), .inr (ciK κ, [5, 0, 13, 14, 15, 16, 0]), .inr (1, [6, 7, 8, 9, 10, 11, 12, 0]), .inl (0, 10), .inl (0, 40), .inl (0, 40), .inl (0, 40), .inl (0, 40), .inl (0, 40), .inl (0, 120), .inl (0, 40), .inl (0, 40 * wd κ), .inl (0, 40 * wd κ), .inl (0, 40 * wd κ), .inr (2, [0, 19, 18, 0, 0, 0]), .inl (0, 40), .inl (0, 40 * wd κ)] : List Shp) ad (up2 (up2 (up2 (up2 (up2 (up2 (up2 (up2 (up2 (up2 (up2 (up2 (up2 (up2 (up2 (up2 (up2 (up2 (σ) 0 0 (κ : Int)) 3 0 10) 3 1 400) 3 2 30) 3 3 0) 3 4 127) 3 5 34) 3 6 55) 3 7 62) 3 8 69) 3 9 76) 2 7 0) 1 6 0) 1 1 ((wd κ : Nat) : Int)) 14 3 0) 14 4 (-2)) 14 5 0) 14 0 ((wd κ : Nat) : Int)) (Aw ad 1 sz)) (by decide) (Nat.le_of_ble_eq_true rfl) ?_
  intro p e s m below meth c S hr hlk hin hK hE hW ls hl
  replace hin := hin rfl
  obtain ⟨hx, hb, hml, hown, hts⟩ := id S
  replace hl : lv_has ls 2 [(0, .ref a0), (1, .int (iN v1))] := hl
  have hA : ∀ q : Nat, s.heap.size ≤ q → Aw ad 1 s.heap.size q := Aw_new
  have had : ∀ i, i < 1 → ad i = ad i := fun _ _ => rfl
  change Ex (Aw ad 1 s.heap.size) s at hE
  change Wd G ([.inr (8, [0, 1, 1, 1])] : List Shp) ad σ (Aw ad 1 s.heap.size) s.heap s.heap [] at hW
  change W p l e _ s m _ below meth c s.heap [] 0 0 (MQ below (QN G 1 ([.inr (8, [0, 4, 17, 1]), .inr (ciK κ, [5, 0, 13, 14, 15, 16, 0]), .inr (1, [6, 7, 8, 9, 10, 11, 12, 0]), .inl (0, 10), .inl (0, 40), .inl (0, 40), .inl (0, 40), .inl (0, 40), .inl (0, 40), .inl (0, 120), .inl (0, 40), .inl (0, 40 * wd κ), .inl (0, 40 * wd κ), .inl (0, 40 * wd κ), .inr (2, [0, 19, 18, 0, 0, 0]), .inl (0, 40), .inl (0, 40 * wd κ)] : List Shp) ad (up2 (up2 (up2 (up2 (up2 (up2 (up2 (up2 (up2 (up2 (up2 (up2 (up2 (up2 (up2 (up2 (up2 (up2 (σ) 0 0 (κ : Int)) 3 0 10) 3 1 400) 3 2 30) 3 3 0) 3 4 127) 3 5 34) 3 6 55) 3 7 62) 3 8 69) 3 9 76) 2 7 0) 1 6 0) 1 1 ((wd κ : Nat) : Int)) 14 3 0) 14 4 (-2)) 14 5 0) 14 0 ((wd κ : Nat) : Int)) (Aw ad 1 s.heap.size)) _ s 16 (431 + 160 * wd κ) (Aw ad 1 s.heap.size)) _
  generalize Aw ad 1 s.heap.size = A at *
  refine lv_aload_n hx hb dX9_init_0 rfl (lv_at hl 0 rfl) ?_
  refine W.objInit hx hb hown (hts _ (List.mem_cons_of_mem _ al_20)) (hts _ (List.mem_cons_of_mem _ al_21)) (hts _ (List.mem_cons_of_mem _ al_22)) rfl (by rw [hml]; exact hl.1) rfl dX9_init_1 (Nat.le_of_ble_eq_true rfl) (Nat.le_of_ble_eq_true rfl) ?_
  refine lv_aload_n hx hb dX9_init_4 rfl (lv_at hl 0 rfl) ?_
  refine n_iconst hx hb dX9_init_5 ?_
  refine n_iconst hx hb dX9_init_6 ?_
  refine lv_iload_n hx hb dX9_init_7 rfl (lv_at hl 1 rfl) ?_
  refine n_mmin hx hb (hml.trans hl.1.symm) hown (hts _ (List.mem_cons_of_mem _ al_23)) (hts _ (List.mem_cons_of_mem _ al_24)) (hts _ (List.mem_cons_of_mem _ al_2)) (hts _ (List.mem_cons_of_mem _ al_25)) (Nat.le_of_ble_eq_true rfl) (Nat.le_of_ble_eq_true rfl) (by show 0 + 0 ≤ 16; omega) (by show 0 + 0 ≤ 431 + 160 * wd κ; omega) (rg_c _ rfl) hr1 dX9_init_8 ?_
  refine n_mmax hx hb (hml.trans hl.1.symm) hown (hts _ (List.mem_cons_of_mem _ al_26)) (hts _ (List.mem_cons_of_mem _ al_27)) (hts _ (List.mem_cons_of_mem _ al_2)) (hts _ (List.mem_cons_of_mem _ al_28)) (Nat.le_of_ble_eq_true rfl) (Nat.le_of_ble_eq_true rfl) (by show 0 + 0 ≤ 16; omega) (by show 0 + 0 ≤ 431 + 160 * wd κ; omega) (rg_c _ rfl) (by have := hr1.1; have := hr1.2; simp only [rg]; omega) dX9_init_11 ?_
  rw [hv1]
  refine k_put hx hb hts hown hK hW 0 h0 rfl rfl uw_X9 tyX9 tyX9_ok nmX9 0 (by decide) rfl al_200 (fun _ h9 => h9) (Or.inr ⟨rfl, hin, rfl⟩) rfl rfl dX9_init_14 (fun H locs hW => ?_)
  replace hW : Wd G ([.inr (8, [0, 1, 1, 1])] : List Shp) ad (up2 (σ) 0 0 (κ : Int)) A s.heap H locs := hW
  replace hzz : hz 1 (up2 (σ) 0 0 (κ : Int)) := hzz.up (by decide)
  refine lv_aload_n hx hb dX9_init_17 rfl (lv_at hl 0 rfl) ?_
  refine lv_aload_n hx hb dX9_init_18 rfl (lv_at hl 0 rfl) ?_
  refine k_get (v := (κ : Int)) hx hb hts hown hK hW 0 h0 rfl rfl uw_X9 0 (by decide) rfl al_200 (fun _ h9 => h9) rfl dX9_init_19 ?_
  refine fin_CR (n := 1) hA hW rfl (run_SA (As := [.int (iN (κ : Int))]) (rest := [.ref a0]) S hK hE hA hW (c_X9_playerOf l G κ hκ ad (up2 (σ) 0 0 (κ : Int)) hzz H.size) al_29 al_30 al_1 al_31 (show yX9_playerOf.cls ≠ "java/lang/invoke/MethodHandle" ∧ yX9_playerOf.cls ≠ "java/lang/invoke/VarHandle" ∧ (parseMethodDescriptor yX9_playerOf.desc).map (fun d => d.parameters.length) = some 1 by decide +kernel) rfl rfl ⟨Nat.le_of_ble_eq_true rfl, Nat.le_of_ble_eq_true rfl⟩ rfl hl.1 rfl (Nat.le_of_ble_eq_true rfl) dX9_init_22 ⟨(by show 0 + 13 ≤ 16; omega), (by show 0 + (385 + 120 * wd κ) ≤ 431 + 160 * wd κ; omega)⟩) (fun ad1 a1 H locs ha h1 hW => ?_)
  replace h0 := (ha 0 (by decide)).trans h0
  replace had := fun i (hi : i < 1) => (ha i (by omega)).trans (had i hi)
  clear ha
  replace hW : Wd G ([.inr (8, [0, 1, 1, 1]), .inr (ciK κ, [5, 0, 13, 14, 15, 16, 0]), .inr (1, [6, 7, 8, 9, 10, 11, 12, 0]), .inl (0, 10), .inl (0, 40), .inl (0, 40), .inl (0, 40), .inl (0, 40), .inl (0, 40), .inl (0, 120), .inl (0, 40), .inl (0, 40 * wd κ), .inl (0, 40 * wd κ), .inl (0, 40 * wd κ)] : List Shp) ad1 (up2 (up2 (up2 (up2 (up2 (up2 (up2 (up2 (up2 (up2 (up2 (up2 (up2 (up2 (σ) 0 0 (κ : Int)) 3 0 10) 3 1 400) 3 2 30) 3 3 0) 3 4 127) 3 5 34) 3 6 55) 3 7 62) 3 8 69) 3 9 76) 2 7 0) 1 6 0) 1 1 ((wd κ : Nat) : Int)) A s.heap H locs := hW
  replace hzz : hz 14 (up2 (up2 (up2 (up2 (up2 (up2 (up2 (up2 (up2 (up2 (up2 (up2 (up2 (up2 (σ) 0 0 (κ : Int)) 3 0 10) 3 1 400) 3 2 30) 3 3 0) 3 4 127) 3 5 34) 3 6 55) 3 7 62) 3 8 69) 3 9 76) 2 7 0) 1 6 0) 1 1 ((wd κ : Nat) : Int)) := ((((((((((((((hzz.mono (m := 14) (by decide)).up (by decide)).up (by decide)).up (by decide)).up (by decide)).up (by decide)).up (by decide)).up (by decide)).up (by decide)).up (by decide)).up (by decide)).up (by decide)).up (by decide)).up (by decide))
  refine k_putr hx hb hts hown hK hW 0 h0 1 h1 rfl rfl uw_X9 tyX9 tyX9_ok nmX9 1 (by decide) (by decide) al_201 (fun _ h9 => h9) (Or.inr ⟨rfl, hin, rfl⟩) rfl rfl dX9_init_25 (fun H locs hW => ?_)
  replace hW : Wd G ([.inr (8, [0, 4, 1, 1]), .inr (ciK κ, [5, 0, 13, 14, 15, 16, 0]), .inr (1, [6, 7, 8, 9, 10, 11, 12, 0]), .inl (0, 10), .inl (0, 40), .inl (0, 40), .inl (0, 40), .inl (0, 40), .inl (0, 40), .inl (0, 120), .inl (0, 40), .inl (0, 40 * wd κ), .inl (0, 40 * wd κ), .inl (0, 40 * wd κ)] : List Shp) ad1 (up2 (up2 (up2 (up2 (up2 (up2 (up2 (up2 (up2 (up2 (up2 (up2 (up2 (up2 (σ) 0 0 (κ : Int)) 3 0 10) 3 1 400) 3 2 30) 3 3 0) 3 4 127) 3 5 34) 3 6 55) 3 7 62) 3 8 69) 3 9 76) 2 7 0) 1 6 0) 1 1 ((wd κ : Nat) : Int)) A s.heap H locs := hW
  refine lv_aload_n hx hb dX9_init_28 rfl (lv_at hl 0 rfl) ?_
  refine k_new (n := 14) (ci := 2) hx hb hts hown hK hW hA rfl hzz rfl rfl uw_X3 tyX3 tyX3_ok al_171 al_172 al_10 [0, 1, 1, 0, 0, 0] rfl (fun j hj => by rcases (show j = 0 ∨ j = 1 ∨ j = 2 ∨ j = 3 ∨ j = 4 ∨ j = 5 by omega) with rfl | rfl | rfl | rfl | rfl | rfl <;> rfl) (by show 0 + 13 + 1 ≤ 16; omega) (by show 0 + (385 + 120 * wd κ) + 6 ≤ 431 + 160 * wd κ; omega) dX9_init_29 (fun ad2 a14 H ha h14 hW => ?_)
  replace h0 := (ha 0 (by decide)).trans h0
  replace h1 := (ha 1 (by decide)).trans h1
  replace had := fun i (hi : i < 1) => (ha i (by omega)).trans (had i hi)
  clear ha
  replace hW : Wd G ([.inr (8, [0, 4, 1, 1]), .inr (ciK κ, [5, 0, 13, 14, 15, 16, 0]), .inr (1, [6, 7, 8, 9, 10, 11, 12, 0]), .inl (0, 10), .inl (0, 40), .inl (0, 40), .inl (0, 40), .inl (0, 40), .inl (0, 40), .inl (0, 120), .inl (0, 40), .inl (0, 40 * wd κ), .inl (0, 40 * wd κ), .inl (0, 40 * wd κ), .inr (2, [0, 1, 1, 0, 0, 0])] : List Shp) ad2 (up2 (up2 (up2 (up2 (up2 (up2 (up2 (up2 (up2 (up2 (up2 (up2 (up2 (up2 (σ) 0 0 (κ : Int)) 3 0 10) 3 1 400) 3 2 30) 3 3 0) 3 4 127) 3 5 34) 3 6 55) 3 7 62) 3 8 69) 3 9 76) 2 7 0) 1 6 0) 1 1 ((wd κ : Nat) : Int)) A s.heap H locs := hW
  replace hzz := hzz.mono (m := 15) (by decide)
  refine lv_dup hx hb dX9_init_32 rfl ?_
  refine lv_aload_n hx hb dX9_init_33 rfl (lv_at hl 0 rfl) ?_
  refine k_getr hx hb hts hown hK hW 0 h0 h1 rfl rfl uw_X9 1 (by decide) rfl al_201 (fun _ h9 => h9) dX9_init_34 ?_
  refine k_get (v := ((wd κ : Nat) : Int)) hx hb hts hown hK hW 1 h1 rfl (hcP hκ) (uwP hκ) 1 (by decide) rfl al_93 (fun _ h9 => h9) rfl dX9_init_37 ?_
  refine fin_CN (n := 15) hA hW rfl (run_IA (a := a14) (As := [.int (iN ((wd κ : Nat) : Int))]) (rest := [.ref a14, .ref a0]) S hK hE hA hW (c_X3_init l G κ hκ ad2 (up2 (up2 (up2 (up2 (up2 (up2 (up2 (up2 (up2 (up2 (up2 (up2 (up2 (up2 (σ) 0 0 (κ : Int)) 3 0 10) 3 1 400) 3 2 30) 3 3 0) 3 4 127) 3 5 34) 3 6 55) 3 7 62) 3 8 69) 3 9 76) 2 7 0) 1 6 0) 1 1 ((wd κ : Nat) : Int)) a14 h14 ((wd κ : Nat) : Int) rfl hzz H.size) al_173 al_174 al_10 al_175 rfl (show yX3_init.cls ≠ "java/lang/invoke/MethodHandle" ∧ yX3_init.cls ≠ "java/lang/invoke/VarHandle" ∧ (parseMethodDescriptor yX3_init.desc).map (fun d => d.parameters.length) = some 1 by decide +kernel) rfl rfl ⟨Nat.le_of_ble_eq_true rfl, Nat.le_of_ble_eq_true rfl⟩ rfl hl.1 rfl (Nat.le_of_ble_eq_true rfl) dX9_init_40 ⟨(by show 0 + 13 + 1 + 2 ≤ 16; omega), (by show 0 + (385 + 120 * wd κ) + 6 + (40 + 40 * wd κ) ≤ 431 + 160 * wd κ; omega)⟩) (fun ad3 H locs ha hW => ?_)
  replace h0 := (ha 0 (by decide)).trans h0
  replace h1 := (ha 1 (by decide)).trans h1
  replace h14 := (ha 14 (by decide)).trans h14
  replace had := fun i (hi : i < 1) => (ha i (by omega)).trans (had i hi)
  clear ha
  replace hW : Wd G ([.inr (8, [0, 4, 1, 1]), .inr (ciK κ, [5, 0, 13, 14, 15, 16, 0]), .inr (1, [6, 7, 8, 9, 10, 11, 12, 0]), .inl (0, 10), .inl (0, 40), .inl (0, 40), .inl (0, 40), .inl (0, 40), .inl (0, 40), .inl (0, 120), .inl (0, 40), .inl (0, 40 * wd κ), .inl (0, 40 * wd κ), .inl (0, 40 * wd κ), .inr (2, [0, 19, 18, 0, 0, 0]), .inl (0, 40), .inl (0, 40 * wd κ)] : List Shp) ad3 (up2 (up2 (up2 (up2 (up2 (up2 (up2 (up2 (up2 (up2 (up2 (up2 (up2 (up2 (up2 (up2 (up2 (up2 (σ) 0 0 (κ : Int)) 3 0 10) 3 1 400) 3 2 30) 3 3 0) 3 4 127) 3 5 34) 3 6 55) 3 7 62) 3 8 69) 3 9 76) 2 7 0) 1 6 0) 1 1 ((wd κ : Nat) : Int)) 14 3 0) 14 4 (-2)) 14 5 0) 14 0 ((wd κ : Nat) : Int)) A s.heap H locs := hW
  replace hzz : hz 17 (up2 (up2 (up2 (up2 (up2 (up2 (up2 (up2 (up2 (up2 (up2 (up2 (up2 (up2 (up2 (up2 (up2 (up2 (σ) 0 0 (κ : Int)) 3 0 10) 3 1 400) 3 2 30) 3 3 0) 3 4 127) 3 5 34) 3 6 55) 3 7 62) 3 8 69) 3 9 76) 2 7 0) 1 6 0) 1 1 ((wd κ : Nat) : Int)) 14 3 0) 14 4 (-2)) 14 5 0) 14 0 ((wd κ : Nat) : Int)) := (((((hzz.mono (m := 17) (by decide)).up (by decide)).up (by decide)).up (by decide)).up (by decide))
  refine k_putr hx hb hts hown hK hW 0 h0 14 h14 rfl rfl uw_X9 tyX9 tyX9_ok nmX9 2 (by decide) (by decide) al_202 (fun _ h9 => h9) (Or.inr ⟨rfl, hin, rfl⟩) rfl rfl dX9_init_43 (fun H locs hW => ?_)
  replace hW : Wd G ([.inr (8, [0, 4, 17, 1]), .inr (ciK κ, [5, 0, 13, 14, 15, 16, 0]), .inr (1, [6, 7, 8, 9, 10, 11, 12, 0]), .inl (0, 10), .inl (0, 40), .inl (0, 40), .inl (0, 40), .inl (0, 40), .inl (0, 40), .inl (0, 120), .inl (0, 40), .inl (0, 40 * wd κ), .inl (0, 40 * wd κ), .inl (0, 40 * wd κ), .inr (2, [0, 19, 18, 0, 0, 0]), .inl (0, 40), .inl (0, 40 * wd κ)] : List Shp) ad3 (up2 (up2 (up2 (up2 (up2 (up2 (up2 (up2 (up2 (up2 (up2 (up2 (up2 (up2 (up2 (up2 (up2 (up2 (σ) 0 0 (κ : Int)) 3 0 10) 3 1 400) 3 2 30) 3 3 0) 3 4 127) 3 5 34) 3 6 55) 3 7 62) 3 8 69) 3 9 76) 2 7 0) 1 6 0) 1 1 ((wd κ : Nat) : Int)) 14 3 0) 14 4 (-2)) 14 5 0) 14 0 ((wd κ : Nat) : Int)) A s.heap H locs := hW
  refine lv_aload_n hx hb dX9_init_46 rfl (lv_at hl 0 rfl) ?_
  refine lv_null hx hb dX9_init_47 ?_
  refine k_putnull hx hb hts hown hK hW 0 h0 rfl rfl uw_X9 tyX9 tyX9_ok nmX9 3 (by decide) rfl al_203 (fun _ h9 => h9) rfl rfl rfl dX9_init_48 (fun H locs hW => ?_)
  refine W.widen (k := 16) (n := 431 + 160 * wd κ) (by show 0 + 13 + 1 + 2 ≤ 16; omega) (by show 0 + (385 + 120 * wd κ) + 6 + (40 + 40 * wd κ) ≤ 431 + 160 * wd κ; omega) ?_
  exact r_CN (sz := 0) hx hb hr hlk hK hW had dX9_init_51
