set_option maxHeartbeats 4000000 in
set_option maxRecDepth 100000 in
theorem c_X2_listAll (l : Launch) (G : Gt) (κ : Nat) (hκ : κ < 5) (tl : Bool) (ad : Nat → Nat)  (σ : Mem)  (post : Mem → Prop) (hw : w_X2_listAll κ σ  post) : CV l yX2_listAll (Cond.code yX2_listAll cX2_listAll 2 none) ({ frames := 4, cells := 0, slots := 0, locals := 97 } : Room) G (shW κ tl) ad σ [.ref (ad 1)] post := by
  refine s_all (y := yX2_listAll) (code := cX2_listAll) (maxL := 2) (ret := none) (rm := ({ frames := 4, cells := 0, slots := 0, locals := 97 } : Room)) (av := [.ref (ad 1)]) (Qc := fun sz => QV G (shW κ tl) ad post (sz)) (by decide) (Nat.le_of_ble_eq_true rfl) ?_
  intro p e s m below meth c S hr hlk _ hK hE hW ls hl
  obtain ⟨hx, hb, hml, hown, hts⟩ := id S
  replace hl : lv_has ls 2 [(0, .ref (ad 1))] := hl
  have hB55 : ∀ (σ_55 : Mem)  (H : Heap) (locs : List Loc) (ls : Array Slot), w_X2_listAll_B55 κ σ_55 post → Wd G (shW κ tl) ad σ_55 (Aw ad (shW κ tl).length s.heap.size) s.heap H locs → lv_has ls 2 [(0, .ref (ad 1))] → W p l e ({ frames := 4, cells := 0, slots := 0, locals := 97 } : Room) s m ([.ref (ad 1)] : List Value).toArray below meth c H locs 0 0 (MQ below (QV G (shW κ tl) ad post (s.heap.size)) ([.ref (ad 1)] : List Value).toArray s 0 0 (Aw ad (shW κ tl).length s.heap.size)) (F0 m 55 ls []) := by
    intro σ_55 H locs ls hw hW hl
    unfold w_X2_listAll_B55 at hw
    refine lv_aload_n hx hb dX2_listAll_55 rfl (lv_at hl 0 rfl) ?_
    refine lv_aload_n hx hb dX2_listAll_56 rfl (lv_at hl 0 rfl) ?_
    refine g_getr hx hb hts hown hK hW 1 rfl (q := 2) (hcP hκ) (uwP hκ) 0 (by decide) rfl al_78 (fun _ h9 => h9) dX2_listAll_57 ?_
    refine g_getN hx hb hts hown hK hE hW 2 rfl rfl uw_X1 7 (by decide) rfl 1 rfl (fun _ h9 => h9) dX2_listAll_60 ?_
    refine g_put hx hb hts hown hK hW 1 rfl (hcP hκ) (uwP hκ) tyX0 tyX0_ok nmX0 6 (by decide) rfl al_98 (fun _ h9 => h9) rfl rfl rfl dX2_listAll_63 (fun σ7 H locs hτ hW => ?_)
    replace hw := hw σ7 hτ
    exact r_CV hx hb hr hlk hK hW hw dX2_listAll_66
  have hL9 : ∀  (n : Nat) (v1_9 : Int) (σ_9 : Mem) (H : Heap) (locs : List Loc) (ls : Array Slot), w_X2_listAll_L9 κ post n v1_9 σ_9 → Wd G (shW κ tl) ad σ_9 (Aw ad (shW κ tl).length s.heap.size) s.heap H locs → lv_has ls 2 [(0, .ref (ad 1)), (1, .int (iN v1_9))] → W p l e ({ frames := 4, cells := 0, slots := 0, locals := 97 } : Room) s m ([.ref (ad 1)] : List Value).toArray below meth c H locs 0 0 (MQ below (QV G (shW κ tl) ad post (s.heap.size)) ([.ref (ad 1)] : List Value).toArray s 0 0 (Aw ad (shW κ tl).length s.heap.size)) (F0 m 9 ls []) := by
    intro  n
    induction n with
    | zero =>
      intro v1_9 σ_9 H locs ls hw
      exact hw.elim
    | succ n9 ih9 =>
      intro v1_9 σ_9 H locs ls hw hW hl
      replace hw : w_X2_listAll_L9_body κ post (w_X2_listAll_L9 κ post n9) v1_9 σ_9 := hw
      have hB49 : ∀ (σ_49 : Mem) (v1_49 : Int) (H : Heap) (locs : List Loc) (ls : Array Slot), w_X2_listAll_B49 κ σ_49 v1_49 post (w_X2_listAll_L9 κ post n9) → Wd G (shW κ tl) ad σ_49 (Aw ad (shW κ tl).length s.heap.size) s.heap H locs → lv_has ls 2 [(0, .ref (ad 1)), (1, .int (iN v1_49))] → W p l e ({ frames := 4, cells := 0, slots := 0, locals := 97 } : Room) s m ([.ref (ad 1)] : List Value).toArray below meth c H locs 0 0 (MQ below (QV G (shW κ tl) ad post (s.heap.size)) ([.ref (ad 1)] : List Value).toArray s 0 0 (Aw ad (shW κ tl).length s.heap.size)) (F0 m 49 ls []) := by
        intro σ_49 v1_49 H locs ls hw hW hl
        unfold w_X2_listAll_B49 at hw
        refine lv_iinc (v := iN (v1_49 + 1)) (lv' := [(1, .int (iN (v1_49 + 1))), (0, .ref (ad 1))]) hx hb dX2_listAll_49 hl (k := 1) rfl (iN_add _ _) (by decide) rfl (fun ls hl => ?_)
        refine lv_goto (tgt := 9) hx hb dX2_listAll_52 (by decide) ?_
        exact ih9 (v1_49 + 1) σ_49 H locs ls hw hW (lv_sub hl [1, 0] rfl)
      unfold w_X2_listAll_L9_body at hw
      refine lv_iload_n hx hb dX2_listAll_9 rfl (lv_at hl 1 rfl) ?_
      refine lv_aload_n hx hb dX2_listAll_10 rfl (lv_at hl 0 rfl) ?_
      refine g_getr hx hb hts hown hK hW 1 rfl (q := 2) (hcP hκ) (uwP hκ) 0 (by decide) rfl al_78 (fun _ h9 => h9) dX2_listAll_11 ?_
      refine g_getN hx hb hts hown hK hE hW 2 rfl rfl uw_X1 7 (by decide) rfl 1 rfl (fun _ h9 => h9) dX2_listAll_14 ?_
      refine n_icmp_ge hx hb hw.1 hw.2.1 hw.2.2.1 hw.2.2.2 (tgt := 55) dX2_listAll_17 (by decide) (fun hw => ?_) (fun hw => ?_)
      · exact hB55 σ_9 H locs ls hw hW (lv_sub hl [0] rfl)
      · refine lv_iload_n hx hb dX2_listAll_20 rfl (lv_at hl 1 rfl) ?_
        refine n_bipush hx hb dX2_listAll_21 (by decide) ?_
        refine n_icmp_ge hx hb hw.1 (rg_c _ rfl) hw.2.1 hw.2.2 (tgt := 55) dX2_listAll_23 (by decide) (fun hw => ?_) (fun hw => ?_)
        · exact hB55 σ_9 H locs ls hw hW (lv_sub hl [0] rfl)
        · refine lv_aload_n hx hb dX2_listAll_26 rfl (lv_at hl 0 rfl) ?_
          refine g_getr hx hb hts hown hK hW 1 rfl (q := 10) (hcP hκ) (uwP hκ) 2 (by decide) rfl al_94 (fun _ h9 => h9) dX2_listAll_27 ?_
          refine lv_iload_n hx hb dX2_listAll_30 rfl (lv_at hl 1 rfl) ?_
          refine n_iconst hx hb dX2_listAll_31 ?_
          refine g_ast hx hb hK hW 10 rfl hw.1 dX2_listAll_32 (fun σ8 H locs hτ hW => ?_)
          replace hw := hw.2 σ8 hτ
          refine lv_aload_n hx hb dX2_listAll_33 rfl (lv_at hl 0 rfl) ?_
          refine g_getr hx hb hts hown hK hW 1 rfl (q := 2) (hcP hκ) (uwP hκ) 0 (by decide) rfl al_78 (fun _ h9 => h9) dX2_listAll_34 ?_
          refine lv_iload_n hx hb dX2_listAll_37 rfl (lv_at hl 1 rfl) ?_
          refine fin_CI hW (run_VN (k := 2) (As := [.int (iN v1_9)]) (rest := []) 11 S hK hE hW (c_X1_inCompass l G κ tl ad σ8 v1_9 _ hw H.size) rfl rfl rfl al_304 sl_X1_inCompass al_5 al_305 hd_X1_inCompass.2 rfl rfl ⟨Nat.le_of_ble_eq_true rfl, Nat.le_of_ble_eq_true rfl⟩ rfl hl.1 rfl (Nat.le_of_ble_eq_true rfl) dX2_listAll_38 ⟨Nat.zero_le _, Nat.zero_le _⟩) ?_
          intro r9 H locs hw hW
          refine n_if_eq hx hb hw.1 hw.2.1 hw.2.2 (tgt := 49) dX2_listAll_41 (by decide) (fun hw => ?_) (fun hw => ?_)
          · exact hB49 σ8 v1_9 H locs ls hw hW (lv_sub hl [0, 1] rfl)
          · refine lv_aload_n hx hb dX2_listAll_44 rfl (lv_at hl 0 rfl) ?_
            refine lv_iload_n hx hb dX2_listAll_45 rfl (lv_at hl 1 rfl) ?_
            refine fin_CV hW (run_X2_listOne (As := [.int (iN v1_9)]) (rest := []) hκ S hK hE hW hw rfl (Nat.le_of_ble_eq_true rfl) (Nat.le_of_ble_eq_true rfl) rfl hl.1 rfl (Nat.le_of_ble_eq_true rfl) dX2_listAll_46 ⟨Nat.zero_le _, Nat.zero_le _⟩) ?_
            intro σ12 H locs hw hW
            exact hB49 σ12 v1_9 H locs ls hw hW (lv_sub hl [0, 1] rfl)
  unfold w_X2_listAll at hw
  refine n_iconst hx hb dX2_listAll_0 ?_
  refine lv_aload_n hx hb dX2_listAll_1 rfl (lv_at hl 0 rfl) ?_
  refine g_get hx hb hts hown hK hW 1 rfl (hcP hκ) (uwP hκ) 6 (by decide) rfl al_98 (fun _ h9 => h9) dX2_listAll_2 ?_
  refine n_mmax hx hb (hml.trans hl.1.symm) hown (hts _ (List.mem_cons_of_mem _ al_77)) (hts _ (List.mem_cons_of_mem _ al_27)) (hts _ (List.mem_cons_of_mem _ al_2)) (hts _ (List.mem_cons_of_mem _ al_28)) (Nat.le_of_ble_eq_true rfl) (Nat.le_of_ble_eq_true rfl) (Nat.zero_le _) (Nat.zero_le _) (rg_c _ rfl) hw.1 dX2_listAll_5 ?_
  replace hw := hw.2
  refine lv_istore_n (lv' := [(1, .int (iN (max 0 (σ 1 6)))), (0, .ref (ad 1))]) hx hb dX2_listAll_8 rfl hl (by decide) rfl (fun ls hl => ?_)
  obtain ⟨n, hw⟩ := hw
  exact hL9 n (max 0 (σ 1 6)) σ s.heap [] ls hw hW (lv_sub hl [1, 0] rfl)
set_option maxHeartbeats 4000000 in
set_option maxRecDepth 100000 in
theorem c_X2_countOf (l : Launch) (G : Gt) (κ : Nat) (hκ : κ < 5) (tl : Bool) (ad : Nat → Nat)  (σ : Mem) (v1 : Int) (post : Int → Prop) (hw : w_X2_countOf κ σ v1 post) : CI l yX2_countOf (Cond.code yX2_countOf cX2_countOf 2 (some .int)) ({ frames := 0, cells := 0, slots := 0, locals := 0 } : Room) G (shW κ tl) ad σ [.ref (ad 1), .int (iN v1)] post := by
  refine s_all (y := yX2_countOf) (code := cX2_countOf) (maxL := 2) (ret := (some .int)) (rm := ({ frames := 0, cells := 0, slots := 0, locals := 0 } : Room)) (av := [.ref (ad 1), .int (iN v1)]) (Qc := fun sz => QI G (shW κ tl) ad σ post (sz)) (by decide) (Nat.le_of_ble_eq_true rfl) ?_
  intro p e s m below meth c S hr hlk _ hK hE hW ls hl
  obtain ⟨hx, hb, hml, hown, hts⟩ := id S
  replace hl : lv_has ls 2 [(0, .ref (ad 1)), (1, .int (iN v1))] := hl
  have hB20 : ∀  (s0_20 : Int) (H : Heap) (locs : List Loc) (ls : Array Slot), w_X2_countOf_B20 κ σ s0_20 post → Wd G (shW κ tl) ad σ (Aw ad (shW κ tl).length s.heap.size) s.heap H locs → lv_has ls 2 [] → W p l e ({ frames := 0, cells := 0, slots := 0, locals := 0 } : Room) s m ([.ref (ad 1), .int (iN v1)] : List Value).toArray below meth c H locs 0 0 (MQ below (QI G (shW κ tl) ad σ post (s.heap.size)) ([.ref (ad 1), .int (iN v1)] : List Value).toArray s 0 0 (Aw ad (shW κ tl).length s.heap.size)) (F0 m 20 ls [.int (iN s0_20)]) := by
    intro s0_20 H locs ls hw hW hl
    unfold w_X2_countOf_B20 at hw
    exact r_CI hx hb hr hlk hK hW hw dX2_countOf_20
  have hB19 : ∀   (H : Heap) (locs : List Loc) (ls : Array Slot), w_X2_countOf_B19 κ σ post → Wd G (shW κ tl) ad σ (Aw ad (shW κ tl).length s.heap.size) s.heap H locs → lv_has ls 2 [] → W p l e ({ frames := 0, cells := 0, slots := 0, locals := 0 } : Room) s m ([.ref (ad 1), .int (iN v1)] : List Value).toArray below meth c H locs 0 0 (MQ below (QI G (shW κ tl) ad σ post (s.heap.size)) ([.ref (ad 1), .int (iN v1)] : List Value).toArray s 0 0 (Aw ad (shW κ tl).length s.heap.size)) (F0 m 19 ls []) := by
    intro  H locs ls hw hW hl
    unfold w_X2_countOf_B19 at hw
    refine n_iconst hx hb dX2_countOf_19 ?_
    exact hB20 0 H locs ls hw hW (lv_sub hl [] rfl)
  unfold w_X2_countOf at hw
  refine lv_iload_n hx hb dX2_countOf_0 rfl (lv_at hl 1 rfl) ?_
  refine n_if_lt hx hb hw.1 hw.2.1 hw.2.2 (tgt := 19) dX2_countOf_1 (by decide) (fun hw => ?_) (fun hw => ?_)
  · exact hB19  s.heap [] ls hw hW (lv_sub hl [] rfl)
  · refine lv_iload_n hx hb dX2_countOf_4 rfl (lv_at hl 1 rfl) ?_
    refine n_bipush hx hb dX2_countOf_5 (by decide) ?_
    refine n_icmp_ge hx hb hw.1 (rg_c _ rfl) hw.2.1 hw.2.2 (tgt := 19) dX2_countOf_7 (by decide) (fun hw => ?_) (fun hw => ?_)
    · exact hB19  s.heap [] ls hw hW (lv_sub hl [] rfl)
    · refine lv_aload_n hx hb dX2_countOf_10 rfl (lv_at hl 0 rfl) ?_
      refine g_getr hx hb hts hown hK hW 1 rfl (q := 10) (hcP hκ) (uwP hκ) 2 (by decide) rfl al_94 (fun _ h9 => h9) dX2_countOf_11 ?_
      refine lv_iload_n hx hb dX2_countOf_14 rfl (lv_at hl 1 rfl) ?_
      refine g_ald hx hb hK hW 10 rfl hw.1 dX2_countOf_15 ?_
      replace hw := hw.2
      refine lv_goto (tgt := 20) hx hb dX2_countOf_16 (by decide) ?_
      exact hB20 (σ 10 (v1).toNat) s.heap [] ls hw hW (lv_sub hl [] rfl)
set_option maxHeartbeats 4000000 in
set_option maxRecDepth 100000 in
theorem c_X2_priceOf (l : Launch) (G : Gt) (κ : Nat) (hκ : κ < 5) (tl : Bool) (ad : Nat → Nat)  (σ : Mem) (v1 : Int) (v2 : Int) (post : Int → Prop) (hw : w_X2_priceOf κ σ v1 v2 post) : CI l yX2_priceOf (Cond.code yX2_priceOf cX2_priceOf 4 (some .int)) ({ frames := 0, cells := 0, slots := 0, locals := 0 } : Room) G (shW κ tl) ad σ [.ref (ad 1), .int (iN v1), .int (iN v2)] post := by
  refine s_all (y := yX2_priceOf) (code := cX2_priceOf) (maxL := 4) (ret := (some .int)) (rm := ({ frames := 0, cells := 0, slots := 0, locals := 0 } : Room)) (av := [.ref (ad 1), .int (iN v1), .int (iN v2)]) (Qc := fun sz => QI G (shW κ tl) ad σ post (sz)) (by decide) (Nat.le_of_ble_eq_true rfl) ?_
  intro p e s m below meth c S hr hlk _ hK hE hW ls hl
  obtain ⟨hx, hb, hml, hown, hts⟩ := id S
  replace hl : lv_has ls 4 [(0, .ref (ad 1)), (1, .int (iN v1)), (2, .int (iN v2))] := hl
  have hB32 : ∀  (s0_32 : Int) (H : Heap) (locs : List Loc) (ls : Array Slot), w_X2_priceOf_B32 κ σ s0_32 post → Wd G (shW κ tl) ad σ (Aw ad (shW κ tl).length s.heap.size) s.heap H locs → lv_has ls 4 [] → W p l e ({ frames := 0, cells := 0, slots := 0, locals := 0 } : Room) s m ([.ref (ad 1), .int (iN v1), .int (iN v2)] : List Value).toArray below meth c H locs 0 0 (MQ below (QI G (shW κ tl) ad σ post (s.heap.size)) ([.ref (ad 1), .int (iN v1), .int (iN v2)] : List Value).toArray s 0 0 (Aw ad (shW κ tl).length s.heap.size)) (F0 m 32 ls [.int (iN s0_32)]) := by
    intro s0_32 H locs ls hw hW hl
    unfold w_X2_priceOf_B32 at hw
    exact r_CI hx hb hr hlk hK hW hw dX2_priceOf_32
  have hB31 : ∀   (H : Heap) (locs : List Loc) (ls : Array Slot), w_X2_priceOf_B31 κ σ post → Wd G (shW κ tl) ad σ (Aw ad (shW κ tl).length s.heap.size) s.heap H locs → lv_has ls 4 [] → W p l e ({ frames := 0, cells := 0, slots := 0, locals := 0 } : Room) s m ([.ref (ad 1), .int (iN v1), .int (iN v2)] : List Value).toArray below meth c H locs 0 0 (MQ below (QI G (shW κ tl) ad σ post (s.heap.size)) ([.ref (ad 1), .int (iN v1), .int (iN v2)] : List Value).toArray s 0 0 (Aw ad (shW κ tl).length s.heap.size)) (F0 m 31 ls []) := by
    intro  H locs ls hw hW hl
    unfold w_X2_priceOf_B31 at hw
    refine n_iconst hx hb dX2_priceOf_31 ?_
    exact hB32 0 H locs ls hw hW (lv_sub hl [] rfl)
  unfold w_X2_priceOf at hw
  refine lv_iload_n hx hb dX2_priceOf_0 rfl (lv_at hl 1 rfl) ?_
  refine lv_aload_n hx hb dX2_priceOf_1 rfl (lv_at hl 0 rfl) ?_
  refine g_get hx hb hts hown hK hW 1 rfl (hcP hκ) (uwP hκ) 1 (by decide) rfl al_92 (fun _ h9 => h9) dX2_priceOf_2 ?_
  refine n_imul hx hb dX2_priceOf_5 ?_
  refine lv_iload_n hx hb dX2_priceOf_6 rfl (lv_at hl 2 rfl) ?_
  refine n_iadd hx hb dX2_priceOf_7 ?_
  refine lv_istore_n (lv' := [(3, .int (iN ((v1 * (σ 1 1)) + v2))), (0, .ref (ad 1)), (1, .int (iN v1)), (2, .int (iN v2))]) hx hb dX2_priceOf_8 rfl hl (by decide) rfl (fun ls hl => ?_)
  refine lv_iload_n hx hb dX2_priceOf_9 rfl (lv_at hl 0 rfl) ?_
  refine n_if_lt hx hb hw.1 hw.2.1 hw.2.2 (tgt := 31) dX2_priceOf_10 (by decide) (fun hw => ?_) (fun hw => ?_)
  · exact hB31  s.heap [] ls hw hW (lv_sub hl [] rfl)
  · refine lv_iload_n hx hb dX2_priceOf_13 rfl (lv_at hl 0 rfl) ?_
    refine lv_aload_n hx hb dX2_priceOf_14 rfl (lv_at hl 1 rfl) ?_
    refine g_getr hx hb hts hown hK hW 1 rfl (q := 11) (hcP hκ) (uwP hκ) 3 (by decide) rfl al_95 (fun _ h9 => h9) dX2_priceOf_15 ?_
    refine g_alen hx hb hK hW 11 rfl dX2_priceOf_18 ?_
    refine n_icmp_ge hx hb hw.1 hw.2.1 hw.2.2.1 hw.2.2.2 (tgt := 31) dX2_priceOf_19 (by decide) (fun hw => ?_) (fun hw => ?_)
    · exact hB31  s.heap [] ls hw hW (lv_sub hl [] rfl)
    · refine lv_aload_n hx hb dX2_priceOf_22 rfl (lv_at hl 1 rfl) ?_
      refine g_getr hx hb hts hown hK hW 1 rfl (q := 11) (hcP hκ) (uwP hκ) 3 (by decide) rfl al_95 (fun _ h9 => h9) dX2_priceOf_23 ?_
      refine lv_iload_n hx hb dX2_priceOf_26 rfl (lv_at hl 0 rfl) ?_
      refine g_ald hx hb hK hW 11 rfl hw.1 dX2_priceOf_27 ?_
      replace hw := hw.2
      refine lv_goto (tgt := 32) hx hb dX2_priceOf_28 (by decide) ?_
      exact hB32 (σ 11 (((v1 * (σ 1 1)) + v2)).toNat) s.heap [] ls hw hW (lv_sub hl [] rfl)
set_option maxHeartbeats 4000000 in
set_option maxRecDepth 100000 in
theorem c_X3_painsOf (l : Launch) (G : Gt) (κ : Nat) (hκ : κ < 5) (tl : Bool) (ad : Nat → Nat)  (σ : Mem) (v1 : Int) (v2 : Int) (post : Int → Prop) (hw : w_X3_painsOf κ σ v1 v2 post) : CI l yX3_painsOf (Cond.code yX3_painsOf cX3_painsOf 4 (some .int)) ({ frames := 0, cells := 0, slots := 0, locals := 0 } : Room) G (shW κ tl) ad σ [.ref (ad 14), .int (iN v1), .int (iN v2)] post := by
  refine s_all (y := yX3_painsOf) (code := cX3_painsOf) (maxL := 4) (ret := (some .int)) (rm := ({ frames := 0, cells := 0, slots := 0, locals := 0 } : Room)) (av := [.ref (ad 14), .int (iN v1), .int (iN v2)]) (Qc := fun sz => QI G (shW κ tl) ad σ post (sz)) (by decide) (Nat.le_of_ble_eq_true rfl) ?_
  intro p e s m below meth c S hr hlk _ hK hE hW ls hl
  obtain ⟨hx, hb, hml, hown, hts⟩ := id S
  replace hl : lv_has ls 4 [(0, .ref (ad 14)), (1, .int (iN v1)), (2, .int (iN v2))] := hl
  have hB33 : ∀  (s0_33 : Int) (H : Heap) (locs : List Loc) (ls : Array Slot), w_X3_painsOf_B33 κ σ s0_33 post → Wd G (shW κ tl) ad σ (Aw ad (shW κ tl).length s.heap.size) s.heap H locs → lv_has ls 4 [] → W p l e ({ frames := 0, cells := 0, slots := 0, locals := 0 } : Room) s m ([.ref (ad 14), .int (iN v1), .int (iN v2)] : List Value).toArray below meth c H locs 0 0 (MQ below (QI G (shW κ tl) ad σ post (s.heap.size)) ([.ref (ad 14), .int (iN v1), .int (iN v2)] : List Value).toArray s 0 0 (Aw ad (shW κ tl).length s.heap.size)) (F0 m 33 ls [.int (iN s0_33)]) := by
    intro s0_33 H locs ls hw hW hl
    unfold w_X3_painsOf_B33 at hw
    exact r_CI hx hb hr hlk hK hW hw dX3_painsOf_33
  have hB31 : ∀   (H : Heap) (locs : List Loc) (ls : Array Slot), w_X3_painsOf_B31 κ σ post → Wd G (shW κ tl) ad σ (Aw ad (shW κ tl).length s.heap.size) s.heap H locs → lv_has ls 4 [] → W p l e ({ frames := 0, cells := 0, slots := 0, locals := 0 } : Room) s m ([.ref (ad 14), .int (iN v1), .int (iN v2)] : List Value).toArray below meth c H locs 0 0 (MQ below (QI G (shW κ tl) ad σ post (s.heap.size)) ([.ref (ad 14), .int (iN v1), .int (iN v2)] : List Value).toArray s 0 0 (Aw ad (shW κ tl).length s.heap.size)) (F0 m 31 ls []) := by
    intro  H locs ls hw hW hl
    unfold w_X3_painsOf_B31 at hw
    refine n_ldc (n := 1000000000) hx hb hown (hts _ (List.mem_cons_of_mem _ al_593)) (by decide) dX3_painsOf_31 ?_
    exact hB33 1000000000 H locs ls hw hW (lv_sub hl [] rfl)
  unfold w_X3_painsOf at hw
  refine lv_iload_n hx hb dX3_painsOf_0 rfl (lv_at hl 1 rfl) ?_
  refine lv_aload_n hx hb dX3_painsOf_1 rfl (lv_at hl 0 rfl) ?_
  refine g_get hx hb hts hown hK hW 14 rfl rfl uw_X3 0 (by decide) rfl al_178 (fun _ h9 => h9) dX3_painsOf_2 ?_
  refine n_imul hx hb dX3_painsOf_5 ?_
  refine lv_iload_n hx hb dX3_painsOf_6 rfl (lv_at hl 2 rfl) ?_
  refine n_iadd hx hb dX3_painsOf_7 ?_
  refine lv_istore_n (lv' := [(3, .int (iN ((v1 * (σ 14 0)) + v2))), (0, .ref (ad 14)), (1, .int (iN v1)), (2, .int (iN v2))]) hx hb dX3_painsOf_8 rfl hl (by decide) rfl (fun ls hl => ?_)
  refine lv_iload_n hx hb dX3_painsOf_9 rfl (lv_at hl 0 rfl) ?_
  refine n_if_lt hx hb hw.1 hw.2.1 hw.2.2 (tgt := 31) dX3_painsOf_10 (by decide) (fun hw => ?_) (fun hw => ?_)
  · exact hB31  s.heap [] ls hw hW (lv_sub hl [] rfl)
  · refine lv_iload_n hx hb dX3_painsOf_13 rfl (lv_at hl 0 rfl) ?_
    refine lv_aload_n hx hb dX3_painsOf_14 rfl (lv_at hl 1 rfl) ?_
    refine g_getr hx hb hts hown hK hW 14 rfl (q := 16) rfl uw_X3 1 (by decide) rfl al_179 (fun _ h9 => h9) dX3_painsOf_15 ?_
    refine g_alen hx hb hK hW 16 rfl dX3_painsOf_18 ?_
    refine n_icmp_ge hx hb hw.1 hw.2.1 hw.2.2.1 hw.2.2.2 (tgt := 31) dX3_painsOf_19 (by decide) (fun hw => ?_) (fun hw => ?_)
    · exact hB31  s.heap [] ls hw hW (lv_sub hl [] rfl)
    · refine lv_aload_n hx hb dX3_painsOf_22 rfl (lv_at hl 1 rfl) ?_
      refine g_getr hx hb hts hown hK hW 14 rfl (q := 16) rfl uw_X3 1 (by decide) rfl al_179 (fun _ h9 => h9) dX3_painsOf_23 ?_
      refine lv_iload_n hx hb dX3_painsOf_26 rfl (lv_at hl 0 rfl) ?_
      refine g_ald hx hb hK hW 16 rfl hw.1 dX3_painsOf_27 ?_
      replace hw := hw.2
      refine lv_goto (tgt := 33) hx hb dX3_painsOf_28 (by decide) ?_
      exact hB33 (σ 16 (((v1 * (σ 14 0)) + v2)).toNat) s.heap [] ls hw hW (lv_sub hl [] rfl)
set_option maxHeartbeats 4000000 in
set_option maxRecDepth 100000 in
theorem c_X3_canCome (l : Launch) (G : Gt) (κ : Nat) (hκ : κ < 5) (tl : Bool) (ad : Nat → Nat)  (σ : Mem) (v2 : Int) (v3 : Int) (v4 : Int) (post : Int → Prop) (hw : w_X3_canCome κ σ v2 v3 v4 post) : CI l yX3_canCome (Cond.code yX3_canCome cX3_canCome 6 (some .boolean)) ({ frames := 3, cells := 0, slots := 0, locals := 76 } : Room) G (shW κ tl) ad σ [.ref (ad 14), .ref (ad 1), .int (iN v2), .int (iN v3), .int (iN v4)] post := by
  refine s_all (y := yX3_canCome) (code := cX3_canCome) (maxL := 6) (ret := (some .boolean)) (rm := ({ frames := 3, cells := 0, slots := 0, locals := 76 } : Room)) (av := [.ref (ad 14), .ref (ad 1), .int (iN v2), .int (iN v3), .int (iN v4)]) (Qc := fun sz => QI G (shW κ tl) ad σ post (sz)) (by decide) (Nat.le_of_ble_eq_true rfl) ?_
  intro p e s m below meth c S hr hlk _ hK hE hW ls hl
  obtain ⟨hx, hb, hml, hown, hts⟩ := id S
  replace hl : lv_has ls 6 [(0, .ref (ad 14)), (1, .ref (ad 1)), (2, .int (iN v2)), (3, .int (iN v3)), (4, .int (iN v4))] := hl
  have hL3 : ∀ (v2_3 : Int) (v3_3 : Int) (v4_3 : Int) (n : Nat) (v5_3 : Int) (H : Heap) (locs : List Loc) (ls : Array Slot), w_X3_canCome_L3 κ σ v2_3 v3_3 v4_3 post n v5_3 → Wd G (shW κ tl) ad σ (Aw ad (shW κ tl).length s.heap.size) s.heap H locs → lv_has ls 6 [(0, .ref (ad 14)), (1, .ref (ad 1)), (2, .int (iN v2_3)), (3, .int (iN v3_3)), (4, .int (iN v4_3)), (5, .int (iN v5_3))] → W p l e ({ frames := 3, cells := 0, slots := 0, locals := 76 } : Room) s m ([.ref (ad 14), .ref (ad 1), .int (iN v2), .int (iN v3), .int (iN v4)] : List Value).toArray below meth c H locs 0 0 (MQ below (QI G (shW κ tl) ad σ post (s.heap.size)) ([.ref (ad 14), .ref (ad 1), .int (iN v2), .int (iN v3), .int (iN v4)] : List Value).toArray s 0 0 (Aw ad (shW κ tl).length s.heap.size)) (F0 m 3 ls []) := by
    intro v2_3 v3_3 v4_3 n
    induction n with
    | zero =>
      intro v5_3 H locs ls hw
      exact hw.elim
    | succ n3 ih3 =>
      intro v5_3 H locs ls hw hW hl
      replace hw : w_X3_canCome_L3_body κ σ v2_3 v3_3 v4_3 post (w_X3_canCome_L3 κ σ v2_3 v3_3 v4_3 post n3) v5_3 := hw
      have hB40 : ∀  (v5_40 : Int) (H : Heap) (locs : List Loc) (ls : Array Slot), w_X3_canCome_B40 κ σ v2_3 v3_3 v4_3 v5_40 post (w_X3_canCome_L3 κ σ v2_3 v3_3 v4_3 post n3) → Wd G (shW κ tl) ad σ (Aw ad (shW κ tl).length s.heap.size) s.heap H locs → lv_has ls 6 [(0, .ref (ad 14)), (1, .ref (ad 1)), (2, .int (iN v2_3)), (3, .int (iN v3_3)), (4, .int (iN v4_3)), (5, .int (iN v5_40))] → W p l e ({ frames := 3, cells := 0, slots := 0, locals := 76 } : Room) s m ([.ref (ad 14), .ref (ad 1), .int (iN v2), .int (iN v3), .int (iN v4)] : List Value).toArray below meth c H locs 0 0 (MQ below (QI G (shW κ tl) ad σ post (s.heap.size)) ([.ref (ad 14), .ref (ad 1), .int (iN v2), .int (iN v3), .int (iN v4)] : List Value).toArray s 0 0 (Aw ad (shW κ tl).length s.heap.size)) (F0 m 40 ls []) := by
        intro v5_40 H locs ls hw hW hl
        unfold w_X3_canCome_B40 at hw
        refine lv_iinc (v := iN (v5_40 + 1)) (lv' := [(5, .int (iN (v5_40 + 1))), (0, .ref (ad 14)), (1, .ref (ad 1)), (2, .int (iN v2_3)), (3, .int (iN v3_3)), (4, .int (iN v4_3))]) hx hb dX3_canCome_40 hl (k := 5) rfl (iN_add _ _) (by decide) rfl (fun ls hl => ?_)
        refine lv_goto (tgt := 3) hx hb dX3_canCome_43 (by decide) ?_
        exact ih3 (v5_40 + 1) H locs ls hw hW (lv_sub hl [1, 2, 3, 4, 5, 0] rfl)
      unfold w_X3_canCome_L3_body at hw
      refine lv_iload hx hb dX3_canCome_3 (lv_at hl 5 rfl) ?_
      refine lv_aload_n hx hb dX3_canCome_5 rfl (lv_at hl 1 rfl) ?_
      refine lv_iload_n hx hb dX3_canCome_6 rfl (lv_at hl 2 rfl) ?_
      refine fin_CI hW (run_U (k := 1) (As := [.int (iN v2_3)]) (rest := [.int (iN v5_3)]) S hK hE hW (c_X2_countOf l G κ hκ tl ad σ v2_3 _ hw H.size) rfl (hcP hκ) al_579 al_427 (se_X2_X2_countOf hκ) al_426 al_3 al_433 rfl hd_X2_countOf.2 rfl rfl ⟨Nat.le_of_ble_eq_true rfl, Nat.le_of_ble_eq_true rfl⟩ rfl hl.1 rfl (Nat.le_of_ble_eq_true rfl) dX3_canCome_7 ⟨Nat.zero_le _, Nat.zero_le _⟩) ?_
      intro r7 H locs hw hW
      refine n_icmp_ge hx hb hw.1 hw.2.1 hw.2.2.1 hw.2.2.2 (tgt := 46) dX3_canCome_10 (by decide) (fun hw => ?_) (fun hw => ?_)
      · refine n_iconst hx hb dX3_canCome_46 ?_
        exact rz_CI hx hb hr hlk hK hW (Or.inl rfl) hw dX3_canCome_47
      · refine lv_aload_n hx hb dX3_canCome_13 rfl (lv_at hl 0 rfl) ?_
        refine lv_iload_n hx hb dX3_canCome_14 rfl (lv_at hl 2 rfl) ?_
        refine lv_iload hx hb dX3_canCome_15 (lv_at hl 5 rfl) ?_
        refine fin_CI hW (run_V (k := 14) (As := [.int (iN v2_3), .int (iN v5_3)]) (rest := []) S hK hE hW (c_X3_painsOf l G κ hκ tl ad σ v2_3 v5_3 _ hw H.size) rfl rfl al_589 al_591 sl_X3_painsOf al_10 al_592 hd_X3_painsOf rfl rfl ⟨Nat.le_of_ble_eq_true rfl, Nat.le_of_ble_eq_true rfl⟩ rfl hl.1 rfl (Nat.le_of_ble_eq_true rfl) dX3_canCome_17 ⟨Nat.zero_le _, Nat.zero_le _⟩) ?_
        intro r9 H locs hw hW
        refine n_if_ne hx hb hw.1 hw.2.1 hw.2.2 (tgt := 40) dX3_canCome_20 (by decide) (fun hw => ?_) (fun hw => ?_)
        · exact hB40 v5_3 H locs ls hw hW (lv_sub hl [0, 1, 2, 3, 4, 5] rfl)
        · refine lv_aload_n hx hb dX3_canCome_23 rfl (lv_at hl 1 rfl) ?_
          refine lv_iload_n hx hb dX3_canCome_24 rfl (lv_at hl 2 rfl) ?_
          refine lv_iload hx hb dX3_canCome_25 (lv_at hl 5 rfl) ?_
          refine lv_iload_n hx hb dX3_canCome_27 rfl (lv_at hl 3 rfl) ?_
          refine lv_iload hx hb dX3_canCome_28 (lv_at hl 4 rfl) ?_
          refine fin_CI hW (run_X3_stepPrice (As := [.int (iN v2_3), .int (iN v5_3), .int (iN v3_3), .int (iN v4_3)]) (rest := []) hκ S hK hE hW hw rfl (Nat.le_of_ble_eq_true rfl) (Nat.le_of_ble_eq_true rfl) rfl hl.1 rfl (Nat.le_of_ble_eq_true rfl) dX3_canCome_30 ⟨Nat.zero_le _, Nat.zero_le _⟩) ?_
          intro r11 H locs hw hW
          refine n_bipush hx hb dX3_canCome_33 (by decide) ?_
          refine n_icmp_eq hx hb hw.1 (rg_c _ rfl) hw.2.1 hw.2.2 (tgt := 40) dX3_canCome_35 (by decide) (fun hw => ?_) (fun hw => ?_)
          · exact hB40 v5_3 H locs ls hw hW (lv_sub hl [0, 1, 2, 3, 4, 5] rfl)
          · refine n_iconst hx hb dX3_canCome_38 ?_
            exact rz_CI hx hb hr hlk hK hW (Or.inr rfl) hw dX3_canCome_39
  unfold w_X3_canCome at hw
  refine n_iconst hx hb dX3_canCome_0 ?_
  refine lv_istore (lv' := [(5, .int (iN 0)), (0, .ref (ad 14)), (1, .ref (ad 1)), (2, .int (iN v2)), (3, .int (iN v3)), (4, .int (iN v4))]) hx hb dX3_canCome_1 hl (by decide) rfl (fun ls hl => ?_)
  obtain ⟨n, hw⟩ := hw
  exact hL3 v2 v3 v4 n 0 s.heap [] ls hw hW (lv_sub hl [1, 2, 3, 4, 5, 0] rfl)
set_option maxHeartbeats 4000000 in
set_option maxRecDepth 100000 in
theorem c_X3_setPains (l : Launch) (G : Gt) (κ : Nat) (hκ : κ < 5) (tl : Bool) (ad : Nat → Nat)  (σ : Mem) (v1 : Int) (v2 : Int) (v3 : Int) (post : Mem → Prop) (hw : w_X3_setPains κ σ v1 v2 v3 post) : CV l yX3_setPains (Cond.code yX3_setPains cX3_setPains 5 none) ({ frames := 0, cells := 0, slots := 0, locals := 0 } : Room) G (shW κ tl) ad σ [.ref (ad 14), .int (iN v1), .int (iN v2), .int (iN v3)] post := by
  refine s_all (y := yX3_setPains) (code := cX3_setPains) (maxL := 5) (ret := none) (rm := ({ frames := 0, cells := 0, slots := 0, locals := 0 } : Room)) (av := [.ref (ad 14), .int (iN v1), .int (iN v2), .int (iN v3)]) (Qc := fun sz => QV G (shW κ tl) ad post (sz)) (by decide) (Nat.le_of_ble_eq_true rfl) ?_
  intro p e s m below meth c S hr hlk _ hK hE hW ls hl
  obtain ⟨hx, hb, hml, hown, hts⟩ := id S
  replace hl : lv_has ls 5 [(0, .ref (ad 14)), (1, .int (iN v1)), (2, .int (iN v2)), (3, .int (iN v3))] := hl
  have hB33 : ∀ (σ_33 : Mem)  (H : Heap) (locs : List Loc) (ls : Array Slot), w_X3_setPains_B33 κ σ_33 post → Wd G (shW κ tl) ad σ_33 (Aw ad (shW κ tl).length s.heap.size) s.heap H locs → lv_has ls 5 [] → W p l e ({ frames := 0, cells := 0, slots := 0, locals := 0 } : Room) s m ([.ref (ad 14), .int (iN v1), .int (iN v2), .int (iN v3)] : List Value).toArray below meth c H locs 0 0 (MQ below (QV G (shW κ tl) ad post (s.heap.size)) ([.ref (ad 14), .int (iN v1), .int (iN v2), .int (iN v3)] : List Value).toArray s 0 0 (Aw ad (shW κ tl).length s.heap.size)) (F0 m 33 ls []) := by
    intro σ_33 H locs ls hw hW hl
    unfold w_X3_setPains_B33 at hw
    exact r_CV hx hb hr hlk hK hW hw dX3_setPains_33
  unfold w_X3_setPains at hw
  refine lv_iload_n hx hb dX3_setPains_0 rfl (lv_at hl 1 rfl) ?_
  refine lv_aload_n hx hb dX3_setPains_1 rfl (lv_at hl 0 rfl) ?_
  refine g_get hx hb hts hown hK hW 14 rfl rfl uw_X3 0 (by decide) rfl al_178 (fun _ h9 => h9) dX3_setPains_2 ?_
  refine n_imul hx hb dX3_setPains_5 ?_
  refine lv_iload_n hx hb dX3_setPains_6 rfl (lv_at hl 2 rfl) ?_
  refine n_iadd hx hb dX3_setPains_7 ?_
  refine lv_istore (lv' := [(4, .int (iN ((v1 * (σ 14 0)) + v2))), (0, .ref (ad 14)), (1, .int (iN v1)), (2, .int (iN v2)), (3, .int (iN v3))]) hx hb dX3_setPains_8 hl (by decide) rfl (fun ls hl => ?_)
  refine lv_iload hx hb dX3_setPains_10 (lv_at hl 0 rfl) ?_
  refine n_if_lt hx hb hw.1 hw.2.1 hw.2.2 (tgt := 33) dX3_setPains_12 (by decide) (fun hw => ?_) (fun hw => ?_)
  · exact hB33 σ s.heap [] ls hw hW (lv_sub hl [] rfl)
  · refine lv_iload hx hb dX3_setPains_15 (lv_at hl 0 rfl) ?_
    refine lv_aload_n hx hb dX3_setPains_17 rfl (lv_at hl 1 rfl) ?_
    refine g_getr hx hb hts hown hK hW 14 rfl (q := 16) rfl uw_X3 1 (by decide) rfl al_179 (fun _ h9 => h9) dX3_setPains_18 ?_
    refine g_alen hx hb hK hW 16 rfl dX3_setPains_21 ?_
    refine n_icmp_ge hx hb hw.1 hw.2.1 hw.2.2.1 hw.2.2.2 (tgt := 33) dX3_setPains_22 (by decide) (fun hw => ?_) (fun hw => ?_)
    · exact hB33 σ s.heap [] ls hw hW (lv_sub hl [] rfl)
    · refine lv_aload_n hx hb dX3_setPains_25 rfl (lv_at hl 1 rfl) ?_
      refine g_getr hx hb hts hown hK hW 14 rfl (q := 16) rfl uw_X3 1 (by decide) rfl al_179 (fun _ h9 => h9) dX3_setPains_26 ?_
      refine lv_iload hx hb dX3_setPains_29 (lv_at hl 0 rfl) ?_
      refine lv_iload_n hx hb dX3_setPains_31 rfl (lv_at hl 4 rfl) ?_
      refine g_ast hx hb hK hW 16 rfl hw.1 dX3_setPains_32 (fun σ1 H locs hτ hW => ?_)
      replace hw := hw.2 σ1 hτ
      exact hB33 σ1 H locs ls hw hW (lv_sub hl [] rfl)
set_option maxHeartbeats 4000000 in
set_option maxRecDepth 100000 in
theorem c_X3_isReached (l : Launch) (G : Gt) (κ : Nat) (hκ : κ < 5) (tl : Bool) (ad : Nat → Nat)  (σ : Mem) (v2 : Int) (post : Int → Mem → Prop) (hw : w_X3_isReached κ σ v2 post) : CM l yX3_isReached (Cond.code yX3_isReached cX3_isReached 7 (some .boolean)) ({ frames := 4, cells := 0, slots := 0, locals := 101 } : Room) G (shW κ tl) ad σ [.ref (ad 14), .ref (ad 1), .int (iN v2)] post := by
  refine s_all (y := yX3_isReached) (code := cX3_isReached) (maxL := 7) (ret := (some .boolean)) (rm := ({ frames := 4, cells := 0, slots := 0, locals := 101 } : Room)) (av := [.ref (ad 14), .ref (ad 1), .int (iN v2)]) (Qc := fun sz => QM G (shW κ tl) ad post (sz)) (by decide) (Nat.le_of_ble_eq_true rfl) ?_
  intro p e s m below meth c S hr hlk _ hK hE hW ls hl
  obtain ⟨hx, hb, hml, hown, hts⟩ := id S
  replace hl : lv_has ls 7 [(0, .ref (ad 14)), (1, .ref (ad 1)), (2, .int (iN v2))] := hl
  have hL15 : ∀ (v2_15 : Int) (v3_15 : Int) (n : Nat) (v4_15 : Int) (v5_15 : Int) (σ_15 : Mem) (H : Heap) (locs : List Loc) (ls : Array Slot), w_X3_isReached_L15 κ v2_15 v3_15 post n v4_15 v5_15 σ_15 → Wd G (shW κ tl) ad σ_15 (Aw ad (shW κ tl).length s.heap.size) s.heap H locs → lv_has ls 7 [(0, .ref (ad 14)), (1, .ref (ad 1)), (2, .int (iN v2_15)), (3, .int (iN v3_15)), (4, .int (iN v4_15)), (5, .int (iN v5_15))] → W p l e ({ frames := 4, cells := 0, slots := 0, locals := 101 } : Room) s m ([.ref (ad 14), .ref (ad 1), .int (iN v2)] : List Value).toArray below meth c H locs 0 0 (MQ below (QM G (shW κ tl) ad post (s.heap.size)) ([.ref (ad 14), .ref (ad 1), .int (iN v2)] : List Value).toArray s 0 0 (Aw ad (shW κ tl).length s.heap.size)) (F0 m 15 ls []) := by
    intro v2_15 v3_15 n
    induction n with
    | zero =>
      intro v4_15 v5_15 σ_15 H locs ls hw
      exact hw.elim
    | succ n15 ih15 =>
      intro v4_15 v5_15 σ_15 H locs ls hw hW hl
      replace hw : w_X3_isReached_L15_body κ v2_15 v3_15 post (w_X3_isReached_L15 κ v2_15 v3_15 post n15) v4_15 v5_15 σ_15 := hw
      have hB94 : ∀ (σ_94 : Mem) (v5_94 : Int) (s0_94 : Int) (H : Heap) (locs : List Loc) (ls : Array Slot), w_X3_isReached_B94 κ σ_94 v2_15 v3_15 v5_94 s0_94 post (w_X3_isReached_L15 κ v2_15 v3_15 post n15) → Wd G (shW κ tl) ad σ_94 (Aw ad (shW κ tl).length s.heap.size) s.heap H locs → lv_has ls 7 [(0, .ref (ad 14)), (1, .ref (ad 1)), (2, .int (iN v2_15)), (3, .int (iN v3_15)), (5, .int (iN v5_94))] → W p l e ({ frames := 4, cells := 0, slots := 0, locals := 101 } : Room) s m ([.ref (ad 14), .ref (ad 1), .int (iN v2)] : List Value).toArray below meth c H locs 0 0 (MQ below (QM G (shW κ tl) ad post (s.heap.size)) ([.ref (ad 14), .ref (ad 1), .int (iN v2)] : List Value).toArray s 0 0 (Aw ad (shW κ tl).length s.heap.size)) (F0 m 94 ls [.int (iN s0_94)]) := by
        intro σ_94 v5_94 s0_94 H locs ls hw hW hl
        unfold w_X3_isReached_B94 at hw
        refine lv_istore (lv' := [(4, .int (iN s0_94)), (0, .ref (ad 14)), (1, .ref (ad 1)), (2, .int (iN v2_15)), (3, .int (iN v3_15)), (5, .int (iN v5_94))]) hx hb dX3_isReached_94 hl (by decide) rfl (fun ls hl => ?_)
        refine lv_iinc (v := iN (v5_94 + 1)) (lv' := [(5, .int (iN (v5_94 + 1))), (4, .int (iN s0_94)), (0, .ref (ad 14)), (1, .ref (ad 1)), (2, .int (iN v2_15)), (3, .int (iN v3_15))]) hx hb dX3_isReached_96 hl (k := 5) rfl (iN_add _ _) (by decide) rfl (fun ls hl => ?_)
        refine lv_goto (tgt := 15) hx hb dX3_isReached_99 (by decide) ?_
        exact ih15 s0_94 (v5_94 + 1) σ_94 H locs ls hw hW (lv_sub hl [2, 3, 4, 5, 1, 0] rfl)
      have hB89 : ∀ (σ_89 : Mem) (v5_89 : Int) (H : Heap) (locs : List Loc) (ls : Array Slot), w_X3_isReached_B89 κ σ_89 v2_15 v3_15 v5_89 post (w_X3_isReached_L15 κ v2_15 v3_15 post n15) → Wd G (shW κ tl) ad σ_89 (Aw ad (shW κ tl).length s.heap.size) s.heap H locs → lv_has ls 7 [(0, .ref (ad 14)), (1, .ref (ad 1)), (2, .int (iN v2_15)), (3, .int (iN v3_15)), (5, .int (iN v5_89))] → W p l e ({ frames := 4, cells := 0, slots := 0, locals := 101 } : Room) s m ([.ref (ad 14), .ref (ad 1), .int (iN v2)] : List Value).toArray below meth c H locs 0 0 (MQ below (QM G (shW κ tl) ad post (s.heap.size)) ([.ref (ad 14), .ref (ad 1), .int (iN v2)] : List Value).toArray s 0 0 (Aw ad (shW κ tl).length s.heap.size)) (F0 m 89 ls []) := by
        intro σ_89 v5_89 H locs ls hw hW hl
        unfold w_X3_isReached_B89 at hw
        refine n_iconst hx hb dX3_isReached_89 ?_
        refine lv_goto (tgt := 94) hx hb dX3_isReached_90 (by decide) ?_
        exact hB94 σ_89 v5_89 1 H locs ls hw hW (lv_sub hl [0, 1, 2, 3, 4] rfl)
      have hB76 : ∀ (σ_76 : Mem) (v4_76 : Int) (v5_76 : Int) (v6_76 : Int) (s0_76 : Int) (s1_76 : Int) (s2_76 : Int) (H : Heap) (locs : List Loc) (ls : Array Slot), w_X3_isReached_B76 κ σ_76 v2_15 v3_15 v4_76 v5_76 v6_76 s0_76 s1_76 s2_76 post (w_X3_isReached_L15 κ v2_15 v3_15 post n15) → Wd G (shW κ tl) ad σ_76 (Aw ad (shW κ tl).length s.heap.size) s.heap H locs → lv_has ls 7 [(0, .ref (ad 14)), (1, .ref (ad 1)), (2, .int (iN v2_15)), (3, .int (iN v3_15)), (4, .int (iN v4_76)), (5, .int (iN v5_76)), (6, .int (iN v6_76))] → W p l e ({ frames := 4, cells := 0, slots := 0, locals := 101 } : Room) s m ([.ref (ad 14), .ref (ad 1), .int (iN v2)] : List Value).toArray below meth c H locs 0 0 (MQ below (QM G (shW κ tl) ad post (s.heap.size)) ([.ref (ad 14), .ref (ad 1), .int (iN v2)] : List Value).toArray s 0 0 (Aw ad (shW κ tl).length s.heap.size)) (F0 m 76 ls [.int (iN s0_76), .int (iN s1_76), .int (iN s2_76), .ref (ad 14)]) := by
        intro σ_76 v4_76 v5_76 v6_76 s0_76 s1_76 s2_76 H locs ls hw hW hl
        unfold w_X3_isReached_B76 at hw
        refine fin_CV hW (run_V (k := 14) (As := [.int (iN s2_76), .int (iN s1_76), .int (iN s0_76)]) (rest := []) S hK hE hW (c_X3_setPains l G κ hκ tl ad σ_76 s2_76 s1_76 s0_76 _ hw H.size) rfl rfl al_595 al_597 sl_X3_setPains al_10 al_598 hd_X3_setPains rfl rfl ⟨Nat.le_of_ble_eq_true rfl, Nat.le_of_ble_eq_true rfl⟩ rfl hl.1 rfl (Nat.le_of_ble_eq_true rfl) dX3_isReached_76 ⟨Nat.zero_le _, Nat.zero_le _⟩) ?_
        intro σ12 H locs hw hW
        refine lv_iload hx hb dX3_isReached_79 (lv_at hl 4 rfl) ?_
        refine n_if_ne hx hb hw.1 hw.2.1 hw.2.2 (tgt := 89) dX3_isReached_81 (by decide) (fun hw => ?_) (fun hw => ?_)
        · exact hB89 σ12 v5_76 H locs ls hw hW (lv_sub hl [0, 1, 2, 3, 5] rfl)
        · refine lv_iload hx hb dX3_isReached_84 (lv_at hl 6 rfl) ?_
          refine n_if_eq hx hb hw.1 hw.2.1 hw.2.2 (tgt := 93) dX3_isReached_86 (by decide) (fun hw => ?_) (fun hw => ?_)
          · refine n_iconst hx hb dX3_isReached_93 ?_
            exact hB94 σ12 v5_76 0 H locs ls hw hW (lv_sub hl [0, 1, 2, 3, 5] rfl)
          · exact hB89 σ12 v5_76 H locs ls hw hW (lv_sub hl [0, 1, 2, 3, 5] rfl)
      have hB59 : ∀ (σ_59 : Mem) (v4_59 : Int) (v5_59 : Int) (s0_59 : Int) (H : Heap) (locs : List Loc) (ls : Array Slot), w_X3_isReached_B59 κ σ_59 v2_15 v3_15 v4_59 v5_59 s0_59 post (w_X3_isReached_L15 κ v2_15 v3_15 post n15) → Wd G (shW κ tl) ad σ_59 (Aw ad (shW κ tl).length s.heap.size) s.heap H locs → lv_has ls 7 [(0, .ref (ad 14)), (1, .ref (ad 1)), (2, .int (iN v2_15)), (3, .int (iN v3_15)), (4, .int (iN v4_59)), (5, .int (iN v5_59))] → W p l e ({ frames := 4, cells := 0, slots := 0, locals := 101 } : Room) s m ([.ref (ad 14), .ref (ad 1), .int (iN v2)] : List Value).toArray below meth c H locs 0 0 (MQ below (QM G (shW κ tl) ad post (s.heap.size)) ([.ref (ad 14), .ref (ad 1), .int (iN v2)] : List Value).toArray s 0 0 (Aw ad (shW κ tl).length s.heap.size)) (F0 m 59 ls [.int (iN s0_59)]) := by
        intro σ_59 v4_59 v5_59 s0_59 H locs ls hw hW hl
        unfold w_X3_isReached_B59 at hw
        refine lv_istore (lv' := [(6, .int (iN s0_59)), (0, .ref (ad 14)), (1, .ref (ad 1)), (2, .int (iN v2_15)), (3, .int (iN v3_15)), (4, .int (iN v4_59)), (5, .int (iN v5_59))]) hx hb dX3_isReached_59 hl (by decide) rfl (fun ls hl => ?_)
        refine lv_aload_n hx hb dX3_isReached_61 rfl (lv_at hl 1 rfl) ?_
        refine lv_iload_n hx hb dX3_isReached_62 rfl (lv_at hl 3 rfl) ?_
        refine lv_iload hx hb dX3_isReached_63 (lv_at hl 6 rfl) ?_
        refine lv_iload hx hb dX3_isReached_65 (lv_at hl 0 rfl) ?_
        refine n_if_eq hx hb hw.1 hw.2.1 hw.2.2 (tgt := 74) dX3_isReached_67 (by decide) (fun hw => ?_) (fun hw => ?_)
        · refine n_ldc (n := 1000000000) hx hb hown (hts _ (List.mem_cons_of_mem _ al_593)) (by decide) dX3_isReached_74 ?_
          exact hB76 σ_59 v4_59 v5_59 s0_59 1000000000 v5_59 v2_15 H locs ls hw hW (lv_sub hl [1, 2, 3, 4, 5, 6, 0] rfl)
        · refine n_iconst hx hb dX3_isReached_70 ?_
          refine lv_goto (tgt := 76) hx hb dX3_isReached_71 (by decide) ?_
          exact hB76 σ_59 v4_59 v5_59 s0_59 0 v5_59 v2_15 H locs ls hw hW (lv_sub hl [1, 2, 3, 4, 5, 6, 0] rfl)
      have hB58 : ∀ (σ_58 : Mem) (v4_58 : Int) (v5_58 : Int) (H : Heap) (locs : List Loc) (ls : Array Slot), w_X3_isReached_B58 κ σ_58 v2_15 v3_15 v4_58 v5_58 post (w_X3_isReached_L15 κ v2_15 v3_15 post n15) → Wd G (shW κ tl) ad σ_58 (Aw ad (shW κ tl).length s.heap.size) s.heap H locs → lv_has ls 7 [(0, .ref (ad 14)), (1, .ref (ad 1)), (2, .int (iN v2_15)), (3, .int (iN v3_15)), (4, .int (iN v4_58)), (5, .int (iN v5_58))] → W p l e ({ frames := 4, cells := 0, slots := 0, locals := 101 } : Room) s m ([.ref (ad 14), .ref (ad 1), .int (iN v2)] : List Value).toArray below meth c H locs 0 0 (MQ below (QM G (shW κ tl) ad post (s.heap.size)) ([.ref (ad 14), .ref (ad 1), .int (iN v2)] : List Value).toArray s 0 0 (Aw ad (shW κ tl).length s.heap.size)) (F0 m 58 ls []) := by
        intro σ_58 v4_58 v5_58 H locs ls hw hW hl
        unfold w_X3_isReached_B58 at hw
        refine n_iconst hx hb dX3_isReached_58 ?_
        exact hB59 σ_58 v4_58 v5_58 0 H locs ls hw hW (lv_sub hl [0, 1, 2, 3, 4, 5] rfl)
      have hB54 : ∀ (σ_54 : Mem) (v4_54 : Int) (v5_54 : Int) (H : Heap) (locs : List Loc) (ls : Array Slot), w_X3_isReached_B54 κ σ_54 v2_15 v3_15 v4_54 v5_54 post (w_X3_isReached_L15 κ v2_15 v3_15 post n15) → Wd G (shW κ tl) ad σ_54 (Aw ad (shW κ tl).length s.heap.size) s.heap H locs → lv_has ls 7 [(0, .ref (ad 14)), (1, .ref (ad 1)), (2, .int (iN v2_15)), (3, .int (iN v3_15)), (4, .int (iN v4_54)), (5, .int (iN v5_54))] → W p l e ({ frames := 4, cells := 0, slots := 0, locals := 101 } : Room) s m ([.ref (ad 14), .ref (ad 1), .int (iN v2)] : List Value).toArray below meth c H locs 0 0 (MQ below (QM G (shW κ tl) ad post (s.heap.size)) ([.ref (ad 14), .ref (ad 1), .int (iN v2)] : List Value).toArray s 0 0 (Aw ad (shW κ tl).length s.heap.size)) (F0 m 54 ls []) := by
        intro σ_54 v4_54 v5_54 H locs ls hw hW hl
        unfold w_X3_isReached_B54 at hw
        refine n_iconst hx hb dX3_isReached_54 ?_
        refine lv_goto (tgt := 59) hx hb dX3_isReached_55 (by decide) ?_
        exact hB59 σ_54 v4_54 v5_54 1 H locs ls hw hW (lv_sub hl [0, 1, 2, 3, 4, 5] rfl)
      unfold w_X3_isReached_L15_body at hw
      refine lv_iload hx hb dX3_isReached_15 (lv_at hl 5 rfl) ?_
      refine lv_aload_n hx hb dX3_isReached_17 rfl (lv_at hl 1 rfl) ?_
      refine lv_iload_n hx hb dX3_isReached_18 rfl (lv_at hl 2 rfl) ?_
      refine fin_CI hW (run_U (k := 1) (As := [.int (iN v2_15)]) (rest := [.int (iN v5_15)]) S hK hE hW (c_X2_countOf l G κ hκ tl ad σ_15 v2_15 _ hw H.size) rfl (hcP hκ) al_579 al_427 (se_X2_X2_countOf hκ) al_426 al_3 al_433 rfl hd_X2_countOf.2 rfl rfl ⟨Nat.le_of_ble_eq_true rfl, Nat.le_of_ble_eq_true rfl⟩ rfl hl.1 rfl (Nat.le_of_ble_eq_true rfl) dX3_isReached_19 ⟨Nat.zero_le _, Nat.zero_le _⟩) ?_
      intro r13 H locs hw hW
      refine n_icmp_ge hx hb hw.1 hw.2.1 hw.2.2.1 hw.2.2.2 (tgt := 102) dX3_isReached_22 (by decide) (fun hw => ?_) (fun hw => ?_)
      · refine lv_iload hx hb dX3_isReached_102 (lv_at hl 4 rfl) ?_
        exact rz_CM hx hb hr hlk hK hW hw.1 hw.2 dX3_isReached_104
      · refine lv_aload_n hx hb dX3_isReached_25 rfl (lv_at hl 1 rfl) ?_
        refine g_getr hx hb hts hown hK hW 1 rfl (q := 2) (hcP hκ) (uwP hκ) 0 (by decide) rfl al_88 (fun _ h9 => h9) dX3_isReached_26 ?_
        refine lv_iload_n hx hb dX3_isReached_29 rfl (lv_at hl 2 rfl) ?_
        refine lv_iload hx hb dX3_isReached_30 (lv_at hl 5 rfl) ?_
        refine fin_CI hW (run_VN (k := 2) (As := [.int (iN v2_15), .int (iN v5_15)]) (rest := []) 32 S hK hE hW (c_X1_allows l G κ tl ad σ_15 v2_15 v5_15 _ hw H.size) rfl rfl rfl al_582 sl_X1_allows al_5 al_583 hd_X1_allows.2 rfl rfl ⟨Nat.le_of_ble_eq_true rfl, Nat.le_of_ble_eq_true rfl⟩ rfl hl.1 rfl (Nat.le_of_ble_eq_true rfl) dX3_isReached_32 ⟨Nat.zero_le _, Nat.zero_le _⟩) ?_
        intro r15 H locs hw hW
        refine n_if_eq hx hb hw.1 hw.2.1 hw.2.2 (tgt := 58) dX3_isReached_35 (by decide) (fun hw => ?_) (fun hw => ?_)
        · exact hB58 σ_15 v4_15 v5_15 H locs ls hw hW (lv_sub hl [0, 1, 2, 3, 4, 5] rfl)
        · refine lv_iload_n hx hb dX3_isReached_38 rfl (lv_at hl 3 rfl) ?_
          refine n_if_lt hx hb hw.1 hw.2.1 hw.2.2 (tgt := 54) dX3_isReached_39 (by decide) (fun hw => ?_) (fun hw => ?_)
          · exact hB54 σ_15 v4_15 v5_15 H locs ls hw hW (lv_sub hl [0, 1, 2, 3, 4, 5] rfl)
          · refine lv_aload_n hx hb dX3_isReached_42 rfl (lv_at hl 0 rfl) ?_
            refine lv_aload_n hx hb dX3_isReached_43 rfl (lv_at hl 1 rfl) ?_
            refine lv_iload_n hx hb dX3_isReached_44 rfl (lv_at hl 3 rfl) ?_
            refine lv_iload_n hx hb dX3_isReached_45 rfl (lv_at hl 2 rfl) ?_
            refine lv_iload hx hb dX3_isReached_46 (lv_at hl 5 rfl) ?_
            refine fin_CI hW (run_V (k := 14) (As := [.ref (ad 1), .int (iN v3_15), .int (iN v2_15), .int (iN v5_15)]) (rest := []) S hK hE hW (c_X3_canCome l G κ hκ tl ad σ_15 v3_15 v2_15 v5_15 _ hw H.size) rfl rfl al_585 al_587 sl_X3_canCome al_10 al_588 hd_X3_canCome rfl rfl ⟨Nat.le_of_ble_eq_true rfl, Nat.le_of_ble_eq_true rfl⟩ rfl hl.1 rfl (Nat.le_of_ble_eq_true rfl) dX3_isReached_48 ⟨Nat.zero_le _, Nat.zero_le _⟩) ?_
            intro r17 H locs hw hW
            refine n_if_eq hx hb hw.1 hw.2.1 hw.2.2 (tgt := 58) dX3_isReached_51 (by decide) (fun hw => ?_) (fun hw => ?_)
            · exact hB58 σ_15 v4_15 v5_15 H locs ls hw hW (lv_sub hl [0, 1, 2, 3, 4, 5] rfl)
            · exact hB54 σ_15 v4_15 v5_15 H locs ls hw hW (lv_sub hl [0, 1, 2, 3, 4, 5] rfl)
  unfold w_X3_isReached at hw
  refine lv_aload_n hx hb dX3_isReached_0 rfl (lv_at hl 1 rfl) ?_
  refine g_getr hx hb hts hown hK hW 1 rfl (q := 2) (hcP hκ) (uwP hκ) 0 (by decide) rfl al_88 (fun _ h9 => h9) dX3_isReached_1 ?_
  refine lv_iload_n hx hb dX3_isReached_4 rfl (lv_at hl 2 rfl) ?_
  refine fin_CI hW (run_VN (k := 2) (As := [.int (iN v2)]) (rest := []) 31 S hK hE hW (c_X1_before l G κ tl ad σ v2 _ hw s.heap.size) rfl rfl rfl al_576 sl_X1_before al_5 al_577 hd_X1_before.2 rfl rfl ⟨Nat.le_of_ble_eq_true rfl, Nat.le_of_ble_eq_true rfl⟩ rfl hl.1 rfl (Nat.le_of_ble_eq_true rfl) dX3_isReached_5 ⟨Nat.zero_le _, Nat.zero_le _⟩) ?_
  intro r1 H locs hw hW
  refine lv_istore_n (lv' := [(3, .int (iN r1)), (0, .ref (ad 14)), (1, .ref (ad 1)), (2, .int (iN v2))]) hx hb dX3_isReached_8 rfl hl (by decide) rfl (fun ls hl => ?_)
  refine n_iconst hx hb dX3_isReached_9 ?_
  refine lv_istore (lv' := [(4, .int (iN 0)), (3, .int (iN r1)), (0, .ref (ad 14)), (1, .ref (ad 1)), (2, .int (iN v2))]) hx hb dX3_isReached_10 hl (by decide) rfl (fun ls hl => ?_)
  refine n_iconst hx hb dX3_isReached_12 ?_
  refine lv_istore (lv' := [(5, .int (iN 0)), (4, .int (iN 0)), (3, .int (iN r1)), (0, .ref (ad 14)), (1, .ref (ad 1)), (2, .int (iN v2))]) hx hb dX3_isReached_13 hl (by decide) rfl (fun ls hl => ?_)
  obtain ⟨n, hw⟩ := hw
  exact hL15 v2 r1 n 0 0 σ H locs ls hw hW (lv_sub hl [3, 4, 5, 2, 1, 0] rfl)
set_option maxHeartbeats 4000000 in
set_option maxRecDepth 100000 in
theorem c_X3_firstStuck (l : Launch) (G : Gt) (κ : Nat) (hκ : κ < 5) (tl : Bool) (ad : Nat → Nat)  (σ : Mem)  (post : Int → Mem → Prop) (hw : w_X3_firstStuck κ σ  post) : CM l yX3_firstStuck (Cond.code yX3_firstStuck cX3_firstStuck 3 (some .int)) ({ frames := 5, cells := 0, slots := 0, locals := 127 } : Room) G (shW κ tl) ad σ [.ref (ad 14), .ref (ad 1)] post := by
  refine s_all (y := yX3_firstStuck) (code := cX3_firstStuck) (maxL := 3) (ret := (some .int)) (rm := ({ frames := 5, cells := 0, slots := 0, locals := 127 } : Room)) (av := [.ref (ad 14), .ref (ad 1)]) (Qc := fun sz => QM G (shW κ tl) ad post (sz)) (by decide) (Nat.le_of_ble_eq_true rfl) ?_
  intro p e s m below meth c S hr hlk _ hK hE hW ls hl
  obtain ⟨hx, hb, hml, hown, hts⟩ := id S
  replace hl : lv_has ls 3 [(0, .ref (ad 14)), (1, .ref (ad 1))] := hl
  have hL2 : ∀  (n : Nat) (v2_2 : Int) (σ_2 : Mem) (H : Heap) (locs : List Loc) (ls : Array Slot), w_X3_firstStuck_L2 κ post n v2_2 σ_2 → Wd G (shW κ tl) ad σ_2 (Aw ad (shW κ tl).length s.heap.size) s.heap H locs → lv_has ls 3 [(0, .ref (ad 14)), (1, .ref (ad 1)), (2, .int (iN v2_2))] → W p l e ({ frames := 5, cells := 0, slots := 0, locals := 127 } : Room) s m ([.ref (ad 14), .ref (ad 1)] : List Value).toArray below meth c H locs 0 0 (MQ below (QM G (shW κ tl) ad post (s.heap.size)) ([.ref (ad 14), .ref (ad 1)] : List Value).toArray s 0 0 (Aw ad (shW κ tl).length s.heap.size)) (F0 m 2 ls []) := by
    intro  n
    induction n with
    | zero =>
      intro v2_2 σ_2 H locs ls hw
      exact hw.elim
    | succ n2 ih2 =>
      intro v2_2 σ_2 H locs ls hw hW hl
      replace hw : w_X3_firstStuck_L2_body κ post (w_X3_firstStuck_L2 κ post n2) v2_2 σ_2 := hw
      unfold w_X3_firstStuck_L2_body at hw
      refine lv_iload_n hx hb dX3_firstStuck_2 rfl (lv_at hl 2 rfl) ?_
      refine lv_aload_n hx hb dX3_firstStuck_3 rfl (lv_at hl 1 rfl) ?_
      refine g_getr hx hb hts hown hK hW 1 rfl (q := 2) (hcP hκ) (uwP hκ) 0 (by decide) rfl al_88 (fun _ h9 => h9) dX3_firstStuck_4 ?_
      refine g_getN hx hb hts hown hK hE hW 2 rfl rfl uw_X1 7 (by decide) rfl 3 rfl (fun _ h9 => h9) dX3_firstStuck_7 ?_
      refine n_icmp_ge hx hb hw.1 hw.2.1 hw.2.2.1 hw.2.2.2 (tgt := 30) dX3_firstStuck_10 (by decide) (fun hw => ?_) (fun hw => ?_)
      · refine n_bipush hx hb dX3_firstStuck_30 (by decide) ?_
        exact r_CM hx hb hr hlk hK hW hw dX3_firstStuck_32
      · refine lv_aload_n hx hb dX3_firstStuck_13 rfl (lv_at hl 0 rfl) ?_
        refine lv_aload_n hx hb dX3_firstStuck_14 rfl (lv_at hl 1 rfl) ?_
        refine lv_iload_n hx hb dX3_firstStuck_15 rfl (lv_at hl 2 rfl) ?_
        refine fin_CM hW (run_V (k := 14) (As := [.ref (ad 1), .int (iN v2_2)]) (rest := []) S hK hE hW (c_X3_isReached l G κ hκ tl ad σ_2 v2_2 _ hw H.size) rfl rfl al_570 al_572 sl_X3_isReached al_10 al_573 hd_X3_isReached rfl rfl ⟨Nat.le_of_ble_eq_true rfl, Nat.le_of_ble_eq_true rfl⟩ rfl hl.1 rfl (Nat.le_of_ble_eq_true rfl) dX3_firstStuck_16 ⟨Nat.zero_le _, Nat.zero_le _⟩) ?_
        intro r3 σ4 H locs hw hW; dsimp only at hw
        refine n_if_ne hx hb hw.1 hw.2.1 hw.2.2 (tgt := 24) dX3_firstStuck_19 (by decide) (fun hw => ?_) (fun hw => ?_)
        · refine lv_iinc (v := iN (v2_2 + 1)) (lv' := [(2, .int (iN (v2_2 + 1))), (0, .ref (ad 14)), (1, .ref (ad 1))]) hx hb dX3_firstStuck_24 hl (k := 2) rfl (iN_add _ _) (by decide) rfl (fun ls hl => ?_)
          refine lv_goto (tgt := 2) hx hb dX3_firstStuck_27 (by decide) ?_
          exact ih2 (v2_2 + 1) σ4 H locs ls hw hW (lv_sub hl [1, 2, 0] rfl)
        · refine lv_iload_n hx hb dX3_firstStuck_22 rfl (lv_at hl 2 rfl) ?_
          exact r_CM hx hb hr hlk hK hW hw dX3_firstStuck_23
  unfold w_X3_firstStuck at hw
  refine n_iconst hx hb dX3_firstStuck_0 ?_
  refine lv_istore_n (lv' := [(2, .int (iN 0)), (0, .ref (ad 14)), (1, .ref (ad 1))]) hx hb dX3_firstStuck_1 rfl hl (by decide) rfl (fun ls hl => ?_)
  obtain ⟨n, hw⟩ := hw
  exact hL2 n 0 σ s.heap [] ls hw hW (lv_sub hl [1, 2, 0] rfl)
set_option maxHeartbeats 4000000 in
set_option maxRecDepth 100000 in
theorem c_X3_cheapestOnward (l : Launch) (G : Gt) (κ : Nat) (hκ : κ < 5) (tl : Bool) (ad : Nat → Nat)  (σ : Mem) (v2 : Int) (v3 : Int) (v4 : Int) (post : Int → Prop) (hw : w_X3_cheapestOnward κ σ v2 v3 v4 post) : CI l yX3_cheapestOnward (Cond.code yX3_cheapestOnward cX3_cheapestOnward 8 (some .int)) ({ frames := 3, cells := 0, slots := 0, locals := 76 } : Room) G (shW κ tl) ad σ [.ref (ad 14), .ref (ad 1), .int (iN v2), .int (iN v3), .int (iN v4)] post := by
  refine s_all (y := yX3_cheapestOnward) (code := cX3_cheapestOnward) (maxL := 8) (ret := (some .int)) (rm := ({ frames := 3, cells := 0, slots := 0, locals := 76 } : Room)) (av := [.ref (ad 14), .ref (ad 1), .int (iN v2), .int (iN v3), .int (iN v4)]) (Qc := fun sz => QI G (shW κ tl) ad σ post (sz)) (by decide) (Nat.le_of_ble_eq_true rfl) ?_
  intro p e s m below meth c S hr hlk _ hK hE hW ls hl
  obtain ⟨hx, hb, hml, hown, hts⟩ := id S
  replace hl : lv_has ls 8 [(0, .ref (ad 14)), (1, .ref (ad 1)), (2, .int (iN v2)), (3, .int (iN v3)), (4, .int (iN v4))] := hl
  have hL7 : ∀ (v2_7 : Int) (v3_7 : Int) (v4_7 : Int) (n : Nat) (v5_7 : Int) (v6_7 : Int) (H : Heap) (locs : List Loc) (ls : Array Slot), w_X3_cheapestOnward_L7 κ σ v2_7 v3_7 v4_7 post n v5_7 v6_7 → Wd G (shW κ tl) ad σ (Aw ad (shW κ tl).length s.heap.size) s.heap H locs → lv_has ls 8 [(0, .ref (ad 14)), (1, .ref (ad 1)), (2, .int (iN v2_7)), (3, .int (iN v3_7)), (4, .int (iN v4_7)), (5, .int (iN v5_7)), (6, .int (iN v6_7))] → W p l e ({ frames := 3, cells := 0, slots := 0, locals := 76 } : Room) s m ([.ref (ad 14), .ref (ad 1), .int (iN v2), .int (iN v3), .int (iN v4)] : List Value).toArray below meth c H locs 0 0 (MQ below (QI G (shW κ tl) ad σ post (s.heap.size)) ([.ref (ad 14), .ref (ad 1), .int (iN v2), .int (iN v3), .int (iN v4)] : List Value).toArray s 0 0 (Aw ad (shW κ tl).length s.heap.size)) (F0 m 7 ls []) := by
    intro v2_7 v3_7 v4_7 n
    induction n with
    | zero =>
      intro v5_7 v6_7 H locs ls hw
      exact hw.elim
    | succ n7 ih7 =>
      intro v5_7 v6_7 H locs ls hw hW hl
      replace hw : w_X3_cheapestOnward_L7_body κ σ v2_7 v3_7 v4_7 post (w_X3_cheapestOnward_L7 κ σ v2_7 v3_7 v4_7 post n7) v5_7 v6_7 := hw
      have hB55 : ∀  (v5_55 : Int) (v6_55 : Int) (H : Heap) (locs : List Loc) (ls : Array Slot), w_X3_cheapestOnward_B55 κ σ v2_7 v3_7 v4_7 v5_55 v6_55 post (w_X3_cheapestOnward_L7 κ σ v2_7 v3_7 v4_7 post n7) → Wd G (shW κ tl) ad σ (Aw ad (shW κ tl).length s.heap.size) s.heap H locs → lv_has ls 8 [(0, .ref (ad 14)), (1, .ref (ad 1)), (2, .int (iN v2_7)), (3, .int (iN v3_7)), (4, .int (iN v4_7)), (5, .int (iN v5_55)), (6, .int (iN v6_55))] → W p l e ({ frames := 3, cells := 0, slots := 0, locals := 76 } : Room) s m ([.ref (ad 14), .ref (ad 1), .int (iN v2), .int (iN v3), .int (iN v4)] : List Value).toArray below meth c H locs 0 0 (MQ below (QI G (shW κ tl) ad σ post (s.heap.size)) ([.ref (ad 14), .ref (ad 1), .int (iN v2), .int (iN v3), .int (iN v4)] : List Value).toArray s 0 0 (Aw ad (shW κ tl).length s.heap.size)) (F0 m 55 ls []) := by
        intro v5_55 v6_55 H locs ls hw hW hl
        unfold w_X3_cheapestOnward_B55 at hw
        refine lv_iinc (v := iN (v6_55 + 1)) (lv' := [(6, .int (iN (v6_55 + 1))), (0, .ref (ad 14)), (1, .ref (ad 1)), (2, .int (iN v2_7)), (3, .int (iN v3_7)), (4, .int (iN v4_7)), (5, .int (iN v5_55))]) hx hb dX3_cheapestOnward_55 hl (k := 6) rfl (iN_add _ _) (by decide) rfl (fun ls hl => ?_)
        refine lv_goto (tgt := 7) hx hb dX3_cheapestOnward_58 (by decide) ?_
        exact ih7 v5_55 (v6_55 + 1) H locs ls hw hW (lv_sub hl [1, 2, 3, 4, 5, 6, 0] rfl)
      unfold w_X3_cheapestOnward_L7_body at hw
      refine lv_iload hx hb dX3_cheapestOnward_7 (lv_at hl 6 rfl) ?_
      refine lv_aload_n hx hb dX3_cheapestOnward_9 rfl (lv_at hl 1 rfl) ?_
      refine lv_iload hx hb dX3_cheapestOnward_10 (lv_at hl 4 rfl) ?_
      refine fin_CI hW (run_U (k := 1) (As := [.int (iN v4_7)]) (rest := [.int (iN v6_7)]) S hK hE hW (c_X2_countOf l G κ hκ tl ad σ v4_7 _ hw H.size) rfl (hcP hκ) al_579 al_427 (se_X2_X2_countOf hκ) al_426 al_3 al_433 rfl hd_X2_countOf.2 rfl rfl ⟨Nat.le_of_ble_eq_true rfl, Nat.le_of_ble_eq_true rfl⟩ rfl hl.1 rfl (Nat.le_of_ble_eq_true rfl) dX3_cheapestOnward_12 ⟨Nat.zero_le _, Nat.zero_le _⟩) ?_
      intro r7 H locs hw hW
      refine n_icmp_ge hx hb hw.1 hw.2.1 hw.2.2.1 hw.2.2.2 (tgt := 61) dX3_cheapestOnward_15 (by decide) (fun hw => ?_) (fun hw => ?_)
      · refine lv_iload hx hb dX3_cheapestOnward_61 (lv_at hl 5 rfl) ?_
        exact r_CI hx hb hr hlk hK hW hw dX3_cheapestOnward_63
      · refine lv_aload_n hx hb dX3_cheapestOnward_18 rfl (lv_at hl 1 rfl) ?_
        refine lv_iload_n hx hb dX3_cheapestOnward_19 rfl (lv_at hl 2 rfl) ?_
        refine lv_iload_n hx hb dX3_cheapestOnward_20 rfl (lv_at hl 3 rfl) ?_
        refine lv_iload hx hb dX3_cheapestOnward_21 (lv_at hl 4 rfl) ?_
        refine lv_iload hx hb dX3_cheapestOnward_23 (lv_at hl 6 rfl) ?_
        refine fin_CI hW (run_X3_stepPrice (As := [.int (iN v2_7), .int (iN v3_7), .int (iN v4_7), .int (iN v6_7)]) (rest := []) hκ S hK hE hW hw rfl (Nat.le_of_ble_eq_true rfl) (Nat.le_of_ble_eq_true rfl) rfl hl.1 rfl (Nat.le_of_ble_eq_true rfl) dX3_cheapestOnward_25 ⟨Nat.zero_le _, Nat.zero_le _⟩) ?_
        intro r9 H locs hw hW
        refine lv_istore (lv' := [(7, .int (iN r9)), (0, .ref (ad 14)), (1, .ref (ad 1)), (2, .int (iN v2_7)), (3, .int (iN v3_7)), (4, .int (iN v4_7)), (5, .int (iN v5_7)), (6, .int (iN v6_7))]) hx hb dX3_cheapestOnward_28 hl (by decide) rfl (fun ls hl => ?_)
        refine lv_iload hx hb dX3_cheapestOnward_30 (lv_at hl 0 rfl) ?_
        refine n_bipush hx hb dX3_cheapestOnward_32 (by decide) ?_
        refine n_icmp_eq hx hb hw.1 (rg_c _ rfl) hw.2.1 hw.2.2 (tgt := 55) dX3_cheapestOnward_34 (by decide) (fun hw => ?_) (fun hw => ?_)
        · exact hB55 v5_7 v6_7 H locs ls hw hW (lv_sub hl [1, 2, 3, 4, 5, 6, 7] rfl)
        · refine lv_iload hx hb dX3_cheapestOnward_37 (lv_at hl 6 rfl) ?_
          refine lv_iload hx hb dX3_cheapestOnward_39 (lv_at hl 0 rfl) ?_
          refine lv_aload_n hx hb dX3_cheapestOnward_41 rfl (lv_at hl 1 rfl) ?_
          refine lv_iload hx hb dX3_cheapestOnward_42 (lv_at hl 5 rfl) ?_
          refine lv_iload hx hb dX3_cheapestOnward_44 (lv_at hl 7 rfl) ?_
          refine fin_CI hW (run_V (k := 14) (As := [.int (iN v4_7), .int (iN v6_7)]) (rest := [.int (iN r9), .int (iN v5_7)]) S hK hE hW (c_X3_painsOf l G κ hκ tl ad σ v4_7 v6_7 _ hw H.size) rfl rfl al_589 al_591 sl_X3_painsOf al_10 al_592 hd_X3_painsOf rfl rfl ⟨Nat.le_of_ble_eq_true rfl, Nat.le_of_ble_eq_true rfl⟩ rfl hl.1 rfl (Nat.le_of_ble_eq_true rfl) dX3_cheapestOnward_46 ⟨Nat.zero_le _, Nat.zero_le _⟩) ?_
          intro r11 H locs hw hW
          refine n_iadd hx hb dX3_cheapestOnward_49 ?_
          refine n_mmin hx hb (hml.trans hl.1.symm) hown (hts _ (List.mem_cons_of_mem _ al_608)) (hts _ (List.mem_cons_of_mem _ al_24)) (hts _ (List.mem_cons_of_mem _ al_2)) (hts _ (List.mem_cons_of_mem _ al_25)) (Nat.le_of_ble_eq_true rfl) (Nat.le_of_ble_eq_true rfl) (Nat.zero_le _) (Nat.zero_le _) hw.1 hw.2.1 dX3_cheapestOnward_50 ?_
          replace hw := hw.2.2
          refine lv_istore (lv' := [(5, .int (iN (min v5_7 (r9 + r11)))), (7, .int (iN r9)), (0, .ref (ad 14)), (1, .ref (ad 1)), (2, .int (iN v2_7)), (3, .int (iN v3_7)), (4, .int (iN v4_7)), (6, .int (iN v6_7))]) hx hb dX3_cheapestOnward_53 hl (by decide) rfl (fun ls hl => ?_)
          exact hB55 (min v5_7 (r9 + r11)) v6_7 H locs ls hw hW (lv_sub hl [2, 3, 4, 5, 6, 0, 7] rfl)
  unfold w_X3_cheapestOnward at hw
  refine n_ldc (n := 1000000000) hx hb hown (hts _ (List.mem_cons_of_mem _ al_593)) (by decide) dX3_cheapestOnward_0 ?_
  refine lv_istore (lv' := [(5, .int (iN 1000000000)), (0, .ref (ad 14)), (1, .ref (ad 1)), (2, .int (iN v2)), (3, .int (iN v3)), (4, .int (iN v4))]) hx hb dX3_cheapestOnward_2 hl (by decide) rfl (fun ls hl => ?_)
  refine n_iconst hx hb dX3_cheapestOnward_4 ?_
  refine lv_istore (lv' := [(6, .int (iN 0)), (5, .int (iN 1000000000)), (0, .ref (ad 14)), (1, .ref (ad 1)), (2, .int (iN v2)), (3, .int (iN v3)), (4, .int (iN v4))]) hx hb dX3_cheapestOnward_5 hl (by decide) rfl (fun ls hl => ?_)
  obtain ⟨n, hw⟩ := hw
  exact hL7 v2 v3 v4 n 1000000000 0 s.heap [] ls hw hW (lv_sub hl [2, 3, 4, 5, 6, 1, 0] rfl)
set_option maxHeartbeats 4000000 in
set_option maxRecDepth 100000 in
theorem c_X3_weighRests (l : Launch) (G : Gt) (κ : Nat) (hκ : κ < 5) (tl : Bool) (ad : Nat → Nat)  (σ : Mem)  (post : Mem → Prop) (hw : w_X3_weighRests κ σ  post) : CV l yX3_weighRests (Cond.code yX3_weighRests cX3_weighRests 6 none) ({ frames := 4, cells := 0, slots := 0, locals := 103 } : Room) G (shW κ tl) ad σ [.ref (ad 14), .ref (ad 1)] post := by
  refine s_all (y := yX3_weighRests) (code := cX3_weighRests) (maxL := 6) (ret := none) (rm := ({ frames := 4, cells := 0, slots := 0, locals := 103 } : Room)) (av := [.ref (ad 14), .ref (ad 1)]) (Qc := fun sz => QV G (shW κ tl) ad post (sz)) (by decide) (Nat.le_of_ble_eq_true rfl) ?_
  intro p e s m below meth c S hr hlk _ hK hE hW ls hl
  obtain ⟨hx, hb, hml, hown, hts⟩ := id S
  replace hl : lv_has ls 6 [(0, .ref (ad 14)), (1, .ref (ad 1))] := hl
  have hL10 : ∀  (n : Nat) (v2_10 : Int) (σ_10 : Mem) (H : Heap) (locs : List Loc) (ls : Array Slot), w_X3_weighRests_L10 κ post n v2_10 σ_10 → Wd G (shW κ tl) ad σ_10 (Aw ad (shW κ tl).length s.heap.size) s.heap H locs → lv_has ls 6 [(0, .ref (ad 14)), (1, .ref (ad 1)), (2, .int (iN v2_10))] → W p l e ({ frames := 4, cells := 0, slots := 0, locals := 103 } : Room) s m ([.ref (ad 14), .ref (ad 1)] : List Value).toArray below meth c H locs 0 0 (MQ below (QV G (shW κ tl) ad post (s.heap.size)) ([.ref (ad 14), .ref (ad 1)] : List Value).toArray s 0 0 (Aw ad (shW κ tl).length s.heap.size)) (F0 m 10 ls []) := by
    intro  n
    induction n with
    | zero =>
      intro v2_10 σ_10 H locs ls hw
      exact hw.elim
    | succ n10 ih10 =>
      intro v2_10 σ_10 H locs ls hw hW hl
      replace hw : w_X3_weighRests_L10_body κ post (w_X3_weighRests_L10 κ post n10) v2_10 σ_10 := hw
      have hL26 : ∀ (v2_26 : Int) (v3_26 : Int) (n : Nat) (v4_26 : Int) (σ_26 : Mem) (H : Heap) (locs : List Loc) (ls : Array Slot), w_X3_weighRests_L26 κ v2_26 v3_26 post (w_X3_weighRests_L10 κ post n10) n v4_26 σ_26 → Wd G (shW κ tl) ad σ_26 (Aw ad (shW κ tl).length s.heap.size) s.heap H locs → lv_has ls 6 [(0, .ref (ad 14)), (1, .ref (ad 1)), (2, .int (iN v2_26)), (3, .int (iN v3_26)), (4, .int (iN v4_26))] → W p l e ({ frames := 4, cells := 0, slots := 0, locals := 103 } : Room) s m ([.ref (ad 14), .ref (ad 1)] : List Value).toArray below meth c H locs 0 0 (MQ below (QV G (shW κ tl) ad post (s.heap.size)) ([.ref (ad 14), .ref (ad 1)] : List Value).toArray s 0 0 (Aw ad (shW κ tl).length s.heap.size)) (F0 m 26 ls []) := by
        intro v2_26 v3_26 n
        induction n with
        | zero =>
          intro v4_26 σ_26 H locs ls hw
          exact hw.elim
        | succ n26 ih26 =>
          intro v4_26 σ_26 H locs ls hw hW hl
          replace hw : w_X3_weighRests_L26_body κ v2_26 v3_26 post (w_X3_weighRests_L10 κ post n10) (w_X3_weighRests_L26 κ v2_26 v3_26 post (w_X3_weighRests_L10 κ post n10) n26) v4_26 σ_26 := hw
          have hB72 : ∀ (σ_72 : Mem) (v4_72 : Int) (v5_72 : Int) (H : Heap) (locs : List Loc) (ls : Array Slot), w_X3_weighRests_B72 κ σ_72 v2_26 v3_26 v4_72 v5_72 post (w_X3_weighRests_L10 κ post n10) (w_X3_weighRests_L26 κ v2_26 v3_26 post (w_X3_weighRests_L10 κ post n10) n26) → Wd G (shW κ tl) ad σ_72 (Aw ad (shW κ tl).length s.heap.size) s.heap H locs → lv_has ls 6 [(0, .ref (ad 14)), (1, .ref (ad 1)), (2, .int (iN v2_26)), (3, .int (iN v3_26)), (4, .int (iN v4_72)), (5, .int (iN v5_72))] → W p l e ({ frames := 4, cells := 0, slots := 0, locals := 103 } : Room) s m ([.ref (ad 14), .ref (ad 1)] : List Value).toArray below meth c H locs 0 0 (MQ below (QV G (shW κ tl) ad post (s.heap.size)) ([.ref (ad 14), .ref (ad 1)] : List Value).toArray s 0 0 (Aw ad (shW κ tl).length s.heap.size)) (F0 m 72 ls []) := by
            intro σ_72 v4_72 v5_72 H locs ls hw hW hl
            unfold w_X3_weighRests_B72 at hw
            refine lv_aload_n hx hb dX3_weighRests_72 rfl (lv_at hl 0 rfl) ?_
            refine lv_iload_n hx hb dX3_weighRests_73 rfl (lv_at hl 2 rfl) ?_
            refine lv_iload hx hb dX3_weighRests_74 (lv_at hl 4 rfl) ?_
            refine n_ldc (n := 1000000000) hx hb hown (hts _ (List.mem_cons_of_mem _ al_593)) (by decide) dX3_weighRests_76 ?_
            refine lv_iload hx hb dX3_weighRests_78 (lv_at hl 5 rfl) ?_
            refine lv_aload_n hx hb dX3_weighRests_80 rfl (lv_at hl 1 rfl) ?_
            refine lv_iload_n hx hb dX3_weighRests_81 rfl (lv_at hl 2 rfl) ?_
            refine lv_iload hx hb dX3_weighRests_82 (lv_at hl 4 rfl) ?_
            refine fin_CI hW (run_U (k := 1) (As := [.int (iN v2_26), .int (iN v4_72)]) (rest := [.int (iN v5_72), .int (iN 1000000000), .int (iN v4_72), .int (iN v2_26), .ref (ad 14)]) S hK hE hW (c_X2_priceOf l G κ hκ tl ad σ_72 v2_26 v4_72 _ hw H.size) rfl (hcP hκ) al_609 al_444 (se_X2_X2_priceOf hκ) al_443 al_3 al_450 rfl hd_X2_priceOf.2 rfl rfl ⟨Nat.le_of_ble_eq_true rfl, Nat.le_of_ble_eq_true rfl⟩ rfl hl.1 rfl (Nat.le_of_ble_eq_true rfl) dX3_weighRests_84 ⟨Nat.zero_le _, Nat.zero_le _⟩) ?_
            intro r13 H locs hw hW
            refine n_iadd hx hb dX3_weighRests_87 ?_
            refine n_mmin hx hb (hml.trans hl.1.symm) hown (hts _ (List.mem_cons_of_mem _ al_608)) (hts _ (List.mem_cons_of_mem _ al_24)) (hts _ (List.mem_cons_of_mem _ al_2)) (hts _ (List.mem_cons_of_mem _ al_25)) (Nat.le_of_ble_eq_true rfl) (Nat.le_of_ble_eq_true rfl) (Nat.zero_le _) (Nat.zero_le _) (rg_c _ rfl) hw.1 dX3_weighRests_88 ?_
            replace hw := hw.2
            refine fin_CV hW (run_V (k := 14) (As := [.int (iN v2_26), .int (iN v4_72), .int (iN (min 1000000000 (v5_72 + r13)))]) (rest := []) S hK hE hW (c_X3_setPains l G κ hκ tl ad σ_72 v2_26 v4_72 (min 1000000000 (v5_72 + r13)) _ hw H.size) rfl rfl al_595 al_597 sl_X3_setPains al_10 al_598 hd_X3_setPains rfl rfl ⟨Nat.le_of_ble_eq_true rfl, Nat.le_of_ble_eq_true rfl⟩ rfl hl.1 rfl (Nat.le_of_ble_eq_true rfl) dX3_weighRests_91 ⟨Nat.zero_le _, Nat.zero_le _⟩) ?_
            intro σ16 H locs hw hW
            refine lv_iinc (v := iN (v4_72 + 1)) (lv' := [(4, .int (iN (v4_72 + 1))), (0, .ref (ad 14)), (1, .ref (ad 1)), (2, .int (iN v2_26)), (3, .int (iN v3_26)), (5, .int (iN v5_72))]) hx hb dX3_weighRests_94 hl (k := 4) rfl (iN_add _ _) (by decide) rfl (fun ls hl => ?_)
            refine lv_goto (tgt := 26) hx hb dX3_weighRests_97 (by decide) ?_
            exact ih26 (v4_72 + 1) σ16 H locs ls hw hW (lv_sub hl [1, 2, 3, 4, 0] rfl)
          have hB70 : ∀ (σ_70 : Mem) (v4_70 : Int) (s0_70 : Int) (H : Heap) (locs : List Loc) (ls : Array Slot), w_X3_weighRests_B70 κ σ_70 v2_26 v3_26 v4_70 s0_70 post (w_X3_weighRests_L10 κ post n10) (w_X3_weighRests_L26 κ v2_26 v3_26 post (w_X3_weighRests_L10 κ post n10) n26) → Wd G (shW κ tl) ad σ_70 (Aw ad (shW κ tl).length s.heap.size) s.heap H locs → lv_has ls 6 [(0, .ref (ad 14)), (1, .ref (ad 1)), (2, .int (iN v2_26)), (3, .int (iN v3_26)), (4, .int (iN v4_70))] → W p l e ({ frames := 4, cells := 0, slots := 0, locals := 103 } : Room) s m ([.ref (ad 14), .ref (ad 1)] : List Value).toArray below meth c H locs 0 0 (MQ below (QV G (shW κ tl) ad post (s.heap.size)) ([.ref (ad 14), .ref (ad 1)] : List Value).toArray s 0 0 (Aw ad (shW κ tl).length s.heap.size)) (F0 m 70 ls [.int (iN s0_70)]) := by
            intro σ_70 v4_70 s0_70 H locs ls hw hW hl
            unfold w_X3_weighRests_B70 at hw
            refine lv_istore (lv' := [(5, .int (iN s0_70)), (0, .ref (ad 14)), (1, .ref (ad 1)), (2, .int (iN v2_26)), (3, .int (iN v3_26)), (4, .int (iN v4_70))]) hx hb dX3_weighRests_70 hl (by decide) rfl (fun ls hl => ?_)
            exact hB72 σ_70 v4_70 s0_70 H locs ls hw hW (lv_sub hl [1, 2, 3, 4, 5, 0] rfl)
          unfold w_X3_weighRests_L26_body at hw
          refine lv_iload hx hb dX3_weighRests_26 (lv_at hl 4 rfl) ?_
          refine lv_aload_n hx hb dX3_weighRests_28 rfl (lv_at hl 1 rfl) ?_
          refine lv_iload_n hx hb dX3_weighRests_29 rfl (lv_at hl 2 rfl) ?_
          refine fin_CI hW (run_U (k := 1) (As := [.int (iN v2_26)]) (rest := [.int (iN v4_26)]) S hK hE hW (c_X2_countOf l G κ hκ tl ad σ_26 v2_26 _ hw H.size) rfl (hcP hκ) al_579 al_427 (se_X2_X2_countOf hκ) al_426 al_3 al_433 rfl hd_X2_countOf.2 rfl rfl ⟨Nat.le_of_ble_eq_true rfl, Nat.le_of_ble_eq_true rfl⟩ rfl hl.1 rfl (Nat.le_of_ble_eq_true rfl) dX3_weighRests_30 ⟨Nat.zero_le _, Nat.zero_le _⟩) ?_
          intro r17 H locs hw hW
          refine n_icmp_ge hx hb hw.1 hw.2.1 hw.2.2.1 hw.2.2.2 (tgt := 100) dX3_weighRests_33 (by decide) (fun hw => ?_) (fun hw => ?_)
          · refine lv_iinc (v := iN (v2_26 + (-1))) (lv' := [(2, .int (iN (v2_26 + (-1)))), (0, .ref (ad 14)), (1, .ref (ad 1)), (3, .int (iN v3_26)), (4, .int (iN v4_26))]) hx hb dX3_weighRests_100 hl (k := 2) rfl (iN_add _ _) (by decide) rfl (fun ls hl => ?_)
            refine lv_goto (tgt := 10) hx hb dX3_weighRests_103 (by decide) ?_
            exact ih10 (v2_26 + (-1)) σ_26 H locs ls hw hW (lv_sub hl [1, 2, 0] rfl)
          · refine n_ldc (n := 1000000000) hx hb hown (hts _ (List.mem_cons_of_mem _ al_593)) (by decide) dX3_weighRests_36 ?_
            refine lv_istore (lv' := [(5, .int (iN 1000000000)), (0, .ref (ad 14)), (1, .ref (ad 1)), (2, .int (iN v2_26)), (3, .int (iN v3_26)), (4, .int (iN v4_26))]) hx hb dX3_weighRests_38 hl (by decide) rfl (fun ls hl => ?_)
            refine lv_aload_n hx hb dX3_weighRests_40 rfl (lv_at hl 2 rfl) ?_
            refine g_getr hx hb hts hown hK hW 1 rfl (q := 2) (hcP hκ) (uwP hκ) 0 (by decide) rfl al_88 (fun _ h9 => h9) dX3_weighRests_41 ?_
            refine lv_iload_n hx hb dX3_weighRests_44 rfl (lv_at hl 3 rfl) ?_
            refine lv_iload hx hb dX3_weighRests_45 (lv_at hl 5 rfl) ?_
            refine fin_CI hW (run_VN (k := 2) (As := [.int (iN v2_26), .int (iN v4_26)]) (rest := []) 32 S hK hE hW (c_X1_allows l G κ tl ad σ_26 v2_26 v4_26 _ hw H.size) rfl rfl rfl al_582 sl_X1_allows al_5 al_583 hd_X1_allows.2 rfl rfl ⟨Nat.le_of_ble_eq_true rfl, Nat.le_of_ble_eq_true rfl⟩ rfl hl.1 rfl (Nat.le_of_ble_eq_true rfl) dX3_weighRests_47 ⟨Nat.zero_le _, Nat.zero_le _⟩) ?_
            intro r19 H locs hw hW
            refine n_if_eq hx hb hw.1 hw.2.1 hw.2.2 (tgt := 72) dX3_weighRests_50 (by decide) (fun hw => ?_) (fun hw => ?_)
            · exact hB72 σ_26 v4_26 1000000000 H locs ls hw hW (lv_sub hl [1, 2, 3, 4, 5, 0] rfl)
            · refine lv_iload_n hx hb dX3_weighRests_53 rfl (lv_at hl 4 rfl) ?_
              refine n_if_ge hx hb hw.1 hw.2.1 hw.2.2 (tgt := 61) dX3_weighRests_54 (by decide) (fun hw => ?_) (fun hw => ?_)
              · refine lv_aload_n hx hb dX3_weighRests_61 rfl (lv_at hl 1 rfl) ?_
                refine lv_aload_n hx hb dX3_weighRests_62 rfl (lv_at hl 2 rfl) ?_
                refine lv_iload_n hx hb dX3_weighRests_63 rfl (lv_at hl 3 rfl) ?_
                refine lv_iload hx hb dX3_weighRests_64 (lv_at hl 5 rfl) ?_
                refine lv_iload_n hx hb dX3_weighRests_66 rfl (lv_at hl 4 rfl) ?_
                refine fin_CI hW (run_V (k := 14) (As := [.ref (ad 1), .int (iN v2_26), .int (iN v4_26), .int (iN v3_26)]) (rest := []) S hK hE hW (c_X3_cheapestOnward l G κ hκ tl ad σ_26 v2_26 v4_26 v3_26 _ hw H.size) rfl rfl al_604 al_606 sl_X3_cheapestOnward al_10 al_607 hd_X3_cheapestOnward rfl rfl ⟨Nat.le_of_ble_eq_true rfl, Nat.le_of_ble_eq_true rfl⟩ rfl hl.1 rfl (Nat.le_of_ble_eq_true rfl) dX3_weighRests_67 ⟨Nat.zero_le _, Nat.zero_le _⟩) ?_
                intro r21 H locs hw hW
                exact hB70 σ_26 v4_26 r21 H locs ls hw hW (lv_sub hl [1, 2, 3, 4, 5] rfl)
              · refine n_iconst hx hb dX3_weighRests_57 ?_
                refine lv_goto (tgt := 70) hx hb dX3_weighRests_58 (by decide) ?_
                exact hB70 σ_26 v4_26 0 H locs ls hw hW (lv_sub hl [1, 2, 3, 4, 5] rfl)
      unfold w_X3_weighRests_L10_body at hw
      refine lv_iload_n hx hb dX3_weighRests_10 rfl (lv_at hl 2 rfl) ?_
      refine n_if_lt hx hb hw.1 hw.2.1 hw.2.2 (tgt := 106) dX3_weighRests_11 (by decide) (fun hw => ?_) (fun hw => ?_)
      · exact r_CV hx hb hr hlk hK hW hw dX3_weighRests_106
      · refine lv_aload_n hx hb dX3_weighRests_14 rfl (lv_at hl 1 rfl) ?_
        refine g_getr hx hb hts hown hK hW 1 rfl (q := 2) (hcP hκ) (uwP hκ) 0 (by decide) rfl al_88 (fun _ h9 => h9) dX3_weighRests_15 ?_
        refine lv_iload_n hx hb dX3_weighRests_18 rfl (lv_at hl 2 rfl) ?_
        refine fin_CI hW (run_VN (k := 2) (As := [.int (iN v2_10)]) (rest := []) 33 S hK hE hW (c_X1_after l G κ tl ad σ_10 v2_10 _ hw H.size) rfl rfl rfl al_475 sl_X1_after al_5 al_476 hd_X1_after.2 rfl rfl ⟨Nat.le_of_ble_eq_true rfl, Nat.le_of_ble_eq_true rfl⟩ rfl hl.1 rfl (Nat.le_of_ble_eq_true rfl) dX3_weighRests_19 ⟨Nat.zero_le _, Nat.zero_le _⟩) ?_
        intro r23 H locs hw hW
        refine lv_istore_n (lv' := [(3, .int (iN r23)), (0, .ref (ad 14)), (1, .ref (ad 1)), (2, .int (iN v2_10))]) hx hb dX3_weighRests_22 rfl hl (by decide) rfl (fun ls hl => ?_)
        refine n_iconst hx hb dX3_weighRests_23 ?_
        refine lv_istore (lv' := [(4, .int (iN 0)), (3, .int (iN r23)), (0, .ref (ad 14)), (1, .ref (ad 1)), (2, .int (iN v2_10))]) hx hb dX3_weighRests_24 hl (by decide) rfl (fun ls hl => ?_)
        obtain ⟨n, hw⟩ := hw
        exact hL26 v2_10 r23 n 0 σ_10 H locs ls hw hW (lv_sub hl [2, 3, 4, 1, 0] rfl)
  unfold w_X3_weighRests at hw
  refine lv_aload_n hx hb dX3_weighRests_0 rfl (lv_at hl 1 rfl) ?_
  refine g_getr hx hb hts hown hK hW 1 rfl (q := 2) (hcP hκ) (uwP hκ) 0 (by decide) rfl al_88 (fun _ h9 => h9) dX3_weighRests_1 ?_
  refine g_getN hx hb hts hown hK hE hW 2 rfl rfl uw_X1 7 (by decide) rfl 3 rfl (fun _ h9 => h9) dX3_weighRests_4 ?_
  refine n_iconst hx hb dX3_weighRests_7 ?_
  refine n_isub hx hb dX3_weighRests_8 ?_
  refine lv_istore_n (lv' := [(2, .int (iN ((σ 2 7) - 1))), (0, .ref (ad 14)), (1, .ref (ad 1))]) hx hb dX3_weighRests_9 rfl hl (by decide) rfl (fun ls hl => ?_)
  obtain ⟨n, hw⟩ := hw
  exact hL10 n ((σ 2 7) - 1) σ s.heap [] ls hw hW (lv_sub hl [1, 2, 0] rfl)
set_option maxHeartbeats 4000000 in
set_option maxRecDepth 100000 in
theorem c_X3_chosenOf (l : Launch) (G : Gt) (κ : Nat) (hκ : κ < 5) (tl : Bool) (ad : Nat → Nat)  (σ : Mem) (v1 : Int) (post : Int → Prop) (hw : w_X3_chosenOf κ σ v1 post) : CI l yX3_chosenOf (Cond.code yX3_chosenOf cX3_chosenOf 2 (some .int)) ({ frames := 0, cells := 0, slots := 0, locals := 0 } : Room) G (shW κ tl) ad σ [.ref (ad 14), .int (iN v1)] post := by
  refine s_all (y := yX3_chosenOf) (code := cX3_chosenOf) (maxL := 2) (ret := (some .int)) (rm := ({ frames := 0, cells := 0, slots := 0, locals := 0 } : Room)) (av := [.ref (ad 14), .int (iN v1)]) (Qc := fun sz => QI G (shW κ tl) ad σ post (sz)) (by decide) (Nat.le_of_ble_eq_true rfl) ?_
  intro p e s m below meth c S hr hlk _ hK hE hW ls hl
  obtain ⟨hx, hb, hml, hown, hts⟩ := id S
  replace hl : lv_has ls 2 [(0, .ref (ad 14)), (1, .int (iN v1))] := hl
  have hB21 : ∀  (s0_21 : Int) (H : Heap) (locs : List Loc) (ls : Array Slot), w_X3_chosenOf_B21 κ σ s0_21 post → Wd G (shW κ tl) ad σ (Aw ad (shW κ tl).length s.heap.size) s.heap H locs → lv_has ls 2 [] → W p l e ({ frames := 0, cells := 0, slots := 0, locals := 0 } : Room) s m ([.ref (ad 14), .int (iN v1)] : List Value).toArray below meth c H locs 0 0 (MQ below (QI G (shW κ tl) ad σ post (s.heap.size)) ([.ref (ad 14), .int (iN v1)] : List Value).toArray s 0 0 (Aw ad (shW κ tl).length s.heap.size)) (F0 m 21 ls [.int (iN s0_21)]) := by
    intro s0_21 H locs ls hw hW hl
    unfold w_X3_chosenOf_B21 at hw
    exact r_CI hx hb hr hlk hK hW hw dX3_chosenOf_21
  have hB19 : ∀   (H : Heap) (locs : List Loc) (ls : Array Slot), w_X3_chosenOf_B19 κ σ post → Wd G (shW κ tl) ad σ (Aw ad (shW κ tl).length s.heap.size) s.heap H locs → lv_has ls 2 [] → W p l e ({ frames := 0, cells := 0, slots := 0, locals := 0 } : Room) s m ([.ref (ad 14), .int (iN v1)] : List Value).toArray below meth c H locs 0 0 (MQ below (QI G (shW κ tl) ad σ post (s.heap.size)) ([.ref (ad 14), .int (iN v1)] : List Value).toArray s 0 0 (Aw ad (shW κ tl).length s.heap.size)) (F0 m 19 ls []) := by
    intro  H locs ls hw hW hl
    unfold w_X3_chosenOf_B19 at hw
    refine n_bipush hx hb dX3_chosenOf_19 (by decide) ?_
    exact hB21 (-2) H locs ls hw hW (lv_sub hl [] rfl)
  unfold w_X3_chosenOf at hw
  refine lv_iload_n hx hb dX3_chosenOf_0 rfl (lv_at hl 1 rfl) ?_
  refine n_if_lt hx hb hw.1 hw.2.1 hw.2.2 (tgt := 19) dX3_chosenOf_1 (by decide) (fun hw => ?_) (fun hw => ?_)
  · exact hB19  s.heap [] ls hw hW (lv_sub hl [] rfl)
  · refine lv_iload_n hx hb dX3_chosenOf_4 rfl (lv_at hl 1 rfl) ?_
    refine n_bipush hx hb dX3_chosenOf_5 (by decide) ?_
    refine n_icmp_ge hx hb hw.1 (rg_c _ rfl) hw.2.1 hw.2.2 (tgt := 19) dX3_chosenOf_7 (by decide) (fun hw => ?_) (fun hw => ?_)
    · exact hB19  s.heap [] ls hw hW (lv_sub hl [] rfl)
    · refine lv_aload_n hx hb dX3_chosenOf_10 rfl (lv_at hl 0 rfl) ?_
      refine g_getr hx hb hts hown hK hW 14 rfl (q := 15) rfl uw_X3 2 (by decide) rfl al_180 (fun _ h9 => h9) dX3_chosenOf_11 ?_
      refine lv_iload_n hx hb dX3_chosenOf_14 rfl (lv_at hl 1 rfl) ?_
      refine g_ald hx hb hK hW 15 rfl hw.1 dX3_chosenOf_15 ?_
      replace hw := hw.2
      refine lv_goto (tgt := 21) hx hb dX3_chosenOf_16 (by decide) ?_
      exact hB21 (σ 15 (v1).toNat) s.heap [] ls hw hW (lv_sub hl [] rfl)
set_option maxHeartbeats 4000000 in
set_option maxRecDepth 100000 in
theorem c_X3_bestState (l : Launch) (G : Gt) (κ : Nat) (hκ : κ < 5) (tl : Bool) (ad : Nat → Nat)  (σ : Mem) (v2 : Int) (v3 : Int) (post : Int → Prop) (hw : w_X3_bestState κ σ v2 v3 post) : CI l yX3_bestState (Cond.code yX3_bestState cX3_bestState 8 (some .int)) ({ frames := 3, cells := 0, slots := 0, locals := 76 } : Room) G (shW κ tl) ad σ [.ref (ad 14), .ref (ad 1), .int (iN v2), .int (iN v3)] post := by
  refine s_all (y := yX3_bestState) (code := cX3_bestState) (maxL := 8) (ret := (some .int)) (rm := ({ frames := 3, cells := 0, slots := 0, locals := 76 } : Room)) (av := [.ref (ad 14), .ref (ad 1), .int (iN v2), .int (iN v3)]) (Qc := fun sz => QI G (shW κ tl) ad σ post (sz)) (by decide) (Nat.le_of_ble_eq_true rfl) ?_
  intro p e s m below meth c S hr hlk _ hK hE hW ls hl
  obtain ⟨hx, hb, hml, hown, hts⟩ := id S
  replace hl : lv_has ls 8 [(0, .ref (ad 14)), (1, .ref (ad 1)), (2, .int (iN v2)), (3, .int (iN v3))] := hl
  have hL10 : ∀ (v2_10 : Int) (v3_10 : Int) (n : Nat) (v4_10 : Int) (v5_10 : Int) (v6_10 : Int) (H : Heap) (locs : List Loc) (ls : Array Slot), w_X3_bestState_L10 κ σ v2_10 v3_10 post n v4_10 v5_10 v6_10 → Wd G (shW κ tl) ad σ (Aw ad (shW κ tl).length s.heap.size) s.heap H locs → lv_has ls 8 [(0, .ref (ad 14)), (1, .ref (ad 1)), (2, .int (iN v2_10)), (3, .int (iN v3_10)), (4, .int (iN v4_10)), (5, .int (iN v5_10)), (6, .int (iN v6_10))] → W p l e ({ frames := 3, cells := 0, slots := 0, locals := 76 } : Room) s m ([.ref (ad 14), .ref (ad 1), .int (iN v2), .int (iN v3)] : List Value).toArray below meth c H locs 0 0 (MQ below (QI G (shW κ tl) ad σ post (s.heap.size)) ([.ref (ad 14), .ref (ad 1), .int (iN v2), .int (iN v3)] : List Value).toArray s 0 0 (Aw ad (shW κ tl).length s.heap.size)) (F0 m 10 ls []) := by
    intro v2_10 v3_10 n
    induction n with
    | zero =>
      intro v4_10 v5_10 v6_10 H locs ls hw
      exact hw.elim
    | succ n10 ih10 =>
      intro v4_10 v5_10 v6_10 H locs ls hw hW hl
      replace hw : w_X3_bestState_L10_body κ σ v2_10 v3_10 post (w_X3_bestState_L10 κ σ v2_10 v3_10 post n10) v4_10 v5_10 v6_10 := hw
      have hB81 : ∀  (v4_81 : Int) (v5_81 : Int) (v6_81 : Int) (H : Heap) (locs : List Loc) (ls : Array Slot), w_X3_bestState_B81 κ σ v2_10 v3_10 v4_81 v5_81 v6_81 post (w_X3_bestState_L10 κ σ v2_10 v3_10 post n10) → Wd G (shW κ tl) ad σ (Aw ad (shW κ tl).length s.heap.size) s.heap H locs → lv_has ls 8 [(0, .ref (ad 14)), (1, .ref (ad 1)), (2, .int (iN v2_10)), (3, .int (iN v3_10)), (4, .int (iN v4_81)), (5, .int (iN v5_81)), (6, .int (iN v6_81))] → W p l e ({ frames := 3, cells := 0, slots := 0, locals := 76 } : Room) s m ([.ref (ad 14), .ref (ad 1), .int (iN v2), .int (iN v3)] : List Value).toArray below meth c H locs 0 0 (MQ below (QI G (shW κ tl) ad σ post (s.heap.size)) ([.ref (ad 14), .ref (ad 1), .int (iN v2), .int (iN v3)] : List Value).toArray s 0 0 (Aw ad (shW κ tl).length s.heap.size)) (F0 m 81 ls []) := by
        intro v4_81 v5_81 v6_81 H locs ls hw hW hl
        unfold w_X3_bestState_B81 at hw
        refine lv_iinc (v := iN (v6_81 + 1)) (lv' := [(6, .int (iN (v6_81 + 1))), (0, .ref (ad 14)), (1, .ref (ad 1)), (2, .int (iN v2_10)), (3, .int (iN v3_10)), (4, .int (iN v4_81)), (5, .int (iN v5_81))]) hx hb dX3_bestState_81 hl (k := 6) rfl (iN_add _ _) (by decide) rfl (fun ls hl => ?_)
        refine lv_goto (tgt := 10) hx hb dX3_bestState_84 (by decide) ?_
        exact ih10 v4_81 v5_81 (v6_81 + 1) H locs ls hw hW (lv_sub hl [1, 2, 3, 4, 5, 6, 0] rfl)
      have hB41 : ∀  (v4_41 : Int) (v5_41 : Int) (v6_41 : Int) (s0_41 : Int) (H : Heap) (locs : List Loc) (ls : Array Slot), w_X3_bestState_B41 κ σ v2_10 v3_10 v4_41 v5_41 v6_41 s0_41 post (w_X3_bestState_L10 κ σ v2_10 v3_10 post n10) → Wd G (shW κ tl) ad σ (Aw ad (shW κ tl).length s.heap.size) s.heap H locs → lv_has ls 8 [(0, .ref (ad 14)), (1, .ref (ad 1)), (2, .int (iN v2_10)), (3, .int (iN v3_10)), (4, .int (iN v4_41)), (5, .int (iN v5_41)), (6, .int (iN v6_41))] → W p l e ({ frames := 3, cells := 0, slots := 0, locals := 76 } : Room) s m ([.ref (ad 14), .ref (ad 1), .int (iN v2), .int (iN v3)] : List Value).toArray below meth c H locs 0 0 (MQ below (QI G (shW κ tl) ad σ post (s.heap.size)) ([.ref (ad 14), .ref (ad 1), .int (iN v2), .int (iN v3)] : List Value).toArray s 0 0 (Aw ad (shW κ tl).length s.heap.size)) (F0 m 41 ls [.int (iN s0_41)]) := by
        intro v4_41 v5_41 v6_41 s0_41 H locs ls hw hW hl
        unfold w_X3_bestState_B41 at hw
        refine lv_istore (lv' := [(7, .int (iN s0_41)), (0, .ref (ad 14)), (1, .ref (ad 1)), (2, .int (iN v2_10)), (3, .int (iN v3_10)), (4, .int (iN v4_41)), (5, .int (iN v5_41)), (6, .int (iN v6_41))]) hx hb dX3_bestState_41 hl (by decide) rfl (fun ls hl => ?_)
        refine lv_iload hx hb dX3_bestState_43 (lv_at hl 0 rfl) ?_
        refine n_bipush hx hb dX3_bestState_45 (by decide) ?_
        refine n_icmp_eq hx hb hw.1 (rg_c _ rfl) hw.2.1 hw.2.2 (tgt := 81) dX3_bestState_47 (by decide) (fun hw => ?_) (fun hw => ?_)
        · exact hB81 v4_41 v5_41 v6_41 H locs ls hw hW (lv_sub hl [1, 2, 3, 4, 5, 6, 7] rfl)
        · refine lv_iload hx hb dX3_bestState_50 (lv_at hl 0 rfl) ?_
          refine lv_aload_n hx hb dX3_bestState_52 rfl (lv_at hl 1 rfl) ?_
          refine lv_iload_n hx hb dX3_bestState_53 rfl (lv_at hl 4 rfl) ?_
          refine lv_iload hx hb dX3_bestState_54 (lv_at hl 7 rfl) ?_
          refine fin_CI hW (run_V (k := 14) (As := [.int (iN v3_10), .int (iN v6_41)]) (rest := [.int (iN s0_41)]) S hK hE hW (c_X3_painsOf l G κ hκ tl ad σ v3_10 v6_41 _ hw H.size) rfl rfl al_589 al_591 sl_X3_painsOf al_10 al_592 hd_X3_painsOf rfl rfl ⟨Nat.le_of_ble_eq_true rfl, Nat.le_of_ble_eq_true rfl⟩ rfl hl.1 rfl (Nat.le_of_ble_eq_true rfl) dX3_bestState_56 ⟨Nat.zero_le _, Nat.zero_le _⟩) ?_
          intro r11 H locs hw hW
          refine n_iadd hx hb dX3_bestState_59 ?_
          refine lv_iload hx hb dX3_bestState_60 (lv_at hl 6 rfl) ?_
          refine n_icmp_ge hx hb hw.1 hw.2.1 hw.2.2.1 hw.2.2.2 (tgt := 81) dX3_bestState_62 (by decide) (fun hw => ?_) (fun hw => ?_)
          · exact hB81 v4_41 v5_41 v6_41 H locs ls hw hW (lv_sub hl [1, 2, 3, 4, 5, 6, 7] rfl)
          · refine lv_iload hx hb dX3_bestState_65 (lv_at hl 7 rfl) ?_
            refine lv_istore (lv' := [(4, .int (iN v6_41)), (7, .int (iN s0_41)), (0, .ref (ad 14)), (1, .ref (ad 1)), (2, .int (iN v2_10)), (3, .int (iN v3_10)), (5, .int (iN v5_41)), (6, .int (iN v6_41))]) hx hb dX3_bestState_67 hl (by decide) rfl (fun ls hl => ?_)
            refine lv_iload hx hb dX3_bestState_69 (lv_at hl 1 rfl) ?_
            refine lv_aload_n hx hb dX3_bestState_71 rfl (lv_at hl 2 rfl) ?_
            refine lv_iload_n hx hb dX3_bestState_72 rfl (lv_at hl 5 rfl) ?_
            refine lv_iload hx hb dX3_bestState_73 (lv_at hl 7 rfl) ?_
            refine fin_CI hW (run_V (k := 14) (As := [.int (iN v3_10), .int (iN v6_41)]) (rest := [.int (iN s0_41)]) S hK hE hW (c_X3_painsOf l G κ hκ tl ad σ v3_10 v6_41 _ hw H.size) rfl rfl al_589 al_591 sl_X3_painsOf al_10 al_592 hd_X3_painsOf rfl rfl ⟨Nat.le_of_ble_eq_true rfl, Nat.le_of_ble_eq_true rfl⟩ rfl hl.1 rfl (Nat.le_of_ble_eq_true rfl) dX3_bestState_75 ⟨Nat.zero_le _, Nat.zero_le _⟩) ?_
            intro r13 H locs hw hW
            refine n_iadd hx hb dX3_bestState_78 ?_
            refine lv_istore (lv' := [(5, .int (iN (s0_41 + r13))), (4, .int (iN v6_41)), (7, .int (iN s0_41)), (0, .ref (ad 14)), (1, .ref (ad 1)), (2, .int (iN v2_10)), (3, .int (iN v3_10)), (6, .int (iN v6_41))]) hx hb dX3_bestState_79 hl (by decide) rfl (fun ls hl => ?_)
            exact hB81 v6_41 (s0_41 + r13) v6_41 H locs ls hw hW (lv_sub hl [3, 4, 5, 6, 1, 0, 7] rfl)
      unfold w_X3_bestState_L10_body at hw
      refine lv_iload hx hb dX3_bestState_10 (lv_at hl 6 rfl) ?_
      refine lv_aload_n hx hb dX3_bestState_12 rfl (lv_at hl 1 rfl) ?_
      refine lv_iload_n hx hb dX3_bestState_13 rfl (lv_at hl 3 rfl) ?_
      refine fin_CI hW (run_U (k := 1) (As := [.int (iN v3_10)]) (rest := [.int (iN v6_10)]) S hK hE hW (c_X2_countOf l G κ hκ tl ad σ v3_10 _ hw H.size) rfl (hcP hκ) al_579 al_427 (se_X2_X2_countOf hκ) al_426 al_3 al_433 rfl hd_X2_countOf.2 rfl rfl ⟨Nat.le_of_ble_eq_true rfl, Nat.le_of_ble_eq_true rfl⟩ rfl hl.1 rfl (Nat.le_of_ble_eq_true rfl) dX3_bestState_14 ⟨Nat.zero_le _, Nat.zero_le _⟩) ?_
      intro r15 H locs hw hW
      refine n_icmp_ge hx hb hw.1 hw.2.1 hw.2.2.1 hw.2.2.2 (tgt := 87) dX3_bestState_17 (by decide) (fun hw => ?_) (fun hw => ?_)
      · refine lv_iload hx hb dX3_bestState_87 (lv_at hl 4 rfl) ?_
        exact r_CI hx hb hr hlk hK hW hw dX3_bestState_89
      · refine lv_iload_n hx hb dX3_bestState_20 rfl (lv_at hl 2 rfl) ?_
        refine n_if_ge hx hb hw.1 hw.2.1 hw.2.2 (tgt := 28) dX3_bestState_21 (by decide) (fun hw => ?_) (fun hw => ?_)
        · refine lv_aload_n hx hb dX3_bestState_28 rfl (lv_at hl 1 rfl) ?_
          refine lv_iload_n hx hb dX3_bestState_29 rfl (lv_at hl 2 rfl) ?_
          refine lv_aload_n hx hb dX3_bestState_30 rfl (lv_at hl 0 rfl) ?_
          refine lv_iload_n hx hb dX3_bestState_31 rfl (lv_at hl 2 rfl) ?_
          refine fin_CI hW (run_V (k := 14) (As := [.int (iN v2_10)]) (rest := [.int (iN v2_10), .ref (ad 1)]) S hK hE hW (c_X3_chosenOf l G κ hκ tl ad σ v2_10 _ hw H.size) rfl rfl al_618 al_619 al_620 al_10 al_621 hd_X3_chosenOf rfl rfl ⟨Nat.le_of_ble_eq_true rfl, Nat.le_of_ble_eq_true rfl⟩ rfl hl.1 rfl (Nat.le_of_ble_eq_true rfl) dX3_bestState_32 ⟨Nat.zero_le _, Nat.zero_le _⟩) ?_
          intro r17 H locs hw hW
          refine lv_iload_n hx hb dX3_bestState_35 rfl (lv_at hl 3 rfl) ?_
          refine lv_iload hx hb dX3_bestState_36 (lv_at hl 6 rfl) ?_
          refine fin_CI hW (run_X3_stepPrice (As := [.int (iN v2_10), .int (iN r17), .int (iN v3_10), .int (iN v6_10)]) (rest := []) hκ S hK hE hW hw rfl (Nat.le_of_ble_eq_true rfl) (Nat.le_of_ble_eq_true rfl) rfl hl.1 rfl (Nat.le_of_ble_eq_true rfl) dX3_bestState_38 ⟨Nat.zero_le _, Nat.zero_le _⟩) ?_
          intro r19 H locs hw hW
          exact hB41 v4_10 v5_10 v6_10 r19 H locs ls hw hW (lv_sub hl [0, 1, 2, 3, 4, 5, 6] rfl)
        · refine n_iconst hx hb dX3_bestState_24 ?_
          refine lv_goto (tgt := 41) hx hb dX3_bestState_25 (by decide) ?_
          exact hB41 v4_10 v5_10 v6_10 0 H locs ls hw hW (lv_sub hl [0, 1, 2, 3, 4, 5, 6] rfl)
  unfold w_X3_bestState at hw
  refine n_iconst hx hb dX3_bestState_0 ?_
  refine lv_istore (lv' := [(4, .int (iN 0)), (0, .ref (ad 14)), (1, .ref (ad 1)), (2, .int (iN v2)), (3, .int (iN v3))]) hx hb dX3_bestState_1 hl (by decide) rfl (fun ls hl => ?_)
  refine n_ldc (n := 1000000000) hx hb hown (hts _ (List.mem_cons_of_mem _ al_593)) (by decide) dX3_bestState_3 ?_
  refine lv_istore (lv' := [(5, .int (iN 1000000000)), (4, .int (iN 0)), (0, .ref (ad 14)), (1, .ref (ad 1)), (2, .int (iN v2)), (3, .int (iN v3))]) hx hb dX3_bestState_5 hl (by decide) rfl (fun ls hl => ?_)
  refine n_iconst hx hb dX3_bestState_7 ?_
  refine lv_istore (lv' := [(6, .int (iN 0)), (5, .int (iN 1000000000)), (4, .int (iN 0)), (0, .ref (ad 14)), (1, .ref (ad 1)), (2, .int (iN v2)), (3, .int (iN v3))]) hx hb dX3_bestState_8 hl (by decide) rfl (fun ls hl => ?_)
  obtain ⟨n, hw⟩ := hw
  exact hL10 v2 v3 n 0 1000000000 0 s.heap [] ls hw hW (lv_sub hl [3, 4, 5, 6, 2, 1, 0] rfl)
set_option maxHeartbeats 4000000 in
set_option maxRecDepth 100000 in
theorem c_X3_chooseWay (l : Launch) (G : Gt) (κ : Nat) (hκ : κ < 5) (tl : Bool) (ad : Nat → Nat)  (σ : Mem)  (post : Mem → Prop) (hw : w_X3_chooseWay κ σ  post) : CV l yX3_chooseWay (Cond.code yX3_chooseWay cX3_chooseWay 3 none) ({ frames := 4, cells := 0, slots := 0, locals := 103 } : Room) G (shW κ tl) ad σ [.ref (ad 14), .ref (ad 1)] post := by
  refine s_all (y := yX3_chooseWay) (code := cX3_chooseWay) (maxL := 3) (ret := none) (rm := ({ frames := 4, cells := 0, slots := 0, locals := 103 } : Room)) (av := [.ref (ad 14), .ref (ad 1)]) (Qc := fun sz => QV G (shW κ tl) ad post (sz)) (by decide) (Nat.le_of_ble_eq_true rfl) ?_
  intro p e s m below meth c S hr hlk _ hK hE hW ls hl
  obtain ⟨hx, hb, hml, hown, hts⟩ := id S
  replace hl : lv_has ls 3 [(0, .ref (ad 14)), (1, .ref (ad 1))] := hl
  have hB45 : ∀ (σ_45 : Mem)  (H : Heap) (locs : List Loc) (ls : Array Slot), w_X3_chooseWay_B45 κ σ_45 post → Wd G (shW κ tl) ad σ_45 (Aw ad (shW κ tl).length s.heap.size) s.heap H locs → lv_has ls 3 [] → W p l e ({ frames := 4, cells := 0, slots := 0, locals := 103 } : Room) s m ([.ref (ad 14), .ref (ad 1)] : List Value).toArray below meth c H locs 0 0 (MQ below (QV G (shW κ tl) ad post (s.heap.size)) ([.ref (ad 14), .ref (ad 1)] : List Value).toArray s 0 0 (Aw ad (shW κ tl).length s.heap.size)) (F0 m 45 ls []) := by
    intro σ_45 H locs ls hw hW hl
    unfold w_X3_chooseWay_B45 at hw
    exact r_CV hx hb hr hlk hK hW hw dX3_chooseWay_45
  have hL2 : ∀  (n : Nat) (v2_2 : Int) (σ_2 : Mem) (H : Heap) (locs : List Loc) (ls : Array Slot), w_X3_chooseWay_L2 κ post n v2_2 σ_2 → Wd G (shW κ tl) ad σ_2 (Aw ad (shW κ tl).length s.heap.size) s.heap H locs → lv_has ls 3 [(0, .ref (ad 14)), (1, .ref (ad 1)), (2, .int (iN v2_2))] → W p l e ({ frames := 4, cells := 0, slots := 0, locals := 103 } : Room) s m ([.ref (ad 14), .ref (ad 1)] : List Value).toArray below meth c H locs 0 0 (MQ below (QV G (shW κ tl) ad post (s.heap.size)) ([.ref (ad 14), .ref (ad 1)] : List Value).toArray s 0 0 (Aw ad (shW κ tl).length s.heap.size)) (F0 m 2 ls []) := by
    intro  n
    induction n with
    | zero =>
      intro v2_2 σ_2 H locs ls hw
      exact hw.elim
    | succ n2 ih2 =>
      intro v2_2 σ_2 H locs ls hw hW hl
      replace hw : w_X3_chooseWay_L2_body κ post (w_X3_chooseWay_L2 κ post n2) v2_2 σ_2 := hw
      unfold w_X3_chooseWay_L2_body at hw
      refine lv_iload_n hx hb dX3_chooseWay_2 rfl (lv_at hl 2 rfl) ?_
      refine lv_aload_n hx hb dX3_chooseWay_3 rfl (lv_at hl 1 rfl) ?_
      refine g_getr hx hb hts hown hK hW 1 rfl (q := 2) (hcP hκ) (uwP hκ) 0 (by decide) rfl al_88 (fun _ h9 => h9) dX3_chooseWay_4 ?_
      refine g_getN hx hb hts hown hK hE hW 2 rfl rfl uw_X1 7 (by decide) rfl 3 rfl (fun _ h9 => h9) dX3_chooseWay_7 ?_
      refine n_icmp_ge hx hb hw.1 hw.2.1 hw.2.2.1 hw.2.2.2 (tgt := 45) dX3_chooseWay_10 (by decide) (fun hw => ?_) (fun hw => ?_)
      · exact hB45 σ_2 H locs ls hw hW (lv_sub hl [] rfl)
      · refine lv_iload_n hx hb dX3_chooseWay_13 rfl (lv_at hl 2 rfl) ?_
        refine n_bipush hx hb dX3_chooseWay_14 (by decide) ?_
        refine n_icmp_ge hx hb hw.1 (rg_c _ rfl) hw.2.1 hw.2.2 (tgt := 45) dX3_chooseWay_16 (by decide) (fun hw => ?_) (fun hw => ?_)
        · exact hB45 σ_2 H locs ls hw hW (lv_sub hl [] rfl)
        · refine lv_aload_n hx hb dX3_chooseWay_19 rfl (lv_at hl 0 rfl) ?_
          refine g_getr hx hb hts hown hK hW 14 rfl (q := 15) rfl uw_X3 2 (by decide) rfl al_180 (fun _ h9 => h9) dX3_chooseWay_20 ?_
          refine lv_iload_n hx hb dX3_chooseWay_23 rfl (lv_at hl 2 rfl) ?_
          refine lv_aload_n hx hb dX3_chooseWay_24 rfl (lv_at hl 0 rfl) ?_
          refine lv_aload_n hx hb dX3_chooseWay_25 rfl (lv_at hl 1 rfl) ?_
          refine lv_aload_n hx hb dX3_chooseWay_26 rfl (lv_at hl 1 rfl) ?_
          refine g_getr hx hb hts hown hK hW 1 rfl (q := 2) (hcP hκ) (uwP hκ) 0 (by decide) rfl al_88 (fun _ h9 => h9) dX3_chooseWay_27 ?_
          refine lv_iload_n hx hb dX3_chooseWay_30 rfl (lv_at hl 2 rfl) ?_
          refine fin_CI hW (run_VN (k := 2) (As := [.int (iN v2_2)]) (rest := [.ref (ad 1), .ref (ad 14), .int (iN v2_2), .ref (ad 15)]) 31 S hK hE hW (c_X1_before l G κ tl ad σ_2 v2_2 _ hw H.size) rfl rfl rfl al_576 sl_X1_before al_5 al_577 hd_X1_before.2 rfl rfl ⟨Nat.le_of_ble_eq_true rfl, Nat.le_of_ble_eq_true rfl⟩ rfl hl.1 rfl (Nat.le_of_ble_eq_true rfl) dX3_chooseWay_31 ⟨Nat.zero_le _, Nat.zero_le _⟩) ?_
          intro r6 H locs hw hW
          refine lv_iload_n hx hb dX3_chooseWay_34 rfl (lv_at hl 2 rfl) ?_
          refine fin_CI hW (run_V (k := 14) (As := [.ref (ad 1), .int (iN r6), .int (iN v2_2)]) (rest := [.int (iN v2_2), .ref (ad 15)]) S hK hE hW (c_X3_bestState l G κ hκ tl ad σ_2 r6 v2_2 _ hw H.size) rfl rfl al_614 al_616 sl_X3_bestState al_10 al_617 hd_X3_bestState rfl rfl ⟨Nat.le_of_ble_eq_true rfl, Nat.le_of_ble_eq_true rfl⟩ rfl hl.1 rfl (Nat.le_of_ble_eq_true rfl) dX3_chooseWay_35 ⟨Nat.zero_le _, Nat.zero_le _⟩) ?_
          intro r8 H locs hw hW
          refine g_ast hx hb hK hW 15 rfl hw.1 dX3_chooseWay_38 (fun σ10 H locs hτ hW => ?_)
          replace hw := hw.2 σ10 hτ
          refine lv_iinc (v := iN (v2_2 + 1)) (lv' := [(2, .int (iN (v2_2 + 1))), (0, .ref (ad 14)), (1, .ref (ad 1))]) hx hb dX3_chooseWay_39 hl (k := 2) rfl (iN_add _ _) (by decide) rfl (fun ls hl => ?_)
          refine lv_goto (tgt := 2) hx hb dX3_chooseWay_42 (by decide) ?_
          exact ih2 (v2_2 + 1) σ10 H locs ls hw hW (lv_sub hl [1, 2, 0] rfl)
  unfold w_X3_chooseWay at hw
  refine n_iconst hx hb dX3_chooseWay_0 ?_
  refine lv_istore_n (lv' := [(2, .int (iN 0)), (0, .ref (ad 14)), (1, .ref (ad 1))]) hx hb dX3_chooseWay_1 rfl hl (by decide) rfl (fun ls hl => ?_)
  obtain ⟨n, hw⟩ := hw
  exact hL2 n 0 σ s.heap [] ls hw hW (lv_sub hl [1, 2, 0] rfl)
set_option maxHeartbeats 4000000 in
set_option maxRecDepth 100000 in
theorem c_X3_sumOfChains (l : Launch) (G : Gt) (κ : Nat) (hκ : κ < 5) (tl : Bool) (ad : Nat → Nat)  (σ : Mem)  (post : Int → Prop) (hw : w_X3_sumOfChains κ σ  post) : CI l yX3_sumOfChains (Cond.code yX3_sumOfChains cX3_sumOfChains 5 (some .int)) ({ frames := 2, cells := 0, slots := 0, locals := 46 } : Room) G (shW κ tl) ad σ [.ref (ad 14), .ref (ad 2)] post := by
  refine s_all (y := yX3_sumOfChains) (code := cX3_sumOfChains) (maxL := 5) (ret := (some .int)) (rm := ({ frames := 2, cells := 0, slots := 0, locals := 46 } : Room)) (av := [.ref (ad 14), .ref (ad 2)]) (Qc := fun sz => QI G (shW κ tl) ad σ post (sz)) (by decide) (Nat.le_of_ble_eq_true rfl) ?_
  intro p e s m below meth c S hr hlk _ hK hE hW ls hl
  obtain ⟨hx, hb, hml, hown, hts⟩ := id S
  replace hl : lv_has ls 5 [(0, .ref (ad 14)), (1, .ref (ad 2))] := hl
  have hL4 : ∀  (n : Nat) (v2_4 : Int) (v3_4 : Int) (H : Heap) (locs : List Loc) (ls : Array Slot), w_X3_sumOfChains_L4 κ σ post n v2_4 v3_4 → Wd G (shW κ tl) ad σ (Aw ad (shW κ tl).length s.heap.size) s.heap H locs → lv_has ls 5 [(0, .ref (ad 14)), (1, .ref (ad 2)), (2, .int (iN v2_4)), (3, .int (iN v3_4))] → W p l e ({ frames := 2, cells := 0, slots := 0, locals := 46 } : Room) s m ([.ref (ad 14), .ref (ad 2)] : List Value).toArray below meth c H locs 0 0 (MQ below (QI G (shW κ tl) ad σ post (s.heap.size)) ([.ref (ad 14), .ref (ad 2)] : List Value).toArray s 0 0 (Aw ad (shW κ tl).length s.heap.size)) (F0 m 4 ls []) := by
    intro  n
    induction n with
    | zero =>
      intro v2_4 v3_4 H locs ls hw
      exact hw.elim
    | succ n4 ih4 =>
      intro v2_4 v3_4 H locs ls hw hW hl
      replace hw : w_X3_sumOfChains_L4_body κ σ post (w_X3_sumOfChains_L4 κ σ post n4) v2_4 v3_4 := hw
      have hB39 : ∀  (v3_39 : Int) (s0_39 : Int) (s1_39 : Int) (H : Heap) (locs : List Loc) (ls : Array Slot), w_X3_sumOfChains_B39 κ σ v3_39 s0_39 s1_39 post (w_X3_sumOfChains_L4 κ σ post n4) → Wd G (shW κ tl) ad σ (Aw ad (shW κ tl).length s.heap.size) s.heap H locs → lv_has ls 5 [(0, .ref (ad 14)), (1, .ref (ad 2)), (3, .int (iN v3_39))] → W p l e ({ frames := 2, cells := 0, slots := 0, locals := 46 } : Room) s m ([.ref (ad 14), .ref (ad 2)] : List Value).toArray below meth c H locs 0 0 (MQ below (QI G (shW κ tl) ad σ post (s.heap.size)) ([.ref (ad 14), .ref (ad 2)] : List Value).toArray s 0 0 (Aw ad (shW κ tl).length s.heap.size)) (F0 m 39 ls [.int (iN s0_39), .int (iN s1_39)]) := by
        intro v3_39 s0_39 s1_39 H locs ls hw hW hl
        unfold w_X3_sumOfChains_B39 at hw
        refine n_iadd hx hb dX3_sumOfChains_39 ?_
        refine lv_istore_n (lv' := [(2, .int (iN (s1_39 + s0_39))), (0, .ref (ad 14)), (1, .ref (ad 2)), (3, .int (iN v3_39))]) hx hb dX3_sumOfChains_40 rfl hl (by decide) rfl (fun ls hl => ?_)
        refine lv_iinc (v := iN (v3_39 + 1)) (lv' := [(3, .int (iN (v3_39 + 1))), (2, .int (iN (s1_39 + s0_39))), (0, .ref (ad 14)), (1, .ref (ad 2))]) hx hb dX3_sumOfChains_41 hl (k := 3) rfl (iN_add _ _) (by decide) rfl (fun ls hl => ?_)
        refine lv_goto (tgt := 4) hx hb dX3_sumOfChains_44 (by decide) ?_
        exact ih4 (s1_39 + s0_39) (v3_39 + 1) H locs ls hw hW (lv_sub hl [2, 3, 1, 0] rfl)
      unfold w_X3_sumOfChains_L4_body at hw
      refine lv_iload_n hx hb dX3_sumOfChains_4 rfl (lv_at hl 3 rfl) ?_
      refine n_iconst hx hb dX3_sumOfChains_5 ?_
      refine n_icmp_ge hx hb hw.1 (rg_c _ rfl) hw.2.1 hw.2.2 (tgt := 47) dX3_sumOfChains_6 (by decide) (fun hw => ?_) (fun hw => ?_)
      · refine lv_iload_n hx hb dX3_sumOfChains_47 rfl (lv_at hl 2 rfl) ?_
        exact r_CI hx hb hr hlk hK hW hw dX3_sumOfChains_48
      · refine lv_aload_n hx hb dX3_sumOfChains_9 rfl (lv_at hl 1 rfl) ?_
        refine lv_iload_n hx hb dX3_sumOfChains_10 rfl (lv_at hl 3 rfl) ?_
        refine n_iconst hx hb dX3_sumOfChains_11 ?_
        refine fin_CI hW (run_VN (k := 2) (As := [.int (iN v3_4), .int (iN 0)]) (rest := []) 34 S hK hE hW (c_X1_firstOfHand l G κ tl ad σ v3_4 0 _ hw H.size) rfl rfl rfl al_480 sl_X1_firstOfHand al_5 al_481 hd_X1_firstOfHand.2 rfl rfl ⟨Nat.le_of_ble_eq_true rfl, Nat.le_of_ble_eq_true rfl⟩ rfl hl.1 rfl (Nat.le_of_ble_eq_true rfl) dX3_sumOfChains_12 ⟨Nat.zero_le _, Nat.zero_le _⟩) ?_
        intro r7 H locs hw hW
        refine lv_istore (lv' := [(4, .int (iN r7)), (0, .ref (ad 14)), (1, .ref (ad 2)), (2, .int (iN v2_4)), (3, .int (iN v3_4))]) hx hb dX3_sumOfChains_15 hl (by decide) rfl (fun ls hl => ?_)
        refine lv_iload_n hx hb dX3_sumOfChains_17 rfl (lv_at hl 3 rfl) ?_
        refine lv_iload hx hb dX3_sumOfChains_18 (lv_at hl 0 rfl) ?_
        refine n_if_ge hx hb hw.1 hw.2.1 hw.2.2 (tgt := 27) dX3_sumOfChains_20 (by decide) (fun hw => ?_) (fun hw => ?_)
        · refine lv_aload_n hx hb dX3_sumOfChains_27 rfl (lv_at hl 1 rfl) ?_
          refine lv_iload hx hb dX3_sumOfChains_28 (lv_at hl 0 rfl) ?_
          refine lv_aload_n hx hb dX3_sumOfChains_30 rfl (lv_at hl 1 rfl) ?_
          refine lv_iload hx hb dX3_sumOfChains_31 (lv_at hl 0 rfl) ?_
          refine fin_CI hW (run_V (k := 14) (As := [.int (iN r7)]) (rest := [.int (iN r7), .ref (ad 14), .int (iN v2_4)]) S hK hE hW (c_X3_chosenOf l G κ hκ tl ad σ r7 _ hw H.size) rfl rfl al_618 al_619 al_620 al_10 al_621 hd_X3_chosenOf rfl rfl ⟨Nat.le_of_ble_eq_true rfl, Nat.le_of_ble_eq_true rfl⟩ rfl hl.1 rfl (Nat.le_of_ble_eq_true rfl) dX3_sumOfChains_33 ⟨Nat.zero_le _, Nat.zero_le _⟩) ?_
          intro r9 H locs hw hW
          refine fin_CI hW (run_V (k := 14) (As := [.int (iN r7), .int (iN r9)]) (rest := [.int (iN v2_4)]) S hK hE hW (c_X3_painsOf l G κ hκ tl ad σ r7 r9 _ hw H.size) rfl rfl al_589 al_591 sl_X3_painsOf al_10 al_592 hd_X3_painsOf rfl rfl ⟨Nat.le_of_ble_eq_true rfl, Nat.le_of_ble_eq_true rfl⟩ rfl hl.1 rfl (Nat.le_of_ble_eq_true rfl) dX3_sumOfChains_36 ⟨Nat.zero_le _, Nat.zero_le _⟩) ?_
          intro r11 H locs hw hW
          exact hB39 v3_4 r11 v2_4 H locs ls hw hW (lv_sub hl [1, 2, 4] rfl)
        · refine n_iconst hx hb dX3_sumOfChains_23 ?_
          refine lv_goto (tgt := 39) hx hb dX3_sumOfChains_24 (by decide) ?_
          exact hB39 v3_4 0 v2_4 H locs ls hw hW (lv_sub hl [1, 2, 4] rfl)
  unfold w_X3_sumOfChains at hw
  refine n_iconst hx hb dX3_sumOfChains_0 ?_
  refine lv_istore_n (lv' := [(2, .int (iN 0)), (0, .ref (ad 14)), (1, .ref (ad 2))]) hx hb dX3_sumOfChains_1 rfl hl (by decide) rfl (fun ls hl => ?_)
  refine n_iconst hx hb dX3_sumOfChains_2 ?_
  refine lv_istore_n (lv' := [(3, .int (iN 0)), (2, .int (iN 0)), (0, .ref (ad 14)), (1, .ref (ad 2))]) hx hb dX3_sumOfChains_3 rfl hl (by decide) rfl (fun ls hl => ?_)
  obtain ⟨n, hw⟩ := hw
  exact hL4 n 0 0 s.heap [] ls hw hW (lv_sub hl [2, 3, 1, 0] rfl)
set_option maxHeartbeats 4000000 in
set_option maxRecDepth 100000 in
theorem c_X3_refresh (l : Launch) (G : Gt) (κ : Nat) (hκ : κ < 5) (tl : Bool) (ad : Nat → Nat)  (σ : Mem)  (post : Mem → Prop) (hw : w_X3_refresh κ σ  post) : CV l yX3_refresh (Cond.code yX3_refresh cX3_refresh 2 none) ({ frames := 6, cells := 0, slots := 0, locals := 149 } : Room) G (shW κ tl) ad σ [.ref (ad 14), .ref (ad 1)] post := by
  refine s_all (y := yX3_refresh) (code := cX3_refresh) (maxL := 2) (ret := none) (rm := ({ frames := 6, cells := 0, slots := 0, locals := 149 } : Room)) (av := [.ref (ad 14), .ref (ad 1)]) (Qc := fun sz => QV G (shW κ tl) ad post (sz)) (by decide) (Nat.le_of_ble_eq_true rfl) ?_
  intro p e s m below meth c S hr hlk _ hK hE hW ls hl
  obtain ⟨hx, hb, hml, hown, hts⟩ := id S
  replace hl : lv_has ls 2 [(0, .ref (ad 14)), (1, .ref (ad 1))] := hl
  have hB58 : ∀ (σ_58 : Mem)  (H : Heap) (locs : List Loc) (ls : Array Slot), w_X3_refresh_B58 κ σ_58 post → Wd G (shW κ tl) ad σ_58 (Aw ad (shW κ tl).length s.heap.size) s.heap H locs → lv_has ls 2 [(0, .ref (ad 14))] → W p l e ({ frames := 6, cells := 0, slots := 0, locals := 149 } : Room) s m ([.ref (ad 14), .ref (ad 1)] : List Value).toArray below meth c H locs 0 0 (MQ below (QV G (shW κ tl) ad post (s.heap.size)) ([.ref (ad 14), .ref (ad 1)] : List Value).toArray s 0 0 (Aw ad (shW κ tl).length s.heap.size)) (F0 m 58 ls []) := by
    intro σ_58 H locs ls hw hW hl
    unfold w_X3_refresh_B58 at hw
    refine lv_aload_n hx hb dX3_refresh_58 rfl (lv_at hl 0 rfl) ?_
    refine n_iconst hx hb dX3_refresh_59 ?_
    refine g_put hx hb hts hown hK hW 14 rfl rfl uw_X3 tyX3 tyX3_ok nmX3 5 (by decide) rfl al_185 (fun _ h9 => h9) rfl (nar_z (Or.inr rfl)) rfl dX3_refresh_60 (fun σ15 H locs hτ hW => ?_)
    replace hw := hw σ15 hτ
    exact r_CV hx hb hr hlk hK hW hw dX3_refresh_63
  unfold w_X3_refresh at hw
  refine lv_aload_n hx hb dX3_refresh_0 rfl (lv_at hl 0 rfl) ?_
  refine g_get hx hb hts hown hK hW 14 rfl rfl uw_X3 5 (by decide) rfl al_185 (fun _ h9 => h9) dX3_refresh_1 ?_
  refine n_if_eq hx hb hw.1 hw.2.1 hw.2.2 (tgt := 8) dX3_refresh_4 (by decide) (fun hw => ?_) (fun hw => ?_)
  · refine lv_aload_n hx hb dX3_refresh_8 rfl (lv_at hl 1 rfl) ?_
    refine fin_CV hW (run_U (k := 1) (As := []) (rest := []) S hK hE hW (c_X2_listAll l G κ hκ tl ad σ _ hw s.heap.size) rfl (hcP hκ) al_565 al_295 (se_X2_X2_listAll hκ) al_294 al_3 al_301 rfl hd_X2_listAll.2 rfl rfl ⟨Nat.le_of_ble_eq_true rfl, Nat.le_of_ble_eq_true rfl⟩ rfl hl.1 rfl (Nat.le_of_ble_eq_true rfl) dX3_refresh_9 ⟨Nat.zero_le _, Nat.zero_le _⟩) ?_
    intro σ2 H locs hw hW
    refine lv_aload_n hx hb dX3_refresh_12 rfl (lv_at hl 0 rfl) ?_
    refine lv_aload_n hx hb dX3_refresh_13 rfl (lv_at hl 0 rfl) ?_
    refine lv_aload_n hx hb dX3_refresh_14 rfl (lv_at hl 1 rfl) ?_
    refine fin_CM hW (run_V (k := 14) (As := [.ref (ad 1)]) (rest := [.ref (ad 14)]) S hK hE hW (c_X3_firstStuck l G κ hκ tl ad σ2 _ hw H.size) rfl rfl al_566 al_568 sl_X3_firstStuck al_10 al_569 hd_X3_firstStuck rfl rfl ⟨Nat.le_of_ble_eq_true rfl, Nat.le_of_ble_eq_true rfl⟩ rfl hl.1 rfl (Nat.le_of_ble_eq_true rfl) dX3_refresh_15 ⟨Nat.zero_le _, Nat.zero_le _⟩) ?_
    intro r3 σ4 H locs hw hW; dsimp only at hw
    refine g_put hx hb hts hown hK hW 14 rfl rfl uw_X3 tyX3 tyX3_ok nmX3 4 (by decide) rfl al_183 (fun _ h9 => h9) rfl rfl rfl dX3_refresh_18 (fun σ5 H locs hτ hW => ?_)
    replace hw := hw σ5 hτ
    refine lv_aload_n hx hb dX3_refresh_21 rfl (lv_at hl 0 rfl) ?_
    refine n_bipush hx hb dX3_refresh_22 (by decide) ?_
    refine g_put hx hb hts hown hK hW 14 rfl rfl uw_X3 tyX3 tyX3_ok nmX3 3 (by decide) rfl al_181 (fun _ h9 => h9) rfl rfl rfl dX3_refresh_24 (fun σ6 H locs hτ hW => ?_)
    replace hw := hw σ6 hτ
    refine lv_aload_n hx hb dX3_refresh_27 rfl (lv_at hl 0 rfl) ?_
    refine g_get hx hb hts hown hK hW 14 rfl rfl uw_X3 4 (by decide) rfl al_183 (fun _ h9 => h9) dX3_refresh_28 ?_
    refine n_bipush hx hb dX3_refresh_31 (by decide) ?_
    refine n_icmp_ne hx hb hw.1 (rg_c _ rfl) hw.2.1 hw.2.2 (tgt := 58) dX3_refresh_33 (by decide) (fun hw => ?_) (fun hw => ?_)
    · exact hB58 σ6 H locs ls hw hW (lv_sub hl [0] rfl)
    · refine lv_aload_n hx hb dX3_refresh_36 rfl (lv_at hl 0 rfl) ?_
      refine lv_aload_n hx hb dX3_refresh_37 rfl (lv_at hl 1 rfl) ?_
      refine fin_CV hW (run_V (k := 14) (As := [.ref (ad 1)]) (rest := []) S hK hE hW (c_X3_weighRests l G κ hκ tl ad σ6 _ hw H.size) rfl rfl al_599 al_601 sl_X3_weighRests al_10 al_602 hd_X3_weighRests rfl rfl ⟨Nat.le_of_ble_eq_true rfl, Nat.le_of_ble_eq_true rfl⟩ rfl hl.1 rfl (Nat.le_of_ble_eq_true rfl) dX3_refresh_38 ⟨Nat.zero_le _, Nat.zero_le _⟩) ?_
      intro σ9 H locs hw hW
      refine lv_aload_n hx hb dX3_refresh_41 rfl (lv_at hl 0 rfl) ?_
      refine lv_aload_n hx hb dX3_refresh_42 rfl (lv_at hl 1 rfl) ?_
      refine fin_CV hW (run_V (k := 14) (As := [.ref (ad 1)]) (rest := []) S hK hE hW (c_X3_chooseWay l G κ hκ tl ad σ9 _ hw H.size) rfl rfl al_610 al_612 sl_X3_chooseWay al_10 al_613 hd_X3_chooseWay rfl rfl ⟨Nat.le_of_ble_eq_true rfl, Nat.le_of_ble_eq_true rfl⟩ rfl hl.1 rfl (Nat.le_of_ble_eq_true rfl) dX3_refresh_43 ⟨Nat.zero_le _, Nat.zero_le _⟩) ?_
      intro σ11 H locs hw hW
      refine lv_aload_n hx hb dX3_refresh_46 rfl (lv_at hl 0 rfl) ?_
      refine lv_aload_n hx hb dX3_refresh_47 rfl (lv_at hl 0 rfl) ?_
      refine lv_aload_n hx hb dX3_refresh_48 rfl (lv_at hl 1 rfl) ?_
      refine g_getr hx hb hts hown hK hW 1 rfl (q := 2) (hcP hκ) (uwP hκ) 0 (by decide) rfl al_88 (fun _ h9 => h9) dX3_refresh_49 ?_
      refine fin_CI hW (run_V (k := 14) (As := [.ref (ad 2)]) (rest := [.ref (ad 14)]) S hK hE hW (c_X3_sumOfChains l G κ hκ tl ad σ11 _ hw H.size) rfl rfl al_622 al_624 sl_X3_sumOfChains al_10 al_625 hd_X3_sumOfChains rfl rfl ⟨Nat.le_of_ble_eq_true rfl, Nat.le_of_ble_eq_true rfl⟩ rfl hl.1 rfl (Nat.le_of_ble_eq_true rfl) dX3_refresh_52 ⟨Nat.zero_le _, Nat.zero_le _⟩) ?_
      intro r12 H locs hw hW
      refine g_put hx hb hts hown hK hW 14 rfl rfl uw_X3 tyX3 tyX3_ok nmX3 3 (by decide) rfl al_181 (fun _ h9 => h9) rfl rfl rfl dX3_refresh_55 (fun σ14 H locs hτ hW => ?_)
      replace hw := hw σ14 hτ
      exact hB58 σ14 H locs ls hw hW (lv_sub hl [0] rfl)
  · exact r_CV hx hb hr hlk hK hW hw dX3_refresh_7
