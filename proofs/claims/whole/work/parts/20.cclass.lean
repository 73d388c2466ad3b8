set_option maxHeartbeats 4000000 in
set_option maxRecDepth 100000 in
theorem c_X9_hasHand (l : Launch) (G : Gt) (κ : Nat) (hκ : κ < 5) (tl : Bool) (ad : Nat → Nat)  (σ : Mem) (v1 : Int) (post : Int → Prop) (hw : w_X9_hasHand κ σ v1 post) : CI l yX9_hasHand (Cond.code yX9_hasHand cX9_hasHand 2 (some .boolean)) ({ frames := 0, cells := 0, slots := 0, locals := 0 } : Room) G (shW κ tl) ad σ [.ref (ad 0), .int (iN v1)] post := by
  refine s_all (y := yX9_hasHand) (code := cX9_hasHand) (maxL := 2) (ret := (some .boolean)) (rm := ({ frames := 0, cells := 0, slots := 0, locals := 0 } : Room)) (av := [.ref (ad 0), .int (iN v1)]) (Qc := fun sz => QI G (shW κ tl) ad σ post (sz)) (by decide) (Nat.le_of_ble_eq_true rfl) ?_
  intro p e s m below meth c S hr hlk _ hK hE hW ls hl
  obtain ⟨hx, hb, hml, hown, hts⟩ := id S
  replace hl : lv_has ls 2 [(0, .ref (ad 0)), (1, .int (iN v1))] := hl
  have hB21 : ∀  (s0_21 : Int) (H : Heap) (locs : List Loc) (ls : Array Slot), w_X9_hasHand_B21 κ σ s0_21 post → Wd G (shW κ tl) ad σ (Aw ad (shW κ tl).length s.heap.size) s.heap H locs → lv_has ls 2 [] → W p l e ({ frames := 0, cells := 0, slots := 0, locals := 0 } : Room) s m ([.ref (ad 0), .int (iN v1)] : List Value).toArray below meth c H locs 0 0 (MQ below (QI G (shW κ tl) ad σ post (s.heap.size)) ([.ref (ad 0), .int (iN v1)] : List Value).toArray s 0 0 (Aw ad (shW κ tl).length s.heap.size)) (F0 m 21 ls [.int (iN s0_21)]) := by
    intro s0_21 H locs ls hw hW hl
    unfold w_X9_hasHand_B21 at hw
    exact rz_CI hx hb hr hlk hK hW hw.1 hw.2 dX9_hasHand_21
  have hB20 : ∀   (H : Heap) (locs : List Loc) (ls : Array Slot), w_X9_hasHand_B20 κ σ post → Wd G (shW κ tl) ad σ (Aw ad (shW κ tl).length s.heap.size) s.heap H locs → lv_has ls 2 [] → W p l e ({ frames := 0, cells := 0, slots := 0, locals := 0 } : Room) s m ([.ref (ad 0), .int (iN v1)] : List Value).toArray below meth c H locs 0 0 (MQ below (QI G (shW κ tl) ad σ post (s.heap.size)) ([.ref (ad 0), .int (iN v1)] : List Value).toArray s 0 0 (Aw ad (shW κ tl).length s.heap.size)) (F0 m 20 ls []) := by
    intro  H locs ls hw hW hl
    unfold w_X9_hasHand_B20 at hw
    refine n_iconst hx hb dX9_hasHand_20 ?_
    exact hB21 0 H locs ls hw hW (lv_sub hl [] rfl)
  have hB16 : ∀   (H : Heap) (locs : List Loc) (ls : Array Slot), w_X9_hasHand_B16 κ σ post → Wd G (shW κ tl) ad σ (Aw ad (shW κ tl).length s.heap.size) s.heap H locs → lv_has ls 2 [] → W p l e ({ frames := 0, cells := 0, slots := 0, locals := 0 } : Room) s m ([.ref (ad 0), .int (iN v1)] : List Value).toArray below meth c H locs 0 0 (MQ below (QI G (shW κ tl) ad σ post (s.heap.size)) ([.ref (ad 0), .int (iN v1)] : List Value).toArray s 0 0 (Aw ad (shW κ tl).length s.heap.size)) (F0 m 16 ls []) := by
    intro  H locs ls hw hW hl
    unfold w_X9_hasHand_B16 at hw
    refine n_iconst hx hb dX9_hasHand_16 ?_
    refine lv_goto (tgt := 21) hx hb dX9_hasHand_17 (by decide) ?_
    exact hB21 1 H locs ls hw hW (lv_sub hl [] rfl)
  unfold w_X9_hasHand at hw
  refine lv_iload_n hx hb dX9_hasHand_0 rfl (lv_at hl 1 rfl) ?_
  refine n_if_eq hx hb hw.1 hw.2.1 hw.2.2 (tgt := 16) dX9_hasHand_1 (by decide) (fun hw => ?_) (fun hw => ?_)
  · exact hB16  s.heap [] ls hw hW (lv_sub hl [] rfl)
  · refine lv_iload_n hx hb dX9_hasHand_4 rfl (lv_at hl 1 rfl) ?_
    refine n_iconst hx hb dX9_hasHand_5 ?_
    refine n_icmp_ne hx hb hw.1 (rg_c _ rfl) hw.2.1 hw.2.2 (tgt := 20) dX9_hasHand_6 (by decide) (fun hw => ?_) (fun hw => ?_)
    · exact hB20  s.heap [] ls hw hW (lv_sub hl [] rfl)
    · refine lv_aload_n hx hb dX9_hasHand_9 rfl (lv_at hl 0 rfl) ?_
      refine g_get hx hb hts hown hK hW 0 rfl rfl uw_X9 0 (by decide) rfl al_200 (fun _ h9 => h9) dX9_hasHand_10 ?_
      refine n_if_ne hx hb hw.1 hw.2.1 hw.2.2 (tgt := 20) dX9_hasHand_13 (by decide) (fun hw => ?_) (fun hw => ?_)
      · exact hB20  s.heap [] ls hw hW (lv_sub hl [] rfl)
      · exact hB16  s.heap [] ls hw hW (lv_sub hl [] rfl)
set_option maxHeartbeats 4000000 in
set_option maxRecDepth 100000 in
theorem c_X9_fits (l : Launch) (G : Gt) (κ : Nat) (hκ : κ < 5) (tl : Bool) (ad : Nat → Nat)  (σ : Mem) (v1 : Int) (v2 : Int) (post : Int → Prop) (hw : w_X9_fits κ σ v1 v2 post) : CI l yX9_fits (Cond.code yX9_fits cX9_fits 7 (some .boolean)) ({ frames := 2, cells := 0, slots := 0, locals := 46 } : Room) G (shW κ tl) ad σ [.ref (ad 0), .int (iN v1), .int (iN v2)] post := by
  refine s_all (y := yX9_fits) (code := cX9_fits) (maxL := 7) (ret := (some .boolean)) (rm := ({ frames := 2, cells := 0, slots := 0, locals := 46 } : Room)) (av := [.ref (ad 0), .int (iN v1), .int (iN v2)]) (Qc := fun sz => QI G (shW κ tl) ad σ post (sz)) (by decide) (Nat.le_of_ble_eq_true rfl) ?_
  intro p e s m below meth c S hr hlk _ hK hE hW ls hl
  obtain ⟨hx, hb, hml, hown, hts⟩ := id S
  replace hl : lv_has ls 7 [(0, .ref (ad 0)), (1, .int (iN v1)), (2, .int (iN v2))] := hl
  have hB107 : ∀  (s0_107 : Int) (H : Heap) (locs : List Loc) (ls : Array Slot), w_X9_fits_B107 κ σ s0_107 post → Wd G (shW κ tl) ad σ (Aw ad (shW κ tl).length s.heap.size) s.heap H locs → lv_has ls 7 [] → W p l e ({ frames := 2, cells := 0, slots := 0, locals := 46 } : Room) s m ([.ref (ad 0), .int (iN v1), .int (iN v2)] : List Value).toArray below meth c H locs 0 0 (MQ below (QI G (shW κ tl) ad σ post (s.heap.size)) ([.ref (ad 0), .int (iN v1), .int (iN v2)] : List Value).toArray s 0 0 (Aw ad (shW κ tl).length s.heap.size)) (F0 m 107 ls [.int (iN s0_107)]) := by
    intro s0_107 H locs ls hw hW hl
    unfold w_X9_fits_B107 at hw
    exact rz_CI hx hb hr hlk hK hW hw.1 hw.2 dX9_fits_107
  have hB102 : ∀   (H : Heap) (locs : List Loc) (ls : Array Slot), w_X9_fits_B102 κ σ post → Wd G (shW κ tl) ad σ (Aw ad (shW κ tl).length s.heap.size) s.heap H locs → lv_has ls 7 [] → W p l e ({ frames := 2, cells := 0, slots := 0, locals := 46 } : Room) s m ([.ref (ad 0), .int (iN v1), .int (iN v2)] : List Value).toArray below meth c H locs 0 0 (MQ below (QI G (shW κ tl) ad σ post (s.heap.size)) ([.ref (ad 0), .int (iN v1), .int (iN v2)] : List Value).toArray s 0 0 (Aw ad (shW κ tl).length s.heap.size)) (F0 m 102 ls []) := by
    intro  H locs ls hw hW hl
    unfold w_X9_fits_B102 at hw
    refine n_iconst hx hb dX9_fits_102 ?_
    refine lv_goto (tgt := 107) hx hb dX9_fits_103 (by decide) ?_
    exact hB107 1 H locs ls hw hW (lv_sub hl [] rfl)
  have hB81 : ∀  (v2_81 : Int) (H : Heap) (locs : List Loc) (ls : Array Slot), w_X9_fits_B81 κ σ v2_81 post → Wd G (shW κ tl) ad σ (Aw ad (shW κ tl).length s.heap.size) s.heap H locs → lv_has ls 7 [(2, .int (iN v2_81)), (3, .ref (ad 2))] → W p l e ({ frames := 2, cells := 0, slots := 0, locals := 46 } : Room) s m ([.ref (ad 0), .int (iN v1), .int (iN v2)] : List Value).toArray below meth c H locs 0 0 (MQ below (QI G (shW κ tl) ad σ post (s.heap.size)) ([.ref (ad 0), .int (iN v1), .int (iN v2)] : List Value).toArray s 0 0 (Aw ad (shW κ tl).length s.heap.size)) (F0 m 81 ls []) := by
    intro v2_81 H locs ls hw hW hl
    unfold w_X9_fits_B81 at hw
    refine lv_aload_n hx hb dX9_fits_81 rfl (lv_at hl 1 rfl) ?_
    refine g_getN hx hb hts hown hK hE hW 2 rfl rfl uw_X1 7 (by decide) rfl 0 rfl (fun _ h9 => h9) dX9_fits_82 ?_
    refine n_if_eq hx hb hw.1 hw.2.1 hw.2.2 (tgt := 102) dX9_fits_85 (by decide) (fun hw => ?_) (fun hw => ?_)
    · exact hB102  H locs ls hw hW (lv_sub hl [] rfl)
    · refine lv_iload_n hx hb dX9_fits_88 rfl (lv_at hl 0 rfl) ?_
      refine lv_aload_n hx hb dX9_fits_89 rfl (lv_at hl 1 rfl) ?_
      refine lv_aload_n hx hb dX9_fits_90 rfl (lv_at hl 1 rfl) ?_
      refine g_getN hx hb hts hown hK hE hW 2 rfl rfl uw_X1 7 (by decide) rfl 0 rfl (fun _ h9 => h9) dX9_fits_91 ?_
      refine n_iconst hx hb dX9_fits_94 ?_
      refine n_isub hx hb dX9_fits_95 ?_
      refine fin_CI hW (run_VN (k := 2) (As := [.int (iN ((σ 2 7) - 1))]) (rest := [.int (iN v2_81)]) 3 S hK hE hW (c_X1_timeOf l G κ tl ad σ ((σ 2 7) - 1) _ hw H.size) rfl rfl rfl al_238 sl_X1_timeOf al_5 al_239 hd_X1_timeOf.2 rfl rfl ⟨Nat.le_of_ble_eq_true rfl, Nat.le_of_ble_eq_true rfl⟩ rfl hl.1 rfl (Nat.le_of_ble_eq_true rfl) dX9_fits_96 ⟨Nat.zero_le _, Nat.zero_le _⟩) ?_
      intro r9 H locs hw hW
      refine n_icmp_lt hx hb hw.1 hw.2.1 hw.2.2.1 hw.2.2.2 (tgt := 106) dX9_fits_99 (by decide) (fun hw => ?_) (fun hw => ?_)
      · refine n_iconst hx hb dX9_fits_106 ?_
        exact hB107 0 H locs ls hw hW (lv_sub hl [] rfl)
      · exact hB102  H locs ls hw hW (lv_sub hl [] rfl)
  have hB79 : ∀   (H : Heap) (locs : List Loc) (ls : Array Slot), w_X9_fits_B79 κ σ post → Wd G (shW κ tl) ad σ (Aw ad (shW κ tl).length s.heap.size) s.heap H locs → lv_has ls 7 [] → W p l e ({ frames := 2, cells := 0, slots := 0, locals := 46 } : Room) s m ([.ref (ad 0), .int (iN v1), .int (iN v2)] : List Value).toArray below meth c H locs 0 0 (MQ below (QI G (shW κ tl) ad σ post (s.heap.size)) ([.ref (ad 0), .int (iN v1), .int (iN v2)] : List Value).toArray s 0 0 (Aw ad (shW κ tl).length s.heap.size)) (F0 m 79 ls []) := by
    intro  H locs ls hw hW hl
    unfold w_X9_fits_B79 at hw
    refine n_iconst hx hb dX9_fits_79 ?_
    exact rz_CI hx hb hr hlk hK hW (Or.inl rfl) hw dX9_fits_80
  have hB45 : ∀  (v2_45 : Int) (v4_45 : Int) (s0_45 : Int) (H : Heap) (locs : List Loc) (ls : Array Slot), w_X9_fits_B45 κ σ v2_45 v4_45 s0_45 post → Wd G (shW κ tl) ad σ (Aw ad (shW κ tl).length s.heap.size) s.heap H locs → lv_has ls 7 [(2, .int (iN v2_45)), (3, .ref (ad 2)), (4, .int (iN v4_45))] → W p l e ({ frames := 2, cells := 0, slots := 0, locals := 46 } : Room) s m ([.ref (ad 0), .int (iN v1), .int (iN v2)] : List Value).toArray below meth c H locs 0 0 (MQ below (QI G (shW κ tl) ad σ post (s.heap.size)) ([.ref (ad 0), .int (iN v1), .int (iN v2)] : List Value).toArray s 0 0 (Aw ad (shW κ tl).length s.heap.size)) (F0 m 45 ls [.int (iN s0_45)]) := by
    intro v2_45 v4_45 s0_45 H locs ls hw hW hl
    unfold w_X9_fits_B45 at hw
    refine lv_istore (lv' := [(5, .int (iN s0_45)), (2, .int (iN v2_45)), (3, .ref (ad 2)), (4, .int (iN v4_45))]) hx hb dX9_fits_45 hl (by decide) rfl (fun ls hl => ?_)
    refine lv_aload_n hx hb dX9_fits_47 rfl (lv_at hl 2 rfl) ?_
    refine lv_iload hx hb dX9_fits_48 (lv_at hl 3 rfl) ?_
    refine fin_CI hW (run_VN (k := 2) (As := [.int (iN v4_45)]) (rest := []) 3 S hK hE hW (c_X1_timeOf l G κ tl ad σ v4_45 _ hw H.size) rfl rfl rfl al_238 sl_X1_timeOf al_5 al_239 hd_X1_timeOf.2 rfl rfl ⟨Nat.le_of_ble_eq_true rfl, Nat.le_of_ble_eq_true rfl⟩ rfl hl.1 rfl (Nat.le_of_ble_eq_true rfl) dX9_fits_50 ⟨Nat.zero_le _, Nat.zero_le _⟩) ?_
    intro r11 H locs hw hW
    refine lv_istore (lv' := [(6, .int (iN r11)), (5, .int (iN s0_45)), (2, .int (iN v2_45)), (3, .ref (ad 2)), (4, .int (iN v4_45))]) hx hb dX9_fits_53 hl (by decide) rfl (fun ls hl => ?_)
    refine lv_iload_n hx hb dX9_fits_55 rfl (lv_at hl 2 rfl) ?_
    refine lv_iload hx hb dX9_fits_56 (lv_at hl 0 rfl) ?_
    refine n_icmp_le hx hb hw.1 hw.2.1 hw.2.2.1 hw.2.2.2 (tgt := 79) dX9_fits_58 (by decide) (fun hw => ?_) (fun hw => ?_)
    · exact hB79  H locs ls hw hW (lv_sub hl [] rfl)
    · refine lv_iload hx hb dX9_fits_61 (lv_at hl 1 rfl) ?_
      refine n_if_eq hx hb hw.1 hw.2.1 hw.2.2 (tgt := 81) dX9_fits_63 (by decide) (fun hw => ?_) (fun hw => ?_)
      · exact hB81 v2_45 H locs ls hw hW (lv_sub hl [2, 3] rfl)
      · refine lv_iload_n hx hb dX9_fits_66 rfl (lv_at hl 2 rfl) ?_
        refine lv_iload hx hb dX9_fits_67 (lv_at hl 0 rfl) ?_
        refine lv_aload_n hx hb dX9_fits_69 rfl (lv_at hl 3 rfl) ?_
        refine lv_iload hx hb dX9_fits_70 (lv_at hl 4 rfl) ?_
        refine fin_CI hW (run_VN (k := 2) (As := [.int (iN v4_45)]) (rest := [.int (iN r11), .int (iN v2_45)]) 4 S hK hE hW (c_X1_lengthOf l G κ tl ad σ v4_45 _ hw H.size) rfl rfl rfl al_242 sl_X1_lengthOf al_5 al_243 hd_X1_lengthOf.2 rfl rfl ⟨Nat.le_of_ble_eq_true rfl, Nat.le_of_ble_eq_true rfl⟩ rfl hl.1 rfl (Nat.le_of_ble_eq_true rfl) dX9_fits_72 ⟨Nat.zero_le _, Nat.zero_le _⟩) ?_
        intro r13 H locs hw hW
        refine n_iadd hx hb dX9_fits_75 ?_
        refine n_icmp_ge hx hb hw.1 hw.2.1 hw.2.2.1 hw.2.2.2 (tgt := 81) dX9_fits_76 (by decide) (fun hw => ?_) (fun hw => ?_)
        · exact hB81 v2_45 H locs ls hw hW (lv_sub hl [2, 3] rfl)
        · exact hB79  H locs ls hw hW (lv_sub hl [] rfl)
  have hB40 : ∀  (v2_40 : Int) (v4_40 : Int) (H : Heap) (locs : List Loc) (ls : Array Slot), w_X9_fits_B40 κ σ v2_40 v4_40 post → Wd G (shW κ tl) ad σ (Aw ad (shW κ tl).length s.heap.size) s.heap H locs → lv_has ls 7 [(2, .int (iN v2_40)), (3, .ref (ad 2)), (4, .int (iN v4_40))] → W p l e ({ frames := 2, cells := 0, slots := 0, locals := 46 } : Room) s m ([.ref (ad 0), .int (iN v1), .int (iN v2)] : List Value).toArray below meth c H locs 0 0 (MQ below (QI G (shW κ tl) ad σ post (s.heap.size)) ([.ref (ad 0), .int (iN v1), .int (iN v2)] : List Value).toArray s 0 0 (Aw ad (shW κ tl).length s.heap.size)) (F0 m 40 ls []) := by
    intro v2_40 v4_40 H locs ls hw hW hl
    unfold w_X9_fits_B40 at hw
    refine n_iconst hx hb dX9_fits_40 ?_
    refine lv_goto (tgt := 45) hx hb dX9_fits_41 (by decide) ?_
    exact hB45 v2_40 v4_40 1 H locs ls hw hW (lv_sub hl [0, 1, 2] rfl)
  unfold w_X9_fits at hw
  refine lv_aload_n hx hb dX9_fits_0 rfl (lv_at hl 0 rfl) ?_
  refine g_getr hx hb hts hown hK hW 0 rfl (q := 1) rfl uw_X9 1 (by decide) rfl al_201 (fun _ h9 => h9) dX9_fits_1 ?_
  refine g_getr hx hb hts hown hK hW 1 rfl (q := 2) (hcP hκ) (uwP hκ) 0 (by decide) rfl al_91 (fun _ h9 => h9) dX9_fits_4 ?_
  refine lv_astore_n (lv' := [(3, .ref (ad 2)), (0, .ref (ad 0)), (1, .int (iN v1)), (2, .int (iN v2))]) hx hb dX9_fits_7 rfl hl (by decide) rfl (fun ls hl => ?_)
  refine lv_aload_n hx hb dX9_fits_8 rfl (lv_at hl 0 rfl) ?_
  refine lv_iload_n hx hb dX9_fits_9 rfl (lv_at hl 2 rfl) ?_
  refine lv_aload_n hx hb dX9_fits_10 rfl (lv_at hl 0 rfl) ?_
  refine g_getN hx hb hts hown hK hE hW 2 rfl rfl uw_X1 7 (by decide) rfl 0 rfl (fun _ h9 => h9) dX9_fits_11 ?_
  refine fin_CI hW (run_VN (k := 2) (As := [.int (iN v1), .int (iN (σ 2 7))]) (rest := []) 2 S hK hE hW (c_X1_lastOfHand l G κ tl ad σ v1 (σ 2 7) _ hw s.heap.size) rfl rfl rfl al_233 sl_X1_lastOfHand al_5 al_234 hd_X1_lastOfHand.2 rfl rfl ⟨Nat.le_of_ble_eq_true rfl, Nat.le_of_ble_eq_true rfl⟩ rfl hl.1 rfl (Nat.le_of_ble_eq_true rfl) dX9_fits_14 ⟨Nat.zero_le _, Nat.zero_le _⟩) ?_
  intro r1 H locs hw hW
  refine lv_istore (lv' := [(4, .int (iN r1)), (3, .ref (ad 2)), (0, .ref (ad 0)), (1, .int (iN v1)), (2, .int (iN v2))]) hx hb dX9_fits_17 hl (by decide) rfl (fun ls hl => ?_)
  refine lv_iload hx hb dX9_fits_19 (lv_at hl 0 rfl) ?_
  refine n_if_lt hx hb hw.1 hw.2.1 hw.2.2 (tgt := 81) dX9_fits_21 (by decide) (fun hw => ?_) (fun hw => ?_)
  · exact hB81 v2 H locs ls hw hW (lv_sub hl [4, 1] rfl)
  · refine lv_aload_n hx hb dX9_fits_24 rfl (lv_at hl 2 rfl) ?_
    refine g_get hx hb hts hown hK hW 0 rfl rfl uw_X9 0 (by decide) rfl al_200 (fun _ h9 => h9) dX9_fits_25 ?_
    refine n_iconst hx hb dX9_fits_28 ?_
    refine n_icmp_eq hx hb hw.1 (rg_c _ rfl) hw.2.1 hw.2.2 (tgt := 40) dX9_fits_29 (by decide) (fun hw => ?_) (fun hw => ?_)
    · exact hB40 v2 r1 H locs ls hw hW (lv_sub hl [4, 1, 0] rfl)
    · refine lv_aload_n hx hb dX9_fits_32 rfl (lv_at hl 2 rfl) ?_
      refine g_get hx hb hts hown hK hW 0 rfl rfl uw_X9 0 (by decide) rfl al_200 (fun _ h9 => h9) dX9_fits_33 ?_
      refine n_iconst hx hb dX9_fits_36 ?_
      refine n_icmp_ne hx hb hw.1 (rg_c _ rfl) hw.2.1 hw.2.2 (tgt := 44) dX9_fits_37 (by decide) (fun hw => ?_) (fun hw => ?_)
      · refine n_iconst hx hb dX9_fits_44 ?_
        exact hB45 v2 r1 0 H locs ls hw hW (lv_sub hl [4, 1, 0] rfl)
      · exact hB40 v2 r1 H locs ls hw hW (lv_sub hl [4, 1, 0] rfl)
set_option maxHeartbeats 4000000 in
set_option maxRecDepth 100000 in
theorem c_X9_forgetAnswers_f (l : Launch) (G : Gt) (κ : Nat) (hκ : κ < 5)  (ad : Nat → Nat)  (σ : Mem)  (post : Mem → Prop) (hw : w_X9_forgetAnswers_f κ σ  post) : CV l yX9_forgetAnswers (Cond.code yX9_forgetAnswers cX9_forgetAnswers 1 none) ({ frames := 0, cells := 0, slots := 0, locals := 0 } : Room) G (shW κ false) ad σ [.ref (ad 0)] post := by
  refine s_all (y := yX9_forgetAnswers) (code := cX9_forgetAnswers) (maxL := 1) (ret := none) (rm := ({ frames := 0, cells := 0, slots := 0, locals := 0 } : Room)) (av := [.ref (ad 0)]) (Qc := fun sz => QV G (shW κ false) ad post (sz)) (by decide) (Nat.le_of_ble_eq_true rfl) ?_
  intro p e s m below meth c S hr hlk _ hK hE hW ls hl
  obtain ⟨hx, hb, hml, hown, hts⟩ := id S
  replace hl : lv_has ls 1 [(0, .ref (ad 0))] := hl
  have hB23 : ∀ (σ_23 : Mem)  (H : Heap) (locs : List Loc) (ls : Array Slot), w_X9_forgetAnswers_f_B23 κ σ_23 post → Wd G (shW κ false) ad σ_23 (Aw ad (shW κ false).length s.heap.size) s.heap H locs → lv_has ls 1 [] → W p l e ({ frames := 0, cells := 0, slots := 0, locals := 0 } : Room) s m ([.ref (ad 0)] : List Value).toArray below meth c H locs 0 0 (MQ below (QV G (shW κ false) ad post (s.heap.size)) ([.ref (ad 0)] : List Value).toArray s 0 0 (Aw ad (shW κ false).length s.heap.size)) (F0 m 23 ls []) := by
    intro σ_23 H locs ls hw hW hl
    unfold w_X9_forgetAnswers_f_B23 at hw
    exact r_CV hx hb hr hlk hK hW hw dX9_forgetAnswers_23
  unfold w_X9_forgetAnswers_f at hw
  refine lv_aload_n hx hb dX9_forgetAnswers_0 rfl (lv_at hl 0 rfl) ?_
  refine g_getr hx hb hts hown hK hW 0 rfl (q := 14) rfl uw_X9 2 (by decide) rfl al_202 (fun _ h9 => h9) dX9_forgetAnswers_1 ?_
  refine n_iconst hx hb dX9_forgetAnswers_4 ?_
  refine g_putN hx hb hts hown hK hE hW 14 rfl rfl uw_X3 tyX3 tyX3_ok nmX3 5 (by decide) rfl 7 rfl (fun _ h9 => h9) rfl (nar_z (Or.inl rfl)) rfl dX9_forgetAnswers_5 (fun σ1 H locs hτ hW => ?_)
  replace hw := hw σ1 hτ
  refine lv_aload_n hx hb dX9_forgetAnswers_8 rfl (lv_at hl 0 rfl) ?_
  refine g_getnull hx hb hts hown hK hW 0 rfl rfl uw_X9 3 (by decide) rfl al_203 (fun _ h9 => h9) dX9_forgetAnswers_9 ?_
  refine lv_ifnullN hx hb dX9_forgetAnswers_12 (tgt := 23) (by decide) ?_
  exact hB23 σ1 H locs ls hw hW (lv_sub hl [] rfl)
set_option maxHeartbeats 4000000 in
set_option maxRecDepth 100000 in
theorem c_X9_forgetAnswers_t (l : Launch) (G : Gt) (κ : Nat) (hκ : κ < 5)  (ad : Nat → Nat)  (σ : Mem)  (post : Mem → Prop) (hw : w_X9_forgetAnswers_t κ σ  post) : CV l yX9_forgetAnswers (Cond.code yX9_forgetAnswers cX9_forgetAnswers 1 none) ({ frames := 0, cells := 0, slots := 0, locals := 0 } : Room) G (shW κ true) ad σ [.ref (ad 0)] post := by
  refine s_all (y := yX9_forgetAnswers) (code := cX9_forgetAnswers) (maxL := 1) (ret := none) (rm := ({ frames := 0, cells := 0, slots := 0, locals := 0 } : Room)) (av := [.ref (ad 0)]) (Qc := fun sz => QV G (shW κ true) ad post (sz)) (by decide) (Nat.le_of_ble_eq_true rfl) ?_
  intro p e s m below meth c S hr hlk _ hK hE hW ls hl
  obtain ⟨hx, hb, hml, hown, hts⟩ := id S
  replace hl : lv_has ls 1 [(0, .ref (ad 0))] := hl
  have hB23 : ∀ (σ_23 : Mem)  (H : Heap) (locs : List Loc) (ls : Array Slot), w_X9_forgetAnswers_t_B23 κ σ_23 post → Wd G (shW κ true) ad σ_23 (Aw ad (shW κ true).length s.heap.size) s.heap H locs → lv_has ls 1 [] → W p l e ({ frames := 0, cells := 0, slots := 0, locals := 0 } : Room) s m ([.ref (ad 0)] : List Value).toArray below meth c H locs 0 0 (MQ below (QV G (shW κ true) ad post (s.heap.size)) ([.ref (ad 0)] : List Value).toArray s 0 0 (Aw ad (shW κ true).length s.heap.size)) (F0 m 23 ls []) := by
    intro σ_23 H locs ls hw hW hl
    unfold w_X9_forgetAnswers_t_B23 at hw
    exact r_CV hx hb hr hlk hK hW hw dX9_forgetAnswers_23
  unfold w_X9_forgetAnswers_t at hw
  refine lv_aload_n hx hb dX9_forgetAnswers_0 rfl (lv_at hl 0 rfl) ?_
  refine g_getr hx hb hts hown hK hW 0 rfl (q := 14) rfl uw_X9 2 (by decide) rfl al_202 (fun _ h9 => h9) dX9_forgetAnswers_1 ?_
  refine n_iconst hx hb dX9_forgetAnswers_4 ?_
  refine g_putN hx hb hts hown hK hE hW 14 rfl rfl uw_X3 tyX3 tyX3_ok nmX3 5 (by decide) rfl 7 rfl (fun _ h9 => h9) rfl (nar_z (Or.inl rfl)) rfl dX9_forgetAnswers_5 (fun σ1 H locs hτ hW => ?_)
  replace hw := hw σ1 hτ
  refine lv_aload_n hx hb dX9_forgetAnswers_8 rfl (lv_at hl 0 rfl) ?_
  refine g_getr hx hb hts hown hK hW 0 rfl (q := 35) rfl uw_X9 3 (by decide) rfl al_203 (fun _ h9 => h9) dX9_forgetAnswers_9 ?_
  refine lv_ifnull hx hb dX9_forgetAnswers_12 ?_
  refine lv_aload_n hx hb dX9_forgetAnswers_15 rfl (lv_at hl 0 rfl) ?_
  refine g_getr hx hb hts hown hK hW 0 rfl (q := 35) rfl uw_X9 3 (by decide) rfl al_203 (fun _ h9 => h9) dX9_forgetAnswers_16 ?_
  refine n_iconst hx hb dX9_forgetAnswers_19 ?_
  refine g_putN hx hb hts hown hK hE hW 35 rfl rfl uw_X7 tyX7 tyX7_ok nmX7 5 (by decide) rfl 8 rfl (fun _ h9 => h9) rfl rfl rfl dX9_forgetAnswers_20 (fun σ2 H locs hτ hW => ?_)
  replace hw := hw σ2 hτ
  exact hB23 σ2 H locs ls hw hW (lv_sub hl [] rfl)
theorem c_X9_forgetAnswers (l : Launch) (G : Gt) (κ : Nat) (hκ : κ < 5) (tl : Bool) (ad : Nat → Nat) (σ : Mem) (post : Mem → Prop) (hw : w_X9_forgetAnswers κ tl σ post) : CV l yX9_forgetAnswers (Cond.code yX9_forgetAnswers cX9_forgetAnswers 1 none) ({ frames := 0, cells := 0, slots := 0, locals := 0 } : Room) G (shW κ tl) ad σ [.ref (ad 0)] post := by
  cases tl
  · exact c_X9_forgetAnswers_f l G κ hκ ad σ post hw
  · exact c_X9_forgetAnswers_t l G κ hκ ad σ post hw
set_option maxHeartbeats 4000000 in
set_option maxRecDepth 100000 in
theorem c_X9_event (l : Launch) (G : Gt) (κ : Nat) (hκ : κ < 5) (tl : Bool) (ad : Nat → Nat)  (σ : Mem) (v1 : Int) (v2 : Int) (v3 : Int) (v4 : Int) (v5 : Int) (v6 : Int) (post : Int → Mem → Prop) (hw : w_X9_event κ tl σ v1 v2 v3 v4 v5 v6 post) : CM l yX9_event (Cond.code yX9_event cX9_event 8 (some .int)) ({ frames := 3, cells := 0, slots := 0, locals := 72 } : Room) G (shW κ tl) ad σ [.ref (ad 0), .int (iN v1), .int (iN v2), .int (iN v3), .int (iN v4), .int (iN v5), .int (iN v6)] post := by
  refine s_all (y := yX9_event) (code := cX9_event) (maxL := 8) (ret := (some .int)) (rm := ({ frames := 3, cells := 0, slots := 0, locals := 72 } : Room)) (av := [.ref (ad 0), .int (iN v1), .int (iN v2), .int (iN v3), .int (iN v4), .int (iN v5), .int (iN v6)]) (Qc := fun sz => QM G (shW κ tl) ad post (sz)) (by decide) (Nat.le_of_ble_eq_true rfl) ?_
  intro p e s m below meth c S hr hlk _ hK hE hW ls hl
  obtain ⟨hx, hb, hml, hown, hts⟩ := id S
  replace hl : lv_has ls 8 [(0, .ref (ad 0)), (1, .int (iN v1)), (2, .int (iN v2)), (3, .int (iN v3)), (4, .int (iN v4)), (5, .int (iN v5)), (6, .int (iN v6))] := hl
  obtain ⟨t0, hZ0, hT0⟩ := hE.2.1
  have hB60 : ∀ (σ_60 : Mem)  (H : Heap) (locs : List Loc) (ls : Array Slot), w_X9_event_B60 κ tl σ_60 post → Wd G (shW κ tl) ad σ_60 (Aw ad (shW κ tl).length s.heap.size) s.heap H locs → lv_has ls 8 [] → W p l e ({ frames := 3, cells := 0, slots := 0, locals := 72 } : Room) s m ([.ref (ad 0), .int (iN v1), .int (iN v2), .int (iN v3), .int (iN v4), .int (iN v5), .int (iN v6)] : List Value).toArray below meth c H locs 0 0 (MQ below (QM G (shW κ tl) ad post (s.heap.size)) ([.ref (ad 0), .int (iN v1), .int (iN v2), .int (iN v3), .int (iN v4), .int (iN v5), .int (iN v6)] : List Value).toArray s 0 0 (Aw ad (shW κ tl).length s.heap.size)) (F0 m 60 ls []) := by
    intro σ_60 H locs ls hw hW hl
    unfold w_X9_event_B60 at hw
    refine n_iconst hx hb dX9_event_60 ?_
    exact r_CM hx hb hr hlk hK hW hw dX9_event_61
  unfold w_X9_event at hw
  refine lv_iload hx hb dX9_event_0 (lv_at hl 4 rfl) ?_
  refine lv_iload hx hb dX9_event_2 (lv_at hl 5 rfl) ?_
  refine lv_iload hx hb dX9_event_4 (lv_at hl 6 rfl) ?_
  refine fin_CI hW (run_SN (As := [.int (iN v4), .int (iN v5), .int (iN v6)]) (rest := []) 1 S hK hE hW (c_X1_howMany l G κ tl ad σ v4 v5 v6 _ hw s.heap.size) rfl al_218 al_5 al_219 hd_X1_howMany.2 rfl rfl ⟨Nat.le_of_ble_eq_true rfl, Nat.le_of_ble_eq_true rfl⟩ rfl hl.1 rfl (Nat.le_of_ble_eq_true rfl) dX9_event_6 ⟨Nat.zero_le _, Nat.zero_le _⟩) ?_
  intro r1 H locs hw hW
  refine lv_istore (lv' := [(7, .int (iN r1)), (0, .ref (ad 0)), (1, .int (iN v1)), (2, .int (iN v2)), (3, .int (iN v3)), (4, .int (iN v4)), (5, .int (iN v5)), (6, .int (iN v6))]) hx hb dX9_event_9 hl (by decide) rfl (fun ls hl => ?_)
  refine lv_aload_n hx hb dX9_event_11 rfl (lv_at hl 1 rfl) ?_
  refine lv_iload_n hx hb dX9_event_12 rfl (lv_at hl 2 rfl) ?_
  refine fin_CI hW (run_V (k := 0) (As := [.int (iN v1)]) (rest := []) S hK hE hW (c_X9_hasHand l G κ hκ tl ad σ v1 _ hw H.size) rfl rfl al_220 al_222 sl_X9_hasHand al_1 al_223 hd_X9_hasHand rfl rfl ⟨Nat.le_of_ble_eq_true rfl, Nat.le_of_ble_eq_true rfl⟩ rfl hl.1 rfl (Nat.le_of_ble_eq_true rfl) dX9_event_13 ⟨Nat.zero_le _, Nat.zero_le _⟩) ?_
  intro r3 H locs hw hW
  refine n_if_eq hx hb hw.1 hw.2.1 hw.2.2 (tgt := 60) dX9_event_16 (by decide) (fun hw => ?_) (fun hw => ?_)
  · exact hB60 σ H locs ls hw hW (lv_sub hl [] rfl)
  · refine lv_iload_n hx hb dX9_event_19 rfl (lv_at hl 3 rfl) ?_
    refine n_if_lt hx hb hw.1 hw.2.1 hw.2.2 (tgt := 60) dX9_event_20 (by decide) (fun hw => ?_) (fun hw => ?_)
    · exact hB60 σ H locs ls hw hW (lv_sub hl [] rfl)
    · refine lv_iload_n hx hb dX9_event_23 rfl (lv_at hl 3 rfl) ?_
      refine n_ldc (n := 100000) hx hb hown (hts _ (List.mem_cons_of_mem _ al_224)) (by decide) dX9_event_24 ?_
      refine n_icmp_gt hx hb hw.1 (rg_c _ rfl) hw.2.1 hw.2.2 (tgt := 60) dX9_event_26 (by decide) (fun hw => ?_) (fun hw => ?_)
      · exact hB60 σ H locs ls hw hW (lv_sub hl [] rfl)
      · refine lv_iload_n hx hb dX9_event_29 rfl (lv_at hl 4 rfl) ?_
        refine n_iconst hx hb dX9_event_30 ?_
        refine n_icmp_lt hx hb hw.1 (rg_c _ rfl) hw.2.1 hw.2.2 (tgt := 60) dX9_event_31 (by decide) (fun hw => ?_) (fun hw => ?_)
        · exact hB60 σ H locs ls hw hW (lv_sub hl [] rfl)
        · refine lv_iload_n hx hb dX9_event_34 rfl (lv_at hl 4 rfl) ?_
          refine n_sipush hx hb dX9_event_35 (by decide) ?_
          refine n_icmp_gt hx hb hw.1 (rg_c _ rfl) hw.2.1 hw.2.2 (tgt := 60) dX9_event_38 (by decide) (fun hw => ?_) (fun hw => ?_)
          · exact hB60 σ H locs ls hw hW (lv_sub hl [] rfl)
          · refine lv_iload hx hb dX9_event_41 (lv_at hl 0 rfl) ?_
            refine n_iconst hx hb dX9_event_43 ?_
            refine n_icmp_lt hx hb hw.1 (rg_c _ rfl) hw.2.1 hw.2.2 (tgt := 60) dX9_event_44 (by decide) (fun hw => ?_) (fun hw => ?_)
            · exact hB60 σ H locs ls hw hW (lv_sub hl [] rfl)
            · refine lv_iload hx hb dX9_event_47 (lv_at hl 0 rfl) ?_
              refine va_gets hx hb hZ0 hW.2.2 hown (hts _ (List.mem_cons_of_mem _ al_225)) (fun _ h9 => h9) dX9_event_49 ?_
              refine lv_aload_n hx hb dX9_event_52 rfl (lv_at hl 1 rfl) ?_
              refine g_get hx hb hts hown hK hW 0 rfl rfl uw_X9 0 (by decide) rfl al_200 (fun _ h9 => h9) dX9_event_53 ?_
              refine g_tld hx hb hT0 hW.2.2 hw.1 dX9_event_56 ?_
              replace hw := hw.2
              refine n_icmp_le hx hb hw.1 hw.2.1 hw.2.2.1 hw.2.2.2 (tgt := 62) dX9_event_57 (by decide) (fun hw => ?_) (fun hw => ?_)
              · refine lv_aload_n hx hb dX9_event_62 rfl (lv_at hl 1 rfl) ?_
                refine lv_iload_n hx hb dX9_event_63 rfl (lv_at hl 2 rfl) ?_
                refine lv_iload_n hx hb dX9_event_64 rfl (lv_at hl 3 rfl) ?_
                refine fin_CI hW (run_V (k := 0) (As := [.int (iN v1), .int (iN v2)]) (rest := []) S hK hE hW (c_X9_fits l G κ hκ tl ad σ v1 v2 _ hw H.size) rfl rfl al_227 al_229 sl_X9_fits al_1 al_230 hd_X9_fits rfl rfl ⟨Nat.le_of_ble_eq_true rfl, Nat.le_of_ble_eq_true rfl⟩ rfl hl.1 rfl (Nat.le_of_ble_eq_true rfl) dX9_event_65 ⟨Nat.zero_le _, Nat.zero_le _⟩) ?_
                intro r5 H locs hw hW
                refine n_if_ne hx hb hw.1 hw.2.1 hw.2.2 (tgt := 74) dX9_event_68 (by decide) (fun hw => ?_) (fun hw => ?_)
                · refine lv_aload_n hx hb dX9_event_74 rfl (lv_at hl 1 rfl) ?_
                  refine g_getr hx hb hts hown hK hW 0 rfl (q := 1) rfl uw_X9 1 (by decide) rfl al_201 (fun _ h9 => h9) dX9_event_75 ?_
                  refine g_getr hx hb hts hown hK hW 1 rfl (q := 2) (hcP hκ) (uwP hκ) 0 (by decide) rfl al_91 (fun _ h9 => h9) dX9_event_78 ?_
                  refine g_getN hx hb hts hown hK hE hW 2 rfl rfl uw_X1 7 (by decide) rfl 0 rfl (fun _ h9 => h9) dX9_event_81 ?_
                  refine n_bipush hx hb dX9_event_84 (by decide) ?_
                  refine n_icmp_lt hx hb hw.1 (rg_c _ rfl) hw.2.1 hw.2.2 (tgt := 92) dX9_event_86 (by decide) (fun hw => ?_) (fun hw => ?_)
                  · refine lv_aload_n hx hb dX9_event_92 rfl (lv_at hl 1 rfl) ?_
                    refine g_getr hx hb hts hown hK hW 0 rfl (q := 1) rfl uw_X9 1 (by decide) rfl al_201 (fun _ h9 => h9) dX9_event_93 ?_
                    refine g_getr hx hb hts hown hK hW 1 rfl (q := 2) (hcP hκ) (uwP hκ) 0 (by decide) rfl al_91 (fun _ h9 => h9) dX9_event_96 ?_
                    refine lv_iload_n hx hb dX9_event_99 rfl (lv_at hl 2 rfl) ?_
                    refine lv_iload_n hx hb dX9_event_100 rfl (lv_at hl 3 rfl) ?_
                    refine lv_iload_n hx hb dX9_event_101 rfl (lv_at hl 4 rfl) ?_
                    refine lv_iload hx hb dX9_event_102 (lv_at hl 5 rfl) ?_
                    refine lv_iload hx hb dX9_event_104 (lv_at hl 6 rfl) ?_
                    refine lv_iload hx hb dX9_event_106 (lv_at hl 7 rfl) ?_
                    refine fin_CV hW (run_VN (k := 2) (As := [.int (iN v1), .int (iN v2), .int (iN v3), .int (iN v4), .int (iN v5), .int (iN v6)]) (rest := []) 5 S hK hE hW (c_X1_add l G κ tl ad σ v1 v2 v3 v4 v5 v6 _ hw H.size) rfl rfl rfl al_246 sl_X1_add al_5 al_247 hd_X1_add.2 rfl rfl ⟨Nat.le_of_ble_eq_true rfl, Nat.le_of_ble_eq_true rfl⟩ rfl hl.1 rfl (Nat.le_of_ble_eq_true rfl) dX9_event_108 ⟨Nat.zero_le _, Nat.zero_le _⟩) ?_
                    intro σ8 H locs hw hW
                    refine lv_aload_n hx hb dX9_event_111 rfl (lv_at hl 1 rfl) ?_
                    refine fin_CV hW (run_V (k := 0) (As := []) (rest := []) S hK hE hW (c_X9_forgetAnswers l G κ hκ tl ad σ8 _ hw H.size) rfl rfl al_249 al_251 sl_X9_forgetAnswers al_1 al_252 hd_X9_forgetAnswers rfl rfl ⟨Nat.le_of_ble_eq_true rfl, Nat.le_of_ble_eq_true rfl⟩ rfl hl.1 rfl (Nat.le_of_ble_eq_true rfl) dX9_event_112 ⟨Nat.zero_le _, Nat.zero_le _⟩) ?_
                    intro σ10 H locs hw hW
                    refine lv_aload_n hx hb dX9_event_115 rfl (lv_at hl 1 rfl) ?_
                    refine g_getr hx hb hts hown hK hW 0 rfl (q := 1) rfl uw_X9 1 (by decide) rfl al_201 (fun _ h9 => h9) dX9_event_116 ?_
                    refine g_getr hx hb hts hown hK hW 1 rfl (q := 2) (hcP hκ) (uwP hκ) 0 (by decide) rfl al_91 (fun _ h9 => h9) dX9_event_119 ?_
                    refine g_getN hx hb hts hown hK hE hW 2 rfl rfl uw_X1 7 (by decide) rfl 0 rfl (fun _ h9 => h9) dX9_event_122 ?_
                    refine n_iconst hx hb dX9_event_125 ?_
                    refine n_isub hx hb dX9_event_126 ?_
                    exact r_CM hx hb hr hlk hK hW hw dX9_event_127
                  · refine n_bipush hx hb dX9_event_89 (by decide) ?_
                    exact r_CM hx hb hr hlk hK hW hw dX9_event_91
                · refine n_bipush hx hb dX9_event_71 (by decide) ?_
                  exact r_CM hx hb hr hlk hK hW hw dX9_event_73
              · exact hB60 σ H locs ls hw hW (lv_sub hl [] rfl)
set_option maxHeartbeats 4000000 in
set_option maxRecDepth 100000 in
theorem c_X9_drop (l : Launch) (G : Gt) (κ : Nat) (hκ : κ < 5) (tl : Bool) (ad : Nat → Nat)  (σ : Mem)  (post : Int → Mem → Prop) (hw : w_X9_drop κ tl σ  post) : CM l yX9_drop (Cond.code yX9_drop cX9_drop 1 (some .int)) ({ frames := 1, cells := 0, slots := 0, locals := 23 } : Room) G (shW κ tl) ad σ [.ref (ad 0)] post := by
  refine s_all (y := yX9_drop) (code := cX9_drop) (maxL := 1) (ret := (some .int)) (rm := ({ frames := 1, cells := 0, slots := 0, locals := 23 } : Room)) (av := [.ref (ad 0)]) (Qc := fun sz => QM G (shW κ tl) ad post (sz)) (by decide) (Nat.le_of_ble_eq_true rfl) ?_
  intro p e s m below meth c S hr hlk _ hK hE hW ls hl
  obtain ⟨hx, hb, hml, hown, hts⟩ := id S
  replace hl : lv_has ls 1 [(0, .ref (ad 0))] := hl
  unfold w_X9_drop at hw
  refine lv_aload_n hx hb dX9_drop_0 rfl (lv_at hl 0 rfl) ?_
  refine g_getr hx hb hts hown hK hW 0 rfl (q := 1) rfl uw_X9 1 (by decide) rfl al_201 (fun _ h9 => h9) dX9_drop_1 ?_
  refine g_getr hx hb hts hown hK hW 1 rfl (q := 2) (hcP hκ) (uwP hκ) 0 (by decide) rfl al_91 (fun _ h9 => h9) dX9_drop_4 ?_
  refine g_getN hx hb hts hown hK hE hW 2 rfl rfl uw_X1 7 (by decide) rfl 0 rfl (fun _ h9 => h9) dX9_drop_7 ?_
  refine n_if_ne hx hb hw.1 hw.2.1 hw.2.2 (tgt := 16) dX9_drop_10 (by decide) (fun hw => ?_) (fun hw => ?_)
  · refine lv_aload_n hx hb dX9_drop_16 rfl (lv_at hl 0 rfl) ?_
    refine g_getr hx hb hts hown hK hW 0 rfl (q := 1) rfl uw_X9 1 (by decide) rfl al_201 (fun _ h9 => h9) dX9_drop_17 ?_
    refine g_getr hx hb hts hown hK hW 1 rfl (q := 2) (hcP hκ) (uwP hκ) 0 (by decide) rfl al_91 (fun _ h9 => h9) dX9_drop_20 ?_
    refine lv_dup hx hb dX9_drop_23 rfl ?_
    refine g_getN hx hb hts hown hK hE hW 2 rfl rfl uw_X1 7 (by decide) rfl 0 rfl (fun _ h9 => h9) dX9_drop_24 ?_
    refine n_iconst hx hb dX9_drop_27 ?_
    refine n_isub hx hb dX9_drop_28 ?_
    refine g_putN hx hb hts hown hK hE hW 2 rfl rfl uw_X1 tyX1 tyX1_ok nmX1 7 (by decide) rfl 0 rfl (fun _ h9 => h9) rfl rfl rfl dX9_drop_29 (fun σ1 H locs hτ hW => ?_)
    replace hw := hw σ1 hτ
    refine lv_aload_n hx hb dX9_drop_32 rfl (lv_at hl 0 rfl) ?_
    refine g_getr hx hb hts hown hK hW 0 rfl (q := 1) rfl uw_X9 1 (by decide) rfl al_201 (fun _ h9 => h9) dX9_drop_33 ?_
    refine lv_aload_n hx hb dX9_drop_36 rfl (lv_at hl 0 rfl) ?_
    refine g_getr hx hb hts hown hK hW 0 rfl (q := 1) rfl uw_X9 1 (by decide) rfl al_201 (fun _ h9 => h9) dX9_drop_37 ?_
    refine g_getN hx hb hts hown hK hE hW 1 rfl (hcP hκ) (uwP hκ) 6 (by decide) rfl 4 rfl (fun _ h9 => h9) dX9_drop_40 ?_
    refine lv_aload_n hx hb dX9_drop_43 rfl (lv_at hl 0 rfl) ?_
    refine g_getr hx hb hts hown hK hW 0 rfl (q := 1) rfl uw_X9 1 (by decide) rfl al_201 (fun _ h9 => h9) dX9_drop_44 ?_
    refine g_getr hx hb hts hown hK hW 1 rfl (q := 2) (hcP hκ) (uwP hκ) 0 (by decide) rfl al_91 (fun _ h9 => h9) dX9_drop_47 ?_
    refine g_getN hx hb hts hown hK hE hW 2 rfl rfl uw_X1 7 (by decide) rfl 0 rfl (fun _ h9 => h9) dX9_drop_50 ?_
    refine n_mmin hx hb (hml.trans hl.1.symm) hown (hts _ (List.mem_cons_of_mem _ al_23)) (hts _ (List.mem_cons_of_mem _ al_24)) (hts _ (List.mem_cons_of_mem _ al_2)) (hts _ (List.mem_cons_of_mem _ al_25)) (Nat.le_of_ble_eq_true rfl) (Nat.le_of_ble_eq_true rfl) (Nat.zero_le _) (Nat.zero_le _) hw.1 hw.2.1 dX9_drop_53 ?_
    replace hw := hw.2.2
    refine g_putN hx hb hts hown hK hE hW 1 rfl (hcP hκ) (uwP hκ) tyX0 tyX0_ok nmX0 6 (by decide) rfl 4 rfl (fun _ h9 => h9) rfl rfl rfl dX9_drop_56 (fun σ2 H locs hτ hW => ?_)
    replace hw := hw σ2 hτ
    refine lv_aload_n hx hb dX9_drop_59 rfl (lv_at hl 0 rfl) ?_
    refine fin_CV hW (run_V (k := 0) (As := []) (rest := []) S hK hE hW (c_X9_forgetAnswers l G κ hκ tl ad σ2 _ hw H.size) rfl rfl al_249 al_251 sl_X9_forgetAnswers al_1 al_252 hd_X9_forgetAnswers rfl rfl ⟨Nat.le_of_ble_eq_true rfl, Nat.le_of_ble_eq_true rfl⟩ rfl hl.1 rfl (Nat.le_of_ble_eq_true rfl) dX9_drop_60 ⟨Nat.zero_le _, Nat.zero_le _⟩) ?_
    intro σ4 H locs hw hW
    refine lv_aload_n hx hb dX9_drop_63 rfl (lv_at hl 0 rfl) ?_
    refine g_getr hx hb hts hown hK hW 0 rfl (q := 1) rfl uw_X9 1 (by decide) rfl al_201 (fun _ h9 => h9) dX9_drop_64 ?_
    refine g_getr hx hb hts hown hK hW 1 rfl (q := 2) (hcP hκ) (uwP hκ) 0 (by decide) rfl al_91 (fun _ h9 => h9) dX9_drop_67 ?_
    refine g_getN hx hb hts hown hK hE hW 2 rfl rfl uw_X1 7 (by decide) rfl 0 rfl (fun _ h9 => h9) dX9_drop_70 ?_
    exact r_CM hx hb hr hlk hK hW hw dX9_drop_73
  · refine n_bipush hx hb dX9_drop_13 (by decide) ?_
    exact r_CM hx hb hr hlk hK hW hw dX9_drop_15
set_option maxHeartbeats 4000000 in
set_option maxRecDepth 100000 in
theorem c_X9_bound (l : Launch) (G : Gt) (κ : Nat) (hκ : κ < 5) (tl : Bool) (ad : Nat → Nat)  (σ : Mem) (v1 : Int) (v2 : Int) (post : Int → Mem → Prop) (hw : w_X9_bound κ tl σ v1 v2 post) : CM l yX9_bound (Cond.code yX9_bound cX9_bound 4 (some .int)) ({ frames := 1, cells := 0, slots := 0, locals := 22 } : Room) G (shW κ tl) ad σ [.ref (ad 0), .int (iN v1), .int (iN v2)] post := by
  refine s_all (y := yX9_bound) (code := cX9_bound) (maxL := 4) (ret := (some .int)) (rm := ({ frames := 1, cells := 0, slots := 0, locals := 22 } : Room)) (av := [.ref (ad 0), .int (iN v1), .int (iN v2)]) (Qc := fun sz => QM G (shW κ tl) ad post (sz)) (by decide) (Nat.le_of_ble_eq_true rfl) ?_
  intro p e s m below meth c S hr hlk _ hK hE hW ls hl
  obtain ⟨hx, hb, hml, hown, hts⟩ := id S
  replace hl : lv_has ls 4 [(0, .ref (ad 0)), (1, .int (iN v1)), (2, .int (iN v2))] := hl
  obtain ⟨t1, hZ1, hT1⟩ := hE.2.2.1
  obtain ⟨t2, hZ2, hT2⟩ := hE.2.2.2.1
  have hB30 : ∀ (σ_30 : Mem)  (H : Heap) (locs : List Loc) (ls : Array Slot), w_X9_bound_B30 κ tl σ_30 post → Wd G (shW κ tl) ad σ_30 (Aw ad (shW κ tl).length s.heap.size) s.heap H locs → lv_has ls 4 [] → W p l e ({ frames := 1, cells := 0, slots := 0, locals := 22 } : Room) s m ([.ref (ad 0), .int (iN v1), .int (iN v2)] : List Value).toArray below meth c H locs 0 0 (MQ below (QM G (shW κ tl) ad post (s.heap.size)) ([.ref (ad 0), .int (iN v1), .int (iN v2)] : List Value).toArray s 0 0 (Aw ad (shW κ tl).length s.heap.size)) (F0 m 30 ls []) := by
    intro σ_30 H locs ls hw hW hl
    unfold w_X9_bound_B30 at hw
    refine n_iconst hx hb dX9_bound_30 ?_
    exact r_CM hx hb hr hlk hK hW hw dX9_bound_31
  unfold w_X9_bound at hw
  refine lv_iload_n hx hb dX9_bound_0 rfl (lv_at hl 1 rfl) ?_
  refine n_if_lt hx hb hw.1 hw.2.1 hw.2.2 (tgt := 30) dX9_bound_1 (by decide) (fun hw => ?_) (fun hw => ?_)
  · exact hB30 σ s.heap [] ls hw hW (lv_sub hl [] rfl)
  · refine lv_iload_n hx hb dX9_bound_4 rfl (lv_at hl 1 rfl) ?_
    refine va_gets hx hb hZ1 hW.2.2 hown (hts _ (List.mem_cons_of_mem _ al_261)) (fun _ h9 => h9) dX9_bound_5 ?_
    refine g_tlen hx hb hT1 hW.2.2 dX9_bound_8 ?_
    refine n_icmp_ge hx hb hw.1 hw.2.1 hw.2.2.1 hw.2.2.2 (tgt := 30) dX9_bound_9 (by decide) (fun hw => ?_) (fun hw => ?_)
    · exact hB30 σ s.heap [] ls hw hW (lv_sub hl [] rfl)
    · refine lv_iload_n hx hb dX9_bound_12 rfl (lv_at hl 2 rfl) ?_
      refine va_gets hx hb hZ1 hW.2.2 hown (hts _ (List.mem_cons_of_mem _ al_261)) (fun _ h9 => h9) dX9_bound_13 ?_
      refine lv_iload_n hx hb dX9_bound_16 rfl (lv_at hl 1 rfl) ?_
      refine g_tld hx hb hT1 hW.2.2 hw.1 dX9_bound_17 ?_
      replace hw := hw.2
      refine n_icmp_lt hx hb hw.1 hw.2.1 hw.2.2.1 hw.2.2.2 (tgt := 30) dX9_bound_18 (by decide) (fun hw => ?_) (fun hw => ?_)
      · exact hB30 σ s.heap [] ls hw hW (lv_sub hl [] rfl)
      · refine lv_iload_n hx hb dX9_bound_21 rfl (lv_at hl 2 rfl) ?_
        refine va_gets hx hb hZ2 hW.2.2 hown (hts _ (List.mem_cons_of_mem _ al_263)) (fun _ h9 => h9) dX9_bound_22 ?_
        refine lv_iload_n hx hb dX9_bound_25 rfl (lv_at hl 1 rfl) ?_
        refine g_tld hx hb hT2 hW.2.2 hw.1 dX9_bound_26 ?_
        replace hw := hw.2
        refine n_icmp_le hx hb hw.1 hw.2.1 hw.2.2.1 hw.2.2.2 (tgt := 32) dX9_bound_27 (by decide) (fun hw => ?_) (fun hw => ?_)
        · refine lv_aload_n hx hb dX9_bound_32 rfl (lv_at hl 0 rfl) ?_
          refine g_getr hx hb hts hown hK hW 0 rfl (q := 1) rfl uw_X9 1 (by decide) rfl al_201 (fun _ h9 => h9) dX9_bound_33 ?_
          refine g_getr hx hb hts hown hK hW 1 rfl (q := 2) (hcP hκ) (uwP hκ) 0 (by decide) rfl al_91 (fun _ h9 => h9) dX9_bound_36 ?_
          refine lv_iload_n hx hb dX9_bound_39 rfl (lv_at hl 1 rfl) ?_
          refine fin_CI hW (run_VN (k := 2) (As := [.int (iN v1)]) (rest := []) 6 S hK hE hW (c_X1_boundOf l G κ tl ad σ v1 _ hw s.heap.size) rfl rfl rfl al_267 sl_X1_boundOf al_5 al_268 hd_X1_boundOf.2 rfl rfl ⟨Nat.le_of_ble_eq_true rfl, Nat.le_of_ble_eq_true rfl⟩ rfl hl.1 rfl (Nat.le_of_ble_eq_true rfl) dX9_bound_40 ⟨Nat.zero_le _, Nat.zero_le _⟩) ?_
          intro r1 H locs hw hW
          refine lv_istore_n (lv' := [(3, .int (iN r1)), (0, .ref (ad 0)), (1, .int (iN v1)), (2, .int (iN v2))]) hx hb dX9_bound_43 rfl hl (by decide) rfl (fun ls hl => ?_)
          refine lv_aload_n hx hb dX9_bound_44 rfl (lv_at hl 1 rfl) ?_
          refine g_getr hx hb hts hown hK hW 0 rfl (q := 1) rfl uw_X9 1 (by decide) rfl al_201 (fun _ h9 => h9) dX9_bound_45 ?_
          refine g_getr hx hb hts hown hK hW 1 rfl (q := 2) (hcP hκ) (uwP hκ) 0 (by decide) rfl al_91 (fun _ h9 => h9) dX9_bound_48 ?_
          refine lv_iload_n hx hb dX9_bound_51 rfl (lv_at hl 2 rfl) ?_
          refine lv_iload_n hx hb dX9_bound_52 rfl (lv_at hl 3 rfl) ?_
          refine fin_CV hW (run_VN (k := 2) (As := [.int (iN v1), .int (iN v2)]) (rest := []) 7 S hK hE hW (c_X1_setBound l G κ tl ad σ v1 v2 _ hw H.size) rfl rfl rfl al_271 sl_X1_setBound al_5 al_272 hd_X1_setBound.2 rfl rfl ⟨Nat.le_of_ble_eq_true rfl, Nat.le_of_ble_eq_true rfl⟩ rfl hl.1 rfl (Nat.le_of_ble_eq_true rfl) dX9_bound_53 ⟨Nat.zero_le _, Nat.zero_le _⟩) ?_
          intro σ4 H locs hw hW
          refine lv_aload_n hx hb dX9_bound_56 rfl (lv_at hl 1 rfl) ?_
          refine g_getr hx hb hts hown hK hW 0 rfl (q := 1) rfl uw_X9 1 (by decide) rfl al_201 (fun _ h9 => h9) dX9_bound_57 ?_
          refine n_iconst hx hb dX9_bound_60 ?_
          refine g_putN hx hb hts hown hK hE hW 1 rfl (hcP hκ) (uwP hκ) tyX0 tyX0_ok nmX0 6 (by decide) rfl 4 rfl (fun _ h9 => h9) rfl rfl rfl dX9_bound_61 (fun σ5 H locs hτ hW => ?_)
          replace hw := hw σ5 hτ
          refine lv_aload_n hx hb dX9_bound_64 rfl (lv_at hl 1 rfl) ?_
          refine fin_CV hW (run_V (k := 0) (As := []) (rest := []) S hK hE hW (c_X9_forgetAnswers l G κ hκ tl ad σ5 _ hw H.size) rfl rfl al_249 al_251 sl_X9_forgetAnswers al_1 al_252 hd_X9_forgetAnswers rfl rfl ⟨Nat.le_of_ble_eq_true rfl, Nat.le_of_ble_eq_true rfl⟩ rfl hl.1 rfl (Nat.le_of_ble_eq_true rfl) dX9_bound_65 ⟨Nat.zero_le _, Nat.zero_le _⟩) ?_
          intro σ7 H locs hw hW
          refine lv_iload_n hx hb dX9_bound_68 rfl (lv_at hl 0 rfl) ?_
          exact r_CM hx hb hr hlk hK hW hw dX9_bound_69
        · exact hB30 σ s.heap [] ls hw hW (lv_sub hl [] rfl)
set_option maxHeartbeats 4000000 in
set_option maxRecDepth 100000 in
theorem c_X9_pin (l : Launch) (G : Gt) (κ : Nat) (hκ : κ < 5) (tl : Bool) (ad : Nat → Nat)  (σ : Mem) (v1 : Int) (v2 : Int) (post : Int → Mem → Prop) (hw : w_X9_pin κ tl σ v1 v2 post) : CM l yX9_pin (Cond.code yX9_pin cX9_pin 4 (some .int)) ({ frames := 1, cells := 0, slots := 0, locals := 22 } : Room) G (shW κ tl) ad σ [.ref (ad 0), .int (iN v1), .int (iN v2)] post := by
  refine s_all (y := yX9_pin) (code := cX9_pin) (maxL := 4) (ret := (some .int)) (rm := ({ frames := 1, cells := 0, slots := 0, locals := 22 } : Room)) (av := [.ref (ad 0), .int (iN v1), .int (iN v2)]) (Qc := fun sz => QM G (shW κ tl) ad post (sz)) (by decide) (Nat.le_of_ble_eq_true rfl) ?_
  intro p e s m below meth c S hr hlk _ hK hE hW ls hl
  obtain ⟨hx, hb, hml, hown, hts⟩ := id S
  replace hl : lv_has ls 4 [(0, .ref (ad 0)), (1, .int (iN v1)), (2, .int (iN v2))] := hl
  have hB58 : ∀ (σ_58 : Mem) (v3_58 : Int) (s0_58 : Int) (s1_58 : Int) (H : Heap) (locs : List Loc) (ls : Array Slot), w_X9_pin_B58 κ tl σ_58 v3_58 s0_58 s1_58 post → Wd G (shW κ tl) ad σ_58 (Aw ad (shW κ tl).length s.heap.size) s.heap H locs → lv_has ls 4 [(0, .ref (ad 0)), (3, .int (iN v3_58))] → W p l e ({ frames := 1, cells := 0, slots := 0, locals := 22 } : Room) s m ([.ref (ad 0), .int (iN v1), .int (iN v2)] : List Value).toArray below meth c H locs 0 0 (MQ below (QM G (shW κ tl) ad post (s.heap.size)) ([.ref (ad 0), .int (iN v1), .int (iN v2)] : List Value).toArray s 0 0 (Aw ad (shW κ tl).length s.heap.size)) (F0 m 58 ls [.int (iN s0_58), .int (iN s1_58), .ref (ad 2)]) := by
    intro σ_58 v3_58 s0_58 s1_58 H locs ls hw hW hl
    unfold w_X9_pin_B58 at hw
    refine fin_CV hW (run_VN (k := 2) (As := [.int (iN s1_58), .int (iN s0_58)]) (rest := []) 10 S hK hE hW (c_X1_setPin l G κ tl ad σ_58 s1_58 s0_58 _ hw H.size) rfl rfl rfl al_287 sl_X1_setPin al_5 al_288 hd_X1_setPin.2 rfl rfl ⟨Nat.le_of_ble_eq_true rfl, Nat.le_of_ble_eq_true rfl⟩ rfl hl.1 rfl (Nat.le_of_ble_eq_true rfl) dX9_pin_58 ⟨Nat.zero_le _, Nat.zero_le _⟩) ?_
    intro σ10 H locs hw hW
    refine lv_aload_n hx hb dX9_pin_61 rfl (lv_at hl 0 rfl) ?_
    refine fin_CV hW (run_V (k := 0) (As := []) (rest := []) S hK hE hW (c_X9_forgetAnswers l G κ hκ tl ad σ10 _ hw H.size) rfl rfl al_249 al_251 sl_X9_forgetAnswers al_1 al_252 hd_X9_forgetAnswers rfl rfl ⟨Nat.le_of_ble_eq_true rfl, Nat.le_of_ble_eq_true rfl⟩ rfl hl.1 rfl (Nat.le_of_ble_eq_true rfl) dX9_pin_62 ⟨Nat.zero_le _, Nat.zero_le _⟩) ?_
    intro σ12 H locs hw hW
    refine lv_iload_n hx hb dX9_pin_65 rfl (lv_at hl 1 rfl) ?_
    exact r_CM hx hb hr hlk hK hW hw dX9_pin_66
  have hB25 : ∀ (σ_25 : Mem)  (H : Heap) (locs : List Loc) (ls : Array Slot), w_X9_pin_B25 κ tl σ_25 post → Wd G (shW κ tl) ad σ_25 (Aw ad (shW κ tl).length s.heap.size) s.heap H locs → lv_has ls 4 [] → W p l e ({ frames := 1, cells := 0, slots := 0, locals := 22 } : Room) s m ([.ref (ad 0), .int (iN v1), .int (iN v2)] : List Value).toArray below meth c H locs 0 0 (MQ below (QM G (shW κ tl) ad post (s.heap.size)) ([.ref (ad 0), .int (iN v1), .int (iN v2)] : List Value).toArray s 0 0 (Aw ad (shW κ tl).length s.heap.size)) (F0 m 25 ls []) := by
    intro σ_25 H locs ls hw hW hl
    unfold w_X9_pin_B25 at hw
    refine n_iconst hx hb dX9_pin_25 ?_
    exact r_CM hx hb hr hlk hK hW hw dX9_pin_26
  unfold w_X9_pin at hw
  refine lv_aload_n hx hb dX9_pin_0 rfl (lv_at hl 0 rfl) ?_
  refine g_getr hx hb hts hown hK hW 0 rfl (q := 1) rfl uw_X9 1 (by decide) rfl al_201 (fun _ h9 => h9) dX9_pin_1 ?_
  refine g_getr hx hb hts hown hK hW 1 rfl (q := 2) (hcP hκ) (uwP hκ) 0 (by decide) rfl al_91 (fun _ h9 => h9) dX9_pin_4 ?_
  refine lv_iload_n hx hb dX9_pin_7 rfl (lv_at hl 1 rfl) ?_
  refine fin_CI hW (run_VN (k := 2) (As := [.int (iN v1)]) (rest := []) 8 S hK hE hW (c_X1_has l G κ tl ad σ v1 _ hw s.heap.size) rfl rfl rfl al_279 sl_X1_has al_5 al_280 hd_X1_has.2 rfl rfl ⟨Nat.le_of_ble_eq_true rfl, Nat.le_of_ble_eq_true rfl⟩ rfl hl.1 rfl (Nat.le_of_ble_eq_true rfl) dX9_pin_8 ⟨Nat.zero_le _, Nat.zero_le _⟩) ?_
  intro r1 H locs hw hW
  refine n_if_eq hx hb hw.1 hw.2.1 hw.2.2 (tgt := 25) dX9_pin_11 (by decide) (fun hw => ?_) (fun hw => ?_)
  · exact hB25 σ H locs ls hw hW (lv_sub hl [] rfl)
  · refine lv_iload_n hx hb dX9_pin_14 rfl (lv_at hl 2 rfl) ?_
    refine n_iconst hx hb dX9_pin_15 ?_
    refine n_icmp_lt hx hb hw.1 (rg_c _ rfl) hw.2.1 hw.2.2 (tgt := 25) dX9_pin_16 (by decide) (fun hw => ?_) (fun hw => ?_)
    · exact hB25 σ H locs ls hw hW (lv_sub hl [] rfl)
    · refine lv_iload_n hx hb dX9_pin_19 rfl (lv_at hl 2 rfl) ?_
      refine n_bipush hx hb dX9_pin_20 (by decide) ?_
      refine n_icmp_le hx hb hw.1 (rg_c _ rfl) hw.2.1 hw.2.2 (tgt := 27) dX9_pin_22 (by decide) (fun hw => ?_) (fun hw => ?_)
      · refine lv_aload_n hx hb dX9_pin_27 rfl (lv_at hl 0 rfl) ?_
        refine g_getr hx hb hts hown hK hW 0 rfl (q := 1) rfl uw_X9 1 (by decide) rfl al_201 (fun _ h9 => h9) dX9_pin_28 ?_
        refine g_getr hx hb hts hown hK hW 1 rfl (q := 2) (hcP hκ) (uwP hκ) 0 (by decide) rfl al_91 (fun _ h9 => h9) dX9_pin_31 ?_
        refine lv_iload_n hx hb dX9_pin_34 rfl (lv_at hl 1 rfl) ?_
        refine fin_CI hW (run_VN (k := 2) (As := [.int (iN v1)]) (rest := []) 9 S hK hE hW (c_X1_pinOf l G κ tl ad σ v1 _ hw H.size) rfl rfl rfl al_283 sl_X1_pinOf al_5 al_284 hd_X1_pinOf.2 rfl rfl ⟨Nat.le_of_ble_eq_true rfl, Nat.le_of_ble_eq_true rfl⟩ rfl hl.1 rfl (Nat.le_of_ble_eq_true rfl) dX9_pin_35 ⟨Nat.zero_le _, Nat.zero_le _⟩) ?_
        intro r3 H locs hw hW
        refine lv_istore_n (lv' := [(3, .int (iN r3)), (0, .ref (ad 0)), (1, .int (iN v1)), (2, .int (iN v2))]) hx hb dX9_pin_38 rfl hl (by decide) rfl (fun ls hl => ?_)
        refine lv_aload_n hx hb dX9_pin_39 rfl (lv_at hl 1 rfl) ?_
        refine g_getr hx hb hts hown hK hW 0 rfl (q := 1) rfl uw_X9 1 (by decide) rfl al_201 (fun _ h9 => h9) dX9_pin_40 ?_
        refine g_getr hx hb hts hown hK hW 1 rfl (q := 2) (hcP hκ) (uwP hκ) 0 (by decide) rfl al_91 (fun _ h9 => h9) dX9_pin_43 ?_
        refine lv_iload_n hx hb dX9_pin_46 rfl (lv_at hl 2 rfl) ?_
        refine lv_iload_n hx hb dX9_pin_47 rfl (lv_at hl 3 rfl) ?_
        refine n_iconst hx hb dX9_pin_48 ?_
        refine n_icmp_ne hx hb hw.1 (rg_c _ rfl) hw.2.1 hw.2.2 (tgt := 57) dX9_pin_49 (by decide) (fun hw => ?_) (fun hw => ?_)
        · refine lv_iload_n hx hb dX9_pin_57 rfl (lv_at hl 3 rfl) ?_
          exact hB58 σ r3 v2 v1 H locs ls hw hW (lv_sub hl [1, 0] rfl)
        · refine n_bipush hx hb dX9_pin_52 (by decide) ?_
          refine lv_goto (tgt := 58) hx hb dX9_pin_54 (by decide) ?_
          exact hB58 σ r3 (-2) v1 H locs ls hw hW (lv_sub hl [1, 0] rfl)
      · exact hB25 σ H locs ls hw hW (lv_sub hl [] rfl)
set_option maxHeartbeats 4000000 in
set_option maxRecDepth 100000 in
theorem c_X9_states (l : Launch) (G : Gt) (κ : Nat) (hκ : κ < 5) (tl : Bool) (ad : Nat → Nat)  (σ : Mem) (v1 : Int) (post : Int → Mem → Prop) (hw : w_X9_states κ σ v1 post) : CM l yX9_states (Cond.code yX9_states cX9_states 2 (some .int)) ({ frames := 5, cells := 0, slots := 0, locals := 118 } : Room) G (shW κ tl) ad σ [.ref (ad 0), .int (iN v1)] post := by
  refine s_all (y := yX9_states) (code := cX9_states) (maxL := 2) (ret := (some .int)) (rm := ({ frames := 5, cells := 0, slots := 0, locals := 118 } : Room)) (av := [.ref (ad 0), .int (iN v1)]) (Qc := fun sz => QM G (shW κ tl) ad post (sz)) (by decide) (Nat.le_of_ble_eq_true rfl) ?_
  intro p e s m below meth c S hr hlk _ hK hE hW ls hl
  obtain ⟨hx, hb, hml, hown, hts⟩ := id S
  replace hl : lv_has ls 2 [(0, .ref (ad 0)), (1, .int (iN v1))] := hl
  unfold w_X9_states at hw
  refine lv_aload_n hx hb dX9_states_0 rfl (lv_at hl 0 rfl) ?_
  refine g_getr hx hb hts hown hK hW 0 rfl (q := 1) rfl uw_X9 1 (by decide) rfl al_201 (fun _ h9 => h9) dX9_states_1 ?_
  refine g_getr hx hb hts hown hK hW 1 rfl (q := 2) (hcP hκ) (uwP hκ) 0 (by decide) rfl al_91 (fun _ h9 => h9) dX9_states_4 ?_
  refine lv_iload_n hx hb dX9_states_7 rfl (lv_at hl 1 rfl) ?_
  refine fin_CI hW (run_VN (k := 2) (As := [.int (iN v1)]) (rest := []) 8 S hK hE hW (c_X1_has l G κ tl ad σ v1 _ hw s.heap.size) rfl rfl rfl al_279 sl_X1_has al_5 al_280 hd_X1_has.2 rfl rfl ⟨Nat.le_of_ble_eq_true rfl, Nat.le_of_ble_eq_true rfl⟩ rfl hl.1 rfl (Nat.le_of_ble_eq_true rfl) dX9_states_8 ⟨Nat.zero_le _, Nat.zero_le _⟩) ?_
  intro r1 H locs hw hW
  refine n_if_ne hx hb hw.1 hw.2.1 hw.2.2 (tgt := 16) dX9_states_11 (by decide) (fun hw => ?_) (fun hw => ?_)
  · refine lv_aload_n hx hb dX9_states_16 rfl (lv_at hl 0 rfl) ?_
    refine g_getr hx hb hts hown hK hW 0 rfl (q := 1) rfl uw_X9 1 (by decide) rfl al_201 (fun _ h9 => h9) dX9_states_17 ?_
    refine fin_CV hW (run_U (k := 1) (As := []) (rest := []) S hK hE hW (c_X2_listAll l G κ hκ tl ad σ _ hw H.size) rfl (hcP hκ) al_293 al_295 (se_X2_X2_listAll hκ) al_294 al_3 al_301 rfl hd_X2_listAll.2 rfl rfl ⟨Nat.le_of_ble_eq_true rfl, Nat.le_of_ble_eq_true rfl⟩ rfl hl.1 rfl (Nat.le_of_ble_eq_true rfl) dX9_states_20 ⟨Nat.zero_le _, Nat.zero_le _⟩) ?_
    intro σ4 H locs hw hW
    refine lv_aload_n hx hb dX9_states_23 rfl (lv_at hl 0 rfl) ?_
    refine g_getr hx hb hts hown hK hW 0 rfl (q := 1) rfl uw_X9 1 (by decide) rfl al_201 (fun _ h9 => h9) dX9_states_24 ?_
    refine lv_iload_n hx hb dX9_states_27 rfl (lv_at hl 1 rfl) ?_
    refine fin_CI hW (run_U (k := 1) (As := [.int (iN v1)]) (rest := []) S hK hE hW (c_X2_countOf l G κ hκ tl ad σ4 v1 _ hw H.size) rfl (hcP hκ) al_425 al_427 (se_X2_X2_countOf hκ) al_426 al_3 al_433 rfl hd_X2_countOf.2 rfl rfl ⟨Nat.le_of_ble_eq_true rfl, Nat.le_of_ble_eq_true rfl⟩ rfl hl.1 rfl (Nat.le_of_ble_eq_true rfl) dX9_states_28 ⟨Nat.zero_le _, Nat.zero_le _⟩) ?_
    intro r5 H locs hw hW
    exact r_CM hx hb hr hlk hK hW hw dX9_states_31
  · refine n_iconst hx hb dX9_states_14 ?_
    exact r_CM hx hb hr hlk hK hW hw dX9_states_15
set_option maxHeartbeats 4000000 in
set_option maxRecDepth 100000 in
theorem c_X9_hasState (l : Launch) (G : Gt) (κ : Nat) (hκ : κ < 5) (tl : Bool) (ad : Nat → Nat)  (σ : Mem) (v1 : Int) (v2 : Int) (post : Int → Mem → Prop) (hw : w_X9_hasState κ σ v1 v2 post) : CM l yX9_hasState (Cond.code yX9_hasState cX9_hasState 3 (some .boolean)) ({ frames := 5, cells := 0, slots := 0, locals := 118 } : Room) G (shW κ tl) ad σ [.ref (ad 0), .int (iN v1), .int (iN v2)] post := by
  refine s_all (y := yX9_hasState) (code := cX9_hasState) (maxL := 3) (ret := (some .boolean)) (rm := ({ frames := 5, cells := 0, slots := 0, locals := 118 } : Room)) (av := [.ref (ad 0), .int (iN v1), .int (iN v2)]) (Qc := fun sz => QM G (shW κ tl) ad post (sz)) (by decide) (Nat.le_of_ble_eq_true rfl) ?_
  intro p e s m below meth c S hr hlk _ hK hE hW ls hl
  obtain ⟨hx, hb, hml, hown, hts⟩ := id S
  replace hl : lv_has ls 3 [(0, .ref (ad 0)), (1, .int (iN v1)), (2, .int (iN v2))] := hl
  have hB44 : ∀ (σ_44 : Mem) (s0_44 : Int) (H : Heap) (locs : List Loc) (ls : Array Slot), w_X9_hasState_B44 κ σ_44 s0_44 post → Wd G (shW κ tl) ad σ_44 (Aw ad (shW κ tl).length s.heap.size) s.heap H locs → lv_has ls 3 [] → W p l e ({ frames := 5, cells := 0, slots := 0, locals := 118 } : Room) s m ([.ref (ad 0), .int (iN v1), .int (iN v2)] : List Value).toArray below meth c H locs 0 0 (MQ below (QM G (shW κ tl) ad post (s.heap.size)) ([.ref (ad 0), .int (iN v1), .int (iN v2)] : List Value).toArray s 0 0 (Aw ad (shW κ tl).length s.heap.size)) (F0 m 44 ls [.int (iN s0_44)]) := by
    intro σ_44 s0_44 H locs ls hw hW hl
    unfold w_X9_hasState_B44 at hw
    exact rz_CM hx hb hr hlk hK hW hw.1 hw.2 dX9_hasState_44
  have hB43 : ∀ (σ_43 : Mem)  (H : Heap) (locs : List Loc) (ls : Array Slot), w_X9_hasState_B43 κ σ_43 post → Wd G (shW κ tl) ad σ_43 (Aw ad (shW κ tl).length s.heap.size) s.heap H locs → lv_has ls 3 [] → W p l e ({ frames := 5, cells := 0, slots := 0, locals := 118 } : Room) s m ([.ref (ad 0), .int (iN v1), .int (iN v2)] : List Value).toArray below meth c H locs 0 0 (MQ below (QM G (shW κ tl) ad post (s.heap.size)) ([.ref (ad 0), .int (iN v1), .int (iN v2)] : List Value).toArray s 0 0 (Aw ad (shW κ tl).length s.heap.size)) (F0 m 43 ls []) := by
    intro σ_43 H locs ls hw hW hl
    unfold w_X9_hasState_B43 at hw
    refine n_iconst hx hb dX9_hasState_43 ?_
    exact hB44 σ_43 0 H locs ls hw hW (lv_sub hl [] rfl)
  unfold w_X9_hasState at hw
  refine lv_aload_n hx hb dX9_hasState_0 rfl (lv_at hl 0 rfl) ?_
  refine g_getr hx hb hts hown hK hW 0 rfl (q := 1) rfl uw_X9 1 (by decide) rfl al_201 (fun _ h9 => h9) dX9_hasState_1 ?_
  refine g_getr hx hb hts hown hK hW 1 rfl (q := 2) (hcP hκ) (uwP hκ) 0 (by decide) rfl al_91 (fun _ h9 => h9) dX9_hasState_4 ?_
  refine lv_iload_n hx hb dX9_hasState_7 rfl (lv_at hl 1 rfl) ?_
  refine fin_CI hW (run_VN (k := 2) (As := [.int (iN v1)]) (rest := []) 8 S hK hE hW (c_X1_has l G κ tl ad σ v1 _ hw s.heap.size) rfl rfl rfl al_279 sl_X1_has al_5 al_280 hd_X1_has.2 rfl rfl ⟨Nat.le_of_ble_eq_true rfl, Nat.le_of_ble_eq_true rfl⟩ rfl hl.1 rfl (Nat.le_of_ble_eq_true rfl) dX9_hasState_8 ⟨Nat.zero_le _, Nat.zero_le _⟩) ?_
  intro r1 H locs hw hW
  refine n_if_ne hx hb hw.1 hw.2.1 hw.2.2 (tgt := 16) dX9_hasState_11 (by decide) (fun hw => ?_) (fun hw => ?_)
  · refine lv_aload_n hx hb dX9_hasState_16 rfl (lv_at hl 0 rfl) ?_
    refine g_getr hx hb hts hown hK hW 0 rfl (q := 1) rfl uw_X9 1 (by decide) rfl al_201 (fun _ h9 => h9) dX9_hasState_17 ?_
    refine fin_CV hW (run_U (k := 1) (As := []) (rest := []) S hK hE hW (c_X2_listAll l G κ hκ tl ad σ _ hw H.size) rfl (hcP hκ) al_293 al_295 (se_X2_X2_listAll hκ) al_294 al_3 al_301 rfl hd_X2_listAll.2 rfl rfl ⟨Nat.le_of_ble_eq_true rfl, Nat.le_of_ble_eq_true rfl⟩ rfl hl.1 rfl (Nat.le_of_ble_eq_true rfl) dX9_hasState_20 ⟨Nat.zero_le _, Nat.zero_le _⟩) ?_
    intro σ4 H locs hw hW
    refine lv_iload_n hx hb dX9_hasState_23 rfl (lv_at hl 2 rfl) ?_
    refine n_if_lt hx hb hw.1 hw.2.1 hw.2.2 (tgt := 43) dX9_hasState_24 (by decide) (fun hw => ?_) (fun hw => ?_)
    · exact hB43 σ4 H locs ls hw hW (lv_sub hl [] rfl)
    · refine lv_iload_n hx hb dX9_hasState_27 rfl (lv_at hl 2 rfl) ?_
      refine lv_aload_n hx hb dX9_hasState_28 rfl (lv_at hl 0 rfl) ?_
      refine g_getr hx hb hts hown hK hW 0 rfl (q := 1) rfl uw_X9 1 (by decide) rfl al_201 (fun _ h9 => h9) dX9_hasState_29 ?_
      refine lv_iload_n hx hb dX9_hasState_32 rfl (lv_at hl 1 rfl) ?_
      refine fin_CI hW (run_U (k := 1) (As := [.int (iN v1)]) (rest := [.int (iN v2)]) S hK hE hW (c_X2_countOf l G κ hκ tl ad σ4 v1 _ hw H.size) rfl (hcP hκ) al_425 al_427 (se_X2_X2_countOf hκ) al_426 al_3 al_433 rfl hd_X2_countOf.2 rfl rfl ⟨Nat.le_of_ble_eq_true rfl, Nat.le_of_ble_eq_true rfl⟩ rfl hl.1 rfl (Nat.le_of_ble_eq_true rfl) dX9_hasState_33 ⟨Nat.zero_le _, Nat.zero_le _⟩) ?_
      intro r5 H locs hw hW
      refine n_icmp_ge hx hb hw.1 hw.2.1 hw.2.2.1 hw.2.2.2 (tgt := 43) dX9_hasState_36 (by decide) (fun hw => ?_) (fun hw => ?_)
      · exact hB43 σ4 H locs ls hw hW (lv_sub hl [] rfl)
      · refine n_iconst hx hb dX9_hasState_39 ?_
        refine lv_goto (tgt := 44) hx hb dX9_hasState_40 (by decide) ?_
        exact hB44 σ4 1 H locs ls hw hW (lv_sub hl [] rfl)
  · refine n_iconst hx hb dX9_hasState_14 ?_
    exact rz_CM hx hb hr hlk hK hW (Or.inl rfl) hw dX9_hasState_15
set_option maxHeartbeats 4000000 in
set_option maxRecDepth 100000 in
theorem c_X9_state (l : Launch) (G : Gt) (κ : Nat) (hκ : κ < 5) (tl : Bool) (ad : Nat → Nat)  (σ : Mem) (v1 : Int) (v2 : Int) (v3 : Int) (post : Int → Mem → Prop) (hw : w_X9_state κ σ v1 v2 v3 post) : CM l yX9_state (Cond.code yX9_state cX9_state 4 (some .int)) ({ frames := 6, cells := 0, slots := 0, locals := 140 } : Room) G (shW κ tl) ad σ [.ref (ad 0), .int (iN v1), .int (iN v2), .int (iN v3)] post := by
  refine s_all (y := yX9_state) (code := cX9_state) (maxL := 4) (ret := (some .int)) (rm := ({ frames := 6, cells := 0, slots := 0, locals := 140 } : Room)) (av := [.ref (ad 0), .int (iN v1), .int (iN v2), .int (iN v3)]) (Qc := fun sz => QM G (shW κ tl) ad post (sz)) (by decide) (Nat.le_of_ble_eq_true rfl) ?_
  intro p e s m below meth c S hr hlk _ hK hE hW ls hl
  obtain ⟨hx, hb, hml, hown, hts⟩ := id S
  replace hl : lv_has ls 4 [(0, .ref (ad 0)), (1, .int (iN v1)), (2, .int (iN v2)), (3, .int (iN v3))] := hl
  unfold w_X9_state at hw
  refine lv_aload_n hx hb dX9_state_0 rfl (lv_at hl 0 rfl) ?_
  refine lv_iload_n hx hb dX9_state_1 rfl (lv_at hl 1 rfl) ?_
  refine lv_iload_n hx hb dX9_state_2 rfl (lv_at hl 2 rfl) ?_
  refine fin_CM hW (run_V (k := 0) (As := [.int (iN v1), .int (iN v2)]) (rest := []) S hK hE hW (c_X9_hasState l G κ hκ tl ad σ v1 v2 _ hw s.heap.size) rfl rfl al_438 al_440 sl_X9_hasState al_1 al_441 hd_X9_hasState rfl rfl ⟨Nat.le_of_ble_eq_true rfl, Nat.le_of_ble_eq_true rfl⟩ rfl hl.1 rfl (Nat.le_of_ble_eq_true rfl) dX9_state_3 ⟨Nat.zero_le _, Nat.zero_le _⟩) ?_
  intro r1 σ2 H locs hw hW; dsimp only at hw
  refine n_if_ne hx hb hw.1 hw.2.1 hw.2.2 (tgt := 11) dX9_state_6 (by decide) (fun hw => ?_) (fun hw => ?_)
  · refine lv_iload_n hx hb dX9_state_11 rfl (lv_at hl 3 rfl) ?_
    rcases (show (v3 < 0 ∨ 2 < v3) ∨ v3 = 0 ∨ v3 = 1 ∨ v3 = 2 by omega) with hc | hc | hc | hc
    · refine n_tableOut (tgt := 70) hx hb hw.1 hc dX9_state_12 (by decide) ?_
      replace hw := hw.2.1 hc
      refine n_iconst hx hb dX9_state_70 ?_
      exact r_CM hx hb hr hlk hK hW hw dX9_state_71
    · refine n_tableIn (v := 0) (tgt := 40) hx hb hw.1 hc dX9_state_12 (by decide) (by decide) rfl (by decide) ?_
      replace hw := hw.2.2.1 hc
      refine lv_aload_n hx hb dX9_state_40 rfl (lv_at hl 0 rfl) ?_
      refine g_getr hx hb hts hown hK hW 0 rfl (q := 1) rfl uw_X9 1 (by decide) rfl al_201 (fun _ h9 => h9) dX9_state_41 ?_
      refine lv_iload_n hx hb dX9_state_44 rfl (lv_at hl 1 rfl) ?_
      refine lv_iload_n hx hb dX9_state_45 rfl (lv_at hl 2 rfl) ?_
      refine fin_CI hW (run_U (k := 1) (As := [.int (iN v1), .int (iN v2)]) (rest := []) S hK hE hW (c_X2_priceOf l G κ hκ tl ad σ2 v1 v2 _ hw H.size) rfl (hcP hκ) al_442 al_444 (se_X2_X2_priceOf hκ) al_443 al_3 al_450 rfl hd_X2_priceOf.2 rfl rfl ⟨Nat.le_of_ble_eq_true rfl, Nat.le_of_ble_eq_true rfl⟩ rfl hl.1 rfl (Nat.le_of_ble_eq_true rfl) dX9_state_46 ⟨Nat.zero_le _, Nat.zero_le _⟩) ?_
      intro r3 H locs hw hW
      exact r_CM hx hb hr hlk hK hW hw dX9_state_49
    · refine n_tableIn (v := 1) (tgt := 50) hx hb hw.1 hc dX9_state_12 (by decide) (by decide) rfl (by decide) ?_
      replace hw := hw.2.2.2.1 hc
      refine lv_aload_n hx hb dX9_state_50 rfl (lv_at hl 0 rfl) ?_
      refine g_getr hx hb hts hown hK hW 0 rfl (q := 1) rfl uw_X9 1 (by decide) rfl al_201 (fun _ h9 => h9) dX9_state_51 ?_
      refine lv_iload_n hx hb dX9_state_54 rfl (lv_at hl 1 rfl) ?_
      refine lv_iload_n hx hb dX9_state_55 rfl (lv_at hl 2 rfl) ?_
      refine fin_CI hW (run_U (k := 1) (As := [.int (iN v1), .int (iN v2)]) (rest := []) S hK hE hW (c_X2_firstOf l G κ hκ tl ad σ2 v1 v2 _ hw H.size) rfl (hcP hκ) al_451 al_453 (se_X2_X2_firstOf hκ) al_452 al_3 al_459 rfl hd_X2_firstOf.2 rfl rfl ⟨Nat.le_of_ble_eq_true rfl, Nat.le_of_ble_eq_true rfl⟩ rfl hl.1 rfl (Nat.le_of_ble_eq_true rfl) dX9_state_56 ⟨Nat.zero_le _, Nat.zero_le _⟩) ?_
      intro r5 H locs hw hW
      exact r_CM hx hb hr hlk hK hW hw dX9_state_59
    · refine n_tableIn (v := 2) (tgt := 60) hx hb hw.1 hc dX9_state_12 (by decide) (by decide) rfl (by decide) ?_
      replace hw := hw.2.2.2.2 hc
      refine lv_aload_n hx hb dX9_state_60 rfl (lv_at hl 0 rfl) ?_
      refine g_getr hx hb hts hown hK hW 0 rfl (q := 1) rfl uw_X9 1 (by decide) rfl al_201 (fun _ h9 => h9) dX9_state_61 ?_
      refine lv_iload_n hx hb dX9_state_64 rfl (lv_at hl 1 rfl) ?_
      refine lv_iload_n hx hb dX9_state_65 rfl (lv_at hl 2 rfl) ?_
      refine fin_CI hW (run_U (k := 1) (As := [.int (iN v1), .int (iN v2)]) (rest := []) S hK hE hW (c_X2_secondOf l G κ hκ tl ad σ2 v1 v2 _ hw H.size) rfl (hcP hκ) al_460 al_462 (se_X2_X2_secondOf hκ) al_461 al_3 al_468 rfl hd_X2_secondOf.2 rfl rfl ⟨Nat.le_of_ble_eq_true rfl, Nat.le_of_ble_eq_true rfl⟩ rfl hl.1 rfl (Nat.le_of_ble_eq_true rfl) dX9_state_66 ⟨Nat.zero_le _, Nat.zero_le _⟩) ?_
      intro r7 H locs hw hW
      exact r_CM hx hb hr hlk hK hW hw dX9_state_69
  · refine n_iconst hx hb dX9_state_9 ?_
    exact r_CM hx hb hr hlk hK hW hw dX9_state_10
set_option maxHeartbeats 4000000 in
set_option maxRecDepth 100000 in
theorem c_X9_step (l : Launch) (G : Gt) (κ : Nat) (hκ : κ < 5) (tl : Bool) (ad : Nat → Nat)  (σ : Mem) (v1 : Int) (v2 : Int) (v3 : Int) (post : Int → Mem → Prop) (hw : w_X9_step κ σ v1 v2 v3 post) : CM l yX9_step (Cond.code yX9_step cX9_step 5 (some .int)) ({ frames := 6, cells := 0, slots := 0, locals := 140 } : Room) G (shW κ tl) ad σ [.ref (ad 0), .int (iN v1), .int (iN v2), .int (iN v3)] post := by
  refine s_all (y := yX9_step) (code := cX9_step) (maxL := 5) (ret := (some .int)) (rm := ({ frames := 6, cells := 0, slots := 0, locals := 140 } : Room)) (av := [.ref (ad 0), .int (iN v1), .int (iN v2), .int (iN v3)]) (Qc := fun sz => QM G (shW κ tl) ad post (sz)) (by decide) (Nat.le_of_ble_eq_true rfl) ?_
  intro p e s m below meth c S hr hlk _ hK hE hW ls hl
  obtain ⟨hx, hb, hml, hown, hts⟩ := id S
  replace hl : lv_has ls 5 [(0, .ref (ad 0)), (1, .int (iN v1)), (2, .int (iN v2)), (3, .int (iN v3))] := hl
  have hB50 : ∀ (σ_50 : Mem) (s0_50 : Int) (H : Heap) (locs : List Loc) (ls : Array Slot), w_X9_step_B50 κ σ_50 s0_50 post → Wd G (shW κ tl) ad σ_50 (Aw ad (shW κ tl).length s.heap.size) s.heap H locs → lv_has ls 5 [] → W p l e ({ frames := 6, cells := 0, slots := 0, locals := 140 } : Room) s m ([.ref (ad 0), .int (iN v1), .int (iN v2), .int (iN v3)] : List Value).toArray below meth c H locs 0 0 (MQ below (QM G (shW κ tl) ad post (s.heap.size)) ([.ref (ad 0), .int (iN v1), .int (iN v2), .int (iN v3)] : List Value).toArray s 0 0 (Aw ad (shW κ tl).length s.heap.size)) (F0 m 50 ls [.int (iN s0_50)]) := by
    intro σ_50 s0_50 H locs ls hw hW hl
    unfold w_X9_step_B50 at hw
    exact r_CM hx hb hr hlk hK hW hw dX9_step_50
  unfold w_X9_step at hw
  refine lv_aload_n hx hb dX9_step_0 rfl (lv_at hl 0 rfl) ?_
  refine lv_iload_n hx hb dX9_step_1 rfl (lv_at hl 1 rfl) ?_
  refine lv_iload_n hx hb dX9_step_2 rfl (lv_at hl 2 rfl) ?_
  refine fin_CM hW (run_V (k := 0) (As := [.int (iN v1), .int (iN v2)]) (rest := []) S hK hE hW (c_X9_hasState l G κ hκ tl ad σ v1 v2 _ hw s.heap.size) rfl rfl al_438 al_440 sl_X9_hasState al_1 al_441 hd_X9_hasState rfl rfl ⟨Nat.le_of_ble_eq_true rfl, Nat.le_of_ble_eq_true rfl⟩ rfl hl.1 rfl (Nat.le_of_ble_eq_true rfl) dX9_step_3 ⟨Nat.zero_le _, Nat.zero_le _⟩) ?_
  intro r1 σ2 H locs hw hW; dsimp only at hw
  refine n_if_ne hx hb hw.1 hw.2.1 hw.2.2 (tgt := 11) dX9_step_6 (by decide) (fun hw => ?_) (fun hw => ?_)
  · refine lv_aload_n hx hb dX9_step_11 rfl (lv_at hl 0 rfl) ?_
    refine g_getr hx hb hts hown hK hW 0 rfl (q := 1) rfl uw_X9 1 (by decide) rfl al_201 (fun _ h9 => h9) dX9_step_12 ?_
    refine g_getr hx hb hts hown hK hW 1 rfl (q := 2) (hcP hκ) (uwP hκ) 0 (by decide) rfl al_91 (fun _ h9 => h9) dX9_step_15 ?_
    refine lv_iload_n hx hb dX9_step_18 rfl (lv_at hl 1 rfl) ?_
    refine fin_CI hW (run_VN (k := 2) (As := [.int (iN v1)]) (rest := []) 27 S hK hE hW (c_X1_after l G κ tl ad σ2 v1 _ hw H.size) rfl rfl rfl al_475 sl_X1_after al_5 al_476 hd_X1_after.2 rfl rfl ⟨Nat.le_of_ble_eq_true rfl, Nat.le_of_ble_eq_true rfl⟩ rfl hl.1 rfl (Nat.le_of_ble_eq_true rfl) dX9_step_19 ⟨Nat.zero_le _, Nat.zero_le _⟩) ?_
    intro r3 H locs hw hW
    refine lv_istore (lv' := [(4, .int (iN r3)), (0, .ref (ad 0)), (1, .int (iN v1)), (2, .int (iN v2)), (3, .int (iN v3))]) hx hb dX9_step_22 hl (by decide) rfl (fun ls hl => ?_)
    refine lv_aload_n hx hb dX9_step_24 rfl (lv_at hl 1 rfl) ?_
    refine lv_iload hx hb dX9_step_25 (lv_at hl 0 rfl) ?_
    refine lv_iload_n hx hb dX9_step_27 rfl (lv_at hl 4 rfl) ?_
    refine fin_CM hW (run_V (k := 0) (As := [.int (iN r3), .int (iN v3)]) (rest := []) S hK hE hW (c_X9_hasState l G κ hκ tl ad σ2 r3 v3 _ hw H.size) rfl rfl al_438 al_440 sl_X9_hasState al_1 al_441 hd_X9_hasState rfl rfl ⟨Nat.le_of_ble_eq_true rfl, Nat.le_of_ble_eq_true rfl⟩ rfl hl.1 rfl (Nat.le_of_ble_eq_true rfl) dX9_step_28 ⟨Nat.zero_le _, Nat.zero_le _⟩) ?_
    intro r5 σ6 H locs hw hW; dsimp only at hw
    refine n_if_eq hx hb hw.1 hw.2.1 hw.2.2 (tgt := 49) dX9_step_31 (by decide) (fun hw => ?_) (fun hw => ?_)
    · refine n_iconst hx hb dX9_step_49 ?_
      exact hB50 σ6 (-1) H locs ls hw hW (lv_sub hl [] rfl)
    · refine lv_aload_n hx hb dX9_step_34 rfl (lv_at hl 1 rfl) ?_
      refine g_getr hx hb hts hown hK hW 0 rfl (q := 1) rfl uw_X9 1 (by decide) rfl al_201 (fun _ h9 => h9) dX9_step_35 ?_
      refine lv_iload_n hx hb dX9_step_38 rfl (lv_at hl 2 rfl) ?_
      refine lv_iload_n hx hb dX9_step_39 rfl (lv_at hl 3 rfl) ?_
      refine lv_iload hx hb dX9_step_40 (lv_at hl 0 rfl) ?_
      refine lv_iload_n hx hb dX9_step_42 rfl (lv_at hl 4 rfl) ?_
      refine fin_CI hW (run_X9_stepPrice (As := [.int (iN v1), .int (iN v2), .int (iN r3), .int (iN v3)]) (rest := []) hκ S hK hE hW hw rfl (Nat.le_of_ble_eq_true rfl) (Nat.le_of_ble_eq_true rfl) rfl hl.1 rfl (Nat.le_of_ble_eq_true rfl) dX9_step_43 ⟨Nat.zero_le _, Nat.zero_le _⟩) ?_
      intro r7 H locs hw hW
      refine lv_goto (tgt := 50) hx hb dX9_step_46 (by decide) ?_
      exact hB50 σ6 r7 H locs ls hw hW (lv_sub hl [] rfl)
  · refine n_iconst hx hb dX9_step_9 ?_
    exact r_CM hx hb hr hlk hK hW hw dX9_step_10
set_option maxHeartbeats 4000000 in
set_option maxRecDepth 100000 in
theorem c_X9_price (l : Launch) (G : Gt) (κ : Nat) (hκ : κ < 5) (tl : Bool) (ad : Nat → Nat)  (σ : Mem)  (post : Int → Mem → Prop) (hw : w_X9_price κ σ  post) : CM l yX9_price (Cond.code yX9_price cX9_price 1 (some .int)) ({ frames := 7, cells := 0, slots := 0, locals := 170 } : Room) G (shW κ tl) ad σ [.ref (ad 0)] post := by
  refine s_all (y := yX9_price) (code := cX9_price) (maxL := 1) (ret := (some .int)) (rm := ({ frames := 7, cells := 0, slots := 0, locals := 170 } : Room)) (av := [.ref (ad 0)]) (Qc := fun sz => QM G (shW κ tl) ad post (sz)) (by decide) (Nat.le_of_ble_eq_true rfl) ?_
  intro p e s m below meth c S hr hlk _ hK hE hW ls hl
  obtain ⟨hx, hb, hml, hown, hts⟩ := id S
  replace hl : lv_has ls 1 [(0, .ref (ad 0))] := hl
  unfold w_X9_price at hw
  refine lv_aload_n hx hb dX9_price_0 rfl (lv_at hl 0 rfl) ?_
  refine g_getr hx hb hts hown hK hW 0 rfl (q := 14) rfl uw_X9 2 (by decide) rfl al_202 (fun _ h9 => h9) dX9_price_1 ?_
  refine lv_aload_n hx hb dX9_price_4 rfl (lv_at hl 0 rfl) ?_
  refine g_getr hx hb hts hown hK hW 0 rfl (q := 1) rfl uw_X9 1 (by decide) rfl al_201 (fun _ h9 => h9) dX9_price_5 ?_
  refine fin_CV hW (run_V (k := 14) (As := [.ref (ad 1)]) (rest := []) S hK hE hW (c_X3_refresh l G κ hκ tl ad σ _ hw s.heap.size) rfl rfl al_561 al_562 al_563 al_10 al_564 hd_X3_refresh rfl rfl ⟨Nat.le_of_ble_eq_true rfl, Nat.le_of_ble_eq_true rfl⟩ rfl hl.1 rfl (Nat.le_of_ble_eq_true rfl) dX9_price_8 ⟨Nat.zero_le _, Nat.zero_le _⟩) ?_
  intro σ2 H locs hw hW
  refine lv_aload_n hx hb dX9_price_11 rfl (lv_at hl 0 rfl) ?_
  refine g_getr hx hb hts hown hK hW 0 rfl (q := 14) rfl uw_X9 2 (by decide) rfl al_202 (fun _ h9 => h9) dX9_price_12 ?_
  refine g_getN hx hb hts hown hK hE hW 14 rfl rfl uw_X3 3 (by decide) rfl 5 rfl (fun _ h9 => h9) dX9_price_15 ?_
  exact r_CM hx hb hr hlk hK hW hw dX9_price_18
set_option maxHeartbeats 4000000 in
set_option maxRecDepth 100000 in
theorem c_X9_way (l : Launch) (G : Gt) (κ : Nat) (hκ : κ < 5) (tl : Bool) (ad : Nat → Nat)  (σ : Mem) (v1 : Int) (post : Int → Mem → Prop) (hw : w_X9_way κ σ v1 post) : CM l yX9_way (Cond.code yX9_way cX9_way 2 (some .int)) ({ frames := 7, cells := 0, slots := 0, locals := 170 } : Room) G (shW κ tl) ad σ [.ref (ad 0), .int (iN v1)] post := by
  refine s_all (y := yX9_way) (code := cX9_way) (maxL := 2) (ret := (some .int)) (rm := ({ frames := 7, cells := 0, slots := 0, locals := 170 } : Room)) (av := [.ref (ad 0), .int (iN v1)]) (Qc := fun sz => QM G (shW κ tl) ad post (sz)) (by decide) (Nat.le_of_ble_eq_true rfl) ?_
  intro p e s m below meth c S hr hlk _ hK hE hW ls hl
  obtain ⟨hx, hb, hml, hown, hts⟩ := id S
  replace hl : lv_has ls 2 [(0, .ref (ad 0)), (1, .int (iN v1))] := hl
  have hB50 : ∀ (σ_50 : Mem) (s0_50 : Int) (H : Heap) (locs : List Loc) (ls : Array Slot), w_X9_way_B50 κ σ_50 s0_50 post → Wd G (shW κ tl) ad σ_50 (Aw ad (shW κ tl).length s.heap.size) s.heap H locs → lv_has ls 2 [] → W p l e ({ frames := 7, cells := 0, slots := 0, locals := 170 } : Room) s m ([.ref (ad 0), .int (iN v1)] : List Value).toArray below meth c H locs 0 0 (MQ below (QM G (shW κ tl) ad post (s.heap.size)) ([.ref (ad 0), .int (iN v1)] : List Value).toArray s 0 0 (Aw ad (shW κ tl).length s.heap.size)) (F0 m 50 ls [.int (iN s0_50)]) := by
    intro σ_50 s0_50 H locs ls hw hW hl
    unfold w_X9_way_B50 at hw
    exact r_CM hx hb hr hlk hK hW hw dX9_way_50
  unfold w_X9_way at hw
  refine lv_aload_n hx hb dX9_way_0 rfl (lv_at hl 0 rfl) ?_
  refine g_getr hx hb hts hown hK hW 0 rfl (q := 1) rfl uw_X9 1 (by decide) rfl al_201 (fun _ h9 => h9) dX9_way_1 ?_
  refine g_getr hx hb hts hown hK hW 1 rfl (q := 2) (hcP hκ) (uwP hκ) 0 (by decide) rfl al_91 (fun _ h9 => h9) dX9_way_4 ?_
  refine lv_iload_n hx hb dX9_way_7 rfl (lv_at hl 1 rfl) ?_
  refine fin_CI hW (run_VN (k := 2) (As := [.int (iN v1)]) (rest := []) 8 S hK hE hW (c_X1_has l G κ tl ad σ v1 _ hw s.heap.size) rfl rfl rfl al_279 sl_X1_has al_5 al_280 hd_X1_has.2 rfl rfl ⟨Nat.le_of_ble_eq_true rfl, Nat.le_of_ble_eq_true rfl⟩ rfl hl.1 rfl (Nat.le_of_ble_eq_true rfl) dX9_way_8 ⟨Nat.zero_le _, Nat.zero_le _⟩) ?_
  intro r1 H locs hw hW
  refine n_if_ne hx hb hw.1 hw.2.1 hw.2.2 (tgt := 16) dX9_way_11 (by decide) (fun hw => ?_) (fun hw => ?_)
  · refine lv_aload_n hx hb dX9_way_16 rfl (lv_at hl 0 rfl) ?_
    refine g_getr hx hb hts hown hK hW 0 rfl (q := 14) rfl uw_X9 2 (by decide) rfl al_202 (fun _ h9 => h9) dX9_way_17 ?_
    refine lv_aload_n hx hb dX9_way_20 rfl (lv_at hl 0 rfl) ?_
    refine g_getr hx hb hts hown hK hW 0 rfl (q := 1) rfl uw_X9 1 (by decide) rfl al_201 (fun _ h9 => h9) dX9_way_21 ?_
    refine fin_CV hW (run_V (k := 14) (As := [.ref (ad 1)]) (rest := []) S hK hE hW (c_X3_refresh l G κ hκ tl ad σ _ hw H.size) rfl rfl al_561 al_562 al_563 al_10 al_564 hd_X3_refresh rfl rfl ⟨Nat.le_of_ble_eq_true rfl, Nat.le_of_ble_eq_true rfl⟩ rfl hl.1 rfl (Nat.le_of_ble_eq_true rfl) dX9_way_24 ⟨Nat.zero_le _, Nat.zero_le _⟩) ?_
    intro σ4 H locs hw hW
    refine lv_aload_n hx hb dX9_way_27 rfl (lv_at hl 0 rfl) ?_
    refine g_getr hx hb hts hown hK hW 0 rfl (q := 14) rfl uw_X9 2 (by decide) rfl al_202 (fun _ h9 => h9) dX9_way_28 ?_
    refine g_getN hx hb hts hown hK hE hW 14 rfl rfl uw_X3 3 (by decide) rfl 5 rfl (fun _ h9 => h9) dX9_way_31 ?_
    refine n_if_ge hx hb hw.1 hw.2.1 hw.2.2 (tgt := 42) dX9_way_34 (by decide) (fun hw => ?_) (fun hw => ?_)
    · refine lv_aload_n hx hb dX9_way_42 rfl (lv_at hl 0 rfl) ?_
      refine g_getr hx hb hts hown hK hW 0 rfl (q := 14) rfl uw_X9 2 (by decide) rfl al_202 (fun _ h9 => h9) dX9_way_43 ?_
      refine lv_iload_n hx hb dX9_way_46 rfl (lv_at hl 1 rfl) ?_
      refine fin_CI hW (run_V (k := 14) (As := [.int (iN v1)]) (rest := []) S hK hE hW (c_X3_chosenOf l G κ hκ tl ad σ4 v1 _ hw H.size) rfl rfl al_631 al_619 al_620 al_10 al_621 hd_X3_chosenOf rfl rfl ⟨Nat.le_of_ble_eq_true rfl, Nat.le_of_ble_eq_true rfl⟩ rfl hl.1 rfl (Nat.le_of_ble_eq_true rfl) dX9_way_47 ⟨Nat.zero_le _, Nat.zero_le _⟩) ?_
      intro r5 H locs hw hW
      exact hB50 σ4 r5 H locs ls hw hW (lv_sub hl [] rfl)
    · refine n_bipush hx hb dX9_way_37 (by decide) ?_
      refine lv_goto (tgt := 50) hx hb dX9_way_39 (by decide) ?_
      exact hB50 σ4 (-2) H locs ls hw hW (lv_sub hl [] rfl)
  · refine n_iconst hx hb dX9_way_14 ?_
    exact r_CM hx hb hr hlk hK hW hw dX9_way_15
set_option maxHeartbeats 4000000 in
set_option maxRecDepth 100000 in
theorem c_X9_stuck (l : Launch) (G : Gt) (κ : Nat) (hκ : κ < 5) (tl : Bool) (ad : Nat → Nat)  (σ : Mem)  (post : Int → Mem → Prop) (hw : w_X9_stuck κ σ  post) : CM l yX9_stuck (Cond.code yX9_stuck cX9_stuck 1 (some .int)) ({ frames := 7, cells := 0, slots := 0, locals := 170 } : Room) G (shW κ tl) ad σ [.ref (ad 0)] post := by
  refine s_all (y := yX9_stuck) (code := cX9_stuck) (maxL := 1) (ret := (some .int)) (rm := ({ frames := 7, cells := 0, slots := 0, locals := 170 } : Room)) (av := [.ref (ad 0)]) (Qc := fun sz => QM G (shW κ tl) ad post (sz)) (by decide) (Nat.le_of_ble_eq_true rfl) ?_
  intro p e s m below meth c S hr hlk _ hK hE hW ls hl
  obtain ⟨hx, hb, hml, hown, hts⟩ := id S
  replace hl : lv_has ls 1 [(0, .ref (ad 0))] := hl
  unfold w_X9_stuck at hw
  refine lv_aload_n hx hb dX9_stuck_0 rfl (lv_at hl 0 rfl) ?_
  refine g_getr hx hb hts hown hK hW 0 rfl (q := 14) rfl uw_X9 2 (by decide) rfl al_202 (fun _ h9 => h9) dX9_stuck_1 ?_
  refine lv_aload_n hx hb dX9_stuck_4 rfl (lv_at hl 0 rfl) ?_
  refine g_getr hx hb hts hown hK hW 0 rfl (q := 1) rfl uw_X9 1 (by decide) rfl al_201 (fun _ h9 => h9) dX9_stuck_5 ?_
  refine fin_CV hW (run_V (k := 14) (As := [.ref (ad 1)]) (rest := []) S hK hE hW (c_X3_refresh l G κ hκ tl ad σ _ hw s.heap.size) rfl rfl al_561 al_562 al_563 al_10 al_564 hd_X3_refresh rfl rfl ⟨Nat.le_of_ble_eq_true rfl, Nat.le_of_ble_eq_true rfl⟩ rfl hl.1 rfl (Nat.le_of_ble_eq_true rfl) dX9_stuck_8 ⟨Nat.zero_le _, Nat.zero_le _⟩) ?_
  intro σ2 H locs hw hW
  refine lv_aload_n hx hb dX9_stuck_11 rfl (lv_at hl 0 rfl) ?_
  refine g_getr hx hb hts hown hK hW 0 rfl (q := 14) rfl uw_X9 2 (by decide) rfl al_202 (fun _ h9 => h9) dX9_stuck_12 ?_
  refine g_getN hx hb hts hown hK hE hW 14 rfl rfl uw_X3 4 (by decide) rfl 6 rfl (fun _ h9 => h9) dX9_stuck_15 ?_
  exact r_CM hx hb hr hlk hK hW hw dX9_stuck_18
set_option maxHeartbeats 4000000 in
set_option maxRecDepth 100000 in
theorem c_X9_told (l : Launch) (G : Gt) (κ : Nat) (hκ : κ < 5) (tl : Bool) (ad : Nat → Nat)  (σ : Mem) (v1 : Int) (post : Int → Prop) (hw : w_X9_told κ σ v1 post) : CI l yX9_told (Cond.code yX9_told cX9_told 2 (some .int)) ({ frames := 1, cells := 0, slots := 0, locals := 23 } : Room) G (shW κ tl) ad σ [.ref (ad 0), .int (iN v1)] post := by
  refine s_all (y := yX9_told) (code := cX9_told) (maxL := 2) (ret := (some .int)) (rm := ({ frames := 1, cells := 0, slots := 0, locals := 23 } : Room)) (av := [.ref (ad 0), .int (iN v1)]) (Qc := fun sz => QI G (shW κ tl) ad σ post (sz)) (by decide) (Nat.le_of_ble_eq_true rfl) ?_
  intro p e s m below meth c S hr hlk _ hK hE hW ls hl
  obtain ⟨hx, hb, hml, hown, hts⟩ := id S
  replace hl : lv_has ls 2 [(0, .ref (ad 0)), (1, .int (iN v1))] := hl
  unfold w_X9_told at hw
  refine lv_iload_n hx hb dX9_told_0 rfl (lv_at hl 1 rfl) ?_
  rcases (show (v1 < 0 ∨ 4 < v1) ∨ v1 = 0 ∨ v1 = 1 ∨ v1 = 2 ∨ v1 = 3 ∨ v1 = 4 by omega) with hc | hc | hc | hc | hc | hc
  · refine n_tableOut (tgt := 87) hx hb hw.1 hc dX9_told_1 (by decide) ?_
    replace hw := hw.2.1 hc
    refine n_iconst hx hb dX9_told_87 ?_
    exact r_CI hx hb hr hlk hK hW hw dX9_told_88
  · refine n_tableIn (v := 0) (tgt := 36) hx hb hw.1 hc dX9_told_1 (by decide) (by decide) rfl (by decide) ?_
    replace hw := hw.2.2.1 hc
    refine lv_aload_n hx hb dX9_told_36 rfl (lv_at hl 0 rfl) ?_
    refine g_getr hx hb hts hown hK hW 0 rfl (q := 1) rfl uw_X9 1 (by decide) rfl al_201 (fun _ h9 => h9) dX9_told_37 ?_
    refine g_getr hx hb hts hown hK hW 1 rfl (q := 2) (hcP hκ) (uwP hκ) 0 (by decide) rfl al_91 (fun _ h9 => h9) dX9_told_40 ?_
    refine g_getN hx hb hts hown hK hE hW 2 rfl rfl uw_X1 7 (by decide) rfl 0 rfl (fun _ h9 => h9) dX9_told_43 ?_
    exact r_CI hx hb hr hlk hK hW hw dX9_told_46
  · refine n_tableIn (v := 1) (tgt := 47) hx hb hw.1 hc dX9_told_1 (by decide) (by decide) rfl (by decide) ?_
    replace hw := hw.2.2.2.1 hc
    refine lv_aload_n hx hb dX9_told_47 rfl (lv_at hl 0 rfl) ?_
    refine g_getr hx hb hts hown hK hW 0 rfl (q := 1) rfl uw_X9 1 (by decide) rfl al_201 (fun _ h9 => h9) dX9_told_48 ?_
    refine g_getr hx hb hts hown hK hW 1 rfl (q := 2) (hcP hκ) (uwP hκ) 0 (by decide) rfl al_91 (fun _ h9 => h9) dX9_told_51 ?_
    refine n_iconst hx hb dX9_told_54 ?_
    refine fin_CI hW (run_VN (k := 2) (As := [.int (iN 0)]) (rest := []) 38 S hK hE hW (c_X1_countOfHand l G κ tl ad σ 0 _ hw s.heap.size) rfl rfl rfl al_740 sl_X1_countOfHand al_5 al_741 hd_X1_countOfHand.2 rfl rfl ⟨Nat.le_of_ble_eq_true rfl, Nat.le_of_ble_eq_true rfl⟩ rfl hl.1 rfl (Nat.le_of_ble_eq_true rfl) dX9_told_55 ⟨Nat.zero_le _, Nat.zero_le _⟩) ?_
    intro r1 H locs hw hW
    exact r_CI hx hb hr hlk hK hW hw dX9_told_58
  · refine n_tableIn (v := 2) (tgt := 59) hx hb hw.1 hc dX9_told_1 (by decide) (by decide) rfl (by decide) ?_
    replace hw := hw.2.2.2.2.1 hc
    refine lv_aload_n hx hb dX9_told_59 rfl (lv_at hl 0 rfl) ?_
    refine g_getr hx hb hts hown hK hW 0 rfl (q := 1) rfl uw_X9 1 (by decide) rfl al_201 (fun _ h9 => h9) dX9_told_60 ?_
    refine g_getr hx hb hts hown hK hW 1 rfl (q := 2) (hcP hκ) (uwP hκ) 0 (by decide) rfl al_91 (fun _ h9 => h9) dX9_told_63 ?_
    refine n_iconst hx hb dX9_told_66 ?_
    refine fin_CI hW (run_VN (k := 2) (As := [.int (iN 1)]) (rest := []) 38 S hK hE hW (c_X1_countOfHand l G κ tl ad σ 1 _ hw s.heap.size) rfl rfl rfl al_740 sl_X1_countOfHand al_5 al_741 hd_X1_countOfHand.2 rfl rfl ⟨Nat.le_of_ble_eq_true rfl, Nat.le_of_ble_eq_true rfl⟩ rfl hl.1 rfl (Nat.le_of_ble_eq_true rfl) dX9_told_67 ⟨Nat.zero_le _, Nat.zero_le _⟩) ?_
    intro r3 H locs hw hW
    exact r_CI hx hb hr hlk hK hW hw dX9_told_70
  · refine n_tableIn (v := 3) (tgt := 71) hx hb hw.1 hc dX9_told_1 (by decide) (by decide) rfl (by decide) ?_
    replace hw := hw.2.2.2.2.2.1 hc
    refine lv_aload_n hx hb dX9_told_71 rfl (lv_at hl 0 rfl) ?_
    refine g_get hx hb hts hown hK hW 0 rfl rfl uw_X9 0 (by decide) rfl al_200 (fun _ h9 => h9) dX9_told_72 ?_
    exact r_CI hx hb hr hlk hK hW hw dX9_told_75
  · refine n_tableIn (v := 4) (tgt := 76) hx hb hw.1 hc dX9_told_1 (by decide) (by decide) rfl (by decide) ?_
    replace hw := hw.2.2.2.2.2.2 hc
    refine lv_aload_n hx hb dX9_told_76 rfl (lv_at hl 0 rfl) ?_
    refine g_getr hx hb hts hown hK hW 0 rfl (q := 1) rfl uw_X9 1 (by decide) rfl al_201 (fun _ h9 => h9) dX9_told_77 ?_
    refine g_getr hx hb hts hown hK hW 1 rfl (q := 2) (hcP hκ) (uwP hκ) 0 (by decide) rfl al_91 (fun _ h9 => h9) dX9_told_80 ?_
    refine fin_CI hW (run_VN (k := 2) (As := []) (rest := []) 39 S hK hE hW (c_X1_countPinned l G κ tl ad σ _ hw s.heap.size) rfl rfl rfl al_744 sl_X1_countPinned al_5 al_745 hd_X1_countPinned.2 rfl rfl ⟨Nat.le_of_ble_eq_true rfl, Nat.le_of_ble_eq_true rfl⟩ rfl hl.1 rfl (Nat.le_of_ble_eq_true rfl) dX9_told_83 ⟨Nat.zero_le _, Nat.zero_le _⟩) ?_
    intro r5 H locs hw hW
    exact r_CI hx hb hr hlk hK hW hw dX9_told_86
set_option maxHeartbeats 4000000 in
set_option maxRecDepth 100000 in
theorem c_X9_about (l : Launch) (G : Gt) (κ : Nat) (hκ : κ < 5) (tl : Bool) (ad : Nat → Nat)  (σ : Mem) (v1 : Int) (v2 : Int) (post : Int → Prop) (hw : w_X9_about κ σ v1 v2 post) : CI l yX9_about (Cond.code yX9_about cX9_about 4 (some .int)) ({ frames := 1, cells := 0, slots := 0, locals := 23 } : Room) G (shW κ tl) ad σ [.ref (ad 0), .int (iN v1), .int (iN v2)] post := by
  refine s_all (y := yX9_about) (code := cX9_about) (maxL := 4) (ret := (some .int)) (rm := ({ frames := 1, cells := 0, slots := 0, locals := 23 } : Room)) (av := [.ref (ad 0), .int (iN v1), .int (iN v2)]) (Qc := fun sz => QI G (shW κ tl) ad σ post (sz)) (by decide) (Nat.le_of_ble_eq_true rfl) ?_
  intro p e s m below meth c S hr hlk _ hK hE hW ls hl
  obtain ⟨hx, hb, hml, hown, hts⟩ := id S
  replace hl : lv_has ls 4 [(0, .ref (ad 0)), (1, .int (iN v1)), (2, .int (iN v2))] := hl
  have hB88 : ∀  (v1_88 : Int) (v2_88 : Int) (H : Heap) (locs : List Loc) (ls : Array Slot), w_X9_about_B88 κ σ v1_88 v2_88 post → Wd G (shW κ tl) ad σ (Aw ad (shW κ tl).length s.heap.size) s.heap H locs → lv_has ls 4 [(1, .int (iN v1_88)), (2, .int (iN v2_88)), (3, .ref (ad 2))] → W p l e ({ frames := 1, cells := 0, slots := 0, locals := 23 } : Room) s m ([.ref (ad 0), .int (iN v1), .int (iN v2)] : List Value).toArray below meth c H locs 0 0 (MQ below (QI G (shW κ tl) ad σ post (s.heap.size)) ([.ref (ad 0), .int (iN v1), .int (iN v2)] : List Value).toArray s 0 0 (Aw ad (shW κ tl).length s.heap.size)) (F0 m 88 ls []) := by
    intro v1_88 v2_88 H locs ls hw hW hl
    unfold w_X9_about_B88 at hw
    refine lv_aload_n hx hb dX9_about_88 rfl (lv_at hl 2 rfl) ?_
    refine lv_iload_n hx hb dX9_about_89 rfl (lv_at hl 0 rfl) ?_
    refine lv_iload_n hx hb dX9_about_90 rfl (lv_at hl 1 rfl) ?_
    refine n_iconst hx hb dX9_about_91 ?_
    refine n_isub hx hb dX9_about_92 ?_
    refine fin_CI hW (run_VN (k := 2) (As := [.int (iN v1_88), .int (iN (v2_88 - 4))]) (rest := []) 42 S hK hE hW (c_X1_pitchOf l G κ tl ad σ v1_88 (v2_88 - 4) _ hw H.size) rfl rfl rfl al_347 sl_X1_pitchOf al_5 al_348 hd_X1_pitchOf.2 rfl rfl ⟨Nat.le_of_ble_eq_true rfl, Nat.le_of_ble_eq_true rfl⟩ rfl hl.1 rfl (Nat.le_of_ble_eq_true rfl) dX9_about_93 ⟨Nat.zero_le _, Nat.zero_le _⟩) ?_
    intro r15 H locs hw hW
    exact r_CI hx hb hr hlk hK hW hw dX9_about_96
  unfold w_X9_about at hw
  refine lv_aload_n hx hb dX9_about_0 rfl (lv_at hl 0 rfl) ?_
  refine g_getr hx hb hts hown hK hW 0 rfl (q := 1) rfl uw_X9 1 (by decide) rfl al_201 (fun _ h9 => h9) dX9_about_1 ?_
  refine g_getr hx hb hts hown hK hW 1 rfl (q := 2) (hcP hκ) (uwP hκ) 0 (by decide) rfl al_91 (fun _ h9 => h9) dX9_about_4 ?_
  refine lv_astore_n (lv' := [(3, .ref (ad 2)), (0, .ref (ad 0)), (1, .int (iN v1)), (2, .int (iN v2))]) hx hb dX9_about_7 rfl hl (by decide) rfl (fun ls hl => ?_)
  refine lv_aload_n hx hb dX9_about_8 rfl (lv_at hl 0 rfl) ?_
  refine lv_iload_n hx hb dX9_about_9 rfl (lv_at hl 2 rfl) ?_
  refine fin_CI hW (run_VN (k := 2) (As := [.int (iN v1)]) (rest := []) 8 S hK hE hW (c_X1_has l G κ tl ad σ v1 _ hw s.heap.size) rfl rfl rfl al_279 sl_X1_has al_5 al_280 hd_X1_has.2 rfl rfl ⟨Nat.le_of_ble_eq_true rfl, Nat.le_of_ble_eq_true rfl⟩ rfl hl.1 rfl (Nat.le_of_ble_eq_true rfl) dX9_about_10 ⟨Nat.zero_le _, Nat.zero_le _⟩) ?_
  intro r1 H locs hw hW
  refine n_if_ne hx hb hw.1 hw.2.1 hw.2.2 (tgt := 18) dX9_about_13 (by decide) (fun hw => ?_) (fun hw => ?_)
  · refine lv_iload_n hx hb dX9_about_18 rfl (lv_at hl 3 rfl) ?_
    rcases (show (v2 < 0 ∨ 7 < v2) ∨ v2 = 0 ∨ v2 = 1 ∨ v2 = 2 ∨ v2 = 3 ∨ v2 = 4 ∨ v2 = 5 ∨ v2 = 6 ∨ v2 = 7 by omega) with hc | hc | hc | hc | hc | hc | hc | hc | hc
    · refine n_tableOut (tgt := 103) hx hb hw.1 hc dX9_about_19 (by decide) ?_
      replace hw := hw.2.1 hc
      refine n_iconst hx hb dX9_about_103 ?_
      exact r_CI hx hb hr hlk hK hW hw dX9_about_104
    · refine n_tableIn (v := 0) (tgt := 64) hx hb hw.1 hc dX9_about_19 (by decide) (by decide) rfl (by decide) ?_
      replace hw := hw.2.2.1 hc
      refine lv_aload_n hx hb dX9_about_64 rfl (lv_at hl 0 rfl) ?_
      refine lv_iload_n hx hb dX9_about_65 rfl (lv_at hl 2 rfl) ?_
      refine fin_CI hW (run_VN (k := 2) (As := [.int (iN v1)]) (rest := []) 40 S hK hE hW (c_X1_handOf l G κ tl ad σ v1 _ hw H.size) rfl rfl rfl al_343 sl_X1_handOf al_5 al_344 hd_X1_handOf.2 rfl rfl ⟨Nat.le_of_ble_eq_true rfl, Nat.le_of_ble_eq_true rfl⟩ rfl hl.1 rfl (Nat.le_of_ble_eq_true rfl) dX9_about_66 ⟨Nat.zero_le _, Nat.zero_le _⟩) ?_
      intro r3 H locs hw hW
      exact r_CI hx hb hr hlk hK hW hw dX9_about_69
    · refine n_tableIn (v := 1) (tgt := 70) hx hb hw.1 hc dX9_about_19 (by decide) (by decide) rfl (by decide) ?_
      replace hw := hw.2.2.2.1 hc
      refine lv_aload_n hx hb dX9_about_70 rfl (lv_at hl 0 rfl) ?_
      refine lv_iload_n hx hb dX9_about_71 rfl (lv_at hl 2 rfl) ?_
      refine fin_CI hW (run_VN (k := 2) (As := [.int (iN v1)]) (rest := []) 3 S hK hE hW (c_X1_timeOf l G κ tl ad σ v1 _ hw H.size) rfl rfl rfl al_238 sl_X1_timeOf al_5 al_239 hd_X1_timeOf.2 rfl rfl ⟨Nat.le_of_ble_eq_true rfl, Nat.le_of_ble_eq_true rfl⟩ rfl hl.1 rfl (Nat.le_of_ble_eq_true rfl) dX9_about_72 ⟨Nat.zero_le _, Nat.zero_le _⟩) ?_
      intro r5 H locs hw hW
      exact r_CI hx hb hr hlk hK hW hw dX9_about_75
    · refine n_tableIn (v := 2) (tgt := 76) hx hb hw.1 hc dX9_about_19 (by decide) (by decide) rfl (by decide) ?_
      replace hw := hw.2.2.2.2.1 hc
      refine lv_aload_n hx hb dX9_about_76 rfl (lv_at hl 0 rfl) ?_
      refine lv_iload_n hx hb dX9_about_77 rfl (lv_at hl 2 rfl) ?_
      refine fin_CI hW (run_VN (k := 2) (As := [.int (iN v1)]) (rest := []) 4 S hK hE hW (c_X1_lengthOf l G κ tl ad σ v1 _ hw H.size) rfl rfl rfl al_242 sl_X1_lengthOf al_5 al_243 hd_X1_lengthOf.2 rfl rfl ⟨Nat.le_of_ble_eq_true rfl, Nat.le_of_ble_eq_true rfl⟩ rfl hl.1 rfl (Nat.le_of_ble_eq_true rfl) dX9_about_78 ⟨Nat.zero_le _, Nat.zero_le _⟩) ?_
      intro r7 H locs hw hW
      exact r_CI hx hb hr hlk hK hW hw dX9_about_81
    · refine n_tableIn (v := 3) (tgt := 82) hx hb hw.1 hc dX9_about_19 (by decide) (by decide) rfl (by decide) ?_
      replace hw := hw.2.2.2.2.2.1 hc
      refine lv_aload_n hx hb dX9_about_82 rfl (lv_at hl 0 rfl) ?_
      refine lv_iload_n hx hb dX9_about_83 rfl (lv_at hl 2 rfl) ?_
      refine fin_CI hW (run_VN (k := 2) (As := [.int (iN v1)]) (rest := []) 41 S hK hE hW (c_X1_sizeOf l G κ tl ad σ v1 _ hw H.size) rfl rfl rfl al_328 sl_X1_sizeOf al_5 al_329 hd_X1_sizeOf.2 rfl rfl ⟨Nat.le_of_ble_eq_true rfl, Nat.le_of_ble_eq_true rfl⟩ rfl hl.1 rfl (Nat.le_of_ble_eq_true rfl) dX9_about_84 ⟨Nat.zero_le _, Nat.zero_le _⟩) ?_
      intro r9 H locs hw hW
      exact r_CI hx hb hr hlk hK hW hw dX9_about_87
    · refine n_tableIn (v := 4) (tgt := 88) hx hb hw.1 hc dX9_about_19 (by decide) (by decide) rfl (by decide) ?_
      replace hw := hw.2.2.2.2.2.2.1 hc
      exact hB88 v1 v2 H locs ls hw hW (lv_sub hl [2, 3, 0] rfl)
    · refine n_tableIn (v := 5) (tgt := 88) hx hb hw.1 hc dX9_about_19 (by decide) (by decide) rfl (by decide) ?_
      replace hw := hw.2.2.2.2.2.2.2.1 hc
      exact hB88 v1 v2 H locs ls hw hW (lv_sub hl [2, 3, 0] rfl)
    · refine n_tableIn (v := 6) (tgt := 88) hx hb hw.1 hc dX9_about_19 (by decide) (by decide) rfl (by decide) ?_
      replace hw := hw.2.2.2.2.2.2.2.2.1 hc
      exact hB88 v1 v2 H locs ls hw hW (lv_sub hl [2, 3, 0] rfl)
    · refine n_tableIn (v := 7) (tgt := 97) hx hb hw.1 hc dX9_about_19 (by decide) (by decide) rfl (by decide) ?_
      replace hw := hw.2.2.2.2.2.2.2.2.2 hc
      refine lv_aload_n hx hb dX9_about_97 rfl (lv_at hl 0 rfl) ?_
      refine lv_iload_n hx hb dX9_about_98 rfl (lv_at hl 2 rfl) ?_
      refine fin_CI hW (run_VN (k := 2) (As := [.int (iN v1)]) (rest := []) 9 S hK hE hW (c_X1_pinOf l G κ tl ad σ v1 _ hw H.size) rfl rfl rfl al_283 sl_X1_pinOf al_5 al_284 hd_X1_pinOf.2 rfl rfl ⟨Nat.le_of_ble_eq_true rfl, Nat.le_of_ble_eq_true rfl⟩ rfl hl.1 rfl (Nat.le_of_ble_eq_true rfl) dX9_about_99 ⟨Nat.zero_le _, Nat.zero_le _⟩) ?_
      intro r13 H locs hw hW
      exact r_CI hx hb hr hlk hK hW hw dX9_about_102
  · refine n_iconst hx hb dX9_about_16 ?_
    exact r_CI hx hb hr hlk hK hW hw dX9_about_17
