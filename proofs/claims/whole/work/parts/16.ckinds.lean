set_option maxHeartbeats 4000000 in
set_option maxRecDepth 100000 in
theorem c_J6_bitCount_0f7a4 (l : Launch) (G : Gt) (κ : Nat)  (tl : Bool) (ad : Nat → Nat)  (σ : Mem) (v0 : Int) (post : Int → Prop) (hw : w_J6_bitCount_0f7a4  σ v0 post) : CI l yJ6_bitCount_0f7a4 (Cond.code yJ6_bitCount_0f7a4 cJ6_bitCount_0f7a4 1 (some .int)) ({ frames := 0, cells := 0, slots := 0, locals := 0 } : Room) G (shW κ tl) ad σ [.int (iN v0)] post := by
  refine s_all (y := yJ6_bitCount_0f7a4) (code := cJ6_bitCount_0f7a4) (maxL := 1) (ret := (some .int)) (rm := ({ frames := 0, cells := 0, slots := 0, locals := 0 } : Room)) (av := [.int (iN v0)]) (Qc := fun sz => QI G (shW κ tl) ad σ post (sz)) (by decide) (Nat.le_of_ble_eq_true rfl) ?_
  intro p e s m below meth c S hr hlk _ hK hE hW ls hl
  obtain ⟨hx, hb, hml, hown, hts⟩ := id S
  replace hl : lv_has ls 1 [(0, .int (iN v0))] := hl
  unfold w_J6_bitCount_0f7a4 at hw
  refine lv_iload_n hx hb dJ6_bitCount_0f7a4_0 rfl (lv_at hl 0 rfl) ?_
  refine lv_iload_n hx hb dJ6_bitCount_0f7a4_1 rfl (lv_at hl 0 rfl) ?_
  refine n_iconst hx hb dJ6_bitCount_0f7a4_2 ?_
  refine n_iushr hx hb dJ6_bitCount_0f7a4_3 ?_
  refine n_ldcw (n := 1431655765) hx hb hown (hts _ (List.mem_cons_of_mem _ al_323)) (by decide) dJ6_bitCount_0f7a4_4 ?_
  refine n_iand hx hb dJ6_bitCount_0f7a4_7 ?_
  refine n_isub hx hb dJ6_bitCount_0f7a4_8 ?_
  refine lv_istore_n (lv' := [(0, .int (iN (v0 - (andI (ushI v0 1) 1431655765))))]) hx hb dJ6_bitCount_0f7a4_9 rfl hl (by decide) rfl (fun ls hl => ?_)
  refine lv_iload_n hx hb dJ6_bitCount_0f7a4_10 rfl (lv_at hl 0 rfl) ?_
  refine n_ldcw (n := 858993459) hx hb hown (hts _ (List.mem_cons_of_mem _ al_324)) (by decide) dJ6_bitCount_0f7a4_11 ?_
  refine n_iand hx hb dJ6_bitCount_0f7a4_14 ?_
  refine lv_iload_n hx hb dJ6_bitCount_0f7a4_15 rfl (lv_at hl 0 rfl) ?_
  refine n_iconst hx hb dJ6_bitCount_0f7a4_16 ?_
  refine n_iushr hx hb dJ6_bitCount_0f7a4_17 ?_
  refine n_ldcw (n := 858993459) hx hb hown (hts _ (List.mem_cons_of_mem _ al_324)) (by decide) dJ6_bitCount_0f7a4_18 ?_
  refine n_iand hx hb dJ6_bitCount_0f7a4_21 ?_
  refine n_iadd hx hb dJ6_bitCount_0f7a4_22 ?_
  refine lv_istore_n (lv' := [(0, .int (iN ((andI (v0 - (andI (ushI v0 1) 1431655765)) 858993459) + (andI (ushI (v0 - (andI (ushI v0 1) 1431655765)) 2) 858993459))))]) hx hb dJ6_bitCount_0f7a4_23 rfl hl (by decide) rfl (fun ls hl => ?_)
  refine lv_iload_n hx hb dJ6_bitCount_0f7a4_24 rfl (lv_at hl 0 rfl) ?_
  refine lv_iload_n hx hb dJ6_bitCount_0f7a4_25 rfl (lv_at hl 0 rfl) ?_
  refine n_iconst hx hb dJ6_bitCount_0f7a4_26 ?_
  refine n_iushr hx hb dJ6_bitCount_0f7a4_27 ?_
  refine n_iadd hx hb dJ6_bitCount_0f7a4_28 ?_
  refine n_ldcw (n := 252645135) hx hb hown (hts _ (List.mem_cons_of_mem _ al_325)) (by decide) dJ6_bitCount_0f7a4_29 ?_
  refine n_iand hx hb dJ6_bitCount_0f7a4_32 ?_
  refine lv_istore_n (lv' := [(0, .int (iN (andI (((andI (v0 - (andI (ushI v0 1) 1431655765)) 858993459) + (andI (ushI (v0 - (andI (ushI v0 1) 1431655765)) 2) 858993459)) + (ushI ((andI (v0 - (andI (ushI v0 1) 1431655765)) 858993459) + (andI (ushI (v0 - (andI (ushI v0 1) 1431655765)) 2) 858993459)) 4)) 252645135)))]) hx hb dJ6_bitCount_0f7a4_33 rfl hl (by decide) rfl (fun ls hl => ?_)
  refine lv_iload_n hx hb dJ6_bitCount_0f7a4_34 rfl (lv_at hl 0 rfl) ?_
  refine lv_iload_n hx hb dJ6_bitCount_0f7a4_35 rfl (lv_at hl 0 rfl) ?_
  refine n_bipush hx hb dJ6_bitCount_0f7a4_36 (by decide) ?_
  refine n_iushr hx hb dJ6_bitCount_0f7a4_38 ?_
  refine n_iadd hx hb dJ6_bitCount_0f7a4_39 ?_
  refine lv_istore_n (lv' := [(0, .int (iN ((andI (((andI (v0 - (andI (ushI v0 1) 1431655765)) 858993459) + (andI (ushI (v0 - (andI (ushI v0 1) 1431655765)) 2) 858993459)) + (ushI ((andI (v0 - (andI (ushI v0 1) 1431655765)) 858993459) + (andI (ushI (v0 - (andI (ushI v0 1) 1431655765)) 2) 858993459)) 4)) 252645135) + (ushI (andI (((andI (v0 - (andI (ushI v0 1) 1431655765)) 858993459) + (andI (ushI (v0 - (andI (ushI v0 1) 1431655765)) 2) 858993459)) + (ushI ((andI (v0 - (andI (ushI v0 1) 1431655765)) 858993459) + (andI (ushI (v0 - (andI (ushI v0 1) 1431655765)) 2) 858993459)) 4)) 252645135) 8))))]) hx hb dJ6_bitCount_0f7a4_40 rfl hl (by decide) rfl (fun ls hl => ?_)
  refine lv_iload_n hx hb dJ6_bitCount_0f7a4_41 rfl (lv_at hl 0 rfl) ?_
  refine lv_iload_n hx hb dJ6_bitCount_0f7a4_42 rfl (lv_at hl 0 rfl) ?_
  refine n_bipush hx hb dJ6_bitCount_0f7a4_43 (by decide) ?_
  refine n_iushr hx hb dJ6_bitCount_0f7a4_45 ?_
  refine n_iadd hx hb dJ6_bitCount_0f7a4_46 ?_
  refine lv_istore_n (lv' := [(0, .int (iN (((andI (((andI (v0 - (andI (ushI v0 1) 1431655765)) 858993459) + (andI (ushI (v0 - (andI (ushI v0 1) 1431655765)) 2) 858993459)) + (ushI ((andI (v0 - (andI (ushI v0 1) 1431655765)) 858993459) + (andI (ushI (v0 - (andI (ushI v0 1) 1431655765)) 2) 858993459)) 4)) 252645135) + (ushI (andI (((andI (v0 - (andI (ushI v0 1) 1431655765)) 858993459) + (andI (ushI (v0 - (andI (ushI v0 1) 1431655765)) 2) 858993459)) + (ushI ((andI (v0 - (andI (ushI v0 1) 1431655765)) 858993459) + (andI (ushI (v0 - (andI (ushI v0 1) 1431655765)) 2) 858993459)) 4)) 252645135) 8)) + (ushI ((andI (((andI (v0 - (andI (ushI v0 1) 1431655765)) 858993459) + (andI (ushI (v0 - (andI (ushI v0 1) 1431655765)) 2) 858993459)) + (ushI ((andI (v0 - (andI (ushI v0 1) 1431655765)) 858993459) + (andI (ushI (v0 - (andI (ushI v0 1) 1431655765)) 2) 858993459)) 4)) 252645135) + (ushI (andI (((andI (v0 - (andI (ushI v0 1) 1431655765)) 858993459) + (andI (ushI (v0 - (andI (ushI v0 1) 1431655765)) 2) 858993459)) + (ushI ((andI (v0 - (andI (ushI v0 1) 1431655765)) 858993459) + (andI (ushI (v0 - (andI (ushI v0 1) 1431655765)) 2) 858993459)) 4)) 252645135) 8)) 16))))]) hx hb dJ6_bitCount_0f7a4_47 rfl hl (by decide) rfl (fun ls hl => ?_)
  refine lv_iload_n hx hb dJ6_bitCount_0f7a4_48 rfl (lv_at hl 0 rfl) ?_
  refine n_bipush hx hb dJ6_bitCount_0f7a4_49 (by decide) ?_
  refine n_iand hx hb dJ6_bitCount_0f7a4_51 ?_
  exact r_CI hx hb hr hlk hK hW hw dJ6_bitCount_0f7a4_52
set_option maxHeartbeats 4000000 in
set_option maxRecDepth 100000 in
theorem c_X1_sizeOf (l : Launch) (G : Gt) (κ : Nat)  (tl : Bool) (ad : Nat → Nat)  (σ : Mem) (v1 : Int) (post : Int → Prop) (hw : w_X1_sizeOf  σ v1 post) : CI l yX1_sizeOf (Cond.code yX1_sizeOf cX1_sizeOf 2 (some .int)) ({ frames := 0, cells := 0, slots := 0, locals := 0 } : Room) G (shW κ tl) ad σ [.ref (ad 2), .int (iN v1)] post := by
  refine s_all (y := yX1_sizeOf) (code := cX1_sizeOf) (maxL := 2) (ret := (some .int)) (rm := ({ frames := 0, cells := 0, slots := 0, locals := 0 } : Room)) (av := [.ref (ad 2), .int (iN v1)]) (Qc := fun sz => QI G (shW κ tl) ad σ post (sz)) (by decide) (Nat.le_of_ble_eq_true rfl) ?_
  intro p e s m below meth c S hr hlk _ hK hE hW ls hl
  obtain ⟨hx, hb, hml, hown, hts⟩ := id S
  replace hl : lv_has ls 2 [(0, .ref (ad 2)), (1, .int (iN v1))] := hl
  have hB22 : ∀  (s0_22 : Int) (H : Heap) (locs : List Loc) (ls : Array Slot), w_X1_sizeOf_B22 σ s0_22 post → Wd G (shW κ tl) ad σ (Aw ad (shW κ tl).length s.heap.size) s.heap H locs → lv_has ls 2 [] → W p l e ({ frames := 0, cells := 0, slots := 0, locals := 0 } : Room) s m ([.ref (ad 2), .int (iN v1)] : List Value).toArray below meth c H locs 0 0 (MQ below (QI G (shW κ tl) ad σ post (s.heap.size)) ([.ref (ad 2), .int (iN v1)] : List Value).toArray s 0 0 (Aw ad (shW κ tl).length s.heap.size)) (F0 m 22 ls [.int (iN s0_22)]) := by
    intro s0_22 H locs ls hw hW hl
    unfold w_X1_sizeOf_B22 at hw
    exact r_CI hx hb hr hlk hK hW hw dX1_sizeOf_22
  have hB21 : ∀   (H : Heap) (locs : List Loc) (ls : Array Slot), w_X1_sizeOf_B21 σ post → Wd G (shW κ tl) ad σ (Aw ad (shW κ tl).length s.heap.size) s.heap H locs → lv_has ls 2 [] → W p l e ({ frames := 0, cells := 0, slots := 0, locals := 0 } : Room) s m ([.ref (ad 2), .int (iN v1)] : List Value).toArray below meth c H locs 0 0 (MQ below (QI G (shW κ tl) ad σ post (s.heap.size)) ([.ref (ad 2), .int (iN v1)] : List Value).toArray s 0 0 (Aw ad (shW κ tl).length s.heap.size)) (F0 m 21 ls []) := by
    intro  H locs ls hw hW hl
    unfold w_X1_sizeOf_B21 at hw
    refine n_iconst hx hb dX1_sizeOf_21 ?_
    exact hB22 0 H locs ls hw hW (lv_sub hl [] rfl)
  unfold w_X1_sizeOf at hw
  refine lv_iload_n hx hb dX1_sizeOf_0 rfl (lv_at hl 1 rfl) ?_
  refine n_if_lt hx hb hw.1 hw.2.1 hw.2.2 (tgt := 21) dX1_sizeOf_1 (by decide) (fun hw => ?_) (fun hw => ?_)
  · exact hB21  s.heap [] ls hw hW (lv_sub hl [] rfl)
  · refine lv_iload_n hx hb dX1_sizeOf_4 rfl (lv_at hl 1 rfl) ?_
    refine lv_aload_n hx hb dX1_sizeOf_5 rfl (lv_at hl 0 rfl) ?_
    refine g_get hx hb hts hown hK hW 2 rfl rfl uw_X1 7 (by decide) rfl al_54 (fun _ h9 => h9) dX1_sizeOf_6 ?_
    refine n_icmp_ge hx hb hw.1 hw.2.1 hw.2.2.1 hw.2.2.2 (tgt := 21) dX1_sizeOf_9 (by decide) (fun hw => ?_) (fun hw => ?_)
    · exact hB21  s.heap [] ls hw hW (lv_sub hl [] rfl)
    · refine lv_aload_n hx hb dX1_sizeOf_12 rfl (lv_at hl 0 rfl) ?_
      refine g_getr hx hb hts hown hK hW 2 rfl (q := 7) rfl uw_X1 4 (by decide) rfl al_51 (fun _ h9 => h9) dX1_sizeOf_13 ?_
      refine lv_iload_n hx hb dX1_sizeOf_16 rfl (lv_at hl 1 rfl) ?_
      refine g_ald hx hb hK hW 7 rfl hw.1 dX1_sizeOf_17 ?_
      replace hw := hw.2
      refine lv_goto (tgt := 22) hx hb dX1_sizeOf_18 (by decide) ?_
      exact hB22 (σ 7 (v1).toNat) s.heap [] ls hw hW (lv_sub hl [] rfl)
set_option maxHeartbeats 4000000 in
set_option maxRecDepth 100000 in
theorem c_X0_fingerAbove (l : Launch) (G : Gt)   (tl : Bool) (ad : Nat → Nat)  (σ : Mem) (v0 : Int) (v1 : Int) (post : Int → Prop) (hw : w_X0_fingerAbove  σ v0 v1 post) : CI l yX0_fingerAbove (Cond.code yX0_fingerAbove cX0_fingerAbove 3 (some .int)) ({ frames := 0, cells := 0, slots := 0, locals := 0 } : Room) G (shW 0 tl) ad σ [.int (iN v0), .int (iN v1)] post := by
  refine s_all (y := yX0_fingerAbove) (code := cX0_fingerAbove) (maxL := 3) (ret := (some .int)) (rm := ({ frames := 0, cells := 0, slots := 0, locals := 0 } : Room)) (av := [.int (iN v0), .int (iN v1)]) (Qc := fun sz => QI G (shW 0 tl) ad σ post (sz)) (by decide) (Nat.le_of_ble_eq_true rfl) ?_
  intro p e s m below meth c S hr hlk _ hK hE hW ls hl
  obtain ⟨hx, hb, hml, hown, hts⟩ := id S
  replace hl : lv_has ls 3 [(0, .int (iN v0)), (1, .int (iN v1))] := hl
  have hL4 : ∀ (v0_4 : Int) (n : Nat) (v2_4 : Int) (H : Heap) (locs : List Loc) (ls : Array Slot), w_X0_fingerAbove_L4 σ v0_4 post n v2_4 → Wd G (shW 0 tl) ad σ (Aw ad (shW 0 tl).length s.heap.size) s.heap H locs → lv_has ls 3 [(0, .int (iN v0_4)), (2, .int (iN v2_4))] → W p l e ({ frames := 0, cells := 0, slots := 0, locals := 0 } : Room) s m ([.int (iN v0), .int (iN v1)] : List Value).toArray below meth c H locs 0 0 (MQ below (QI G (shW 0 tl) ad σ post (s.heap.size)) ([.int (iN v0), .int (iN v1)] : List Value).toArray s 0 0 (Aw ad (shW 0 tl).length s.heap.size)) (F0 m 4 ls []) := by
    intro v0_4 n
    induction n with
    | zero =>
      intro v2_4 H locs ls hw
      exact hw.elim
    | succ n4 ih4 =>
      intro v2_4 H locs ls hw hW hl
      replace hw : w_X0_fingerAbove_L4_body σ v0_4 post (w_X0_fingerAbove_L4 σ v0_4 post n4) v2_4 := hw
      unfold w_X0_fingerAbove_L4_body at hw
      refine lv_iload_n hx hb dX0_fingerAbove_4 rfl (lv_at hl 1 rfl) ?_
      refine n_iconst hx hb dX0_fingerAbove_5 ?_
      refine n_icmp_gt hx hb hw.1 (rg_c _ rfl) hw.2.1 hw.2.2 (tgt := 28) dX0_fingerAbove_6 (by decide) (fun hw => ?_) (fun hw => ?_)
      · refine n_iconst hx hb dX0_fingerAbove_28 ?_
        exact r_CI hx hb hr hlk hK hW hw dX0_fingerAbove_29
      · refine lv_iload_n hx hb dX0_fingerAbove_9 rfl (lv_at hl 0 rfl) ?_
        refine lv_iload_n hx hb dX0_fingerAbove_10 rfl (lv_at hl 1 rfl) ?_
        refine n_iconst hx hb dX0_fingerAbove_11 ?_
        refine n_isub hx hb dX0_fingerAbove_12 ?_
        refine n_ishr hx hb dX0_fingerAbove_13 ?_
        refine n_iconst hx hb dX0_fingerAbove_14 ?_
        refine n_iand hx hb dX0_fingerAbove_15 ?_
        refine n_iconst hx hb dX0_fingerAbove_16 ?_
        refine n_icmp_ne hx hb hw.1 (rg_c _ rfl) hw.2.1 hw.2.2 (tgt := 22) dX0_fingerAbove_17 (by decide) (fun hw => ?_) (fun hw => ?_)
        · refine lv_iinc (v := iN (v2_4 + 1)) (lv' := [(2, .int (iN (v2_4 + 1))), (0, .int (iN v0_4))]) hx hb dX0_fingerAbove_22 hl (k := 1) rfl (iN_add _ _) (by decide) rfl (fun ls hl => ?_)
          refine lv_goto (tgt := 4) hx hb dX0_fingerAbove_25 (by decide) ?_
          exact ih4 (v2_4 + 1) H locs ls hw hW (lv_sub hl [1, 0] rfl)
        · refine lv_iload_n hx hb dX0_fingerAbove_20 rfl (lv_at hl 1 rfl) ?_
          exact r_CI hx hb hr hlk hK hW hw dX0_fingerAbove_21
  unfold w_X0_fingerAbove at hw
  refine lv_iload_n hx hb dX0_fingerAbove_0 rfl (lv_at hl 1 rfl) ?_
  refine n_iconst hx hb dX0_fingerAbove_1 ?_
  refine n_iadd hx hb dX0_fingerAbove_2 ?_
  refine lv_istore_n (lv' := [(2, .int (iN (v1 + 1))), (0, .int (iN v0)), (1, .int (iN v1))]) hx hb dX0_fingerAbove_3 rfl hl (by decide) rfl (fun ls hl => ?_)
  obtain ⟨n, hw⟩ := hw
  exact hL4 v0 n (v1 + 1) s.heap [] ls hw hW (lv_sub hl [1, 0] rfl)
set_option maxHeartbeats 4000000 in
set_option maxRecDepth 100000 in
theorem c_X1_handOf (l : Launch) (G : Gt) (κ : Nat)  (tl : Bool) (ad : Nat → Nat)  (σ : Mem) (v1 : Int) (post : Int → Prop) (hw : w_X1_handOf  σ v1 post) : CI l yX1_handOf (Cond.code yX1_handOf cX1_handOf 2 (some .int)) ({ frames := 0, cells := 0, slots := 0, locals := 0 } : Room) G (shW κ tl) ad σ [.ref (ad 2), .int (iN v1)] post := by
  refine s_all (y := yX1_handOf) (code := cX1_handOf) (maxL := 2) (ret := (some .int)) (rm := ({ frames := 0, cells := 0, slots := 0, locals := 0 } : Room)) (av := [.ref (ad 2), .int (iN v1)]) (Qc := fun sz => QI G (shW κ tl) ad σ post (sz)) (by decide) (Nat.le_of_ble_eq_true rfl) ?_
  intro p e s m below meth c S hr hlk _ hK hE hW ls hl
  obtain ⟨hx, hb, hml, hown, hts⟩ := id S
  replace hl : lv_has ls 2 [(0, .ref (ad 2)), (1, .int (iN v1))] := hl
  have hB22 : ∀  (s0_22 : Int) (H : Heap) (locs : List Loc) (ls : Array Slot), w_X1_handOf_B22 σ s0_22 post → Wd G (shW κ tl) ad σ (Aw ad (shW κ tl).length s.heap.size) s.heap H locs → lv_has ls 2 [] → W p l e ({ frames := 0, cells := 0, slots := 0, locals := 0 } : Room) s m ([.ref (ad 2), .int (iN v1)] : List Value).toArray below meth c H locs 0 0 (MQ below (QI G (shW κ tl) ad σ post (s.heap.size)) ([.ref (ad 2), .int (iN v1)] : List Value).toArray s 0 0 (Aw ad (shW κ tl).length s.heap.size)) (F0 m 22 ls [.int (iN s0_22)]) := by
    intro s0_22 H locs ls hw hW hl
    unfold w_X1_handOf_B22 at hw
    exact r_CI hx hb hr hlk hK hW hw dX1_handOf_22
  have hB21 : ∀   (H : Heap) (locs : List Loc) (ls : Array Slot), w_X1_handOf_B21 σ post → Wd G (shW κ tl) ad σ (Aw ad (shW κ tl).length s.heap.size) s.heap H locs → lv_has ls 2 [] → W p l e ({ frames := 0, cells := 0, slots := 0, locals := 0 } : Room) s m ([.ref (ad 2), .int (iN v1)] : List Value).toArray below meth c H locs 0 0 (MQ below (QI G (shW κ tl) ad σ post (s.heap.size)) ([.ref (ad 2), .int (iN v1)] : List Value).toArray s 0 0 (Aw ad (shW κ tl).length s.heap.size)) (F0 m 21 ls []) := by
    intro  H locs ls hw hW hl
    unfold w_X1_handOf_B21 at hw
    refine n_iconst hx hb dX1_handOf_21 ?_
    exact hB22 0 H locs ls hw hW (lv_sub hl [] rfl)
  unfold w_X1_handOf at hw
  refine lv_iload_n hx hb dX1_handOf_0 rfl (lv_at hl 1 rfl) ?_
  refine n_if_lt hx hb hw.1 hw.2.1 hw.2.2 (tgt := 21) dX1_handOf_1 (by decide) (fun hw => ?_) (fun hw => ?_)
  · exact hB21  s.heap [] ls hw hW (lv_sub hl [] rfl)
  · refine lv_iload_n hx hb dX1_handOf_4 rfl (lv_at hl 1 rfl) ?_
    refine lv_aload_n hx hb dX1_handOf_5 rfl (lv_at hl 0 rfl) ?_
    refine g_get hx hb hts hown hK hW 2 rfl rfl uw_X1 7 (by decide) rfl al_54 (fun _ h9 => h9) dX1_handOf_6 ?_
    refine n_icmp_ge hx hb hw.1 hw.2.1 hw.2.2.1 hw.2.2.2 (tgt := 21) dX1_handOf_9 (by decide) (fun hw => ?_) (fun hw => ?_)
    · exact hB21  s.heap [] ls hw hW (lv_sub hl [] rfl)
    · refine lv_aload_n hx hb dX1_handOf_12 rfl (lv_at hl 0 rfl) ?_
      refine g_getr hx hb hts hown hK hW 2 rfl (q := 4) rfl uw_X1 1 (by decide) rfl al_48 (fun _ h9 => h9) dX1_handOf_13 ?_
      refine lv_iload_n hx hb dX1_handOf_16 rfl (lv_at hl 1 rfl) ?_
      refine g_ald hx hb hK hW 4 rfl hw.1 dX1_handOf_17 ?_
      replace hw := hw.2
      refine lv_goto (tgt := 22) hx hb dX1_handOf_18 (by decide) ?_
      exact hB22 (σ 4 (v1).toNat) s.heap [] ls hw hW (lv_sub hl [] rfl)
set_option maxHeartbeats 4000000 in
set_option maxRecDepth 100000 in
theorem c_X1_pitchOf (l : Launch) (G : Gt) (κ : Nat)  (tl : Bool) (ad : Nat → Nat)  (σ : Mem) (v1 : Int) (v2 : Int) (post : Int → Prop) (hw : w_X1_pitchOf  σ v1 v2 post) : CI l yX1_pitchOf (Cond.code yX1_pitchOf cX1_pitchOf 4 (some .int)) ({ frames := 0, cells := 0, slots := 0, locals := 0 } : Room) G (shW κ tl) ad σ [.ref (ad 2), .int (iN v1), .int (iN v2)] post := by
  refine s_all (y := yX1_pitchOf) (code := cX1_pitchOf) (maxL := 4) (ret := (some .int)) (rm := ({ frames := 0, cells := 0, slots := 0, locals := 0 } : Room)) (av := [.ref (ad 2), .int (iN v1), .int (iN v2)]) (Qc := fun sz => QI G (shW κ tl) ad σ post (sz)) (by decide) (Nat.le_of_ble_eq_true rfl) ?_
  intro p e s m below meth c S hr hlk _ hK hE hW ls hl
  obtain ⟨hx, hb, hml, hown, hts⟩ := id S
  replace hl : lv_has ls 4 [(0, .ref (ad 2)), (1, .int (iN v1)), (2, .int (iN v2))] := hl
  have hB45 : ∀  (s0_45 : Int) (H : Heap) (locs : List Loc) (ls : Array Slot), w_X1_pitchOf_B45 σ s0_45 post → Wd G (shW κ tl) ad σ (Aw ad (shW κ tl).length s.heap.size) s.heap H locs → lv_has ls 4 [] → W p l e ({ frames := 0, cells := 0, slots := 0, locals := 0 } : Room) s m ([.ref (ad 2), .int (iN v1), .int (iN v2)] : List Value).toArray below meth c H locs 0 0 (MQ below (QI G (shW κ tl) ad σ post (s.heap.size)) ([.ref (ad 2), .int (iN v1), .int (iN v2)] : List Value).toArray s 0 0 (Aw ad (shW κ tl).length s.heap.size)) (F0 m 45 ls [.int (iN s0_45)]) := by
    intro s0_45 H locs ls hw hW hl
    unfold w_X1_pitchOf_B45 at hw
    exact r_CI hx hb hr hlk hK hW hw dX1_pitchOf_45
  have hB26 : ∀  (v1_26 : Int) (v2_26 : Int) (s0_26 : Int) (H : Heap) (locs : List Loc) (ls : Array Slot), w_X1_pitchOf_B26 σ v1_26 v2_26 s0_26 post → Wd G (shW κ tl) ad σ (Aw ad (shW κ tl).length s.heap.size) s.heap H locs → lv_has ls 4 [(0, .ref (ad 2)), (1, .int (iN v1_26)), (2, .int (iN v2_26))] → W p l e ({ frames := 0, cells := 0, slots := 0, locals := 0 } : Room) s m ([.ref (ad 2), .int (iN v1), .int (iN v2)] : List Value).toArray below meth c H locs 0 0 (MQ below (QI G (shW κ tl) ad σ post (s.heap.size)) ([.ref (ad 2), .int (iN v1), .int (iN v2)] : List Value).toArray s 0 0 (Aw ad (shW κ tl).length s.heap.size)) (F0 m 26 ls [.int (iN s0_26)]) := by
    intro v1_26 v2_26 s0_26 H locs ls hw hW hl
    unfold w_X1_pitchOf_B26 at hw
    refine lv_istore_n (lv' := [(3, .int (iN s0_26)), (0, .ref (ad 2)), (1, .int (iN v1_26)), (2, .int (iN v2_26))]) hx hb dX1_pitchOf_26 rfl hl (by decide) rfl (fun ls hl => ?_)
    refine lv_iload_n hx hb dX1_pitchOf_27 rfl (lv_at hl 0 rfl) ?_
    refine n_if_eq hx hb hw.1 hw.2.1 hw.2.2 (tgt := 44) dX1_pitchOf_28 (by decide) (fun hw => ?_) (fun hw => ?_)
    · refine n_iconst hx hb dX1_pitchOf_44 ?_
      exact hB45 (-1) H locs ls hw hW (lv_sub hl [] rfl)
    · refine lv_aload_n hx hb dX1_pitchOf_31 rfl (lv_at hl 1 rfl) ?_
      refine g_getr hx hb hts hown hK hW 2 rfl (q := 9) rfl uw_X1 6 (by decide) rfl al_53 (fun _ h9 => h9) dX1_pitchOf_32 ?_
      refine lv_iload_n hx hb dX1_pitchOf_35 rfl (lv_at hl 2 rfl) ?_
      refine n_iconst hx hb dX1_pitchOf_36 ?_
      refine n_imul hx hb dX1_pitchOf_37 ?_
      refine lv_iload_n hx hb dX1_pitchOf_38 rfl (lv_at hl 3 rfl) ?_
      refine n_iadd hx hb dX1_pitchOf_39 ?_
      refine g_ald hx hb hK hW 9 rfl hw.1 dX1_pitchOf_40 ?_
      replace hw := hw.2
      refine lv_goto (tgt := 45) hx hb dX1_pitchOf_41 (by decide) ?_
      exact hB45 (σ 9 (((v1_26 * 3) + v2_26)).toNat) H locs ls hw hW (lv_sub hl [] rfl)
  have hB25 : ∀  (v1_25 : Int) (v2_25 : Int) (H : Heap) (locs : List Loc) (ls : Array Slot), w_X1_pitchOf_B25 σ v1_25 v2_25 post → Wd G (shW κ tl) ad σ (Aw ad (shW κ tl).length s.heap.size) s.heap H locs → lv_has ls 4 [(0, .ref (ad 2)), (1, .int (iN v1_25)), (2, .int (iN v2_25))] → W p l e ({ frames := 0, cells := 0, slots := 0, locals := 0 } : Room) s m ([.ref (ad 2), .int (iN v1), .int (iN v2)] : List Value).toArray below meth c H locs 0 0 (MQ below (QI G (shW κ tl) ad σ post (s.heap.size)) ([.ref (ad 2), .int (iN v1), .int (iN v2)] : List Value).toArray s 0 0 (Aw ad (shW κ tl).length s.heap.size)) (F0 m 25 ls []) := by
    intro v1_25 v2_25 H locs ls hw hW hl
    unfold w_X1_pitchOf_B25 at hw
    refine n_iconst hx hb dX1_pitchOf_25 ?_
    exact hB26 v1_25 v2_25 0 H locs ls hw hW (lv_sub hl [0, 1, 2] rfl)
  unfold w_X1_pitchOf at hw
  refine lv_iload_n hx hb dX1_pitchOf_0 rfl (lv_at hl 1 rfl) ?_
  refine n_if_lt hx hb hw.1 hw.2.1 hw.2.2 (tgt := 25) dX1_pitchOf_1 (by decide) (fun hw => ?_) (fun hw => ?_)
  · exact hB25 v1 v2 s.heap [] ls hw hW (lv_sub hl [0, 1, 2] rfl)
  · refine lv_iload_n hx hb dX1_pitchOf_4 rfl (lv_at hl 1 rfl) ?_
    refine lv_aload_n hx hb dX1_pitchOf_5 rfl (lv_at hl 0 rfl) ?_
    refine g_get hx hb hts hown hK hW 2 rfl rfl uw_X1 7 (by decide) rfl al_54 (fun _ h9 => h9) dX1_pitchOf_6 ?_
    refine n_icmp_ge hx hb hw.1 hw.2.1 hw.2.2.1 hw.2.2.2 (tgt := 25) dX1_pitchOf_9 (by decide) (fun hw => ?_) (fun hw => ?_)
    · exact hB25 v1 v2 s.heap [] ls hw hW (lv_sub hl [0, 1, 2] rfl)
    · refine lv_iload_n hx hb dX1_pitchOf_12 rfl (lv_at hl 2 rfl) ?_
      refine n_if_lt hx hb hw.1 hw.2.1 hw.2.2 (tgt := 25) dX1_pitchOf_13 (by decide) (fun hw => ?_) (fun hw => ?_)
      · exact hB25 v1 v2 s.heap [] ls hw hW (lv_sub hl [0, 1, 2] rfl)
      · refine lv_iload_n hx hb dX1_pitchOf_16 rfl (lv_at hl 2 rfl) ?_
        refine n_iconst hx hb dX1_pitchOf_17 ?_
        refine n_icmp_ge hx hb hw.1 (rg_c _ rfl) hw.2.1 hw.2.2 (tgt := 25) dX1_pitchOf_18 (by decide) (fun hw => ?_) (fun hw => ?_)
        · exact hB25 v1 v2 s.heap [] ls hw hW (lv_sub hl [0, 1, 2] rfl)
        · refine n_iconst hx hb dX1_pitchOf_21 ?_
          refine lv_goto (tgt := 26) hx hb dX1_pitchOf_22 (by decide) ?_
          exact hB26 v1 v2 1 s.heap [] ls hw hW (lv_sub hl [0, 1, 2] rfl)
set_option maxHeartbeats 4000000 in
set_option maxRecDepth 100000 in
theorem c_X0_noteOfFinger (l : Launch) (G : Gt)   (tl : Bool) (ad : Nat → Nat)  (σ : Mem) (v1 : Int) (v2 : Int) (post : Int → Prop) (hw : w_X0_noteOfFinger  σ v1 v2 post) : CI l yX0_noteOfFinger (Cond.code yX0_noteOfFinger cX0_noteOfFinger 3 (some .int)) ({ frames := 1, cells := 0, slots := 0, locals := 23 } : Room) G (shW 0 tl) ad σ [.ref (ad 1), .int (iN v1), .int (iN v2)] post := by
  refine s_all (y := yX0_noteOfFinger) (code := cX0_noteOfFinger) (maxL := 3) (ret := (some .int)) (rm := ({ frames := 1, cells := 0, slots := 0, locals := 23 } : Room)) (av := [.ref (ad 1), .int (iN v1), .int (iN v2)]) (Qc := fun sz => QI G (shW 0 tl) ad σ post (sz)) (by decide) (Nat.le_of_ble_eq_true rfl) ?_
  intro p e s m below meth c S hr hlk _ hK hE hW ls hl
  obtain ⟨hx, hb, hml, hown, hts⟩ := id S
  replace hl : lv_has ls 3 [(0, .ref (ad 1)), (1, .int (iN v1)), (2, .int (iN v2))] := hl
  have hB33 : ∀  (s0_33 : Int) (s1_33 : Int) (H : Heap) (locs : List Loc) (ls : Array Slot), w_X0_noteOfFinger_B33 σ s0_33 s1_33 post → Wd G (shW 0 tl) ad σ (Aw ad (shW 0 tl).length s.heap.size) s.heap H locs → lv_has ls 3 [] → W p l e ({ frames := 1, cells := 0, slots := 0, locals := 23 } : Room) s m ([.ref (ad 1), .int (iN v1), .int (iN v2)] : List Value).toArray below meth c H locs 0 0 (MQ below (QI G (shW 0 tl) ad σ post (s.heap.size)) ([.ref (ad 1), .int (iN v1), .int (iN v2)] : List Value).toArray s 0 0 (Aw ad (shW 0 tl).length s.heap.size)) (F0 m 33 ls [.int (iN s0_33), .int (iN s1_33), .ref (ad 2)]) := by
    intro s0_33 s1_33 H locs ls hw hW hl
    unfold w_X0_noteOfFinger_B33 at hw
    refine fin_CI hW (run_VN (k := 2) (As := [.int (iN s1_33), .int (iN s0_33)]) (rest := []) 14 S hK hE hW (c_X1_pitchOf l G 0 tl ad σ s1_33 s0_33 _ hw H.size) rfl rfl rfl al_347 sl_X1_pitchOf al_5 al_348 hd_X1_pitchOf.2 rfl rfl ⟨Nat.le_of_ble_eq_true rfl, Nat.le_of_ble_eq_true rfl⟩ rfl hl.1 rfl (Nat.le_of_ble_eq_true rfl) dX0_noteOfFinger_33 ⟨Nat.zero_le _, Nat.zero_le _⟩) ?_
    intro r7 H locs hw hW
    exact r_CI hx hb hr hlk hK hW hw dX0_noteOfFinger_36
  unfold w_X0_noteOfFinger at hw
  refine lv_aload_n hx hb dX0_noteOfFinger_0 rfl (lv_at hl 0 rfl) ?_
  refine g_getr hx hb hts hown hK hW 1 rfl (q := 2) (hcP (by decide)) (uwP (by decide)) 0 (by decide) rfl al_85 (fun x9 h9 => u_same (hts _ (List.mem_cons_of_mem _ al_86)) x9 h9) dX0_noteOfFinger_1 ?_
  refine lv_iload_n hx hb dX0_noteOfFinger_4 rfl (lv_at hl 1 rfl) ?_
  refine lv_aload_n hx hb dX0_noteOfFinger_5 rfl (lv_at hl 0 rfl) ?_
  refine g_getr hx hb hts hown hK hW 1 rfl (q := 2) (hcP (by decide)) (uwP (by decide)) 0 (by decide) rfl al_85 (fun x9 h9 => u_same (hts _ (List.mem_cons_of_mem _ al_86)) x9 h9) dX0_noteOfFinger_6 ?_
  refine lv_iload_n hx hb dX0_noteOfFinger_9 rfl (lv_at hl 1 rfl) ?_
  refine fin_CI hW (run_VN (k := 2) (As := [.int (iN v1)]) (rest := [.int (iN v1), .ref (ad 2)]) 13 S hK hE hW (c_X1_handOf l G 0 tl ad σ v1 _ hw s.heap.size) rfl rfl rfl al_343 sl_X1_handOf al_5 al_344 hd_X1_handOf.2 rfl rfl ⟨Nat.le_of_ble_eq_true rfl, Nat.le_of_ble_eq_true rfl⟩ rfl hl.1 rfl (Nat.le_of_ble_eq_true rfl) dX0_noteOfFinger_10 ⟨Nat.zero_le _, Nat.zero_le _⟩) ?_
  intro r1 H locs hw hW
  refine n_iconst hx hb dX0_noteOfFinger_13 ?_
  refine n_icmp_ne hx hb hw.1 (rg_c _ rfl) hw.2.1 hw.2.2 (tgt := 21) dX0_noteOfFinger_14 (by decide) (fun hw => ?_) (fun hw => ?_)
  · refine lv_aload_n hx hb dX0_noteOfFinger_21 rfl (lv_at hl 0 rfl) ?_
    refine g_getr hx hb hts hown hK hW 1 rfl (q := 2) (hcP (by decide)) (uwP (by decide)) 0 (by decide) rfl al_85 (fun x9 h9 => u_same (hts _ (List.mem_cons_of_mem _ al_86)) x9 h9) dX0_noteOfFinger_22 ?_
    refine lv_iload_n hx hb dX0_noteOfFinger_25 rfl (lv_at hl 1 rfl) ?_
    refine fin_CI hW (run_VN (k := 2) (As := [.int (iN v1)]) (rest := [.int (iN v1), .ref (ad 2)]) 12 S hK hE hW (c_X1_sizeOf l G 0 tl ad σ v1 _ hw H.size) rfl rfl rfl al_328 sl_X1_sizeOf al_5 al_329 hd_X1_sizeOf.2 rfl rfl ⟨Nat.le_of_ble_eq_true rfl, Nat.le_of_ble_eq_true rfl⟩ rfl hl.1 rfl (Nat.le_of_ble_eq_true rfl) dX0_noteOfFinger_26 ⟨Nat.zero_le _, Nat.zero_le _⟩) ?_
    intro r3 H locs hw hW
    refine n_iconst hx hb dX0_noteOfFinger_29 ?_
    refine n_isub hx hb dX0_noteOfFinger_30 ?_
    refine lv_iload_n hx hb dX0_noteOfFinger_31 rfl (lv_at hl 2 rfl) ?_
    refine n_isub hx hb dX0_noteOfFinger_32 ?_
    exact hB33 ((r3 - 1) - v2) v1 H locs ls hw hW (lv_sub hl [] rfl)
  · refine lv_iload_n hx hb dX0_noteOfFinger_17 rfl (lv_at hl 2 rfl) ?_
    refine lv_goto (tgt := 33) hx hb dX0_noteOfFinger_18 (by decide) ?_
    exact hB33 v2 v1 H locs ls hw hW (lv_sub hl [] rfl)
set_option maxHeartbeats 4000000 in
set_option maxRecDepth 100000 in
theorem c_X0_stretch (l : Launch) (G : Gt)   (tl : Bool) (ad : Nat → Nat)  (σ : Mem) (v1 : Int) (v2 : Int) (post : Int → Prop) (hw : w_X0_stretch  σ v1 v2 post) : CI l yX0_stretch (Cond.code yX0_stretch cX0_stretch 10 (some .int)) ({ frames := 2, cells := 0, slots := 0, locals := 45 } : Room) G (shW 0 tl) ad σ [.ref (ad 1), .int (iN v1), .int (iN v2)] post := by
  refine s_all (y := yX0_stretch) (code := cX0_stretch) (maxL := 10) (ret := (some .int)) (rm := ({ frames := 2, cells := 0, slots := 0, locals := 45 } : Room)) (av := [.ref (ad 1), .int (iN v1), .int (iN v2)]) (Qc := fun sz => QI G (shW 0 tl) ad σ post (sz)) (by decide) (Nat.le_of_ble_eq_true rfl) ?_
  intro p e s m below meth c S hr hlk _ hK hE hW ls hl
  obtain ⟨hx, hb, hml, hown, hts⟩ := id S
  replace hl : lv_has ls 10 [(0, .ref (ad 1)), (1, .int (iN v1)), (2, .int (iN v2))] := hl
  have hL12 : ∀ (v1_12 : Int) (v2_12 : Int) (n : Nat) (v3_12 : Int) (v4_12 : Int) (v5_12 : Int) (H : Heap) (locs : List Loc) (ls : Array Slot), w_X0_stretch_L12 σ v1_12 v2_12 post n v3_12 v4_12 v5_12 → Wd G (shW 0 tl) ad σ (Aw ad (shW 0 tl).length s.heap.size) s.heap H locs → lv_has ls 10 [(0, .ref (ad 1)), (1, .int (iN v1_12)), (2, .int (iN v2_12)), (3, .int (iN v3_12)), (4, .int (iN v4_12)), (5, .int (iN v5_12))] → W p l e ({ frames := 2, cells := 0, slots := 0, locals := 45 } : Room) s m ([.ref (ad 1), .int (iN v1), .int (iN v2)] : List Value).toArray below meth c H locs 0 0 (MQ below (QI G (shW 0 tl) ad σ post (s.heap.size)) ([.ref (ad 1), .int (iN v1), .int (iN v2)] : List Value).toArray s 0 0 (Aw ad (shW 0 tl).length s.heap.size)) (F0 m 12 ls []) := by
    intro v1_12 v2_12 n
    induction n with
    | zero =>
      intro v3_12 v4_12 v5_12 H locs ls hw
      exact hw.elim
    | succ n12 ih12 =>
      intro v3_12 v4_12 v5_12 H locs ls hw hW hl
      replace hw : w_X0_stretch_L12_body σ v1_12 v2_12 post (w_X0_stretch_L12 σ v1_12 v2_12 post n12) v3_12 v4_12 v5_12 := hw
      have hB51 : ∀  (v3_51 : Int) (v5_51 : Int) (v6_51 : Int) (v7_51 : Int) (s0_51 : Int) (H : Heap) (locs : List Loc) (ls : Array Slot), w_X0_stretch_B51 σ v1_12 v2_12 v3_51 v5_51 v6_51 v7_51 s0_51 post (w_X0_stretch_L12 σ v1_12 v2_12 post n12) → Wd G (shW 0 tl) ad σ (Aw ad (shW 0 tl).length s.heap.size) s.heap H locs → lv_has ls 10 [(0, .ref (ad 1)), (1, .int (iN v1_12)), (2, .int (iN v2_12)), (3, .int (iN v3_51)), (5, .int (iN v5_51)), (6, .int (iN v6_51)), (7, .int (iN v7_51))] → W p l e ({ frames := 2, cells := 0, slots := 0, locals := 45 } : Room) s m ([.ref (ad 1), .int (iN v1), .int (iN v2)] : List Value).toArray below meth c H locs 0 0 (MQ below (QI G (shW 0 tl) ad σ post (s.heap.size)) ([.ref (ad 1), .int (iN v1), .int (iN v2)] : List Value).toArray s 0 0 (Aw ad (shW 0 tl).length s.heap.size)) (F0 m 51 ls [.int (iN s0_51)]) := by
        intro v3_51 v5_51 v6_51 v7_51 s0_51 H locs ls hw hW hl
        unfold w_X0_stretch_B51 at hw
        refine lv_istore (lv' := [(8, .int (iN s0_51)), (0, .ref (ad 1)), (1, .int (iN v1_12)), (2, .int (iN v2_12)), (3, .int (iN v3_51)), (5, .int (iN v5_51)), (6, .int (iN v6_51)), (7, .int (iN v7_51))]) hx hb dX0_stretch_51 hl (by decide) rfl (fun ls hl => ?_)
        refine lv_aload_n hx hb dX0_stretch_53 rfl (lv_at hl 1 rfl) ?_
        refine lv_iload_n hx hb dX0_stretch_54 rfl (lv_at hl 2 rfl) ?_
        refine lv_iload hx hb dX0_stretch_55 (lv_at hl 5 rfl) ?_
        refine fin_CI hW (run_V (k := 1) (As := [.int (iN v1_12), .int (iN v5_51)]) (rest := []) S hK hE hW (c_X0_noteOfFinger l G tl ad σ v1_12 v5_51 _ hw H.size) rfl rfl al_337 al_339 sl_X0_noteOfFinger al_4 al_340 hd_X0_noteOfFinger rfl rfl ⟨Nat.le_of_ble_eq_true rfl, Nat.le_of_ble_eq_true rfl⟩ rfl hl.1 rfl (Nat.le_of_ble_eq_true rfl) dX0_stretch_57 ⟨Nat.zero_le _, Nat.zero_le _⟩) ?_
        intro r11 H locs hw hW
        refine lv_aload_n hx hb dX0_stretch_60 rfl (lv_at hl 1 rfl) ?_
        refine lv_iload_n hx hb dX0_stretch_61 rfl (lv_at hl 2 rfl) ?_
        refine lv_iload hx hb dX0_stretch_62 (lv_at hl 5 rfl) ?_
        refine n_iconst hx hb dX0_stretch_64 ?_
        refine n_isub hx hb dX0_stretch_65 ?_
        refine fin_CI hW (run_V (k := 1) (As := [.int (iN v1_12), .int (iN (v5_51 - 1))]) (rest := [.int (iN r11)]) S hK hE hW (c_X0_noteOfFinger l G tl ad σ v1_12 (v5_51 - 1) _ hw H.size) rfl rfl al_337 al_339 sl_X0_noteOfFinger al_4 al_340 hd_X0_noteOfFinger rfl rfl ⟨Nat.le_of_ble_eq_true rfl, Nat.le_of_ble_eq_true rfl⟩ rfl hl.1 rfl (Nat.le_of_ble_eq_true rfl) dX0_stretch_66 ⟨Nat.zero_le _, Nat.zero_le _⟩) ?_
        intro r13 H locs hw hW
        refine n_isub hx hb dX0_stretch_69 ?_
        refine n_mabs hx hb (hml.trans hl.1.symm) hown (hts _ (List.mem_cons_of_mem _ al_349)) (hts _ (List.mem_cons_of_mem _ al_350)) (hts _ (List.mem_cons_of_mem _ al_2)) (hts _ (List.mem_cons_of_mem _ al_351)) (Nat.le_of_ble_eq_true rfl) (Nat.le_of_ble_eq_true rfl) (Nat.zero_le _) (Nat.zero_le _) hw.1 dX0_stretch_70 ?_
        replace hw := hw.2
        refine lv_istore (lv' := [(9, .int (iN (max (r11 - r13) (-(r11 - r13))))), (8, .int (iN s0_51)), (0, .ref (ad 1)), (1, .int (iN v1_12)), (2, .int (iN v2_12)), (3, .int (iN v3_51)), (5, .int (iN v5_51)), (6, .int (iN v6_51)), (7, .int (iN v7_51))]) hx hb dX0_stretch_73 hl (by decide) rfl (fun ls hl => ?_)
        refine lv_iload hx hb dX0_stretch_75 (lv_at hl 0 rfl) ?_
        refine n_iconst hx hb dX0_stretch_77 ?_
        refine lv_iload hx hb dX0_stretch_78 (lv_at hl 8 rfl) ?_
        refine n_imul hx hb dX0_stretch_80 ?_
        refine n_iconst hx hb dX0_stretch_81 ?_
        refine lv_iload hx hb dX0_stretch_82 (lv_at hl 1 rfl) ?_
        refine n_imul hx hb dX0_stretch_84 ?_
        refine n_iadd hx hb dX0_stretch_85 ?_
        refine n_icmp_le hx hb hw.1 hw.2.1 hw.2.2.1 hw.2.2.2 (tgt := 92) dX0_stretch_86 (by decide) (fun hw => ?_) (fun hw => ?_)
        · refine lv_iload_n hx hb dX0_stretch_92 rfl (lv_at hl 5 rfl) ?_
          refine n_iconst hx hb dX0_stretch_93 ?_
          refine lv_iload hx hb dX0_stretch_94 (lv_at hl 0 rfl) ?_
          refine n_iconst hx hb dX0_stretch_96 ?_
          refine lv_iload hx hb dX0_stretch_97 (lv_at hl 8 rfl) ?_
          refine n_imul hx hb dX0_stretch_99 ?_
          refine n_isub hx hb dX0_stretch_100 ?_
          refine n_iconst hx hb dX0_stretch_101 ?_
          refine lv_iload hx hb dX0_stretch_102 (lv_at hl 1 rfl) ?_
          refine n_imul hx hb dX0_stretch_104 ?_
          refine n_isub hx hb dX0_stretch_105 ?_
          refine n_mmax hx hb (hml.trans hl.1.symm) hown (hts _ (List.mem_cons_of_mem _ al_352)) (hts _ (List.mem_cons_of_mem _ al_27)) (hts _ (List.mem_cons_of_mem _ al_2)) (hts _ (List.mem_cons_of_mem _ al_28)) (Nat.le_of_ble_eq_true rfl) (Nat.le_of_ble_eq_true rfl) (Nat.zero_le _) (Nat.zero_le _) (rg_c _ rfl) hw.1 dX0_stretch_106 ?_
          replace hw := hw.2
          refine n_iconst hx hb dX0_stretch_109 ?_
          refine lv_iload hx hb dX0_stretch_110 (lv_at hl 8 rfl) ?_
          refine lv_iload hx hb dX0_stretch_112 (lv_at hl 0 rfl) ?_
          refine n_isub hx hb dX0_stretch_114 ?_
          refine n_mmax hx hb (hml.trans hl.1.symm) hown (hts _ (List.mem_cons_of_mem _ al_352)) (hts _ (List.mem_cons_of_mem _ al_27)) (hts _ (List.mem_cons_of_mem _ al_2)) (hts _ (List.mem_cons_of_mem _ al_28)) (Nat.le_of_ble_eq_true rfl) (Nat.le_of_ble_eq_true rfl) (Nat.zero_le _) (Nat.zero_le _) (rg_c _ rfl) hw.1 dX0_stretch_115 ?_
          replace hw := hw.2
          refine n_iadd hx hb dX0_stretch_118 ?_
          refine n_iadd hx hb dX0_stretch_119 ?_
          refine lv_istore_n (lv' := [(3, .int (iN (v3_51 + ((max 0 (((max (r11 - r13) (-(r11 - r13))) - (2 * v7_51)) - (2 * s0_51))) + (max 0 (v7_51 - (max (r11 - r13) (-(r11 - r13))))))))), (9, .int (iN (max (r11 - r13) (-(r11 - r13))))), (8, .int (iN s0_51)), (0, .ref (ad 1)), (1, .int (iN v1_12)), (2, .int (iN v2_12)), (5, .int (iN v5_51)), (6, .int (iN v6_51)), (7, .int (iN v7_51))]) hx hb dX0_stretch_120 rfl hl (by decide) rfl (fun ls hl => ?_)
          refine lv_iload hx hb dX0_stretch_121 (lv_at hl 7 rfl) ?_
          refine lv_istore (lv' := [(4, .int (iN v6_51)), (3, .int (iN (v3_51 + ((max 0 (((max (r11 - r13) (-(r11 - r13))) - (2 * v7_51)) - (2 * s0_51))) + (max 0 (v7_51 - (max (r11 - r13) (-(r11 - r13))))))))), (9, .int (iN (max (r11 - r13) (-(r11 - r13))))), (8, .int (iN s0_51)), (0, .ref (ad 1)), (1, .int (iN v1_12)), (2, .int (iN v2_12)), (5, .int (iN v5_51)), (6, .int (iN v6_51)), (7, .int (iN v7_51))]) hx hb dX0_stretch_123 hl (by decide) rfl (fun ls hl => ?_)
          refine lv_iinc (v := iN (v5_51 + 1)) (lv' := [(5, .int (iN (v5_51 + 1))), (4, .int (iN v6_51)), (3, .int (iN (v3_51 + ((max 0 (((max (r11 - r13) (-(r11 - r13))) - (2 * v7_51)) - (2 * s0_51))) + (max 0 (v7_51 - (max (r11 - r13) (-(r11 - r13))))))))), (9, .int (iN (max (r11 - r13) (-(r11 - r13))))), (8, .int (iN s0_51)), (0, .ref (ad 1)), (1, .int (iN v1_12)), (2, .int (iN v2_12)), (6, .int (iN v6_51)), (7, .int (iN v7_51))]) hx hb dX0_stretch_125 hl (k := 7) rfl (iN_add _ _) (by decide) rfl (fun ls hl => ?_)
          refine lv_goto (tgt := 12) hx hb dX0_stretch_128 (by decide) ?_
          exact ih12 (v3_51 + ((max 0 (((max (r11 - r13) (-(r11 - r13))) - (2 * v7_51)) - (2 * s0_51))) + (max 0 (v7_51 - (max (r11 - r13) (-(r11 - r13))))))) v6_51 (v5_51 + 1) H locs ls hw hW (lv_sub hl [5, 6, 7, 2, 1, 0] rfl)
        · refine n_bipush hx hb dX0_stretch_89 (by decide) ?_
          exact r_CI hx hb hr hlk hK hW hw dX0_stretch_91
      unfold w_X0_stretch_L12_body at hw
      refine lv_iload hx hb dX0_stretch_12 (lv_at hl 5 rfl) ?_
      refine lv_aload_n hx hb dX0_stretch_14 rfl (lv_at hl 0 rfl) ?_
      refine g_getr hx hb hts hown hK hW 1 rfl (q := 2) (hcP (by decide)) (uwP (by decide)) 0 (by decide) rfl al_85 (fun x9 h9 => u_same (hts _ (List.mem_cons_of_mem _ al_86)) x9 h9) dX0_stretch_15 ?_
      refine lv_iload_n hx hb dX0_stretch_18 rfl (lv_at hl 1 rfl) ?_
      refine fin_CI hW (run_VN (k := 2) (As := [.int (iN v1_12)]) (rest := [.int (iN v5_12)]) 12 S hK hE hW (c_X1_sizeOf l G 0 tl ad σ v1_12 _ hw H.size) rfl rfl rfl al_328 sl_X1_sizeOf al_5 al_329 hd_X1_sizeOf.2 rfl rfl ⟨Nat.le_of_ble_eq_true rfl, Nat.le_of_ble_eq_true rfl⟩ rfl hl.1 rfl (Nat.le_of_ble_eq_true rfl) dX0_stretch_19 ⟨Nat.zero_le _, Nat.zero_le _⟩) ?_
      intro r15 H locs hw hW
      refine n_icmp_ge hx hb hw.1 hw.2.1 hw.2.2.1 hw.2.2.2 (tgt := 131) dX0_stretch_22 (by decide) (fun hw => ?_) (fun hw => ?_)
      · refine lv_iload_n hx hb dX0_stretch_131 rfl (lv_at hl 3 rfl) ?_
        exact r_CI hx hb hr hlk hK hW hw dX0_stretch_132
      · refine lv_iload_n hx hb dX0_stretch_25 rfl (lv_at hl 2 rfl) ?_
        refine lv_iload hx hb dX0_stretch_26 (lv_at hl 4 rfl) ?_
        refine fin_CI hW (run_S (As := [.int (iN v2_12), .int (iN v4_12)]) (rest := []) S hK hE hW (c_X0_fingerAbove l G tl ad σ v2_12 v4_12 _ hw H.size) al_334 al_335 al_4 al_336 hd_X0_fingerAbove.2 rfl rfl ⟨Nat.le_of_ble_eq_true rfl, Nat.le_of_ble_eq_true rfl⟩ rfl hl.1 rfl (Nat.le_of_ble_eq_true rfl) dX0_stretch_28 ⟨Nat.zero_le _, Nat.zero_le _⟩) ?_
        intro r17 H locs hw hW
        refine lv_istore (lv' := [(6, .int (iN r17)), (0, .ref (ad 1)), (1, .int (iN v1_12)), (2, .int (iN v2_12)), (3, .int (iN v3_12)), (4, .int (iN v4_12)), (5, .int (iN v5_12))]) hx hb dX0_stretch_31 hl (by decide) rfl (fun ls hl => ?_)
        refine lv_iload hx hb dX0_stretch_33 (lv_at hl 0 rfl) ?_
        refine lv_iload hx hb dX0_stretch_35 (lv_at hl 5 rfl) ?_
        refine n_isub hx hb dX0_stretch_37 ?_
        refine lv_istore (lv' := [(7, .int (iN (r17 - v4_12))), (6, .int (iN r17)), (0, .ref (ad 1)), (1, .int (iN v1_12)), (2, .int (iN v2_12)), (3, .int (iN v3_12)), (4, .int (iN v4_12)), (5, .int (iN v5_12))]) hx hb dX0_stretch_38 hl (by decide) rfl (fun ls hl => ?_)
        refine lv_iload hx hb dX0_stretch_40 (lv_at hl 6 rfl) ?_
        refine n_iconst hx hb dX0_stretch_42 ?_
        refine n_icmp_ne hx hb hw.1 (rg_c _ rfl) hw.2.1 hw.2.2 (tgt := 50) dX0_stretch_43 (by decide) (fun hw => ?_) (fun hw => ?_)
        · refine n_iconst hx hb dX0_stretch_50 ?_
          exact hB51 v3_12 v5_12 r17 (r17 - v4_12) 0 H locs ls hw hW (lv_sub hl [2, 3, 4, 5, 7, 1, 0] rfl)
        · refine n_iconst hx hb dX0_stretch_46 ?_
          refine lv_goto (tgt := 51) hx hb dX0_stretch_47 (by decide) ?_
          exact hB51 v3_12 v5_12 r17 (r17 - v4_12) 1 H locs ls hw hW (lv_sub hl [2, 3, 4, 5, 7, 1, 0] rfl)
  unfold w_X0_stretch at hw
  refine n_iconst hx hb dX0_stretch_0 ?_
  refine lv_istore_n (lv' := [(3, .int (iN 0)), (0, .ref (ad 1)), (1, .int (iN v1)), (2, .int (iN v2))]) hx hb dX0_stretch_1 rfl hl (by decide) rfl (fun ls hl => ?_)
  refine lv_iload_n hx hb dX0_stretch_2 rfl (lv_at hl 3 rfl) ?_
  refine n_iconst hx hb dX0_stretch_3 ?_
  refine fin_CI hW (run_S (As := [.int (iN v2), .int (iN 0)]) (rest := []) S hK hE hW (c_X0_fingerAbove l G tl ad σ v2 0 _ hw s.heap.size) al_334 al_335 al_4 al_336 hd_X0_fingerAbove.2 rfl rfl ⟨Nat.le_of_ble_eq_true rfl, Nat.le_of_ble_eq_true rfl⟩ rfl hl.1 rfl (Nat.le_of_ble_eq_true rfl) dX0_stretch_4 ⟨Nat.zero_le _, Nat.zero_le _⟩) ?_
  intro r1 H locs hw hW
  refine lv_istore (lv' := [(4, .int (iN r1)), (3, .int (iN 0)), (0, .ref (ad 1)), (1, .int (iN v1)), (2, .int (iN v2))]) hx hb dX0_stretch_7 hl (by decide) rfl (fun ls hl => ?_)
  refine n_iconst hx hb dX0_stretch_9 ?_
  refine lv_istore (lv' := [(5, .int (iN 1)), (4, .int (iN r1)), (3, .int (iN 0)), (0, .ref (ad 1)), (1, .int (iN v1)), (2, .int (iN v2))]) hx hb dX0_stretch_10 hl (by decide) rfl (fun ls hl => ?_)
  obtain ⟨n, hw⟩ := hw
  exact hL12 v1 v2 n 0 r1 1 H locs ls hw hW (lv_sub hl [3, 4, 5, 2, 1, 0] rfl)
set_option maxHeartbeats 4000000 in
set_option maxRecDepth 100000 in
theorem c_X1_lowestOf (l : Launch) (G : Gt) (κ : Nat)  (tl : Bool) (ad : Nat → Nat)  (σ : Mem) (v1 : Int) (post : Int → Prop) (hw : w_X1_lowestOf  σ v1 post) : CI l yX1_lowestOf (Cond.code yX1_lowestOf cX1_lowestOf 2 (some .int)) ({ frames := 0, cells := 0, slots := 0, locals := 0 } : Room) G (shW κ tl) ad σ [.ref (ad 2), .int (iN v1)] post := by
  refine s_all (y := yX1_lowestOf) (code := cX1_lowestOf) (maxL := 2) (ret := (some .int)) (rm := ({ frames := 0, cells := 0, slots := 0, locals := 0 } : Room)) (av := [.ref (ad 2), .int (iN v1)]) (Qc := fun sz => QI G (shW κ tl) ad σ post (sz)) (by decide) (Nat.le_of_ble_eq_true rfl) ?_
  intro p e s m below meth c S hr hlk _ hK hE hW ls hl
  obtain ⟨hx, hb, hml, hown, hts⟩ := id S
  replace hl : lv_has ls 2 [(0, .ref (ad 2)), (1, .int (iN v1))] := hl
  have hB24 : ∀  (s0_24 : Int) (H : Heap) (locs : List Loc) (ls : Array Slot), w_X1_lowestOf_B24 σ s0_24 post → Wd G (shW κ tl) ad σ (Aw ad (shW κ tl).length s.heap.size) s.heap H locs → lv_has ls 2 [] → W p l e ({ frames := 0, cells := 0, slots := 0, locals := 0 } : Room) s m ([.ref (ad 2), .int (iN v1)] : List Value).toArray below meth c H locs 0 0 (MQ below (QI G (shW κ tl) ad σ post (s.heap.size)) ([.ref (ad 2), .int (iN v1)] : List Value).toArray s 0 0 (Aw ad (shW κ tl).length s.heap.size)) (F0 m 24 ls [.int (iN s0_24)]) := by
    intro s0_24 H locs ls hw hW hl
    unfold w_X1_lowestOf_B24 at hw
    exact r_CI hx hb hr hlk hK hW hw dX1_lowestOf_24
  have hB23 : ∀   (H : Heap) (locs : List Loc) (ls : Array Slot), w_X1_lowestOf_B23 σ post → Wd G (shW κ tl) ad σ (Aw ad (shW κ tl).length s.heap.size) s.heap H locs → lv_has ls 2 [] → W p l e ({ frames := 0, cells := 0, slots := 0, locals := 0 } : Room) s m ([.ref (ad 2), .int (iN v1)] : List Value).toArray below meth c H locs 0 0 (MQ below (QI G (shW κ tl) ad σ post (s.heap.size)) ([.ref (ad 2), .int (iN v1)] : List Value).toArray s 0 0 (Aw ad (shW κ tl).length s.heap.size)) (F0 m 23 ls []) := by
    intro  H locs ls hw hW hl
    unfold w_X1_lowestOf_B23 at hw
    refine n_iconst hx hb dX1_lowestOf_23 ?_
    exact hB24 (-1) H locs ls hw hW (lv_sub hl [] rfl)
  unfold w_X1_lowestOf at hw
  refine lv_iload_n hx hb dX1_lowestOf_0 rfl (lv_at hl 1 rfl) ?_
  refine n_if_lt hx hb hw.1 hw.2.1 hw.2.2 (tgt := 23) dX1_lowestOf_1 (by decide) (fun hw => ?_) (fun hw => ?_)
  · exact hB23  s.heap [] ls hw hW (lv_sub hl [] rfl)
  · refine lv_iload_n hx hb dX1_lowestOf_4 rfl (lv_at hl 1 rfl) ?_
    refine lv_aload_n hx hb dX1_lowestOf_5 rfl (lv_at hl 0 rfl) ?_
    refine g_get hx hb hts hown hK hW 2 rfl rfl uw_X1 7 (by decide) rfl al_54 (fun _ h9 => h9) dX1_lowestOf_6 ?_
    refine n_icmp_ge hx hb hw.1 hw.2.1 hw.2.2.1 hw.2.2.2 (tgt := 23) dX1_lowestOf_9 (by decide) (fun hw => ?_) (fun hw => ?_)
    · exact hB23  s.heap [] ls hw hW (lv_sub hl [] rfl)
    · refine lv_aload_n hx hb dX1_lowestOf_12 rfl (lv_at hl 0 rfl) ?_
      refine g_getr hx hb hts hown hK hW 2 rfl (q := 9) rfl uw_X1 6 (by decide) rfl al_53 (fun _ h9 => h9) dX1_lowestOf_13 ?_
      refine lv_iload_n hx hb dX1_lowestOf_16 rfl (lv_at hl 1 rfl) ?_
      refine n_iconst hx hb dX1_lowestOf_17 ?_
      refine n_imul hx hb dX1_lowestOf_18 ?_
      refine g_ald hx hb hK hW 9 rfl hw.1 dX1_lowestOf_19 ?_
      replace hw := hw.2
      refine lv_goto (tgt := 24) hx hb dX1_lowestOf_20 (by decide) ?_
      exact hB24 (σ 9 ((v1 * 3)).toNat) s.heap [] ls hw hW (lv_sub hl [] rfl)
set_option maxHeartbeats 4000000 in
set_option maxRecDepth 100000 in
theorem c_X1_highestOf (l : Launch) (G : Gt) (κ : Nat)  (tl : Bool) (ad : Nat → Nat)  (σ : Mem) (v1 : Int) (post : Int → Prop) (hw : w_X1_highestOf  σ v1 post) : CI l yX1_highestOf (Cond.code yX1_highestOf cX1_highestOf 3 (some .int)) ({ frames := 0, cells := 0, slots := 0, locals := 0 } : Room) G (shW κ tl) ad σ [.ref (ad 2), .int (iN v1)] post := by
  refine s_all (y := yX1_highestOf) (code := cX1_highestOf) (maxL := 3) (ret := (some .int)) (rm := ({ frames := 0, cells := 0, slots := 0, locals := 0 } : Room)) (av := [.ref (ad 2), .int (iN v1)]) (Qc := fun sz => QI G (shW κ tl) ad σ post (sz)) (by decide) (Nat.le_of_ble_eq_true rfl) ?_
  intro p e s m below meth c S hr hlk _ hK hE hW ls hl
  obtain ⟨hx, hb, hml, hown, hts⟩ := id S
  replace hl : lv_has ls 3 [(0, .ref (ad 2)), (1, .int (iN v1))] := hl
  have hB52 : ∀  (s0_52 : Int) (H : Heap) (locs : List Loc) (ls : Array Slot), w_X1_highestOf_B52 σ s0_52 post → Wd G (shW κ tl) ad σ (Aw ad (shW κ tl).length s.heap.size) s.heap H locs → lv_has ls 3 [] → W p l e ({ frames := 0, cells := 0, slots := 0, locals := 0 } : Room) s m ([.ref (ad 2), .int (iN v1)] : List Value).toArray below meth c H locs 0 0 (MQ below (QI G (shW κ tl) ad σ post (s.heap.size)) ([.ref (ad 2), .int (iN v1)] : List Value).toArray s 0 0 (Aw ad (shW κ tl).length s.heap.size)) (F0 m 52 ls [.int (iN s0_52)]) := by
    intro s0_52 H locs ls hw hW hl
    unfold w_X1_highestOf_B52 at hw
    exact r_CI hx hb hr hlk hK hW hw dX1_highestOf_52
  have hB51 : ∀   (H : Heap) (locs : List Loc) (ls : Array Slot), w_X1_highestOf_B51 σ post → Wd G (shW κ tl) ad σ (Aw ad (shW κ tl).length s.heap.size) s.heap H locs → lv_has ls 3 [] → W p l e ({ frames := 0, cells := 0, slots := 0, locals := 0 } : Room) s m ([.ref (ad 2), .int (iN v1)] : List Value).toArray below meth c H locs 0 0 (MQ below (QI G (shW κ tl) ad σ post (s.heap.size)) ([.ref (ad 2), .int (iN v1)] : List Value).toArray s 0 0 (Aw ad (shW κ tl).length s.heap.size)) (F0 m 51 ls []) := by
    intro  H locs ls hw hW hl
    unfold w_X1_highestOf_B51 at hw
    refine n_iconst hx hb dX1_highestOf_51 ?_
    exact hB52 (-1) H locs ls hw hW (lv_sub hl [] rfl)
  have hB28 : ∀  (s0_28 : Int) (H : Heap) (locs : List Loc) (ls : Array Slot), w_X1_highestOf_B28 σ s0_28 post → Wd G (shW κ tl) ad σ (Aw ad (shW κ tl).length s.heap.size) s.heap H locs → lv_has ls 3 [(0, .ref (ad 2))] → W p l e ({ frames := 0, cells := 0, slots := 0, locals := 0 } : Room) s m ([.ref (ad 2), .int (iN v1)] : List Value).toArray below meth c H locs 0 0 (MQ below (QI G (shW κ tl) ad σ post (s.heap.size)) ([.ref (ad 2), .int (iN v1)] : List Value).toArray s 0 0 (Aw ad (shW κ tl).length s.heap.size)) (F0 m 28 ls [.int (iN s0_28)]) := by
    intro s0_28 H locs ls hw hW hl
    unfold w_X1_highestOf_B28 at hw
    refine lv_istore_n (lv' := [(2, .int (iN s0_28)), (0, .ref (ad 2))]) hx hb dX1_highestOf_28 rfl hl (by decide) rfl (fun ls hl => ?_)
    refine lv_iload_n hx hb dX1_highestOf_29 rfl (lv_at hl 0 rfl) ?_
    refine n_if_lt hx hb hw.1 hw.2.1 hw.2.2 (tgt := 51) dX1_highestOf_30 (by decide) (fun hw => ?_) (fun hw => ?_)
    · exact hB51  H locs ls hw hW (lv_sub hl [] rfl)
    · refine lv_iload_n hx hb dX1_highestOf_33 rfl (lv_at hl 0 rfl) ?_
      refine lv_aload_n hx hb dX1_highestOf_34 rfl (lv_at hl 1 rfl) ?_
      refine g_getr hx hb hts hown hK hW 2 rfl (q := 9) rfl uw_X1 6 (by decide) rfl al_53 (fun _ h9 => h9) dX1_highestOf_35 ?_
      refine g_alen hx hb hK hW 9 rfl dX1_highestOf_38 ?_
      refine n_icmp_ge hx hb hw.1 hw.2.1 hw.2.2.1 hw.2.2.2 (tgt := 51) dX1_highestOf_39 (by decide) (fun hw => ?_) (fun hw => ?_)
      · exact hB51  H locs ls hw hW (lv_sub hl [] rfl)
      · refine lv_aload_n hx hb dX1_highestOf_42 rfl (lv_at hl 1 rfl) ?_
        refine g_getr hx hb hts hown hK hW 2 rfl (q := 9) rfl uw_X1 6 (by decide) rfl al_53 (fun _ h9 => h9) dX1_highestOf_43 ?_
        refine lv_iload_n hx hb dX1_highestOf_46 rfl (lv_at hl 0 rfl) ?_
        refine g_ald hx hb hK hW 9 rfl hw.1 dX1_highestOf_47 ?_
        replace hw := hw.2
        refine lv_goto (tgt := 52) hx hb dX1_highestOf_48 (by decide) ?_
        exact hB52 (σ 9 (s0_28).toNat) H locs ls hw hW (lv_sub hl [] rfl)
  have hB27 : ∀   (H : Heap) (locs : List Loc) (ls : Array Slot), w_X1_highestOf_B27 σ post → Wd G (shW κ tl) ad σ (Aw ad (shW κ tl).length s.heap.size) s.heap H locs → lv_has ls 3 [(0, .ref (ad 2))] → W p l e ({ frames := 0, cells := 0, slots := 0, locals := 0 } : Room) s m ([.ref (ad 2), .int (iN v1)] : List Value).toArray below meth c H locs 0 0 (MQ below (QI G (shW κ tl) ad σ post (s.heap.size)) ([.ref (ad 2), .int (iN v1)] : List Value).toArray s 0 0 (Aw ad (shW κ tl).length s.heap.size)) (F0 m 27 ls []) := by
    intro  H locs ls hw hW hl
    unfold w_X1_highestOf_B27 at hw
    refine n_iconst hx hb dX1_highestOf_27 ?_
    exact hB28 (-1) H locs ls hw hW (lv_sub hl [0] rfl)
  unfold w_X1_highestOf at hw
  refine lv_iload_n hx hb dX1_highestOf_0 rfl (lv_at hl 1 rfl) ?_
  refine n_if_lt hx hb hw.1 hw.2.1 hw.2.2 (tgt := 27) dX1_highestOf_1 (by decide) (fun hw => ?_) (fun hw => ?_)
  · exact hB27  s.heap [] ls hw hW (lv_sub hl [0] rfl)
  · refine lv_iload_n hx hb dX1_highestOf_4 rfl (lv_at hl 1 rfl) ?_
    refine lv_aload_n hx hb dX1_highestOf_5 rfl (lv_at hl 0 rfl) ?_
    refine g_get hx hb hts hown hK hW 2 rfl rfl uw_X1 7 (by decide) rfl al_54 (fun _ h9 => h9) dX1_highestOf_6 ?_
    refine n_icmp_ge hx hb hw.1 hw.2.1 hw.2.2.1 hw.2.2.2 (tgt := 27) dX1_highestOf_9 (by decide) (fun hw => ?_) (fun hw => ?_)
    · exact hB27  s.heap [] ls hw hW (lv_sub hl [0] rfl)
    · refine lv_iload_n hx hb dX1_highestOf_12 rfl (lv_at hl 1 rfl) ?_
      refine n_iconst hx hb dX1_highestOf_13 ?_
      refine n_imul hx hb dX1_highestOf_14 ?_
      refine lv_aload_n hx hb dX1_highestOf_15 rfl (lv_at hl 0 rfl) ?_
      refine g_getr hx hb hts hown hK hW 2 rfl (q := 7) rfl uw_X1 4 (by decide) rfl al_51 (fun _ h9 => h9) dX1_highestOf_16 ?_
      refine lv_iload_n hx hb dX1_highestOf_19 rfl (lv_at hl 1 rfl) ?_
      refine g_ald hx hb hK hW 7 rfl hw.1 dX1_highestOf_20 ?_
      replace hw := hw.2
      refine n_iadd hx hb dX1_highestOf_21 ?_
      refine n_iconst hx hb dX1_highestOf_22 ?_
      refine n_isub hx hb dX1_highestOf_23 ?_
      refine lv_goto (tgt := 28) hx hb dX1_highestOf_24 (by decide) ?_
      exact hB28 (((v1 * 3) + (σ 7 (v1).toNat)) - 1) s.heap [] ls hw hW (lv_sub hl [0] rfl)
set_option maxHeartbeats 4000000 in
set_option maxRecDepth 100000 in
theorem c_X0_placeOf (l : Launch) (G : Gt)   (tl : Bool) (ad : Nat → Nat)  (σ : Mem) (v1 : Int) (v2 : Int) (post : Int → Prop) (hw : w_X0_placeOf  σ v1 v2 post) : CI l yX0_placeOf (Cond.code yX0_placeOf cX0_placeOf 4 (some .int)) ({ frames := 1, cells := 0, slots := 0, locals := 22 } : Room) G (shW 0 tl) ad σ [.ref (ad 1), .int (iN v1), .int (iN v2)] post := by
  refine s_all (y := yX0_placeOf) (code := cX0_placeOf) (maxL := 4) (ret := (some .int)) (rm := ({ frames := 1, cells := 0, slots := 0, locals := 22 } : Room)) (av := [.ref (ad 1), .int (iN v1), .int (iN v2)]) (Qc := fun sz => QI G (shW 0 tl) ad σ post (sz)) (by decide) (Nat.le_of_ble_eq_true rfl) ?_
  intro p e s m below meth c S hr hlk _ hK hE hW ls hl
  obtain ⟨hx, hb, hml, hown, hts⟩ := id S
  replace hl : lv_has ls 4 [(0, .ref (ad 1)), (1, .int (iN v1)), (2, .int (iN v2))] := hl
  have hB45 : ∀  (s0_45 : Int) (H : Heap) (locs : List Loc) (ls : Array Slot), w_X0_placeOf_B45 σ s0_45 post → Wd G (shW 0 tl) ad σ (Aw ad (shW 0 tl).length s.heap.size) s.heap H locs → lv_has ls 4 [] → W p l e ({ frames := 1, cells := 0, slots := 0, locals := 22 } : Room) s m ([.ref (ad 1), .int (iN v1), .int (iN v2)] : List Value).toArray below meth c H locs 0 0 (MQ below (QI G (shW 0 tl) ad σ post (s.heap.size)) ([.ref (ad 1), .int (iN v1), .int (iN v2)] : List Value).toArray s 0 0 (Aw ad (shW 0 tl).length s.heap.size)) (F0 m 45 ls [.int (iN s0_45)]) := by
    intro s0_45 H locs ls hw hW hl
    unfold w_X0_placeOf_B45 at hw
    exact r_CI hx hb hr hlk hK hW hw dX0_placeOf_45
  unfold w_X0_placeOf at hw
  refine n_iconst hx hb dX0_placeOf_0 ?_
  refine lv_iload_n hx hb dX0_placeOf_1 rfl (lv_at hl 2 rfl) ?_
  refine n_iconst hx hb dX0_placeOf_2 ?_
  refine fin_CI hW (run_S (As := [.int (iN v2), .int (iN 0)]) (rest := [.int (iN 2)]) S hK hE hW (c_X0_fingerAbove l G tl ad σ v2 0 _ hw s.heap.size) al_334 al_335 al_4 al_336 hd_X0_fingerAbove.2 rfl rfl ⟨Nat.le_of_ble_eq_true rfl, Nat.le_of_ble_eq_true rfl⟩ rfl hl.1 rfl (Nat.le_of_ble_eq_true rfl) dX0_placeOf_3 ⟨Nat.zero_le _, Nat.zero_le _⟩) ?_
  intro r1 H locs hw hW
  refine n_iconst hx hb dX0_placeOf_6 ?_
  refine n_isub hx hb dX0_placeOf_7 ?_
  refine n_imul hx hb dX0_placeOf_8 ?_
  refine lv_istore_n (lv' := [(3, .int (iN (2 * (r1 - 1)))), (0, .ref (ad 1)), (1, .int (iN v1)), (2, .int (iN v2))]) hx hb dX0_placeOf_9 rfl hl (by decide) rfl (fun ls hl => ?_)
  refine lv_aload_n hx hb dX0_placeOf_10 rfl (lv_at hl 1 rfl) ?_
  refine g_getr hx hb hts hown hK hW 1 rfl (q := 2) (hcP (by decide)) (uwP (by decide)) 0 (by decide) rfl al_85 (fun x9 h9 => u_same (hts _ (List.mem_cons_of_mem _ al_86)) x9 h9) dX0_placeOf_11 ?_
  refine lv_iload_n hx hb dX0_placeOf_14 rfl (lv_at hl 2 rfl) ?_
  refine fin_CI hW (run_VN (k := 2) (As := [.int (iN v1)]) (rest := []) 13 S hK hE hW (c_X1_handOf l G 0 tl ad σ v1 _ hw H.size) rfl rfl rfl al_343 sl_X1_handOf al_5 al_344 hd_X1_handOf.2 rfl rfl ⟨Nat.le_of_ble_eq_true rfl, Nat.le_of_ble_eq_true rfl⟩ rfl hl.1 rfl (Nat.le_of_ble_eq_true rfl) dX0_placeOf_15 ⟨Nat.zero_le _, Nat.zero_le _⟩) ?_
  intro r3 H locs hw hW
  refine n_iconst hx hb dX0_placeOf_18 ?_
  refine n_icmp_ne hx hb hw.1 (rg_c _ rfl) hw.2.1 hw.2.2 (tgt := 35) dX0_placeOf_19 (by decide) (fun hw => ?_) (fun hw => ?_)
  · refine lv_aload_n hx hb dX0_placeOf_35 rfl (lv_at hl 1 rfl) ?_
    refine g_getr hx hb hts hown hK hW 1 rfl (q := 2) (hcP (by decide)) (uwP (by decide)) 0 (by decide) rfl al_85 (fun x9 h9 => u_same (hts _ (List.mem_cons_of_mem _ al_86)) x9 h9) dX0_placeOf_36 ?_
    refine lv_iload_n hx hb dX0_placeOf_39 rfl (lv_at hl 2 rfl) ?_
    refine fin_CI hW (run_VN (k := 2) (As := [.int (iN v1)]) (rest := []) 16 S hK hE hW (c_X1_highestOf l G 0 tl ad σ v1 _ hw H.size) rfl rfl rfl al_312 sl_X1_highestOf al_5 al_313 hd_X1_highestOf.2 rfl rfl ⟨Nat.le_of_ble_eq_true rfl, Nat.le_of_ble_eq_true rfl⟩ rfl hl.1 rfl (Nat.le_of_ble_eq_true rfl) dX0_placeOf_40 ⟨Nat.zero_le _, Nat.zero_le _⟩) ?_
    intro r5 H locs hw hW
    refine lv_iload_n hx hb dX0_placeOf_43 rfl (lv_at hl 0 rfl) ?_
    refine n_iadd hx hb dX0_placeOf_44 ?_
    exact hB45 (r5 + (2 * (r1 - 1))) H locs ls hw hW (lv_sub hl [] rfl)
  · refine lv_aload_n hx hb dX0_placeOf_22 rfl (lv_at hl 1 rfl) ?_
    refine g_getr hx hb hts hown hK hW 1 rfl (q := 2) (hcP (by decide)) (uwP (by decide)) 0 (by decide) rfl al_85 (fun x9 h9 => u_same (hts _ (List.mem_cons_of_mem _ al_86)) x9 h9) dX0_placeOf_23 ?_
    refine lv_iload_n hx hb dX0_placeOf_26 rfl (lv_at hl 2 rfl) ?_
    refine fin_CI hW (run_VN (k := 2) (As := [.int (iN v1)]) (rest := []) 15 S hK hE hW (c_X1_lowestOf l G 0 tl ad σ v1 _ hw H.size) rfl rfl rfl al_308 sl_X1_lowestOf al_5 al_309 hd_X1_lowestOf.2 rfl rfl ⟨Nat.le_of_ble_eq_true rfl, Nat.le_of_ble_eq_true rfl⟩ rfl hl.1 rfl (Nat.le_of_ble_eq_true rfl) dX0_placeOf_27 ⟨Nat.zero_le _, Nat.zero_le _⟩) ?_
    intro r7 H locs hw hW
    refine lv_iload_n hx hb dX0_placeOf_30 rfl (lv_at hl 0 rfl) ?_
    refine n_isub hx hb dX0_placeOf_31 ?_
    refine lv_goto (tgt := 45) hx hb dX0_placeOf_32 (by decide) ?_
    exact hB45 (r7 - (2 * (r1 - 1))) H locs ls hw hW (lv_sub hl [] rfl)
set_option maxHeartbeats 4000000 in
set_option maxRecDepth 100000 in
theorem c_X2_addState (l : Launch) (G : Gt) (κ : Nat) (hκ : κ < 5) (tl : Bool) (ad : Nat → Nat)  (σ : Mem) (v1 : Int) (v2 : Int) (v3 : Int) (v4 : Int) (post : Mem → Prop) (hw : w_X2_addState κ σ v1 v2 v3 v4 post) : CV l yX2_addState (Cond.code yX2_addState cX2_addState 6 none) ({ frames := 0, cells := 0, slots := 0, locals := 0 } : Room) G (shW κ tl) ad σ [.ref (ad 1), .int (iN v1), .int (iN v2), .int (iN v3), .int (iN v4)] post := by
  refine s_all (y := yX2_addState) (code := cX2_addState) (maxL := 6) (ret := none) (rm := ({ frames := 0, cells := 0, slots := 0, locals := 0 } : Room)) (av := [.ref (ad 1), .int (iN v1), .int (iN v2), .int (iN v3), .int (iN v4)]) (Qc := fun sz => QV G (shW κ tl) ad post (sz)) (by decide) (Nat.le_of_ble_eq_true rfl) ?_
  intro p e s m below meth c S hr hlk _ hK hE hW ls hl
  obtain ⟨hx, hb, hml, hown, hts⟩ := id S
  replace hl : lv_has ls 6 [(0, .ref (ad 1)), (1, .int (iN v1)), (2, .int (iN v2)), (3, .int (iN v3)), (4, .int (iN v4))] := hl
  have hB32 : ∀ (σ_32 : Mem)  (H : Heap) (locs : List Loc) (ls : Array Slot), w_X2_addState_B32 κ σ_32 post → Wd G (shW κ tl) ad σ_32 (Aw ad (shW κ tl).length s.heap.size) s.heap H locs → lv_has ls 6 [] → W p l e ({ frames := 0, cells := 0, slots := 0, locals := 0 } : Room) s m ([.ref (ad 1), .int (iN v1), .int (iN v2), .int (iN v3), .int (iN v4)] : List Value).toArray below meth c H locs 0 0 (MQ below (QV G (shW κ tl) ad post (s.heap.size)) ([.ref (ad 1), .int (iN v1), .int (iN v2), .int (iN v3), .int (iN v4)] : List Value).toArray s 0 0 (Aw ad (shW κ tl).length s.heap.size)) (F0 m 32 ls []) := by
    intro σ_32 H locs ls hw hW hl
    unfold w_X2_addState_B32 at hw
    exact r_CV hx hb hr hlk hK hW hw dX2_addState_32
  unfold w_X2_addState at hw
  refine lv_iload_n hx hb dX2_addState_0 rfl (lv_at hl 1 rfl) ?_
  refine n_if_lt hx hb hw.1 hw.2.1 hw.2.2 (tgt := 32) dX2_addState_1 (by decide) (fun hw => ?_) (fun hw => ?_)
  · exact hB32 σ s.heap [] ls hw hW (lv_sub hl [] rfl)
  · refine lv_iload_n hx hb dX2_addState_4 rfl (lv_at hl 1 rfl) ?_
    refine n_bipush hx hb dX2_addState_5 (by decide) ?_
    refine n_icmp_ge hx hb hw.1 (rg_c _ rfl) hw.2.1 hw.2.2 (tgt := 32) dX2_addState_7 (by decide) (fun hw => ?_) (fun hw => ?_)
    · exact hB32 σ s.heap [] ls hw hW (lv_sub hl [] rfl)
    · refine lv_aload_n hx hb dX2_addState_10 rfl (lv_at hl 0 rfl) ?_
      refine g_getr hx hb hts hown hK hW 1 rfl (q := 10) (hcP hκ) (uwP hκ) 2 (by decide) rfl al_94 (fun _ h9 => h9) dX2_addState_11 ?_
      refine lv_iload_n hx hb dX2_addState_14 rfl (lv_at hl 1 rfl) ?_
      refine g_ald hx hb hK hW 10 rfl hw.1 dX2_addState_15 ?_
      replace hw := hw.2
      refine n_if_lt hx hb hw.1 hw.2.1 hw.2.2 (tgt := 32) dX2_addState_16 (by decide) (fun hw => ?_) (fun hw => ?_)
      · exact hB32 σ s.heap [] ls hw hW (lv_sub hl [] rfl)
      · refine lv_aload_n hx hb dX2_addState_19 rfl (lv_at hl 0 rfl) ?_
        refine g_getr hx hb hts hown hK hW 1 rfl (q := 10) (hcP hκ) (uwP hκ) 2 (by decide) rfl al_94 (fun _ h9 => h9) dX2_addState_20 ?_
        refine lv_iload_n hx hb dX2_addState_23 rfl (lv_at hl 1 rfl) ?_
        refine g_ald hx hb hK hW 10 rfl hw.1 dX2_addState_24 ?_
        replace hw := hw.2
        refine lv_aload_n hx hb dX2_addState_25 rfl (lv_at hl 0 rfl) ?_
        refine g_get hx hb hts hown hK hW 1 rfl (hcP hκ) (uwP hκ) 1 (by decide) rfl al_92 (fun _ h9 => h9) dX2_addState_26 ?_
        refine n_icmp_lt hx hb hw.1 hw.2.1 hw.2.2.1 hw.2.2.2 (tgt := 33) dX2_addState_29 (by decide) (fun hw => ?_) (fun hw => ?_)
        · refine lv_iload_n hx hb dX2_addState_33 rfl (lv_at hl 1 rfl) ?_
          refine lv_aload_n hx hb dX2_addState_34 rfl (lv_at hl 0 rfl) ?_
          refine g_get hx hb hts hown hK hW 1 rfl (hcP hκ) (uwP hκ) 1 (by decide) rfl al_92 (fun _ h9 => h9) dX2_addState_35 ?_
          refine n_imul hx hb dX2_addState_38 ?_
          refine lv_aload_n hx hb dX2_addState_39 rfl (lv_at hl 0 rfl) ?_
          refine g_getr hx hb hts hown hK hW 1 rfl (q := 10) (hcP hκ) (uwP hκ) 2 (by decide) rfl al_94 (fun _ h9 => h9) dX2_addState_40 ?_
          refine lv_iload_n hx hb dX2_addState_43 rfl (lv_at hl 1 rfl) ?_
          refine g_ald hx hb hK hW 10 rfl hw.1 dX2_addState_44 ?_
          replace hw := hw.2
          refine n_iadd hx hb dX2_addState_45 ?_
          refine lv_istore (lv' := [(5, .int (iN ((v1 * (σ 1 1)) + (σ 10 (v1).toNat)))), (0, .ref (ad 1)), (1, .int (iN v1)), (2, .int (iN v2)), (3, .int (iN v3)), (4, .int (iN v4))]) hx hb dX2_addState_46 hl (by decide) rfl (fun ls hl => ?_)
          refine lv_aload_n hx hb dX2_addState_48 rfl (lv_at hl 1 rfl) ?_
          refine g_getr hx hb hts hown hK hW 1 rfl (q := 11) (hcP hκ) (uwP hκ) 3 (by decide) rfl al_95 (fun _ h9 => h9) dX2_addState_49 ?_
          refine lv_iload hx hb dX2_addState_52 (lv_at hl 0 rfl) ?_
          refine lv_iload_n hx hb dX2_addState_54 rfl (lv_at hl 3 rfl) ?_
          refine g_ast hx hb hK hW 11 rfl hw.1 dX2_addState_55 (fun σ1 H locs hτ hW => ?_)
          replace hw := hw.2 σ1 hτ
          refine lv_aload_n hx hb dX2_addState_56 rfl (lv_at hl 1 rfl) ?_
          refine g_getr hx hb hts hown hK hW 1 rfl (q := 12) (hcP hκ) (uwP hκ) 4 (by decide) rfl al_96 (fun _ h9 => h9) dX2_addState_57 ?_
          refine lv_iload hx hb dX2_addState_60 (lv_at hl 0 rfl) ?_
          refine lv_iload_n hx hb dX2_addState_62 rfl (lv_at hl 4 rfl) ?_
          refine g_ast hx hb hK hW 12 rfl hw.1 dX2_addState_63 (fun σ2 H locs hτ hW => ?_)
          replace hw := hw.2 σ2 hτ
          refine lv_aload_n hx hb dX2_addState_64 rfl (lv_at hl 1 rfl) ?_
          refine g_getr hx hb hts hown hK hW 1 rfl (q := 13) (hcP hκ) (uwP hκ) 5 (by decide) rfl al_97 (fun _ h9 => h9) dX2_addState_65 ?_
          refine lv_iload hx hb dX2_addState_68 (lv_at hl 0 rfl) ?_
          refine lv_iload hx hb dX2_addState_70 (lv_at hl 5 rfl) ?_
          refine g_ast hx hb hK hW 13 rfl hw.1 dX2_addState_72 (fun σ3 H locs hτ hW => ?_)
          replace hw := hw.2 σ3 hτ
          refine lv_aload_n hx hb dX2_addState_73 rfl (lv_at hl 1 rfl) ?_
          refine g_getr hx hb hts hown hK hW 1 rfl (q := 10) (hcP hκ) (uwP hκ) 2 (by decide) rfl al_94 (fun _ h9 => h9) dX2_addState_74 ?_
          refine lv_iload_n hx hb dX2_addState_77 rfl (lv_at hl 2 rfl) ?_
          refine lv_dup2_11 hx hb dX2_addState_78 rfl rfl ?_
          refine g_ald hx hb hK hW 10 rfl hw.1 dX2_addState_79 ?_
          replace hw := hw.2
          refine n_iconst hx hb dX2_addState_80 ?_
          refine n_iadd hx hb dX2_addState_81 ?_
          refine g_ast hx hb hK hW 10 rfl hw.1 dX2_addState_82 (fun σ4 H locs hτ hW => ?_)
          replace hw := hw.2 σ4 hτ
          exact r_CV hx hb hr hlk hK hW hw dX2_addState_83
        · exact hB32 σ s.heap [] ls hw hW (lv_sub hl [] rfl)
set_option maxHeartbeats 4000000 in
set_option maxRecDepth 100000 in
theorem c_X0_listOne (l : Launch) (G : Gt)   (tl : Bool) (ad : Nat → Nat)  (σ : Mem) (v1 : Int) (post : Mem → Prop) (hw : w_X0_listOne  σ v1 post) : CV l yX0_listOne (Cond.code yX0_listOne cX0_listOne 4 none) ({ frames := 3, cells := 0, slots := 0, locals := 74 } : Room) G (shW 0 tl) ad σ [.ref (ad 1), .int (iN v1)] post := by
  refine s_all (y := yX0_listOne) (code := cX0_listOne) (maxL := 4) (ret := none) (rm := ({ frames := 3, cells := 0, slots := 0, locals := 74 } : Room)) (av := [.ref (ad 1), .int (iN v1)]) (Qc := fun sz => QV G (shW 0 tl) ad post (sz)) (by decide) (Nat.le_of_ble_eq_true rfl) ?_
  intro p e s m below meth c S hr hlk _ hK hE hW ls hl
  obtain ⟨hx, hb, hml, hown, hts⟩ := id S
  replace hl : lv_has ls 4 [(0, .ref (ad 1)), (1, .int (iN v1))] := hl
  have hL2 : ∀ (v1_2 : Int) (n : Nat) (v2_2 : Int) (σ_2 : Mem) (H : Heap) (locs : List Loc) (ls : Array Slot), w_X0_listOne_L2 v1_2 post n v2_2 σ_2 → Wd G (shW 0 tl) ad σ_2 (Aw ad (shW 0 tl).length s.heap.size) s.heap H locs → lv_has ls 4 [(0, .ref (ad 1)), (1, .int (iN v1_2)), (2, .int (iN v2_2))] → W p l e ({ frames := 3, cells := 0, slots := 0, locals := 74 } : Room) s m ([.ref (ad 1), .int (iN v1)] : List Value).toArray below meth c H locs 0 0 (MQ below (QV G (shW 0 tl) ad post (s.heap.size)) ([.ref (ad 1), .int (iN v1)] : List Value).toArray s 0 0 (Aw ad (shW 0 tl).length s.heap.size)) (F0 m 2 ls []) := by
    intro v1_2 n
    induction n with
    | zero =>
      intro v2_2 σ_2 H locs ls hw
      exact hw.elim
    | succ n2 ih2 =>
      intro v2_2 σ_2 H locs ls hw hW hl
      replace hw : w_X0_listOne_L2_body v1_2 post (w_X0_listOne_L2 v1_2 post n2) v2_2 σ_2 := hw
      have hB49 : ∀ (σ_49 : Mem) (v2_49 : Int) (H : Heap) (locs : List Loc) (ls : Array Slot), w_X0_listOne_B49 σ_49 v1_2 v2_49 post (w_X0_listOne_L2 v1_2 post n2) → Wd G (shW 0 tl) ad σ_49 (Aw ad (shW 0 tl).length s.heap.size) s.heap H locs → lv_has ls 4 [(0, .ref (ad 1)), (1, .int (iN v1_2)), (2, .int (iN v2_49))] → W p l e ({ frames := 3, cells := 0, slots := 0, locals := 74 } : Room) s m ([.ref (ad 1), .int (iN v1)] : List Value).toArray below meth c H locs 0 0 (MQ below (QV G (shW 0 tl) ad post (s.heap.size)) ([.ref (ad 1), .int (iN v1)] : List Value).toArray s 0 0 (Aw ad (shW 0 tl).length s.heap.size)) (F0 m 49 ls []) := by
        intro σ_49 v2_49 H locs ls hw hW hl
        unfold w_X0_listOne_B49 at hw
        refine lv_iinc (v := iN (v2_49 + 1)) (lv' := [(2, .int (iN (v2_49 + 1))), (0, .ref (ad 1)), (1, .int (iN v1_2))]) hx hb dX0_listOne_49 hl (k := 2) rfl (iN_add _ _) (by decide) rfl (fun ls hl => ?_)
        refine lv_goto (tgt := 2) hx hb dX0_listOne_52 (by decide) ?_
        exact ih2 (v2_49 + 1) σ_49 H locs ls hw hW (lv_sub hl [1, 2, 0] rfl)
      unfold w_X0_listOne_L2_body at hw
      refine lv_iload_n hx hb dX0_listOne_2 rfl (lv_at hl 2 rfl) ?_
      refine n_bipush hx hb dX0_listOne_3 (by decide) ?_
      refine n_icmp_ge hx hb hw.1 (rg_c _ rfl) hw.2.1 hw.2.2 (tgt := 55) dX0_listOne_5 (by decide) (fun hw => ?_) (fun hw => ?_)
      · exact r_CV hx hb hr hlk hK hW hw dX0_listOne_55
      · refine lv_iload_n hx hb dX0_listOne_8 rfl (lv_at hl 2 rfl) ?_
        refine fin_CI hW (run_S (As := [.int (iN v2_2)]) (rest := []) S hK hE hW (c_J6_bitCount_0f7a4 l G 0 tl ad σ_2 v2_2 _ hw H.size) al_320 al_321 al_12 al_322 hd_J6_bitCount_0f7a4.2 rfl rfl ⟨Nat.le_of_ble_eq_true rfl, Nat.le_of_ble_eq_true rfl⟩ rfl hl.1 rfl (Nat.le_of_ble_eq_true rfl) dX0_listOne_9 ⟨Nat.zero_le _, Nat.zero_le _⟩) ?_
        intro r11 H locs hw hW
        refine lv_aload_n hx hb dX0_listOne_12 rfl (lv_at hl 0 rfl) ?_
        refine g_getr hx hb hts hown hK hW 1 rfl (q := 2) (hcP (by decide)) (uwP (by decide)) 0 (by decide) rfl al_85 (fun x9 h9 => u_same (hts _ (List.mem_cons_of_mem _ al_86)) x9 h9) dX0_listOne_13 ?_
        refine lv_iload_n hx hb dX0_listOne_16 rfl (lv_at hl 1 rfl) ?_
        refine fin_CI hW (run_VN (k := 2) (As := [.int (iN v1_2)]) (rest := [.int (iN r11)]) 12 S hK hE hW (c_X1_sizeOf l G 0 tl ad σ_2 v1_2 _ hw H.size) rfl rfl rfl al_328 sl_X1_sizeOf al_5 al_329 hd_X1_sizeOf.2 rfl rfl ⟨Nat.le_of_ble_eq_true rfl, Nat.le_of_ble_eq_true rfl⟩ rfl hl.1 rfl (Nat.le_of_ble_eq_true rfl) dX0_listOne_17 ⟨Nat.zero_le _, Nat.zero_le _⟩) ?_
        intro r13 H locs hw hW
        refine n_icmp_ne hx hb hw.1 hw.2.1 hw.2.2.1 hw.2.2.2 (tgt := 49) dX0_listOne_20 (by decide) (fun hw => ?_) (fun hw => ?_)
        · exact hB49 σ_2 v2_2 H locs ls hw hW (lv_sub hl [0, 1, 2] rfl)
        · refine lv_aload_n hx hb dX0_listOne_23 rfl (lv_at hl 0 rfl) ?_
          refine lv_iload_n hx hb dX0_listOne_24 rfl (lv_at hl 1 rfl) ?_
          refine lv_iload_n hx hb dX0_listOne_25 rfl (lv_at hl 2 rfl) ?_
          refine fin_CI hW (run_V (k := 1) (As := [.int (iN v1_2), .int (iN v2_2)]) (rest := []) S hK hE hW (c_X0_stretch l G tl ad σ_2 v1_2 v2_2 _ hw H.size) rfl rfl al_330 al_332 sl_X0_stretch al_4 al_333 hd_X0_stretch rfl rfl ⟨Nat.le_of_ble_eq_true rfl, Nat.le_of_ble_eq_true rfl⟩ rfl hl.1 rfl (Nat.le_of_ble_eq_true rfl) dX0_listOne_26 ⟨Nat.zero_le _, Nat.zero_le _⟩) ?_
          intro r15 H locs hw hW
          refine lv_istore_n (lv' := [(3, .int (iN r15)), (0, .ref (ad 1)), (1, .int (iN v1_2)), (2, .int (iN v2_2))]) hx hb dX0_listOne_29 rfl hl (by decide) rfl (fun ls hl => ?_)
          refine lv_iload_n hx hb dX0_listOne_30 rfl (lv_at hl 0 rfl) ?_
          refine n_bipush hx hb dX0_listOne_31 (by decide) ?_
          refine n_icmp_eq hx hb hw.1 (rg_c _ rfl) hw.2.1 hw.2.2 (tgt := 49) dX0_listOne_33 (by decide) (fun hw => ?_) (fun hw => ?_)
          · exact hB49 σ_2 v2_2 H locs ls hw hW (lv_sub hl [1, 2, 3] rfl)
          · refine lv_aload_n hx hb dX0_listOne_36 rfl (lv_at hl 1 rfl) ?_
            refine lv_iload_n hx hb dX0_listOne_37 rfl (lv_at hl 2 rfl) ?_
            refine lv_iload_n hx hb dX0_listOne_38 rfl (lv_at hl 0 rfl) ?_
            refine lv_iload_n hx hb dX0_listOne_39 rfl (lv_at hl 3 rfl) ?_
            refine lv_aload_n hx hb dX0_listOne_40 rfl (lv_at hl 1 rfl) ?_
            refine lv_iload_n hx hb dX0_listOne_41 rfl (lv_at hl 2 rfl) ?_
            refine lv_iload_n hx hb dX0_listOne_42 rfl (lv_at hl 3 rfl) ?_
            refine fin_CI hW (run_V (k := 1) (As := [.int (iN v1_2), .int (iN v2_2)]) (rest := [.int (iN v2_2), .int (iN r15), .int (iN v1_2), .ref (ad 1)]) S hK hE hW (c_X0_placeOf l G tl ad σ_2 v1_2 v2_2 _ hw H.size) rfl rfl al_353 al_355 sl_X0_placeOf al_4 al_356 hd_X0_placeOf rfl rfl ⟨Nat.le_of_ble_eq_true rfl, Nat.le_of_ble_eq_true rfl⟩ rfl hl.1 rfl (Nat.le_of_ble_eq_true rfl) dX0_listOne_43 ⟨Nat.zero_le _, Nat.zero_le _⟩) ?_
            intro r17 H locs hw hW
            refine fin_CV hW (run_U (k := 1) (As := [.int (iN v1_2), .int (iN r15), .int (iN v2_2), .int (iN r17)]) (rest := []) S hK hE hW (c_X2_addState l G 0 (by decide) tl ad σ_2 v1_2 r15 v2_2 r17 _ hw H.size) rfl (hcP (by decide)) al_359 al_360 (se_X0_X2_addState (by decide)) al_363 al_3 al_364 rfl hd_X2_addState.2 rfl rfl ⟨Nat.le_of_ble_eq_true rfl, Nat.le_of_ble_eq_true rfl⟩ rfl hl.1 rfl (Nat.le_of_ble_eq_true rfl) dX0_listOne_46 ⟨Nat.zero_le _, Nat.zero_le _⟩) ?_
            intro σ20 H locs hw hW
            exact hB49 σ20 v2_2 H locs ls hw hW (lv_sub hl [1, 2, 3] rfl)
  unfold w_X0_listOne at hw
  refine n_iconst hx hb dX0_listOne_0 ?_
  refine lv_istore_n (lv' := [(2, .int (iN 1)), (0, .ref (ad 1)), (1, .int (iN v1))]) hx hb dX0_listOne_1 rfl hl (by decide) rfl (fun ls hl => ?_)
  obtain ⟨n, hw⟩ := hw
  exact hL2 v1 n 1 σ s.heap [] ls hw hW (lv_sub hl [1, 2, 0] rfl)
set_option maxHeartbeats 4000000 in
set_option maxRecDepth 100000 in
theorem c_X2_secondOf (l : Launch) (G : Gt) (κ : Nat) (hκ : κ < 5) (tl : Bool) (ad : Nat → Nat)  (σ : Mem) (v1 : Int) (v2 : Int) (post : Int → Prop) (hw : w_X2_secondOf κ σ v1 v2 post) : CI l yX2_secondOf (Cond.code yX2_secondOf cX2_secondOf 4 (some .int)) ({ frames := 0, cells := 0, slots := 0, locals := 0 } : Room) G (shW κ tl) ad σ [.ref (ad 1), .int (iN v1), .int (iN v2)] post := by
  refine s_all (y := yX2_secondOf) (code := cX2_secondOf) (maxL := 4) (ret := (some .int)) (rm := ({ frames := 0, cells := 0, slots := 0, locals := 0 } : Room)) (av := [.ref (ad 1), .int (iN v1), .int (iN v2)]) (Qc := fun sz => QI G (shW κ tl) ad σ post (sz)) (by decide) (Nat.le_of_ble_eq_true rfl) ?_
  intro p e s m below meth c S hr hlk _ hK hE hW ls hl
  obtain ⟨hx, hb, hml, hown, hts⟩ := id S
  replace hl : lv_has ls 4 [(0, .ref (ad 1)), (1, .int (iN v1)), (2, .int (iN v2))] := hl
  have hB32 : ∀  (s0_32 : Int) (H : Heap) (locs : List Loc) (ls : Array Slot), w_X2_secondOf_B32 κ σ s0_32 post → Wd G (shW κ tl) ad σ (Aw ad (shW κ tl).length s.heap.size) s.heap H locs → lv_has ls 4 [] → W p l e ({ frames := 0, cells := 0, slots := 0, locals := 0 } : Room) s m ([.ref (ad 1), .int (iN v1), .int (iN v2)] : List Value).toArray below meth c H locs 0 0 (MQ below (QI G (shW κ tl) ad σ post (s.heap.size)) ([.ref (ad 1), .int (iN v1), .int (iN v2)] : List Value).toArray s 0 0 (Aw ad (shW κ tl).length s.heap.size)) (F0 m 32 ls [.int (iN s0_32)]) := by
    intro s0_32 H locs ls hw hW hl
    unfold w_X2_secondOf_B32 at hw
    exact r_CI hx hb hr hlk hK hW hw dX2_secondOf_32
  have hB31 : ∀   (H : Heap) (locs : List Loc) (ls : Array Slot), w_X2_secondOf_B31 κ σ post → Wd G (shW κ tl) ad σ (Aw ad (shW κ tl).length s.heap.size) s.heap H locs → lv_has ls 4 [] → W p l e ({ frames := 0, cells := 0, slots := 0, locals := 0 } : Room) s m ([.ref (ad 1), .int (iN v1), .int (iN v2)] : List Value).toArray below meth c H locs 0 0 (MQ below (QI G (shW κ tl) ad σ post (s.heap.size)) ([.ref (ad 1), .int (iN v1), .int (iN v2)] : List Value).toArray s 0 0 (Aw ad (shW κ tl).length s.heap.size)) (F0 m 31 ls []) := by
    intro  H locs ls hw hW hl
    unfold w_X2_secondOf_B31 at hw
    refine n_iconst hx hb dX2_secondOf_31 ?_
    exact hB32 0 H locs ls hw hW (lv_sub hl [] rfl)
  unfold w_X2_secondOf at hw
  refine lv_iload_n hx hb dX2_secondOf_0 rfl (lv_at hl 1 rfl) ?_
  refine lv_aload_n hx hb dX2_secondOf_1 rfl (lv_at hl 0 rfl) ?_
  refine g_get hx hb hts hown hK hW 1 rfl (hcP hκ) (uwP hκ) 1 (by decide) rfl al_92 (fun _ h9 => h9) dX2_secondOf_2 ?_
  refine n_imul hx hb dX2_secondOf_5 ?_
  refine lv_iload_n hx hb dX2_secondOf_6 rfl (lv_at hl 2 rfl) ?_
  refine n_iadd hx hb dX2_secondOf_7 ?_
  refine lv_istore_n (lv' := [(3, .int (iN ((v1 * (σ 1 1)) + v2))), (0, .ref (ad 1)), (1, .int (iN v1)), (2, .int (iN v2))]) hx hb dX2_secondOf_8 rfl hl (by decide) rfl (fun ls hl => ?_)
  refine lv_iload_n hx hb dX2_secondOf_9 rfl (lv_at hl 0 rfl) ?_
  refine n_if_lt hx hb hw.1 hw.2.1 hw.2.2 (tgt := 31) dX2_secondOf_10 (by decide) (fun hw => ?_) (fun hw => ?_)
  · exact hB31  s.heap [] ls hw hW (lv_sub hl [] rfl)
  · refine lv_iload_n hx hb dX2_secondOf_13 rfl (lv_at hl 0 rfl) ?_
    refine lv_aload_n hx hb dX2_secondOf_14 rfl (lv_at hl 1 rfl) ?_
    refine g_getr hx hb hts hown hK hW 1 rfl (q := 13) (hcP hκ) (uwP hκ) 5 (by decide) rfl al_97 (fun _ h9 => h9) dX2_secondOf_15 ?_
    refine g_alen hx hb hK hW 13 rfl dX2_secondOf_18 ?_
    refine n_icmp_ge hx hb hw.1 hw.2.1 hw.2.2.1 hw.2.2.2 (tgt := 31) dX2_secondOf_19 (by decide) (fun hw => ?_) (fun hw => ?_)
    · exact hB31  s.heap [] ls hw hW (lv_sub hl [] rfl)
    · refine lv_aload_n hx hb dX2_secondOf_22 rfl (lv_at hl 1 rfl) ?_
      refine g_getr hx hb hts hown hK hW 1 rfl (q := 13) (hcP hκ) (uwP hκ) 5 (by decide) rfl al_97 (fun _ h9 => h9) dX2_secondOf_23 ?_
      refine lv_iload_n hx hb dX2_secondOf_26 rfl (lv_at hl 0 rfl) ?_
      refine g_ald hx hb hK hW 13 rfl hw.1 dX2_secondOf_27 ?_
      replace hw := hw.2
      refine lv_goto (tgt := 32) hx hb dX2_secondOf_28 (by decide) ?_
      exact hB32 (σ 13 (((v1 * (σ 1 1)) + v2)).toNat) s.heap [] ls hw hW (lv_sub hl [] rfl)
set_option maxHeartbeats 4000000 in
set_option maxRecDepth 100000 in
theorem c_X1_boundOf (l : Launch) (G : Gt) (κ : Nat)  (tl : Bool) (ad : Nat → Nat)  (σ : Mem) (v1 : Int) (post : Int → Prop) (hw : w_X1_boundOf  σ v1 post) : CI l yX1_boundOf (Cond.code yX1_boundOf cX1_boundOf 2 (some .int)) ({ frames := 0, cells := 0, slots := 0, locals := 0 } : Room) G (shW κ tl) ad σ [.ref (ad 2), .int (iN v1)] post := by
  refine s_all (y := yX1_boundOf) (code := cX1_boundOf) (maxL := 2) (ret := (some .int)) (rm := ({ frames := 0, cells := 0, slots := 0, locals := 0 } : Room)) (av := [.ref (ad 2), .int (iN v1)]) (Qc := fun sz => QI G (shW κ tl) ad σ post (sz)) (by decide) (Nat.le_of_ble_eq_true rfl) ?_
  intro p e s m below meth c S hr hlk _ hK hE hW ls hl
  obtain ⟨hx, hb, hml, hown, hts⟩ := id S
  replace hl : lv_has ls 2 [(0, .ref (ad 2)), (1, .int (iN v1))] := hl
  have hB23 : ∀  (s0_23 : Int) (H : Heap) (locs : List Loc) (ls : Array Slot), w_X1_boundOf_B23 σ s0_23 post → Wd G (shW κ tl) ad σ (Aw ad (shW κ tl).length s.heap.size) s.heap H locs → lv_has ls 2 [] → W p l e ({ frames := 0, cells := 0, slots := 0, locals := 0 } : Room) s m ([.ref (ad 2), .int (iN v1)] : List Value).toArray below meth c H locs 0 0 (MQ below (QI G (shW κ tl) ad σ post (s.heap.size)) ([.ref (ad 2), .int (iN v1)] : List Value).toArray s 0 0 (Aw ad (shW κ tl).length s.heap.size)) (F0 m 23 ls [.int (iN s0_23)]) := by
    intro s0_23 H locs ls hw hW hl
    unfold w_X1_boundOf_B23 at hw
    exact r_CI hx hb hr hlk hK hW hw dX1_boundOf_23
  have hB22 : ∀   (H : Heap) (locs : List Loc) (ls : Array Slot), w_X1_boundOf_B22 σ post → Wd G (shW κ tl) ad σ (Aw ad (shW κ tl).length s.heap.size) s.heap H locs → lv_has ls 2 [] → W p l e ({ frames := 0, cells := 0, slots := 0, locals := 0 } : Room) s m ([.ref (ad 2), .int (iN v1)] : List Value).toArray below meth c H locs 0 0 (MQ below (QI G (shW κ tl) ad σ post (s.heap.size)) ([.ref (ad 2), .int (iN v1)] : List Value).toArray s 0 0 (Aw ad (shW κ tl).length s.heap.size)) (F0 m 22 ls []) := by
    intro  H locs ls hw hW hl
    unfold w_X1_boundOf_B22 at hw
    refine n_iconst hx hb dX1_boundOf_22 ?_
    exact hB23 0 H locs ls hw hW (lv_sub hl [] rfl)
  unfold w_X1_boundOf at hw
  refine lv_iload_n hx hb dX1_boundOf_0 rfl (lv_at hl 1 rfl) ?_
  refine n_if_lt hx hb hw.1 hw.2.1 hw.2.2 (tgt := 22) dX1_boundOf_1 (by decide) (fun hw => ?_) (fun hw => ?_)
  · exact hB22  s.heap [] ls hw hW (lv_sub hl [] rfl)
  · refine lv_iload_n hx hb dX1_boundOf_4 rfl (lv_at hl 1 rfl) ?_
    refine lv_aload_n hx hb dX1_boundOf_5 rfl (lv_at hl 0 rfl) ?_
    refine g_getr hx hb hts hown hK hW 2 rfl (q := 3) rfl uw_X1 0 (by decide) rfl al_47 (fun _ h9 => h9) dX1_boundOf_6 ?_
    refine g_alen hx hb hK hW 3 rfl dX1_boundOf_9 ?_
    refine n_icmp_ge hx hb hw.1 hw.2.1 hw.2.2.1 hw.2.2.2 (tgt := 22) dX1_boundOf_10 (by decide) (fun hw => ?_) (fun hw => ?_)
    · exact hB22  s.heap [] ls hw hW (lv_sub hl [] rfl)
    · refine lv_aload_n hx hb dX1_boundOf_13 rfl (lv_at hl 0 rfl) ?_
      refine g_getr hx hb hts hown hK hW 2 rfl (q := 3) rfl uw_X1 0 (by decide) rfl al_47 (fun _ h9 => h9) dX1_boundOf_14 ?_
      refine lv_iload_n hx hb dX1_boundOf_17 rfl (lv_at hl 1 rfl) ?_
      refine g_ald hx hb hK hW 3 rfl hw.1 dX1_boundOf_18 ?_
      replace hw := hw.2
      refine lv_goto (tgt := 23) hx hb dX1_boundOf_19 (by decide) ?_
      exact hB23 (σ 3 (v1).toNat) s.heap [] ls hw hW (lv_sub hl [] rfl)
set_option maxHeartbeats 4000000 in
set_option maxRecDepth 100000 in
theorem c_X1_timeOf (l : Launch) (G : Gt) (κ : Nat)  (tl : Bool) (ad : Nat → Nat)  (σ : Mem) (v1 : Int) (post : Int → Prop) (hw : w_X1_timeOf  σ v1 post) : CI l yX1_timeOf (Cond.code yX1_timeOf cX1_timeOf 2 (some .int)) ({ frames := 0, cells := 0, slots := 0, locals := 0 } : Room) G (shW κ tl) ad σ [.ref (ad 2), .int (iN v1)] post := by
  refine s_all (y := yX1_timeOf) (code := cX1_timeOf) (maxL := 2) (ret := (some .int)) (rm := ({ frames := 0, cells := 0, slots := 0, locals := 0 } : Room)) (av := [.ref (ad 2), .int (iN v1)]) (Qc := fun sz => QI G (shW κ tl) ad σ post (sz)) (by decide) (Nat.le_of_ble_eq_true rfl) ?_
  intro p e s m below meth c S hr hlk _ hK hE hW ls hl
  obtain ⟨hx, hb, hml, hown, hts⟩ := id S
  replace hl : lv_has ls 2 [(0, .ref (ad 2)), (1, .int (iN v1))] := hl
  have hB22 : ∀  (s0_22 : Int) (H : Heap) (locs : List Loc) (ls : Array Slot), w_X1_timeOf_B22 σ s0_22 post → Wd G (shW κ tl) ad σ (Aw ad (shW κ tl).length s.heap.size) s.heap H locs → lv_has ls 2 [] → W p l e ({ frames := 0, cells := 0, slots := 0, locals := 0 } : Room) s m ([.ref (ad 2), .int (iN v1)] : List Value).toArray below meth c H locs 0 0 (MQ below (QI G (shW κ tl) ad σ post (s.heap.size)) ([.ref (ad 2), .int (iN v1)] : List Value).toArray s 0 0 (Aw ad (shW κ tl).length s.heap.size)) (F0 m 22 ls [.int (iN s0_22)]) := by
    intro s0_22 H locs ls hw hW hl
    unfold w_X1_timeOf_B22 at hw
    exact r_CI hx hb hr hlk hK hW hw dX1_timeOf_22
  have hB21 : ∀   (H : Heap) (locs : List Loc) (ls : Array Slot), w_X1_timeOf_B21 σ post → Wd G (shW κ tl) ad σ (Aw ad (shW κ tl).length s.heap.size) s.heap H locs → lv_has ls 2 [] → W p l e ({ frames := 0, cells := 0, slots := 0, locals := 0 } : Room) s m ([.ref (ad 2), .int (iN v1)] : List Value).toArray below meth c H locs 0 0 (MQ below (QI G (shW κ tl) ad σ post (s.heap.size)) ([.ref (ad 2), .int (iN v1)] : List Value).toArray s 0 0 (Aw ad (shW κ tl).length s.heap.size)) (F0 m 21 ls []) := by
    intro  H locs ls hw hW hl
    unfold w_X1_timeOf_B21 at hw
    refine n_iconst hx hb dX1_timeOf_21 ?_
    exact hB22 0 H locs ls hw hW (lv_sub hl [] rfl)
  unfold w_X1_timeOf at hw
  refine lv_iload_n hx hb dX1_timeOf_0 rfl (lv_at hl 1 rfl) ?_
  refine n_if_lt hx hb hw.1 hw.2.1 hw.2.2 (tgt := 21) dX1_timeOf_1 (by decide) (fun hw => ?_) (fun hw => ?_)
  · exact hB21  s.heap [] ls hw hW (lv_sub hl [] rfl)
  · refine lv_iload_n hx hb dX1_timeOf_4 rfl (lv_at hl 1 rfl) ?_
    refine lv_aload_n hx hb dX1_timeOf_5 rfl (lv_at hl 0 rfl) ?_
    refine g_get hx hb hts hown hK hW 2 rfl rfl uw_X1 7 (by decide) rfl al_54 (fun _ h9 => h9) dX1_timeOf_6 ?_
    refine n_icmp_ge hx hb hw.1 hw.2.1 hw.2.2.1 hw.2.2.2 (tgt := 21) dX1_timeOf_9 (by decide) (fun hw => ?_) (fun hw => ?_)
    · exact hB21  s.heap [] ls hw hW (lv_sub hl [] rfl)
    · refine lv_aload_n hx hb dX1_timeOf_12 rfl (lv_at hl 0 rfl) ?_
      refine g_getr hx hb hts hown hK hW 2 rfl (q := 5) rfl uw_X1 2 (by decide) rfl al_49 (fun _ h9 => h9) dX1_timeOf_13 ?_
      refine lv_iload_n hx hb dX1_timeOf_16 rfl (lv_at hl 1 rfl) ?_
      refine g_ald hx hb hK hW 5 rfl hw.1 dX1_timeOf_17 ?_
      replace hw := hw.2
      refine lv_goto (tgt := 22) hx hb dX1_timeOf_18 (by decide) ?_
      exact hB22 (σ 5 (v1).toNat) s.heap [] ls hw hW (lv_sub hl [] rfl)
set_option maxHeartbeats 4000000 in
set_option maxRecDepth 100000 in
theorem c_X2_tooFar (l : Launch) (G : Gt) (κ : Nat) (hκ : κ < 5) (tl : Bool) (ad : Nat → Nat)  (σ : Mem) (v1 : Int) (v2 : Int) (v3 : Int) (post : Int → Prop) (hw : w_X2_tooFar κ σ v1 v2 v3 post) : CI l yX2_tooFar (Cond.code yX2_tooFar cX2_tooFar 4 (some .boolean)) ({ frames := 1, cells := 0, slots := 0, locals := 21 } : Room) G (shW κ tl) ad σ [.ref (ad 1), .int (iN v1), .int (iN v2), .int (iN v3)] post := by
  refine s_all (y := yX2_tooFar) (code := cX2_tooFar) (maxL := 4) (ret := (some .boolean)) (rm := ({ frames := 1, cells := 0, slots := 0, locals := 21 } : Room)) (av := [.ref (ad 1), .int (iN v1), .int (iN v2), .int (iN v3)]) (Qc := fun sz => QI G (shW κ tl) ad σ post (sz)) (by decide) (Nat.le_of_ble_eq_true rfl) ?_
  intro p e s m below meth c S hr hlk _ hK hE hW ls hl
  obtain ⟨hx, hb, hml, hown, hts⟩ := id S
  replace hl : lv_has ls 4 [(0, .ref (ad 1)), (1, .int (iN v1)), (2, .int (iN v2)), (3, .int (iN v3))] := hl
  have hB35 : ∀  (s0_35 : Int) (H : Heap) (locs : List Loc) (ls : Array Slot), w_X2_tooFar_B35 κ σ s0_35 post → Wd G (shW κ tl) ad σ (Aw ad (shW κ tl).length s.heap.size) s.heap H locs → lv_has ls 4 [] → W p l e ({ frames := 1, cells := 0, slots := 0, locals := 21 } : Room) s m ([.ref (ad 1), .int (iN v1), .int (iN v2), .int (iN v3)] : List Value).toArray below meth c H locs 0 0 (MQ below (QI G (shW κ tl) ad σ post (s.heap.size)) ([.ref (ad 1), .int (iN v1), .int (iN v2), .int (iN v3)] : List Value).toArray s 0 0 (Aw ad (shW κ tl).length s.heap.size)) (F0 m 35 ls [.int (iN s0_35)]) := by
    intro s0_35 H locs ls hw hW hl
    unfold w_X2_tooFar_B35 at hw
    exact rz_CI hx hb hr hlk hK hW hw.1 hw.2 dX2_tooFar_35
  unfold w_X2_tooFar at hw
  refine lv_iload_n hx hb dX2_tooFar_0 rfl (lv_at hl 1 rfl) ?_
  refine lv_aload_n hx hb dX2_tooFar_1 rfl (lv_at hl 0 rfl) ?_
  refine g_getr hx hb hts hown hK hW 1 rfl (q := 2) (hcP hκ) (uwP hκ) 0 (by decide) rfl al_78 (fun _ h9 => h9) dX2_tooFar_2 ?_
  refine n_iconst hx hb dX2_tooFar_5 ?_
  refine fin_CI hW (run_VN (k := 2) (As := [.int (iN 0)]) (rest := [.int (iN v1)]) 28 S hK hE hW (c_X1_boundOf l G κ tl ad σ 0 _ hw s.heap.size) rfl rfl rfl al_267 sl_X1_boundOf al_5 al_268 hd_X1_boundOf.2 rfl rfl ⟨Nat.le_of_ble_eq_true rfl, Nat.le_of_ble_eq_true rfl⟩ rfl hl.1 rfl (Nat.le_of_ble_eq_true rfl) dX2_tooFar_6 ⟨Nat.zero_le _, Nat.zero_le _⟩) ?_
  intro r1 H locs hw hW
  refine n_imul hx hb dX2_tooFar_9 ?_
  refine lv_aload_n hx hb dX2_tooFar_10 rfl (lv_at hl 0 rfl) ?_
  refine g_getr hx hb hts hown hK hW 1 rfl (q := 2) (hcP hκ) (uwP hκ) 0 (by decide) rfl al_78 (fun _ h9 => h9) dX2_tooFar_11 ?_
  refine lv_iload_n hx hb dX2_tooFar_14 rfl (lv_at hl 3 rfl) ?_
  refine fin_CI hW (run_VN (k := 2) (As := [.int (iN v3)]) (rest := [.int (iN (v1 * r1))]) 29 S hK hE hW (c_X1_timeOf l G κ tl ad σ v3 _ hw H.size) rfl rfl rfl al_238 sl_X1_timeOf al_5 al_239 hd_X1_timeOf.2 rfl rfl ⟨Nat.le_of_ble_eq_true rfl, Nat.le_of_ble_eq_true rfl⟩ rfl hl.1 rfl (Nat.le_of_ble_eq_true rfl) dX2_tooFar_15 ⟨Nat.zero_le _, Nat.zero_le _⟩) ?_
  intro r3 H locs hw hW
  refine lv_aload_n hx hb dX2_tooFar_18 rfl (lv_at hl 0 rfl) ?_
  refine g_getr hx hb hts hown hK hW 1 rfl (q := 2) (hcP hκ) (uwP hκ) 0 (by decide) rfl al_78 (fun _ h9 => h9) dX2_tooFar_19 ?_
  refine lv_iload_n hx hb dX2_tooFar_22 rfl (lv_at hl 2 rfl) ?_
  refine fin_CI hW (run_VN (k := 2) (As := [.int (iN v2)]) (rest := [.int (iN r3), .int (iN (v1 * r1))]) 29 S hK hE hW (c_X1_timeOf l G κ tl ad σ v2 _ hw H.size) rfl rfl rfl al_238 sl_X1_timeOf al_5 al_239 hd_X1_timeOf.2 rfl rfl ⟨Nat.le_of_ble_eq_true rfl, Nat.le_of_ble_eq_true rfl⟩ rfl hl.1 rfl (Nat.le_of_ble_eq_true rfl) dX2_tooFar_23 ⟨Nat.zero_le _, Nat.zero_le _⟩) ?_
  intro r5 H locs hw hW
  refine n_isub hx hb dX2_tooFar_26 ?_
  refine n_icmp_le hx hb hw.1 hw.2.1 hw.2.2.1 hw.2.2.2 (tgt := 34) dX2_tooFar_27 (by decide) (fun hw => ?_) (fun hw => ?_)
  · refine n_iconst hx hb dX2_tooFar_34 ?_
    exact hB35 0 H locs ls hw hW (lv_sub hl [] rfl)
  · refine n_iconst hx hb dX2_tooFar_30 ?_
    refine lv_goto (tgt := 35) hx hb dX2_tooFar_31 (by decide) ?_
    exact hB35 1 H locs ls hw hW (lv_sub hl [] rfl)
set_option maxHeartbeats 4000000 in
set_option maxRecDepth 100000 in
theorem c_X2_firstOf (l : Launch) (G : Gt) (κ : Nat) (hκ : κ < 5) (tl : Bool) (ad : Nat → Nat)  (σ : Mem) (v1 : Int) (v2 : Int) (post : Int → Prop) (hw : w_X2_firstOf κ σ v1 v2 post) : CI l yX2_firstOf (Cond.code yX2_firstOf cX2_firstOf 4 (some .int)) ({ frames := 0, cells := 0, slots := 0, locals := 0 } : Room) G (shW κ tl) ad σ [.ref (ad 1), .int (iN v1), .int (iN v2)] post := by
  refine s_all (y := yX2_firstOf) (code := cX2_firstOf) (maxL := 4) (ret := (some .int)) (rm := ({ frames := 0, cells := 0, slots := 0, locals := 0 } : Room)) (av := [.ref (ad 1), .int (iN v1), .int (iN v2)]) (Qc := fun sz => QI G (shW κ tl) ad σ post (sz)) (by decide) (Nat.le_of_ble_eq_true rfl) ?_
  intro p e s m below meth c S hr hlk _ hK hE hW ls hl
  obtain ⟨hx, hb, hml, hown, hts⟩ := id S
  replace hl : lv_has ls 4 [(0, .ref (ad 1)), (1, .int (iN v1)), (2, .int (iN v2))] := hl
  have hB32 : ∀  (s0_32 : Int) (H : Heap) (locs : List Loc) (ls : Array Slot), w_X2_firstOf_B32 κ σ s0_32 post → Wd G (shW κ tl) ad σ (Aw ad (shW κ tl).length s.heap.size) s.heap H locs → lv_has ls 4 [] → W p l e ({ frames := 0, cells := 0, slots := 0, locals := 0 } : Room) s m ([.ref (ad 1), .int (iN v1), .int (iN v2)] : List Value).toArray below meth c H locs 0 0 (MQ below (QI G (shW κ tl) ad σ post (s.heap.size)) ([.ref (ad 1), .int (iN v1), .int (iN v2)] : List Value).toArray s 0 0 (Aw ad (shW κ tl).length s.heap.size)) (F0 m 32 ls [.int (iN s0_32)]) := by
    intro s0_32 H locs ls hw hW hl
    unfold w_X2_firstOf_B32 at hw
    exact r_CI hx hb hr hlk hK hW hw dX2_firstOf_32
  have hB31 : ∀   (H : Heap) (locs : List Loc) (ls : Array Slot), w_X2_firstOf_B31 κ σ post → Wd G (shW κ tl) ad σ (Aw ad (shW κ tl).length s.heap.size) s.heap H locs → lv_has ls 4 [] → W p l e ({ frames := 0, cells := 0, slots := 0, locals := 0 } : Room) s m ([.ref (ad 1), .int (iN v1), .int (iN v2)] : List Value).toArray below meth c H locs 0 0 (MQ below (QI G (shW κ tl) ad σ post (s.heap.size)) ([.ref (ad 1), .int (iN v1), .int (iN v2)] : List Value).toArray s 0 0 (Aw ad (shW κ tl).length s.heap.size)) (F0 m 31 ls []) := by
    intro  H locs ls hw hW hl
    unfold w_X2_firstOf_B31 at hw
    refine n_iconst hx hb dX2_firstOf_31 ?_
    exact hB32 0 H locs ls hw hW (lv_sub hl [] rfl)
  unfold w_X2_firstOf at hw
  refine lv_iload_n hx hb dX2_firstOf_0 rfl (lv_at hl 1 rfl) ?_
  refine lv_aload_n hx hb dX2_firstOf_1 rfl (lv_at hl 0 rfl) ?_
  refine g_get hx hb hts hown hK hW 1 rfl (hcP hκ) (uwP hκ) 1 (by decide) rfl al_92 (fun _ h9 => h9) dX2_firstOf_2 ?_
  refine n_imul hx hb dX2_firstOf_5 ?_
  refine lv_iload_n hx hb dX2_firstOf_6 rfl (lv_at hl 2 rfl) ?_
  refine n_iadd hx hb dX2_firstOf_7 ?_
  refine lv_istore_n (lv' := [(3, .int (iN ((v1 * (σ 1 1)) + v2))), (0, .ref (ad 1)), (1, .int (iN v1)), (2, .int (iN v2))]) hx hb dX2_firstOf_8 rfl hl (by decide) rfl (fun ls hl => ?_)
  refine lv_iload_n hx hb dX2_firstOf_9 rfl (lv_at hl 0 rfl) ?_
  refine n_if_lt hx hb hw.1 hw.2.1 hw.2.2 (tgt := 31) dX2_firstOf_10 (by decide) (fun hw => ?_) (fun hw => ?_)
  · exact hB31  s.heap [] ls hw hW (lv_sub hl [] rfl)
  · refine lv_iload_n hx hb dX2_firstOf_13 rfl (lv_at hl 0 rfl) ?_
    refine lv_aload_n hx hb dX2_firstOf_14 rfl (lv_at hl 1 rfl) ?_
    refine g_getr hx hb hts hown hK hW 1 rfl (q := 12) (hcP hκ) (uwP hκ) 4 (by decide) rfl al_96 (fun _ h9 => h9) dX2_firstOf_15 ?_
    refine g_alen hx hb hK hW 12 rfl dX2_firstOf_18 ?_
    refine n_icmp_ge hx hb hw.1 hw.2.1 hw.2.2.1 hw.2.2.2 (tgt := 31) dX2_firstOf_19 (by decide) (fun hw => ?_) (fun hw => ?_)
    · exact hB31  s.heap [] ls hw hW (lv_sub hl [] rfl)
    · refine lv_aload_n hx hb dX2_firstOf_22 rfl (lv_at hl 1 rfl) ?_
      refine g_getr hx hb hts hown hK hW 1 rfl (q := 12) (hcP hκ) (uwP hκ) 4 (by decide) rfl al_96 (fun _ h9 => h9) dX2_firstOf_23 ?_
      refine lv_iload_n hx hb dX2_firstOf_26 rfl (lv_at hl 0 rfl) ?_
      refine g_ald hx hb hK hW 12 rfl hw.1 dX2_firstOf_27 ?_
      replace hw := hw.2
      refine lv_goto (tgt := 32) hx hb dX2_firstOf_28 (by decide) ?_
      exact hB32 (σ 12 (((v1 * (σ 1 1)) + v2)).toNat) s.heap [] ls hw hW (lv_sub hl [] rfl)
set_option maxHeartbeats 4000000 in
set_option maxRecDepth 100000 in
theorem c_X0_stepPrice (l : Launch) (G : Gt)   (tl : Bool) (ad : Nat → Nat)  (σ : Mem) (v1 : Int) (v2 : Int) (v3 : Int) (v4 : Int) (post : Int → Prop) (hw : w_X0_stepPrice  σ v1 v2 v3 v4 post) : CI l yX0_stepPrice (Cond.code yX0_stepPrice cX0_stepPrice 8 (some .int)) ({ frames := 2, cells := 0, slots := 0, locals := 44 } : Room) G (shW 0 tl) ad σ [.ref (ad 1), .int (iN v1), .int (iN v2), .int (iN v3), .int (iN v4)] post := by
  refine s_all (y := yX0_stepPrice) (code := cX0_stepPrice) (maxL := 8) (ret := (some .int)) (rm := ({ frames := 2, cells := 0, slots := 0, locals := 44 } : Room)) (av := [.ref (ad 1), .int (iN v1), .int (iN v2), .int (iN v3), .int (iN v4)]) (Qc := fun sz => QI G (shW 0 tl) ad σ post (sz)) (by decide) (Nat.le_of_ble_eq_true rfl) ?_
  intro p e s m below meth c S hr hlk _ hK hE hW ls hl
  obtain ⟨hx, hb, hml, hown, hts⟩ := id S
  replace hl : lv_has ls 8 [(0, .ref (ad 1)), (1, .int (iN v1)), (2, .int (iN v2)), (3, .int (iN v3)), (4, .int (iN v4))] := hl
  have hB123 : ∀  (s0_123 : Int) (s1_123 : Int) (H : Heap) (locs : List Loc) (ls : Array Slot), w_X0_stepPrice_B123 σ s0_123 s1_123 post → Wd G (shW 0 tl) ad σ (Aw ad (shW 0 tl).length s.heap.size) s.heap H locs → lv_has ls 8 [] → W p l e ({ frames := 2, cells := 0, slots := 0, locals := 44 } : Room) s m ([.ref (ad 1), .int (iN v1), .int (iN v2), .int (iN v3), .int (iN v4)] : List Value).toArray below meth c H locs 0 0 (MQ below (QI G (shW 0 tl) ad σ post (s.heap.size)) ([.ref (ad 1), .int (iN v1), .int (iN v2), .int (iN v3), .int (iN v4)] : List Value).toArray s 0 0 (Aw ad (shW 0 tl).length s.heap.size)) (F0 m 123 ls [.int (iN s0_123), .int (iN s1_123)]) := by
    intro s0_123 s1_123 H locs ls hw hW hl
    unfold w_X0_stepPrice_B123 at hw
    refine n_iadd hx hb dX0_stepPrice_123 ?_
    exact r_CI hx hb hr hlk hK hW hw dX0_stepPrice_124
  have hB109 : ∀  (v5_109 : Int) (s0_109 : Int) (H : Heap) (locs : List Loc) (ls : Array Slot), w_X0_stepPrice_B109 σ v5_109 s0_109 post → Wd G (shW 0 tl) ad σ (Aw ad (shW 0 tl).length s.heap.size) s.heap H locs → lv_has ls 8 [(5, .int (iN v5_109))] → W p l e ({ frames := 2, cells := 0, slots := 0, locals := 44 } : Room) s m ([.ref (ad 1), .int (iN v1), .int (iN v2), .int (iN v3), .int (iN v4)] : List Value).toArray below meth c H locs 0 0 (MQ below (QI G (shW 0 tl) ad σ post (s.heap.size)) ([.ref (ad 1), .int (iN v1), .int (iN v2), .int (iN v3), .int (iN v4)] : List Value).toArray s 0 0 (Aw ad (shW 0 tl).length s.heap.size)) (F0 m 109 ls [.int (iN s0_109)]) := by
    intro v5_109 s0_109 H locs ls hw hW hl
    unfold w_X0_stepPrice_B109 at hw
    refine lv_istore (lv' := [(7, .int (iN s0_109)), (5, .int (iN v5_109))]) hx hb dX0_stepPrice_109 hl (by decide) rfl (fun ls hl => ?_)
    refine lv_iload hx hb dX0_stepPrice_111 (lv_at hl 1 rfl) ?_
    refine lv_iload hx hb dX0_stepPrice_113 (lv_at hl 0 rfl) ?_
    refine n_if_eq hx hb hw.1 hw.2.1 hw.2.2 (tgt := 122) dX0_stepPrice_115 (by decide) (fun hw => ?_) (fun hw => ?_)
    · refine n_iconst hx hb dX0_stepPrice_122 ?_
      exact hB123 0 v5_109 H locs ls hw hW (lv_sub hl [] rfl)
    · refine n_iconst hx hb dX0_stepPrice_118 ?_
      refine lv_goto (tgt := 123) hx hb dX0_stepPrice_119 (by decide) ?_
      exact hB123 3 v5_109 H locs ls hw hW (lv_sub hl [] rfl)
  have hB108 : ∀  (v5_108 : Int) (H : Heap) (locs : List Loc) (ls : Array Slot), w_X0_stepPrice_B108 σ v5_108 post → Wd G (shW 0 tl) ad σ (Aw ad (shW 0 tl).length s.heap.size) s.heap H locs → lv_has ls 8 [(5, .int (iN v5_108))] → W p l e ({ frames := 2, cells := 0, slots := 0, locals := 44 } : Room) s m ([.ref (ad 1), .int (iN v1), .int (iN v2), .int (iN v3), .int (iN v4)] : List Value).toArray below meth c H locs 0 0 (MQ below (QI G (shW 0 tl) ad σ post (s.heap.size)) ([.ref (ad 1), .int (iN v1), .int (iN v2), .int (iN v3), .int (iN v4)] : List Value).toArray s 0 0 (Aw ad (shW 0 tl).length s.heap.size)) (F0 m 108 ls []) := by
    intro v5_108 H locs ls hw hW hl
    unfold w_X0_stepPrice_B108 at hw
    refine n_iconst hx hb dX0_stepPrice_108 ?_
    exact hB109 v5_108 0 H locs ls hw hW (lv_sub hl [0] rfl)
  have hB62 : ∀  (v1_62 : Int) (v2_62 : Int) (v3_62 : Int) (v4_62 : Int) (v5_62 : Int) (s0_62 : Int) (H : Heap) (locs : List Loc) (ls : Array Slot), w_X0_stepPrice_B62 σ v1_62 v2_62 v3_62 v4_62 v5_62 s0_62 post → Wd G (shW 0 tl) ad σ (Aw ad (shW 0 tl).length s.heap.size) s.heap H locs → lv_has ls 8 [(0, .ref (ad 1)), (1, .int (iN v1_62)), (2, .int (iN v2_62)), (3, .int (iN v3_62)), (4, .int (iN v4_62)), (5, .int (iN v5_62))] → W p l e ({ frames := 2, cells := 0, slots := 0, locals := 44 } : Room) s m ([.ref (ad 1), .int (iN v1), .int (iN v2), .int (iN v3), .int (iN v4)] : List Value).toArray below meth c H locs 0 0 (MQ below (QI G (shW 0 tl) ad σ post (s.heap.size)) ([.ref (ad 1), .int (iN v1), .int (iN v2), .int (iN v3), .int (iN v4)] : List Value).toArray s 0 0 (Aw ad (shW 0 tl).length s.heap.size)) (F0 m 62 ls [.int (iN s0_62)]) := by
    intro v1_62 v2_62 v3_62 v4_62 v5_62 s0_62 H locs ls hw hW hl
    unfold w_X0_stepPrice_B62 at hw
    refine lv_istore (lv' := [(6, .int (iN s0_62)), (0, .ref (ad 1)), (1, .int (iN v1_62)), (2, .int (iN v2_62)), (3, .int (iN v3_62)), (4, .int (iN v4_62)), (5, .int (iN v5_62))]) hx hb dX0_stepPrice_62 hl (by decide) rfl (fun ls hl => ?_)
    refine lv_iload hx hb dX0_stepPrice_64 (lv_at hl 0 rfl) ?_
    refine n_if_eq hx hb hw.1 hw.2.1 hw.2.2 (tgt := 108) dX0_stepPrice_66 (by decide) (fun hw => ?_) (fun hw => ?_)
    · exact hB108 v5_62 H locs ls hw hW (lv_sub hl [6] rfl)
    · refine lv_aload_n hx hb dX0_stepPrice_69 rfl (lv_at hl 1 rfl) ?_
      refine g_getr hx hb hts hown hK hW 1 rfl (q := 2) (hcP (by decide)) (uwP (by decide)) 0 (by decide) rfl al_85 (fun x9 h9 => u_same (hts _ (List.mem_cons_of_mem _ al_86)) x9 h9) dX0_stepPrice_70 ?_
      refine lv_iload_n hx hb dX0_stepPrice_73 rfl (lv_at hl 2 rfl) ?_
      refine fin_CI hW (run_VN (k := 2) (As := [.int (iN v1_62)]) (rest := []) 15 S hK hE hW (c_X1_lowestOf l G 0 tl ad σ v1_62 _ hw H.size) rfl rfl rfl al_308 sl_X1_lowestOf al_5 al_309 hd_X1_lowestOf.2 rfl rfl ⟨Nat.le_of_ble_eq_true rfl, Nat.le_of_ble_eq_true rfl⟩ rfl hl.1 rfl (Nat.le_of_ble_eq_true rfl) dX0_stepPrice_74 ⟨Nat.zero_le _, Nat.zero_le _⟩) ?_
      intro r19 H locs hw hW
      refine lv_aload_n hx hb dX0_stepPrice_77 rfl (lv_at hl 1 rfl) ?_
      refine g_getr hx hb hts hown hK hW 1 rfl (q := 2) (hcP (by decide)) (uwP (by decide)) 0 (by decide) rfl al_85 (fun x9 h9 => u_same (hts _ (List.mem_cons_of_mem _ al_86)) x9 h9) dX0_stepPrice_78 ?_
      refine lv_iload_n hx hb dX0_stepPrice_81 rfl (lv_at hl 4 rfl) ?_
      refine fin_CI hW (run_VN (k := 2) (As := [.int (iN v3_62)]) (rest := [.int (iN r19)]) 15 S hK hE hW (c_X1_lowestOf l G 0 tl ad σ v3_62 _ hw H.size) rfl rfl rfl al_308 sl_X1_lowestOf al_5 al_309 hd_X1_lowestOf.2 rfl rfl ⟨Nat.le_of_ble_eq_true rfl, Nat.le_of_ble_eq_true rfl⟩ rfl hl.1 rfl (Nat.le_of_ble_eq_true rfl) dX0_stepPrice_82 ⟨Nat.zero_le _, Nat.zero_le _⟩) ?_
      intro r21 H locs hw hW
      refine n_icmp_eq hx hb hw.1 hw.2.1 hw.2.2.1 hw.2.2.2 (tgt := 108) dX0_stepPrice_85 (by decide) (fun hw => ?_) (fun hw => ?_)
      · exact hB108 v5_62 H locs ls hw hW (lv_sub hl [6] rfl)
      · refine lv_aload_n hx hb dX0_stepPrice_88 rfl (lv_at hl 1 rfl) ?_
        refine lv_iload_n hx hb dX0_stepPrice_89 rfl (lv_at hl 2 rfl) ?_
        refine lv_iload_n hx hb dX0_stepPrice_90 rfl (lv_at hl 3 rfl) ?_
        refine fin_CI hW (run_U (k := 1) (As := [.int (iN v1_62), .int (iN v2_62)]) (rest := []) S hK hE hW (c_X2_firstOf l G 0 (by decide) tl ad σ v1_62 v2_62 _ hw H.size) rfl (hcP (by decide)) al_501 al_502 (se_X0_X2_firstOf (by decide)) al_452 al_3 al_459 rfl hd_X2_firstOf.2 rfl rfl ⟨Nat.le_of_ble_eq_true rfl, Nat.le_of_ble_eq_true rfl⟩ rfl hl.1 rfl (Nat.le_of_ble_eq_true rfl) dX0_stepPrice_91 ⟨Nat.zero_le _, Nat.zero_le _⟩) ?_
        intro r23 H locs hw hW
        refine lv_aload_n hx hb dX0_stepPrice_94 rfl (lv_at hl 1 rfl) ?_
        refine lv_iload_n hx hb dX0_stepPrice_95 rfl (lv_at hl 4 rfl) ?_
        refine lv_iload hx hb dX0_stepPrice_96 (lv_at hl 5 rfl) ?_
        refine fin_CI hW (run_U (k := 1) (As := [.int (iN v3_62), .int (iN v4_62)]) (rest := [.int (iN r23)]) S hK hE hW (c_X2_firstOf l G 0 (by decide) tl ad σ v3_62 v4_62 _ hw H.size) rfl (hcP (by decide)) al_501 al_502 (se_X0_X2_firstOf (by decide)) al_452 al_3 al_459 rfl hd_X2_firstOf.2 rfl rfl ⟨Nat.le_of_ble_eq_true rfl, Nat.le_of_ble_eq_true rfl⟩ rfl hl.1 rfl (Nat.le_of_ble_eq_true rfl) dX0_stepPrice_98 ⟨Nat.zero_le _, Nat.zero_le _⟩) ?_
        intro r25 H locs hw hW
        refine n_icmp_ne hx hb hw.1 hw.2.1 hw.2.2.1 hw.2.2.2 (tgt := 108) dX0_stepPrice_101 (by decide) (fun hw => ?_) (fun hw => ?_)
        · exact hB108 v5_62 H locs ls hw hW (lv_sub hl [6] rfl)
        · refine n_iconst hx hb dX0_stepPrice_104 ?_
          refine lv_goto (tgt := 109) hx hb dX0_stepPrice_105 (by decide) ?_
          exact hB109 v5_62 1 H locs ls hw hW (lv_sub hl [6] rfl)
  have hB61 : ∀  (v1_61 : Int) (v2_61 : Int) (v3_61 : Int) (v4_61 : Int) (v5_61 : Int) (H : Heap) (locs : List Loc) (ls : Array Slot), w_X0_stepPrice_B61 σ v1_61 v2_61 v3_61 v4_61 v5_61 post → Wd G (shW 0 tl) ad σ (Aw ad (shW 0 tl).length s.heap.size) s.heap H locs → lv_has ls 8 [(0, .ref (ad 1)), (1, .int (iN v1_61)), (2, .int (iN v2_61)), (3, .int (iN v3_61)), (4, .int (iN v4_61)), (5, .int (iN v5_61))] → W p l e ({ frames := 2, cells := 0, slots := 0, locals := 44 } : Room) s m ([.ref (ad 1), .int (iN v1), .int (iN v2), .int (iN v3), .int (iN v4)] : List Value).toArray below meth c H locs 0 0 (MQ below (QI G (shW 0 tl) ad σ post (s.heap.size)) ([.ref (ad 1), .int (iN v1), .int (iN v2), .int (iN v3), .int (iN v4)] : List Value).toArray s 0 0 (Aw ad (shW 0 tl).length s.heap.size)) (F0 m 61 ls []) := by
    intro v1_61 v2_61 v3_61 v4_61 v5_61 H locs ls hw hW hl
    unfold w_X0_stepPrice_B61 at hw
    refine n_iconst hx hb dX0_stepPrice_61 ?_
    exact hB62 v1_61 v2_61 v3_61 v4_61 v5_61 0 H locs ls hw hW (lv_sub hl [0, 1, 2, 3, 4, 5] rfl)
  unfold w_X0_stepPrice at hw
  refine lv_aload_n hx hb dX0_stepPrice_0 rfl (lv_at hl 0 rfl) ?_
  refine lv_iload_n hx hb dX0_stepPrice_1 rfl (lv_at hl 1 rfl) ?_
  refine lv_iload_n hx hb dX0_stepPrice_2 rfl (lv_at hl 2 rfl) ?_
  refine fin_CI hW (run_U (k := 1) (As := [.int (iN v1), .int (iN v2)]) (rest := []) S hK hE hW (c_X2_secondOf l G 0 (by decide) tl ad σ v1 v2 _ hw s.heap.size) rfl (hcP (by decide)) al_489 al_490 (se_X0_X2_secondOf (by decide)) al_461 al_3 al_468 rfl hd_X2_secondOf.2 rfl rfl ⟨Nat.le_of_ble_eq_true rfl, Nat.le_of_ble_eq_true rfl⟩ rfl hl.1 rfl (Nat.le_of_ble_eq_true rfl) dX0_stepPrice_3 ⟨Nat.zero_le _, Nat.zero_le _⟩) ?_
  intro r1 H locs hw hW
  refine lv_aload_n hx hb dX0_stepPrice_6 rfl (lv_at hl 0 rfl) ?_
  refine lv_iload_n hx hb dX0_stepPrice_7 rfl (lv_at hl 3 rfl) ?_
  refine lv_iload hx hb dX0_stepPrice_8 (lv_at hl 4 rfl) ?_
  refine fin_CI hW (run_U (k := 1) (As := [.int (iN v3), .int (iN v4)]) (rest := [.int (iN r1)]) S hK hE hW (c_X2_secondOf l G 0 (by decide) tl ad σ v3 v4 _ hw H.size) rfl (hcP (by decide)) al_489 al_490 (se_X0_X2_secondOf (by decide)) al_461 al_3 al_468 rfl hd_X2_secondOf.2 rfl rfl ⟨Nat.le_of_ble_eq_true rfl, Nat.le_of_ble_eq_true rfl⟩ rfl hl.1 rfl (Nat.le_of_ble_eq_true rfl) dX0_stepPrice_10 ⟨Nat.zero_le _, Nat.zero_le _⟩) ?_
  intro r3 H locs hw hW
  refine n_isub hx hb dX0_stepPrice_13 ?_
  refine n_mabs hx hb (hml.trans hl.1.symm) hown (hts _ (List.mem_cons_of_mem _ al_349)) (hts _ (List.mem_cons_of_mem _ al_350)) (hts _ (List.mem_cons_of_mem _ al_2)) (hts _ (List.mem_cons_of_mem _ al_351)) (Nat.le_of_ble_eq_true rfl) (Nat.le_of_ble_eq_true rfl) (Nat.zero_le _) (Nat.zero_le _) hw.1 dX0_stepPrice_14 ?_
  replace hw := hw.2
  refine lv_istore (lv' := [(5, .int (iN (max (r1 - r3) (-(r1 - r3))))), (0, .ref (ad 1)), (1, .int (iN v1)), (2, .int (iN v2)), (3, .int (iN v3)), (4, .int (iN v4))]) hx hb dX0_stepPrice_17 hl (by decide) rfl (fun ls hl => ?_)
  refine lv_aload_n hx hb dX0_stepPrice_19 rfl (lv_at hl 1 rfl) ?_
  refine lv_iload hx hb dX0_stepPrice_20 (lv_at hl 0 rfl) ?_
  refine lv_iload_n hx hb dX0_stepPrice_22 rfl (lv_at hl 2 rfl) ?_
  refine lv_iload_n hx hb dX0_stepPrice_23 rfl (lv_at hl 4 rfl) ?_
  refine fin_CI hW (run_U (k := 1) (As := [.int (iN (max (r1 - r3) (-(r1 - r3)))), .int (iN v1), .int (iN v3)]) (rest := []) S hK hE hW (c_X2_tooFar l G 0 (by decide) tl ad σ (max (r1 - r3) (-(r1 - r3))) v1 v3 _ hw H.size) rfl (hcP (by decide)) al_493 al_494 (se_X0_X2_tooFar (by decide)) al_497 al_3 al_498 rfl hd_X2_tooFar.2 rfl rfl ⟨Nat.le_of_ble_eq_true rfl, Nat.le_of_ble_eq_true rfl⟩ rfl hl.1 rfl (Nat.le_of_ble_eq_true rfl) dX0_stepPrice_24 ⟨Nat.zero_le _, Nat.zero_le _⟩) ?_
  intro r5 H locs hw hW
  refine n_if_eq hx hb hw.1 hw.2.1 hw.2.2 (tgt := 33) dX0_stepPrice_27 (by decide) (fun hw => ?_) (fun hw => ?_)
  · refine lv_aload_n hx hb dX0_stepPrice_33 rfl (lv_at hl 1 rfl) ?_
    refine g_getr hx hb hts hown hK hW 1 rfl (q := 2) (hcP (by decide)) (uwP (by decide)) 0 (by decide) rfl al_85 (fun x9 h9 => u_same (hts _ (List.mem_cons_of_mem _ al_86)) x9 h9) dX0_stepPrice_34 ?_
    refine lv_iload_n hx hb dX0_stepPrice_37 rfl (lv_at hl 2 rfl) ?_
    refine fin_CI hW (run_VN (k := 2) (As := [.int (iN v1)]) (rest := []) 12 S hK hE hW (c_X1_sizeOf l G 0 tl ad σ v1 _ hw H.size) rfl rfl rfl al_328 sl_X1_sizeOf al_5 al_329 hd_X1_sizeOf.2 rfl rfl ⟨Nat.le_of_ble_eq_true rfl, Nat.le_of_ble_eq_true rfl⟩ rfl hl.1 rfl (Nat.le_of_ble_eq_true rfl) dX0_stepPrice_38 ⟨Nat.zero_le _, Nat.zero_le _⟩) ?_
    intro r7 H locs hw hW
    refine n_iconst hx hb dX0_stepPrice_41 ?_
    refine n_icmp_ne hx hb hw.1 (rg_c _ rfl) hw.2.1 hw.2.2 (tgt := 61) dX0_stepPrice_42 (by decide) (fun hw => ?_) (fun hw => ?_)
    · exact hB61 v1 v2 v3 v4 (max (r1 - r3) (-(r1 - r3))) H locs ls hw hW (lv_sub hl [1, 2, 3, 4, 5, 0] rfl)
    · refine lv_aload_n hx hb dX0_stepPrice_45 rfl (lv_at hl 1 rfl) ?_
      refine g_getr hx hb hts hown hK hW 1 rfl (q := 2) (hcP (by decide)) (uwP (by decide)) 0 (by decide) rfl al_85 (fun x9 h9 => u_same (hts _ (List.mem_cons_of_mem _ al_86)) x9 h9) dX0_stepPrice_46 ?_
      refine lv_iload_n hx hb dX0_stepPrice_49 rfl (lv_at hl 4 rfl) ?_
      refine fin_CI hW (run_VN (k := 2) (As := [.int (iN v3)]) (rest := []) 12 S hK hE hW (c_X1_sizeOf l G 0 tl ad σ v3 _ hw H.size) rfl rfl rfl al_328 sl_X1_sizeOf al_5 al_329 hd_X1_sizeOf.2 rfl rfl ⟨Nat.le_of_ble_eq_true rfl, Nat.le_of_ble_eq_true rfl⟩ rfl hl.1 rfl (Nat.le_of_ble_eq_true rfl) dX0_stepPrice_50 ⟨Nat.zero_le _, Nat.zero_le _⟩) ?_
      intro r17 H locs hw hW
      refine n_iconst hx hb dX0_stepPrice_53 ?_
      refine n_icmp_ne hx hb hw.1 (rg_c _ rfl) hw.2.1 hw.2.2 (tgt := 61) dX0_stepPrice_54 (by decide) (fun hw => ?_) (fun hw => ?_)
      · exact hB61 v1 v2 v3 v4 (max (r1 - r3) (-(r1 - r3))) H locs ls hw hW (lv_sub hl [1, 2, 3, 4, 5, 0] rfl)
      · refine n_iconst hx hb dX0_stepPrice_57 ?_
        refine lv_goto (tgt := 62) hx hb dX0_stepPrice_58 (by decide) ?_
        exact hB62 v1 v2 v3 v4 (max (r1 - r3) (-(r1 - r3))) 1 H locs ls hw hW (lv_sub hl [1, 2, 3, 4, 5, 0] rfl)
  · refine n_bipush hx hb dX0_stepPrice_30 (by decide) ?_
    exact r_CI hx hb hr hlk hK hW hw dX0_stepPrice_32
set_option maxHeartbeats 4000000 in
set_option maxRecDepth 100000 in
theorem c_X1_lengthOf (l : Launch) (G : Gt) (κ : Nat)  (tl : Bool) (ad : Nat → Nat)  (σ : Mem) (v1 : Int) (post : Int → Prop) (hw : w_X1_lengthOf  σ v1 post) : CI l yX1_lengthOf (Cond.code yX1_lengthOf cX1_lengthOf 2 (some .int)) ({ frames := 0, cells := 0, slots := 0, locals := 0 } : Room) G (shW κ tl) ad σ [.ref (ad 2), .int (iN v1)] post := by
  refine s_all (y := yX1_lengthOf) (code := cX1_lengthOf) (maxL := 2) (ret := (some .int)) (rm := ({ frames := 0, cells := 0, slots := 0, locals := 0 } : Room)) (av := [.ref (ad 2), .int (iN v1)]) (Qc := fun sz => QI G (shW κ tl) ad σ post (sz)) (by decide) (Nat.le_of_ble_eq_true rfl) ?_
  intro p e s m below meth c S hr hlk _ hK hE hW ls hl
  obtain ⟨hx, hb, hml, hown, hts⟩ := id S
  replace hl : lv_has ls 2 [(0, .ref (ad 2)), (1, .int (iN v1))] := hl
  have hB22 : ∀  (s0_22 : Int) (H : Heap) (locs : List Loc) (ls : Array Slot), w_X1_lengthOf_B22 σ s0_22 post → Wd G (shW κ tl) ad σ (Aw ad (shW κ tl).length s.heap.size) s.heap H locs → lv_has ls 2 [] → W p l e ({ frames := 0, cells := 0, slots := 0, locals := 0 } : Room) s m ([.ref (ad 2), .int (iN v1)] : List Value).toArray below meth c H locs 0 0 (MQ below (QI G (shW κ tl) ad σ post (s.heap.size)) ([.ref (ad 2), .int (iN v1)] : List Value).toArray s 0 0 (Aw ad (shW κ tl).length s.heap.size)) (F0 m 22 ls [.int (iN s0_22)]) := by
    intro s0_22 H locs ls hw hW hl
    unfold w_X1_lengthOf_B22 at hw
    exact r_CI hx hb hr hlk hK hW hw dX1_lengthOf_22
  have hB21 : ∀   (H : Heap) (locs : List Loc) (ls : Array Slot), w_X1_lengthOf_B21 σ post → Wd G (shW κ tl) ad σ (Aw ad (shW κ tl).length s.heap.size) s.heap H locs → lv_has ls 2 [] → W p l e ({ frames := 0, cells := 0, slots := 0, locals := 0 } : Room) s m ([.ref (ad 2), .int (iN v1)] : List Value).toArray below meth c H locs 0 0 (MQ below (QI G (shW κ tl) ad σ post (s.heap.size)) ([.ref (ad 2), .int (iN v1)] : List Value).toArray s 0 0 (Aw ad (shW κ tl).length s.heap.size)) (F0 m 21 ls []) := by
    intro  H locs ls hw hW hl
    unfold w_X1_lengthOf_B21 at hw
    refine n_iconst hx hb dX1_lengthOf_21 ?_
    exact hB22 0 H locs ls hw hW (lv_sub hl [] rfl)
  unfold w_X1_lengthOf at hw
  refine lv_iload_n hx hb dX1_lengthOf_0 rfl (lv_at hl 1 rfl) ?_
  refine n_if_lt hx hb hw.1 hw.2.1 hw.2.2 (tgt := 21) dX1_lengthOf_1 (by decide) (fun hw => ?_) (fun hw => ?_)
  · exact hB21  s.heap [] ls hw hW (lv_sub hl [] rfl)
  · refine lv_iload_n hx hb dX1_lengthOf_4 rfl (lv_at hl 1 rfl) ?_
    refine lv_aload_n hx hb dX1_lengthOf_5 rfl (lv_at hl 0 rfl) ?_
    refine g_get hx hb hts hown hK hW 2 rfl rfl uw_X1 7 (by decide) rfl al_54 (fun _ h9 => h9) dX1_lengthOf_6 ?_
    refine n_icmp_ge hx hb hw.1 hw.2.1 hw.2.2.1 hw.2.2.2 (tgt := 21) dX1_lengthOf_9 (by decide) (fun hw => ?_) (fun hw => ?_)
    · exact hB21  s.heap [] ls hw hW (lv_sub hl [] rfl)
    · refine lv_aload_n hx hb dX1_lengthOf_12 rfl (lv_at hl 0 rfl) ?_
      refine g_getr hx hb hts hown hK hW 2 rfl (q := 6) rfl uw_X1 3 (by decide) rfl al_50 (fun _ h9 => h9) dX1_lengthOf_13 ?_
      refine lv_iload_n hx hb dX1_lengthOf_16 rfl (lv_at hl 1 rfl) ?_
      refine g_ald hx hb hK hW 6 rfl hw.1 dX1_lengthOf_17 ?_
      replace hw := hw.2
      refine lv_goto (tgt := 22) hx hb dX1_lengthOf_18 (by decide) ?_
      exact hB22 (σ 6 (v1).toNat) s.heap [] ls hw hW (lv_sub hl [] rfl)
set_option maxHeartbeats 4000000 in
set_option maxRecDepth 100000 in
theorem c_X6_stops (l : Launch) (G : Gt)   (tl : Bool) (ad : Nat → Nat)  (σ : Mem) (v1 : Int) (v2 : Int) (v3 : Int) (post : Int → Prop) (hw : w_X6_stops  σ v1 v2 v3 post) : CI l yX6_stops (Cond.code yX6_stops cX6_stops 8 (some .int)) ({ frames := 1, cells := 0, slots := 0, locals := 23 } : Room) G (shW 1 tl) ad σ [.ref (ad 1), .int (iN v1), .int (iN v2), .int (iN v3)] post := by
  refine s_all (y := yX6_stops) (code := cX6_stops) (maxL := 8) (ret := (some .int)) (rm := ({ frames := 1, cells := 0, slots := 0, locals := 23 } : Room)) (av := [.ref (ad 1), .int (iN v1), .int (iN v2), .int (iN v3)]) (Qc := fun sz => QI G (shW 1 tl) ad σ post (sz)) (by decide) (Nat.le_of_ble_eq_true rfl) ?_
  intro p e s m below meth c S hr hlk _ hK hE hW ls hl
  obtain ⟨hx, hb, hml, hown, hts⟩ := id S
  replace hl : lv_has ls 8 [(0, .ref (ad 1)), (1, .int (iN v1)), (2, .int (iN v2)), (3, .int (iN v3))] := hl
  have hB69 : ∀   (H : Heap) (locs : List Loc) (ls : Array Slot), w_X6_stops_B69 σ post → Wd G (shW 1 tl) ad σ (Aw ad (shW 1 tl).length s.heap.size) s.heap H locs → lv_has ls 8 [] → W p l e ({ frames := 1, cells := 0, slots := 0, locals := 23 } : Room) s m ([.ref (ad 1), .int (iN v1), .int (iN v2), .int (iN v3)] : List Value).toArray below meth c H locs 0 0 (MQ below (QI G (shW 1 tl) ad σ post (s.heap.size)) ([.ref (ad 1), .int (iN v1), .int (iN v2), .int (iN v3)] : List Value).toArray s 0 0 (Aw ad (shW 1 tl).length s.heap.size)) (F0 m 69 ls []) := by
    intro  H locs ls hw hW hl
    unfold w_X6_stops_B69 at hw
    refine n_bipush hx hb dX6_stops_69 (by decide) ?_
    exact r_CI hx hb hr hlk hK hW hw dX6_stops_71
  have hL6 : ∀ (v1_6 : Int) (v2_6 : Int) (v3_6 : Int) (n : Nat) (v4_6 : Int) (v5_6 : Int) (H : Heap) (locs : List Loc) (ls : Array Slot), w_X6_stops_L6 σ v1_6 v2_6 v3_6 post n v4_6 v5_6 → Wd G (shW 1 tl) ad σ (Aw ad (shW 1 tl).length s.heap.size) s.heap H locs → lv_has ls 8 [(0, .ref (ad 1)), (1, .int (iN v1_6)), (2, .int (iN v2_6)), (3, .int (iN v3_6)), (4, .int (iN v4_6)), (5, .int (iN v5_6))] → W p l e ({ frames := 1, cells := 0, slots := 0, locals := 23 } : Room) s m ([.ref (ad 1), .int (iN v1), .int (iN v2), .int (iN v3)] : List Value).toArray below meth c H locs 0 0 (MQ below (QI G (shW 1 tl) ad σ post (s.heap.size)) ([.ref (ad 1), .int (iN v1), .int (iN v2), .int (iN v3)] : List Value).toArray s 0 0 (Aw ad (shW 1 tl).length s.heap.size)) (F0 m 6 ls []) := by
    intro v1_6 v2_6 v3_6 n
    induction n with
    | zero =>
      intro v4_6 v5_6 H locs ls hw
      exact hw.elim
    | succ n6 ih6 =>
      intro v4_6 v5_6 H locs ls hw hW hl
      replace hw : w_X6_stops_L6_body σ v1_6 v2_6 v3_6 post (w_X6_stops_L6 σ v1_6 v2_6 v3_6 post n6) v4_6 v5_6 := hw
      have hB88 : ∀  (v4_88 : Int) (v5_88 : Int) (H : Heap) (locs : List Loc) (ls : Array Slot), w_X6_stops_B88 σ v1_6 v2_6 v3_6 v4_88 v5_88 post (w_X6_stops_L6 σ v1_6 v2_6 v3_6 post n6) → Wd G (shW 1 tl) ad σ (Aw ad (shW 1 tl).length s.heap.size) s.heap H locs → lv_has ls 8 [(0, .ref (ad 1)), (1, .int (iN v1_6)), (2, .int (iN v2_6)), (3, .int (iN v3_6)), (4, .int (iN v4_88)), (5, .int (iN v5_88))] → W p l e ({ frames := 1, cells := 0, slots := 0, locals := 23 } : Room) s m ([.ref (ad 1), .int (iN v1), .int (iN v2), .int (iN v3)] : List Value).toArray below meth c H locs 0 0 (MQ below (QI G (shW 1 tl) ad σ post (s.heap.size)) ([.ref (ad 1), .int (iN v1), .int (iN v2), .int (iN v3)] : List Value).toArray s 0 0 (Aw ad (shW 1 tl).length s.heap.size)) (F0 m 88 ls []) := by
        intro v4_88 v5_88 H locs ls hw hW hl
        unfold w_X6_stops_B88 at hw
        refine lv_iinc (v := iN (v5_88 + 1)) (lv' := [(5, .int (iN (v5_88 + 1))), (0, .ref (ad 1)), (1, .int (iN v1_6)), (2, .int (iN v2_6)), (3, .int (iN v3_6)), (4, .int (iN v4_88))]) hx hb dX6_stops_88 hl (k := 5) rfl (iN_add _ _) (by decide) rfl (fun ls hl => ?_)
        refine lv_goto (tgt := 6) hx hb dX6_stops_91 (by decide) ?_
        exact ih6 v4_88 (v5_88 + 1) H locs ls hw hW (lv_sub hl [1, 2, 3, 4, 5, 0] rfl)
      have hB85 : ∀  (v5_85 : Int) (s0_85 : Int) (s1_85 : Int) (H : Heap) (locs : List Loc) (ls : Array Slot), w_X6_stops_B85 σ v1_6 v2_6 v3_6 v5_85 s0_85 s1_85 post (w_X6_stops_L6 σ v1_6 v2_6 v3_6 post n6) → Wd G (shW 1 tl) ad σ (Aw ad (shW 1 tl).length s.heap.size) s.heap H locs → lv_has ls 8 [(0, .ref (ad 1)), (1, .int (iN v1_6)), (2, .int (iN v2_6)), (3, .int (iN v3_6)), (5, .int (iN v5_85))] → W p l e ({ frames := 1, cells := 0, slots := 0, locals := 23 } : Room) s m ([.ref (ad 1), .int (iN v1), .int (iN v2), .int (iN v3)] : List Value).toArray below meth c H locs 0 0 (MQ below (QI G (shW 1 tl) ad σ post (s.heap.size)) ([.ref (ad 1), .int (iN v1), .int (iN v2), .int (iN v3)] : List Value).toArray s 0 0 (Aw ad (shW 1 tl).length s.heap.size)) (F0 m 85 ls [.int (iN s0_85), .int (iN s1_85)]) := by
        intro v5_85 s0_85 s1_85 H locs ls hw hW hl
        unfold w_X6_stops_B85 at hw
        refine n_iadd hx hb dX6_stops_85 ?_
        refine lv_istore (lv' := [(4, .int (iN (s1_85 + s0_85))), (0, .ref (ad 1)), (1, .int (iN v1_6)), (2, .int (iN v2_6)), (3, .int (iN v3_6)), (5, .int (iN v5_85))]) hx hb dX6_stops_86 hl (by decide) rfl (fun ls hl => ?_)
        exact hB88 (s1_85 + s0_85) v5_85 H locs ls hw hW (lv_sub hl [1, 2, 3, 4, 0, 5] rfl)
      unfold w_X6_stops_L6_body at hw
      refine lv_iload hx hb dX6_stops_6 (lv_at hl 5 rfl) ?_
      refine lv_aload_n hx hb dX6_stops_8 rfl (lv_at hl 0 rfl) ?_
      refine g_getr hx hb hts hown hK hW 1 rfl (q := 2) (hcP (by decide)) (uwP (by decide)) 0 (by decide) rfl al_83 (fun x9 h9 => u_same (hts _ (List.mem_cons_of_mem _ al_84)) x9 h9) dX6_stops_9 ?_
      refine lv_iload_n hx hb dX6_stops_12 rfl (lv_at hl 1 rfl) ?_
      refine fin_CI hW (run_VN (k := 2) (As := [.int (iN v1_6)]) (rest := [.int (iN v5_6)]) 22 S hK hE hW (c_X1_sizeOf l G 1 tl ad σ v1_6 _ hw H.size) rfl rfl rfl al_328 sl_X1_sizeOf al_5 al_329 hd_X1_sizeOf.2 rfl rfl ⟨Nat.le_of_ble_eq_true rfl, Nat.le_of_ble_eq_true rfl⟩ rfl hl.1 rfl (Nat.le_of_ble_eq_true rfl) dX6_stops_13 ⟨Nat.zero_le _, Nat.zero_le _⟩) ?_
      intro r7 H locs hw hW
      refine n_icmp_ge hx hb hw.1 hw.2.1 hw.2.2.1 hw.2.2.2 (tgt := 94) dX6_stops_16 (by decide) (fun hw => ?_) (fun hw => ?_)
      · refine lv_iload hx hb dX6_stops_94 (lv_at hl 4 rfl) ?_
        exact r_CI hx hb hr hlk hK hW hw dX6_stops_96
      · refine lv_aload_n hx hb dX6_stops_19 rfl (lv_at hl 0 rfl) ?_
        refine g_getr hx hb hts hown hK hW 1 rfl (q := 2) (hcP (by decide)) (uwP (by decide)) 0 (by decide) rfl al_83 (fun x9 h9 => u_same (hts _ (List.mem_cons_of_mem _ al_84)) x9 h9) dX6_stops_20 ?_
        refine lv_iload_n hx hb dX6_stops_23 rfl (lv_at hl 1 rfl) ?_
        refine lv_iload hx hb dX6_stops_24 (lv_at hl 5 rfl) ?_
        refine fin_CI hW (run_VN (k := 2) (As := [.int (iN v1_6), .int (iN v5_6)]) (rest := []) 23 S hK hE hW (c_X1_pitchOf l G 1 tl ad σ v1_6 v5_6 _ hw H.size) rfl rfl rfl al_347 sl_X1_pitchOf al_5 al_348 hd_X1_pitchOf.2 rfl rfl ⟨Nat.le_of_ble_eq_true rfl, Nat.le_of_ble_eq_true rfl⟩ rfl hl.1 rfl (Nat.le_of_ble_eq_true rfl) dX6_stops_26 ⟨Nat.zero_le _, Nat.zero_le _⟩) ?_
        intro r9 H locs hw hW
        refine lv_aload_n hx hb dX6_stops_29 rfl (lv_at hl 0 rfl) ?_
        refine g_getr hx hb hts hown hK hW 1 rfl (q := 2) (hcP (by decide)) (uwP (by decide)) 0 (by decide) rfl al_83 (fun x9 h9 => u_same (hts _ (List.mem_cons_of_mem _ al_84)) x9 h9) dX6_stops_30 ?_
        refine n_bipush hx hb dX6_stops_33 (by decide) ?_
        refine lv_iload_n hx hb dX6_stops_35 rfl (lv_at hl 3 rfl) ?_
        refine n_iadd hx hb dX6_stops_36 ?_
        refine lv_iload hx hb dX6_stops_37 (lv_at hl 5 rfl) ?_
        refine n_iadd hx hb dX6_stops_39 ?_
        refine fin_CI hW (run_VN (k := 2) (As := [.int (iN ((6 + v3_6) + v5_6))]) (rest := [.int (iN r9)]) 24 S hK hE hW (c_X1_boundOf l G 1 tl ad σ ((6 + v3_6) + v5_6) _ hw H.size) rfl rfl rfl al_267 sl_X1_boundOf al_5 al_268 hd_X1_boundOf.2 rfl rfl ⟨Nat.le_of_ble_eq_true rfl, Nat.le_of_ble_eq_true rfl⟩ rfl hl.1 rfl (Nat.le_of_ble_eq_true rfl) dX6_stops_40 ⟨Nat.zero_le _, Nat.zero_le _⟩) ?_
        intro r11 H locs hw hW
        refine n_isub hx hb dX6_stops_43 ?_
        refine lv_istore (lv' := [(6, .int (iN (r9 - r11))), (0, .ref (ad 1)), (1, .int (iN v1_6)), (2, .int (iN v2_6)), (3, .int (iN v3_6)), (4, .int (iN v4_6)), (5, .int (iN v5_6))]) hx hb dX6_stops_44 hl (by decide) rfl (fun ls hl => ?_)
        refine lv_iload hx hb dX6_stops_46 (lv_at hl 0 rfl) ?_
        refine n_if_eq hx hb hw.1 hw.2.1 hw.2.2 (tgt := 88) dX6_stops_48 (by decide) (fun hw => ?_) (fun hw => ?_)
        · exact hB88 v4_6 v5_6 H locs ls hw hW (lv_sub hl [1, 2, 3, 4, 5, 6] rfl)
        · refine lv_iload hx hb dX6_stops_51 (lv_at hl 0 rfl) ?_
          refine lv_iload_n hx hb dX6_stops_53 rfl (lv_at hl 3 rfl) ?_
          refine n_isub hx hb dX6_stops_54 ?_
          refine lv_istore (lv' := [(7, .int (iN ((r9 - r11) - v2_6))), (6, .int (iN (r9 - r11))), (0, .ref (ad 1)), (1, .int (iN v1_6)), (2, .int (iN v2_6)), (3, .int (iN v3_6)), (4, .int (iN v4_6)), (5, .int (iN v5_6))]) hx hb dX6_stops_55 hl (by decide) rfl (fun ls hl => ?_)
          refine lv_iload hx hb dX6_stops_57 (lv_at hl 0 rfl) ?_
          refine n_iconst hx hb dX6_stops_59 ?_
          refine n_icmp_lt hx hb hw.1 (rg_c _ rfl) hw.2.1 hw.2.2 (tgt := 69) dX6_stops_60 (by decide) (fun hw => ?_) (fun hw => ?_)
          · exact hB69  H locs ls hw hW (lv_sub hl [] rfl)
          · refine lv_iload hx hb dX6_stops_63 (lv_at hl 0 rfl) ?_
            refine n_iconst hx hb dX6_stops_65 ?_
            refine n_icmp_le hx hb hw.1 (rg_c _ rfl) hw.2.1 hw.2.2 (tgt := 72) dX6_stops_66 (by decide) (fun hw => ?_) (fun hw => ?_)
            · refine lv_iload hx hb dX6_stops_72 (lv_at hl 6 rfl) ?_
              refine lv_iload hx hb dX6_stops_74 (lv_at hl 0 rfl) ?_
              refine n_iconst hx hb dX6_stops_76 ?_
              refine n_icmp_ne hx hb hw.1 (rg_c _ rfl) hw.2.1 hw.2.2 (tgt := 84) dX6_stops_77 (by decide) (fun hw => ?_) (fun hw => ?_)
              · refine n_iconst hx hb dX6_stops_84 ?_
                exact hB85 v5_6 1 v4_6 H locs ls hw hW (lv_sub hl [2, 3, 4, 5, 7] rfl)
              · refine n_iconst hx hb dX6_stops_80 ?_
                refine lv_goto (tgt := 85) hx hb dX6_stops_81 (by decide) ?_
                exact hB85 v5_6 2 v4_6 H locs ls hw hW (lv_sub hl [2, 3, 4, 5, 7] rfl)
            · exact hB69  H locs ls hw hW (lv_sub hl [] rfl)
  unfold w_X6_stops at hw
  refine n_iconst hx hb dX6_stops_0 ?_
  refine lv_istore (lv' := [(4, .int (iN 0)), (0, .ref (ad 1)), (1, .int (iN v1)), (2, .int (iN v2)), (3, .int (iN v3))]) hx hb dX6_stops_1 hl (by decide) rfl (fun ls hl => ?_)
  refine n_iconst hx hb dX6_stops_3 ?_
  refine lv_istore (lv' := [(5, .int (iN 0)), (4, .int (iN 0)), (0, .ref (ad 1)), (1, .int (iN v1)), (2, .int (iN v2)), (3, .int (iN v3))]) hx hb dX6_stops_4 hl (by decide) rfl (fun ls hl => ?_)
  obtain ⟨n, hw⟩ := hw
  exact hL6 v1 v2 v3 n 0 0 s.heap [] ls hw hW (lv_sub hl [2, 3, 4, 5, 1, 0] rfl)
set_option maxHeartbeats 4000000 in
set_option maxRecDepth 100000 in
theorem c_X6_listOne (l : Launch) (G : Gt)   (tl : Bool) (ad : Nat → Nat)  (σ : Mem) (v1 : Int) (post : Mem → Prop) (hw : w_X6_listOne  σ v1 post) : CV l yX6_listOne (Cond.code yX6_listOne cX6_listOne 5 none) ({ frames := 2, cells := 0, slots := 0, locals := 50 } : Room) G (shW 1 tl) ad σ [.ref (ad 1), .int (iN v1)] post := by
  refine s_all (y := yX6_listOne) (code := cX6_listOne) (maxL := 5) (ret := none) (rm := ({ frames := 2, cells := 0, slots := 0, locals := 50 } : Room)) (av := [.ref (ad 1), .int (iN v1)]) (Qc := fun sz => QV G (shW 1 tl) ad post (sz)) (by decide) (Nat.le_of_ble_eq_true rfl) ?_
  intro p e s m below meth c S hr hlk _ hK hE hW ls hl
  obtain ⟨hx, hb, hml, hown, hts⟩ := id S
  replace hl : lv_has ls 5 [(0, .ref (ad 1)), (1, .int (iN v1))] := hl
  have hL2 : ∀ (v1_2 : Int) (n : Nat) (v2_2 : Int) (σ_2 : Mem) (H : Heap) (locs : List Loc) (ls : Array Slot), w_X6_listOne_L2 v1_2 post n v2_2 σ_2 → Wd G (shW 1 tl) ad σ_2 (Aw ad (shW 1 tl).length s.heap.size) s.heap H locs → lv_has ls 5 [(0, .ref (ad 1)), (1, .int (iN v1_2)), (2, .int (iN v2_2))] → W p l e ({ frames := 2, cells := 0, slots := 0, locals := 50 } : Room) s m ([.ref (ad 1), .int (iN v1)] : List Value).toArray below meth c H locs 0 0 (MQ below (QV G (shW 1 tl) ad post (s.heap.size)) ([.ref (ad 1), .int (iN v1)] : List Value).toArray s 0 0 (Aw ad (shW 1 tl).length s.heap.size)) (F0 m 2 ls []) := by
    intro v1_2 n
    induction n with
    | zero =>
      intro v2_2 σ_2 H locs ls hw
      exact hw.elim
    | succ n2 ih2 =>
      intro v2_2 σ_2 H locs ls hw hW hl
      replace hw : w_X6_listOne_L2_body v1_2 post (w_X6_listOne_L2 v1_2 post n2) v2_2 σ_2 := hw
      have hL10 : ∀ (v2_10 : Int) (n : Nat) (v3_10 : Int) (σ_10 : Mem) (H : Heap) (locs : List Loc) (ls : Array Slot), w_X6_listOne_L10 v1_2 v2_10 post (w_X6_listOne_L2 v1_2 post n2) n v3_10 σ_10 → Wd G (shW 1 tl) ad σ_10 (Aw ad (shW 1 tl).length s.heap.size) s.heap H locs → lv_has ls 5 [(0, .ref (ad 1)), (1, .int (iN v1_2)), (2, .int (iN v2_10)), (3, .int (iN v3_10))] → W p l e ({ frames := 2, cells := 0, slots := 0, locals := 50 } : Room) s m ([.ref (ad 1), .int (iN v1)] : List Value).toArray below meth c H locs 0 0 (MQ below (QV G (shW 1 tl) ad post (s.heap.size)) ([.ref (ad 1), .int (iN v1)] : List Value).toArray s 0 0 (Aw ad (shW 1 tl).length s.heap.size)) (F0 m 10 ls []) := by
        intro v2_10 n
        induction n with
        | zero =>
          intro v3_10 σ_10 H locs ls hw
          exact hw.elim
        | succ n10 ih10 =>
          intro v3_10 σ_10 H locs ls hw hW hl
          replace hw : w_X6_listOne_L10_body v1_2 v2_10 post (w_X6_listOne_L2 v1_2 post n2) (w_X6_listOne_L10 v1_2 v2_10 post (w_X6_listOne_L2 v1_2 post n2) n10) v3_10 σ_10 := hw
          have hB49 : ∀ (σ_49 : Mem) (v3_49 : Int) (H : Heap) (locs : List Loc) (ls : Array Slot), w_X6_listOne_B49 σ_49 v1_2 v2_10 v3_49 post (w_X6_listOne_L2 v1_2 post n2) (w_X6_listOne_L10 v1_2 v2_10 post (w_X6_listOne_L2 v1_2 post n2) n10) → Wd G (shW 1 tl) ad σ_49 (Aw ad (shW 1 tl).length s.heap.size) s.heap H locs → lv_has ls 5 [(0, .ref (ad 1)), (1, .int (iN v1_2)), (2, .int (iN v2_10)), (3, .int (iN v3_49))] → W p l e ({ frames := 2, cells := 0, slots := 0, locals := 50 } : Room) s m ([.ref (ad 1), .int (iN v1)] : List Value).toArray below meth c H locs 0 0 (MQ below (QV G (shW 1 tl) ad post (s.heap.size)) ([.ref (ad 1), .int (iN v1)] : List Value).toArray s 0 0 (Aw ad (shW 1 tl).length s.heap.size)) (F0 m 49 ls []) := by
            intro σ_49 v3_49 H locs ls hw hW hl
            unfold w_X6_listOne_B49 at hw
            refine lv_iinc (v := iN (v3_49 + 1)) (lv' := [(3, .int (iN (v3_49 + 1))), (0, .ref (ad 1)), (1, .int (iN v1_2)), (2, .int (iN v2_10))]) hx hb dX6_listOne_49 hl (k := 3) rfl (iN_add _ _) (by decide) rfl (fun ls hl => ?_)
            refine lv_goto (tgt := 10) hx hb dX6_listOne_52 (by decide) ?_
            exact ih10 (v3_49 + 1) σ_49 H locs ls hw hW (lv_sub hl [1, 2, 3, 0] rfl)
          unfold w_X6_listOne_L10_body at hw
          refine lv_iload_n hx hb dX6_listOne_10 rfl (lv_at hl 3 rfl) ?_
          refine lv_aload_n hx hb dX6_listOne_11 rfl (lv_at hl 0 rfl) ?_
          refine g_getr hx hb hts hown hK hW 1 rfl (q := 2) (hcP (by decide)) (uwP (by decide)) 0 (by decide) rfl al_83 (fun x9 h9 => u_same (hts _ (List.mem_cons_of_mem _ al_84)) x9 h9) dX6_listOne_12 ?_
          refine lv_iload_n hx hb dX6_listOne_15 rfl (lv_at hl 1 rfl) ?_
          refine fin_CI hW (run_VN (k := 2) (As := [.int (iN v1_2)]) (rest := [.int (iN v3_10)]) 22 S hK hE hW (c_X1_sizeOf l G 1 tl ad σ_10 v1_2 _ hw H.size) rfl rfl rfl al_328 sl_X1_sizeOf al_5 al_329 hd_X1_sizeOf.2 rfl rfl ⟨Nat.le_of_ble_eq_true rfl, Nat.le_of_ble_eq_true rfl⟩ rfl hl.1 rfl (Nat.le_of_ble_eq_true rfl) dX6_listOne_16 ⟨Nat.zero_le _, Nat.zero_le _⟩) ?_
          intro r7 H locs hw hW
          refine n_iadd hx hb dX6_listOne_19 ?_
          refine n_iconst hx hb dX6_listOne_20 ?_
          refine n_icmp_gt hx hb hw.1 (rg_c _ rfl) hw.2.1 hw.2.2 (tgt := 55) dX6_listOne_21 (by decide) (fun hw => ?_) (fun hw => ?_)
          · refine lv_iinc (v := iN (v2_10 + 1)) (lv' := [(2, .int (iN (v2_10 + 1))), (0, .ref (ad 1)), (1, .int (iN v1_2)), (3, .int (iN v3_10))]) hx hb dX6_listOne_55 hl (k := 2) rfl (iN_add _ _) (by decide) rfl (fun ls hl => ?_)
            refine lv_goto (tgt := 2) hx hb dX6_listOne_58 (by decide) ?_
            exact ih2 (v2_10 + 1) σ_10 H locs ls hw hW (lv_sub hl [1, 2, 0] rfl)
          · refine lv_aload_n hx hb dX6_listOne_24 rfl (lv_at hl 0 rfl) ?_
            refine lv_iload_n hx hb dX6_listOne_25 rfl (lv_at hl 1 rfl) ?_
            refine lv_iload_n hx hb dX6_listOne_26 rfl (lv_at hl 2 rfl) ?_
            refine lv_iload_n hx hb dX6_listOne_27 rfl (lv_at hl 3 rfl) ?_
            refine fin_CI hW (run_V (k := 1) (As := [.int (iN v1_2), .int (iN v2_10), .int (iN v3_10)]) (rest := []) S hK hE hW (c_X6_stops l G tl ad σ_10 v1_2 v2_10 v3_10 _ hw H.size) rfl rfl al_404 al_406 sl_X6_stops al_6 al_407 hd_X6_stops rfl rfl ⟨Nat.le_of_ble_eq_true rfl, Nat.le_of_ble_eq_true rfl⟩ rfl hl.1 rfl (Nat.le_of_ble_eq_true rfl) dX6_listOne_28 ⟨Nat.zero_le _, Nat.zero_le _⟩) ?_
            intro r9 H locs hw hW
            refine lv_istore (lv' := [(4, .int (iN r9)), (0, .ref (ad 1)), (1, .int (iN v1_2)), (2, .int (iN v2_10)), (3, .int (iN v3_10))]) hx hb dX6_listOne_31 hl (by decide) rfl (fun ls hl => ?_)
            refine lv_iload hx hb dX6_listOne_33 (lv_at hl 0 rfl) ?_
            refine n_bipush hx hb dX6_listOne_35 (by decide) ?_
            refine n_icmp_eq hx hb hw.1 (rg_c _ rfl) hw.2.1 hw.2.2 (tgt := 49) dX6_listOne_37 (by decide) (fun hw => ?_) (fun hw => ?_)
            · exact hB49 σ_10 v3_10 H locs ls hw hW (lv_sub hl [1, 2, 3, 4] rfl)
            · refine lv_aload_n hx hb dX6_listOne_40 rfl (lv_at hl 1 rfl) ?_
              refine lv_iload_n hx hb dX6_listOne_41 rfl (lv_at hl 2 rfl) ?_
              refine lv_iload hx hb dX6_listOne_42 (lv_at hl 0 rfl) ?_
              refine lv_iload_n hx hb dX6_listOne_44 rfl (lv_at hl 3 rfl) ?_
              refine lv_iload_n hx hb dX6_listOne_45 rfl (lv_at hl 4 rfl) ?_
              refine fin_CV hW (run_U (k := 1) (As := [.int (iN v1_2), .int (iN r9), .int (iN v2_10), .int (iN v3_10)]) (rest := []) S hK hE hW (c_X2_addState l G 1 (by decide) tl ad σ_10 v1_2 r9 v2_10 v3_10 _ hw H.size) rfl (hcP (by decide)) al_410 al_411 (se_X6_X2_addState (by decide)) al_363 al_3 al_364 rfl hd_X2_addState.2 rfl rfl ⟨Nat.le_of_ble_eq_true rfl, Nat.le_of_ble_eq_true rfl⟩ rfl hl.1 rfl (Nat.le_of_ble_eq_true rfl) dX6_listOne_46 ⟨Nat.zero_le _, Nat.zero_le _⟩) ?_
              intro σ12 H locs hw hW
              exact hB49 σ12 v3_10 H locs ls hw hW (lv_sub hl [1, 2, 3, 4] rfl)
      unfold w_X6_listOne_L2_body at hw
      refine lv_iload_n hx hb dX6_listOne_2 rfl (lv_at hl 2 rfl) ?_
      refine n_bipush hx hb dX6_listOne_3 (by decide) ?_
      refine n_icmp_ge hx hb hw.1 (rg_c _ rfl) hw.2.1 hw.2.2 (tgt := 61) dX6_listOne_5 (by decide) (fun hw => ?_) (fun hw => ?_)
      · exact r_CV hx hb hr hlk hK hW hw dX6_listOne_61
      · refine n_iconst hx hb dX6_listOne_8 ?_
        refine lv_istore_n (lv' := [(3, .int (iN 0)), (0, .ref (ad 1)), (1, .int (iN v1_2)), (2, .int (iN v2_2))]) hx hb dX6_listOne_9 rfl hl (by decide) rfl (fun ls hl => ?_)
        obtain ⟨n, hw⟩ := hw
        exact hL10 v2_2 n 0 σ_2 H locs ls hw hW (lv_sub hl [1, 2, 3, 0] rfl)
  unfold w_X6_listOne at hw
  refine n_iconst hx hb dX6_listOne_0 ?_
  refine lv_istore_n (lv' := [(2, .int (iN 0)), (0, .ref (ad 1)), (1, .int (iN v1))]) hx hb dX6_listOne_1 rfl hl (by decide) rfl (fun ls hl => ?_)
  obtain ⟨n, hw⟩ := hw
  exact hL2 v1 n 0 σ s.heap [] ls hw hW (lv_sub hl [1, 2, 0] rfl)
set_option maxHeartbeats 4000000 in
set_option maxRecDepth 100000 in
theorem c_X8_earliestBreath (l : Launch) (G : Gt)   (tl : Bool) (ad : Nat → Nat)  (σ : Mem) (v1 : Int) (post : Int → Prop) (hw : w_X8_earliestBreath  σ v1 post) : CI l yX8_earliestBreath (Cond.code yX8_earliestBreath cX8_earliestBreath 5 (some .int)) ({ frames := 1, cells := 0, slots := 0, locals := 21 } : Room) G (shW 2 tl) ad σ [.ref (ad 1), .int (iN v1)] post := by
  refine s_all (y := yX8_earliestBreath) (code := cX8_earliestBreath) (maxL := 5) (ret := (some .int)) (rm := ({ frames := 1, cells := 0, slots := 0, locals := 21 } : Room)) (av := [.ref (ad 1), .int (iN v1)]) (Qc := fun sz => QI G (shW 2 tl) ad σ post (sz)) (by decide) (Nat.le_of_ble_eq_true rfl) ?_
  intro p e s m below meth c S hr hlk _ hK hE hW ls hl
  obtain ⟨hx, hb, hml, hown, hts⟩ := id S
  replace hl : lv_has ls 5 [(0, .ref (ad 1)), (1, .int (iN v1))] := hl
  have hL16 : ∀  (n : Nat) (v2_16 : Int) (v3_16 : Int) (v4_16 : Int) (H : Heap) (locs : List Loc) (ls : Array Slot), w_X8_earliestBreath_L16 σ post n v2_16 v3_16 v4_16 → Wd G (shW 2 tl) ad σ (Aw ad (shW 2 tl).length s.heap.size) s.heap H locs → lv_has ls 5 [(0, .ref (ad 1)), (2, .int (iN v2_16)), (3, .int (iN v3_16)), (4, .int (iN v4_16))] → W p l e ({ frames := 1, cells := 0, slots := 0, locals := 21 } : Room) s m ([.ref (ad 1), .int (iN v1)] : List Value).toArray below meth c H locs 0 0 (MQ below (QI G (shW 2 tl) ad σ post (s.heap.size)) ([.ref (ad 1), .int (iN v1)] : List Value).toArray s 0 0 (Aw ad (shW 2 tl).length s.heap.size)) (F0 m 16 ls []) := by
    intro  n
    induction n with
    | zero =>
      intro v2_16 v3_16 v4_16 H locs ls hw
      exact hw.elim
    | succ n16 ih16 =>
      intro v2_16 v3_16 v4_16 H locs ls hw hW hl
      replace hw : w_X8_earliestBreath_L16_body σ post (w_X8_earliestBreath_L16 σ post n16) v2_16 v3_16 v4_16 := hw
      unfold w_X8_earliestBreath_L16_body at hw
      refine lv_iload hx hb dX8_earliestBreath_16 (lv_at hl 3 rfl) ?_
      refine n_if_lt hx hb hw.1 hw.2.1 hw.2.2 (tgt := 48) dX8_earliestBreath_18 (by decide) (fun hw => ?_) (fun hw => ?_)
      · refine lv_iload_n hx hb dX8_earliestBreath_48 rfl (lv_at hl 1 rfl) ?_
        exact r_CI hx hb hr hlk hK hW hw dX8_earliestBreath_49
      · refine lv_iload_n hx hb dX8_earliestBreath_21 rfl (lv_at hl 2 rfl) ?_
        refine lv_aload_n hx hb dX8_earliestBreath_22 rfl (lv_at hl 0 rfl) ?_
        refine g_getr hx hb hts hown hK hW 1 rfl (q := 2) (hcP (by decide)) (uwP (by decide)) 0 (by decide) rfl al_89 (fun x9 h9 => u_same (hts _ (List.mem_cons_of_mem _ al_90)) x9 h9) dX8_earliestBreath_23 ?_
        refine lv_iload hx hb dX8_earliestBreath_26 (lv_at hl 3 rfl) ?_
        refine fin_CI hW (run_VN (k := 2) (As := [.int (iN v4_16)]) (rest := [.int (iN v3_16)]) 26 S hK hE hW (c_X1_lengthOf l G 2 tl ad σ v4_16 _ hw H.size) rfl rfl rfl al_242 sl_X1_lengthOf al_5 al_243 hd_X1_lengthOf.2 rfl rfl ⟨Nat.le_of_ble_eq_true rfl, Nat.le_of_ble_eq_true rfl⟩ rfl hl.1 rfl (Nat.le_of_ble_eq_true rfl) dX8_earliestBreath_28 ⟨Nat.zero_le _, Nat.zero_le _⟩) ?_
        intro r5 H locs hw hW
        refine n_isub hx hb dX8_earliestBreath_31 ?_
        refine lv_istore_n (lv' := [(3, .int (iN (v3_16 - r5))), (0, .ref (ad 1)), (2, .int (iN v2_16)), (4, .int (iN v4_16))]) hx hb dX8_earliestBreath_32 rfl hl (by decide) rfl (fun ls hl => ?_)
        refine lv_iload_n hx hb dX8_earliestBreath_33 rfl (lv_at hl 0 rfl) ?_
        refine n_if_ge hx hb hw.1 hw.2.1 hw.2.2 (tgt := 39) dX8_earliestBreath_34 (by decide) (fun hw => ?_) (fun hw => ?_)
        · refine lv_iload hx hb dX8_earliestBreath_39 (lv_at hl 3 rfl) ?_
          refine lv_istore_n (lv' := [(2, .int (iN v4_16)), (3, .int (iN (v3_16 - r5))), (0, .ref (ad 1)), (4, .int (iN v4_16))]) hx hb dX8_earliestBreath_41 rfl hl (by decide) rfl (fun ls hl => ?_)
          refine lv_iinc (v := iN (v4_16 + (-1))) (lv' := [(4, .int (iN (v4_16 + (-1)))), (2, .int (iN v4_16)), (3, .int (iN (v3_16 - r5))), (0, .ref (ad 1))]) hx hb dX8_earliestBreath_42 hl (k := 3) rfl (iN_add _ _) (by decide) rfl (fun ls hl => ?_)
          refine lv_goto (tgt := 16) hx hb dX8_earliestBreath_45 (by decide) ?_
          exact ih16 v4_16 (v3_16 - r5) (v4_16 + (-1)) H locs ls hw hW (lv_sub hl [3, 1, 2, 0] rfl)
        · refine lv_iload_n hx hb dX8_earliestBreath_37 rfl (lv_at hl 2 rfl) ?_
          exact r_CI hx hb hr hlk hK hW hw dX8_earliestBreath_38
  unfold w_X8_earliestBreath at hw
  refine lv_iload_n hx hb dX8_earliestBreath_0 rfl (lv_at hl 1 rfl) ?_
  refine n_iconst hx hb dX8_earliestBreath_1 ?_
  refine n_iadd hx hb dX8_earliestBreath_2 ?_
  refine lv_istore_n (lv' := [(2, .int (iN (v1 + 1))), (0, .ref (ad 1)), (1, .int (iN v1))]) hx hb dX8_earliestBreath_3 rfl hl (by decide) rfl (fun ls hl => ?_)
  refine lv_aload_n hx hb dX8_earliestBreath_4 rfl (lv_at hl 1 rfl) ?_
  refine g_getr hx hb hts hown hK hW 1 rfl (q := 2) (hcP (by decide)) (uwP (by decide)) 0 (by decide) rfl al_89 (fun x9 h9 => u_same (hts _ (List.mem_cons_of_mem _ al_90)) x9 h9) dX8_earliestBreath_5 ?_
  refine n_iconst hx hb dX8_earliestBreath_8 ?_
  refine fin_CI hW (run_VN (k := 2) (As := [.int (iN 1)]) (rest := []) 25 S hK hE hW (c_X1_boundOf l G 2 tl ad σ 1 _ hw s.heap.size) rfl rfl rfl al_267 sl_X1_boundOf al_5 al_268 hd_X1_boundOf.2 rfl rfl ⟨Nat.le_of_ble_eq_true rfl, Nat.le_of_ble_eq_true rfl⟩ rfl hl.1 rfl (Nat.le_of_ble_eq_true rfl) dX8_earliestBreath_9 ⟨Nat.zero_le _, Nat.zero_le _⟩) ?_
  intro r1 H locs hw hW
  refine lv_istore_n (lv' := [(3, .int (iN r1)), (2, .int (iN (v1 + 1))), (0, .ref (ad 1)), (1, .int (iN v1))]) hx hb dX8_earliestBreath_12 rfl hl (by decide) rfl (fun ls hl => ?_)
  refine lv_iload_n hx hb dX8_earliestBreath_13 rfl (lv_at hl 3 rfl) ?_
  refine lv_istore (lv' := [(4, .int (iN v1)), (3, .int (iN r1)), (2, .int (iN (v1 + 1))), (0, .ref (ad 1)), (1, .int (iN v1))]) hx hb dX8_earliestBreath_14 hl (by decide) rfl (fun ls hl => ?_)
  obtain ⟨n, hw⟩ := hw
  exact hL16 n (v1 + 1) r1 v1 H locs ls hw hW (lv_sub hl [3, 2, 1, 0] rfl)
set_option maxHeartbeats 4000000 in
set_option maxRecDepth 100000 in
theorem c_X8_listOne (l : Launch) (G : Gt)   (tl : Bool) (ad : Nat → Nat)  (σ : Mem) (v1 : Int) (post : Mem → Prop) (hw : w_X8_listOne  σ v1 post) : CV l yX8_listOne (Cond.code yX8_listOne cX8_listOne 3 none) ({ frames := 2, cells := 0, slots := 0, locals := 45 } : Room) G (shW 2 tl) ad σ [.ref (ad 1), .int (iN v1)] post := by
  refine s_all (y := yX8_listOne) (code := cX8_listOne) (maxL := 3) (ret := none) (rm := ({ frames := 2, cells := 0, slots := 0, locals := 45 } : Room)) (av := [.ref (ad 1), .int (iN v1)]) (Qc := fun sz => QV G (shW 2 tl) ad post (sz)) (by decide) (Nat.le_of_ble_eq_true rfl) ?_
  intro p e s m below meth c S hr hlk _ hK hE hW ls hl
  obtain ⟨hx, hb, hml, hown, hts⟩ := id S
  replace hl : lv_has ls 3 [(0, .ref (ad 1)), (1, .int (iN v1))] := hl
  have hL6 : ∀ (v1_6 : Int) (n : Nat) (v2_6 : Int) (σ_6 : Mem) (H : Heap) (locs : List Loc) (ls : Array Slot), w_X8_listOne_L6 v1_6 post n v2_6 σ_6 → Wd G (shW 2 tl) ad σ_6 (Aw ad (shW 2 tl).length s.heap.size) s.heap H locs → lv_has ls 3 [(0, .ref (ad 1)), (1, .int (iN v1_6)), (2, .int (iN v2_6))] → W p l e ({ frames := 2, cells := 0, slots := 0, locals := 45 } : Room) s m ([.ref (ad 1), .int (iN v1)] : List Value).toArray below meth c H locs 0 0 (MQ below (QV G (shW 2 tl) ad post (s.heap.size)) ([.ref (ad 1), .int (iN v1)] : List Value).toArray s 0 0 (Aw ad (shW 2 tl).length s.heap.size)) (F0 m 6 ls []) := by
    intro v1_6 n
    induction n with
    | zero =>
      intro v2_6 σ_6 H locs ls hw
      exact hw.elim
    | succ n6 ih6 =>
      intro v2_6 σ_6 H locs ls hw hW hl
      replace hw : w_X8_listOne_L6_body v1_6 post (w_X8_listOne_L6 v1_6 post n6) v2_6 σ_6 := hw
      unfold w_X8_listOne_L6_body at hw
      refine lv_iload_n hx hb dX8_listOne_6 rfl (lv_at hl 2 rfl) ?_
      refine lv_iload_n hx hb dX8_listOne_7 rfl (lv_at hl 1 rfl) ?_
      refine n_icmp_gt hx hb hw.1 hw.2.1 hw.2.2.1 hw.2.2.2 (tgt := 25) dX8_listOne_8 (by decide) (fun hw => ?_) (fun hw => ?_)
      · exact r_CV hx hb hr hlk hK hW hw dX8_listOne_25
      · refine lv_aload_n hx hb dX8_listOne_11 rfl (lv_at hl 0 rfl) ?_
        refine lv_iload_n hx hb dX8_listOne_12 rfl (lv_at hl 1 rfl) ?_
        refine n_iconst hx hb dX8_listOne_13 ?_
        refine lv_iload_n hx hb dX8_listOne_14 rfl (lv_at hl 2 rfl) ?_
        refine n_iconst hx hb dX8_listOne_15 ?_
        refine fin_CV hW (run_U (k := 1) (As := [.int (iN v1_6), .int (iN 0), .int (iN v2_6), .int (iN 0)]) (rest := []) S hK hE hW (c_X2_addState l G 2 (by decide) tl ad σ_6 v1_6 0 v2_6 0 _ hw H.size) rfl (hcP (by decide)) al_422 al_423 (se_X8_X2_addState (by decide)) al_363 al_3 al_364 rfl hd_X2_addState.2 rfl rfl ⟨Nat.le_of_ble_eq_true rfl, Nat.le_of_ble_eq_true rfl⟩ rfl hl.1 rfl (Nat.le_of_ble_eq_true rfl) dX8_listOne_16 ⟨Nat.zero_le _, Nat.zero_le _⟩) ?_
        intro σ6 H locs hw hW
        refine lv_iinc (v := iN (v2_6 + 1)) (lv' := [(2, .int (iN (v2_6 + 1))), (0, .ref (ad 1)), (1, .int (iN v1_6))]) hx hb dX8_listOne_19 hl (k := 2) rfl (iN_add _ _) (by decide) rfl (fun ls hl => ?_)
        refine lv_goto (tgt := 6) hx hb dX8_listOne_22 (by decide) ?_
        exact ih6 (v2_6 + 1) σ6 H locs ls hw hW (lv_sub hl [1, 2, 0] rfl)
  unfold w_X8_listOne at hw
  refine lv_aload_n hx hb dX8_listOne_0 rfl (lv_at hl 0 rfl) ?_
  refine lv_iload_n hx hb dX8_listOne_1 rfl (lv_at hl 1 rfl) ?_
  refine fin_CI hW (run_V (k := 1) (As := [.int (iN v1)]) (rest := []) S hK hE hW (c_X8_earliestBreath l G tl ad σ v1 _ hw s.heap.size) rfl rfl al_416 al_418 sl_X8_earliestBreath al_7 al_419 hd_X8_earliestBreath rfl rfl ⟨Nat.le_of_ble_eq_true rfl, Nat.le_of_ble_eq_true rfl⟩ rfl hl.1 rfl (Nat.le_of_ble_eq_true rfl) dX8_listOne_2 ⟨Nat.zero_le _, Nat.zero_le _⟩) ?_
  intro r1 H locs hw hW
  refine lv_istore_n (lv' := [(2, .int (iN r1)), (0, .ref (ad 1)), (1, .int (iN v1))]) hx hb dX8_listOne_5 rfl hl (by decide) rfl (fun ls hl => ?_)
  obtain ⟨n, hw⟩ := hw
  exact hL6 v1 n r1 σ H locs ls hw hW (lv_sub hl [1, 2, 0] rfl)
set_option maxHeartbeats 4000000 in
set_option maxRecDepth 100000 in
theorem c_X4_isPartial (l : Launch) (G : Gt)   (tl : Bool) (ad : Nat → Nat)  (σ : Mem) (v0 : Int) (post : Int → Prop) (hw : w_X4_isPartial  σ v0 post) : CI l yX4_isPartial (Cond.code yX4_isPartial cX4_isPartial 5 (some .boolean)) ({ frames := 0, cells := 0, slots := 0, locals := 0 } : Room) G (shW 3 tl) ad σ [.int (iN v0)] post := by
  refine s_all (y := yX4_isPartial) (code := cX4_isPartial) (maxL := 5) (ret := (some .boolean)) (rm := ({ frames := 0, cells := 0, slots := 0, locals := 0 } : Room)) (av := [.int (iN v0)]) (Qc := fun sz => QI G (shW 3 tl) ad σ post (sz)) (by decide) (Nat.le_of_ble_eq_true rfl) ?_
  intro p e s m below meth c S hr hlk _ hK hE hW ls hl
  obtain ⟨hx, hb, hml, hown, hts⟩ := id S
  replace hl : lv_has ls 5 [(0, .int (iN v0))] := hl
  obtain ⟨t3, hZ3, hT3⟩ := hE.2.2.2.2
  have hL9 : ∀ (v0_9 : Int) (v2_9 : Int) (n : Nat) (v3_9 : Int) (H : Heap) (locs : List Loc) (ls : Array Slot), w_X4_isPartial_L9 σ v0_9 v2_9 post n v3_9 → Wd G (shW 3 tl) ad σ (Aw ad (shW 3 tl).length s.heap.size) s.heap H locs → lv_has ls 5 [(0, .int (iN v0_9)), (1, .ref t3), (2, .int (iN v2_9)), (3, .int (iN v3_9))] → W p l e ({ frames := 0, cells := 0, slots := 0, locals := 0 } : Room) s m ([.int (iN v0)] : List Value).toArray below meth c H locs 0 0 (MQ below (QI G (shW 3 tl) ad σ post (s.heap.size)) ([.int (iN v0)] : List Value).toArray s 0 0 (Aw ad (shW 3 tl).length s.heap.size)) (F0 m 9 ls []) := by
    intro v0_9 v2_9 n
    induction n with
    | zero =>
      intro v3_9 H locs ls hw
      exact hw.elim
    | succ n9 ih9 =>
      intro v3_9 H locs ls hw hW hl
      replace hw : w_X4_isPartial_L9_body σ v0_9 v2_9 post (w_X4_isPartial_L9 σ v0_9 v2_9 post n9) v3_9 := hw
      unfold w_X4_isPartial_L9_body at hw
      refine lv_iload_n hx hb dX4_isPartial_9 rfl (lv_at hl 3 rfl) ?_
      refine lv_iload_n hx hb dX4_isPartial_10 rfl (lv_at hl 2 rfl) ?_
      refine n_icmp_ge hx hb hw.1 hw.2.1 hw.2.2.1 hw.2.2.2 (tgt := 33) dX4_isPartial_11 (by decide) (fun hw => ?_) (fun hw => ?_)
      · refine n_iconst hx hb dX4_isPartial_33 ?_
        exact rz_CI hx hb hr hlk hK hW (Or.inl rfl) hw dX4_isPartial_34
      · refine lv_aload_n hx hb dX4_isPartial_14 rfl (lv_at hl 1 rfl) ?_
        refine lv_iload_n hx hb dX4_isPartial_15 rfl (lv_at hl 3 rfl) ?_
        refine g_tld hx hb hT3 hW.2.2 hw.1 dX4_isPartial_16 ?_
        replace hw := hw.2
        refine lv_istore (lv' := [(4, .int (iN (tb_part (v3_9).toNat))), (0, .int (iN v0_9)), (1, .ref t3), (2, .int (iN v2_9)), (3, .int (iN v3_9))]) hx hb dX4_isPartial_17 hl (by decide) rfl (fun ls hl => ?_)
        refine lv_iload hx hb dX4_isPartial_19 (lv_at hl 0 rfl) ?_
        refine lv_iload_n hx hb dX4_isPartial_21 rfl (lv_at hl 1 rfl) ?_
        refine n_icmp_ne hx hb hw.1 hw.2.1 hw.2.2.1 hw.2.2.2 (tgt := 27) dX4_isPartial_22 (by decide) (fun hw => ?_) (fun hw => ?_)
        · refine lv_iinc (v := iN (v3_9 + 1)) (lv' := [(3, .int (iN (v3_9 + 1))), (4, .int (iN (tb_part (v3_9).toNat))), (0, .int (iN v0_9)), (1, .ref t3), (2, .int (iN v2_9))]) hx hb dX4_isPartial_27 hl (k := 4) rfl (iN_add _ _) (by decide) rfl (fun ls hl => ?_)
          refine lv_goto (tgt := 9) hx hb dX4_isPartial_30 (by decide) ?_
          exact ih9 (v3_9 + 1) H locs ls hw hW (lv_sub hl [2, 3, 4, 0] rfl)
        · refine n_iconst hx hb dX4_isPartial_25 ?_
          exact rz_CI hx hb hr hlk hK hW (Or.inr rfl) hw dX4_isPartial_26
  unfold w_X4_isPartial at hw
  refine va_gets hx hb hZ3 hW.2.2 hown (hts _ (List.mem_cons_of_mem _ al_373)) (fun _ h9 => h9) dX4_isPartial_0 ?_
  refine lv_astore_n (lv' := [(1, .ref t3), (0, .int (iN v0))]) hx hb dX4_isPartial_3 rfl hl (by decide) rfl (fun ls hl => ?_)
  refine lv_aload_n hx hb dX4_isPartial_4 rfl (lv_at hl 0 rfl) ?_
  refine g_tlen hx hb hT3 hW.2.2 dX4_isPartial_5 ?_
  refine lv_istore_n (lv' := [(2, .int (iN ((9 : Nat) : Int))), (1, .ref t3), (0, .int (iN v0))]) hx hb dX4_isPartial_6 rfl hl (by decide) rfl (fun ls hl => ?_)
  refine n_iconst hx hb dX4_isPartial_7 ?_
  refine lv_istore_n (lv' := [(3, .int (iN 0)), (2, .int (iN ((9 : Nat) : Int))), (1, .ref t3), (0, .int (iN v0))]) hx hb dX4_isPartial_8 rfl hl (by decide) rfl (fun ls hl => ?_)
  obtain ⟨n, hw⟩ := hw
  exact hL9 v0 ((9 : Nat) : Int) n 0 s.heap [] ls hw hW (lv_sub hl [3, 2, 1, 0] rfl)
set_option maxHeartbeats 4000000 in
set_option maxRecDepth 100000 in
theorem c_X4_listOne (l : Launch) (G : Gt)   (tl : Bool) (ad : Nat → Nat)  (σ : Mem) (v1 : Int) (post : Mem → Prop) (hw : w_X4_listOne  σ v1 post) : CV l yX4_listOne (Cond.code yX4_listOne cX4_listOne 3 none) ({ frames := 1, cells := 0, slots := 0, locals := 25 } : Room) G (shW 3 tl) ad σ [.ref (ad 1), .int (iN v1)] post := by
  refine s_all (y := yX4_listOne) (code := cX4_listOne) (maxL := 3) (ret := none) (rm := ({ frames := 1, cells := 0, slots := 0, locals := 25 } : Room)) (av := [.ref (ad 1), .int (iN v1)]) (Qc := fun sz => QV G (shW 3 tl) ad post (sz)) (by decide) (Nat.le_of_ble_eq_true rfl) ?_
  intro p e s m below meth c S hr hlk _ hK hE hW ls hl
  obtain ⟨hx, hb, hml, hown, hts⟩ := id S
  replace hl : lv_has ls 3 [(0, .ref (ad 1)), (1, .int (iN v1))] := hl
  have hL2 : ∀ (v1_2 : Int) (n : Nat) (v2_2 : Int) (σ_2 : Mem) (H : Heap) (locs : List Loc) (ls : Array Slot), w_X4_listOne_L2 v1_2 post n v2_2 σ_2 → Wd G (shW 3 tl) ad σ_2 (Aw ad (shW 3 tl).length s.heap.size) s.heap H locs → lv_has ls 3 [(0, .ref (ad 1)), (1, .int (iN v1_2)), (2, .int (iN v2_2))] → W p l e ({ frames := 1, cells := 0, slots := 0, locals := 25 } : Room) s m ([.ref (ad 1), .int (iN v1)] : List Value).toArray below meth c H locs 0 0 (MQ below (QV G (shW 3 tl) ad post (s.heap.size)) ([.ref (ad 1), .int (iN v1)] : List Value).toArray s 0 0 (Aw ad (shW 3 tl).length s.heap.size)) (F0 m 2 ls []) := by
    intro v1_2 n
    induction n with
    | zero =>
      intro v2_2 σ_2 H locs ls hw
      exact hw.elim
    | succ n2 ih2 =>
      intro v2_2 σ_2 H locs ls hw hW hl
      replace hw : w_X4_listOne_L2_body v1_2 post (w_X4_listOne_L2 v1_2 post n2) v2_2 σ_2 := hw
      have hB47 : ∀ (σ_47 : Mem) (v2_47 : Int) (H : Heap) (locs : List Loc) (ls : Array Slot), w_X4_listOne_B47 σ_47 v1_2 v2_47 post (w_X4_listOne_L2 v1_2 post n2) → Wd G (shW 3 tl) ad σ_47 (Aw ad (shW 3 tl).length s.heap.size) s.heap H locs → lv_has ls 3 [(0, .ref (ad 1)), (1, .int (iN v1_2)), (2, .int (iN v2_47))] → W p l e ({ frames := 1, cells := 0, slots := 0, locals := 25 } : Room) s m ([.ref (ad 1), .int (iN v1)] : List Value).toArray below meth c H locs 0 0 (MQ below (QV G (shW 3 tl) ad post (s.heap.size)) ([.ref (ad 1), .int (iN v1)] : List Value).toArray s 0 0 (Aw ad (shW 3 tl).length s.heap.size)) (F0 m 47 ls []) := by
        intro σ_47 v2_47 H locs ls hw hW hl
        unfold w_X4_listOne_B47 at hw
        refine lv_iinc (v := iN (v2_47 + 1)) (lv' := [(2, .int (iN (v2_47 + 1))), (0, .ref (ad 1)), (1, .int (iN v1_2))]) hx hb dX4_listOne_47 hl (k := 2) rfl (iN_add _ _) (by decide) rfl (fun ls hl => ?_)
        refine lv_goto (tgt := 2) hx hb dX4_listOne_50 (by decide) ?_
        exact ih2 (v2_47 + 1) σ_47 H locs ls hw hW (lv_sub hl [1, 2, 0] rfl)
      unfold w_X4_listOne_L2_body at hw
      refine lv_iload_n hx hb dX4_listOne_2 rfl (lv_at hl 2 rfl) ?_
      refine n_bipush hx hb dX4_listOne_3 (by decide) ?_
      refine n_icmp_ge hx hb hw.1 (rg_c _ rfl) hw.2.1 hw.2.2 (tgt := 53) dX4_listOne_5 (by decide) (fun hw => ?_) (fun hw => ?_)
      · exact r_CV hx hb hr hlk hK hW hw dX4_listOne_53
      · refine lv_aload_n hx hb dX4_listOne_8 rfl (lv_at hl 0 rfl) ?_
        refine g_getr hx hb hts hown hK hW 1 rfl (q := 2) (hcP (by decide)) (uwP (by decide)) 0 (by decide) rfl al_81 (fun x9 h9 => u_same (hts _ (List.mem_cons_of_mem _ al_82)) x9 h9) dX4_listOne_9 ?_
        refine lv_iload_n hx hb dX4_listOne_12 rfl (lv_at hl 1 rfl) ?_
        refine fin_CI hW (run_VN (k := 2) (As := [.int (iN v1_2)]) (rest := []) 17 S hK hE hW (c_X1_lowestOf l G 3 tl ad σ_2 v1_2 _ hw H.size) rfl rfl rfl al_308 sl_X1_lowestOf al_5 al_309 hd_X1_lowestOf.2 rfl rfl ⟨Nat.le_of_ble_eq_true rfl, Nat.le_of_ble_eq_true rfl⟩ rfl hl.1 rfl (Nat.le_of_ble_eq_true rfl) dX4_listOne_13 ⟨Nat.zero_le _, Nat.zero_le _⟩) ?_
        intro r9 H locs hw hW
        refine lv_iload_n hx hb dX4_listOne_16 rfl (lv_at hl 2 rfl) ?_
        refine n_iadd hx hb dX4_listOne_17 ?_
        refine lv_aload_n hx hb dX4_listOne_18 rfl (lv_at hl 0 rfl) ?_
        refine g_getr hx hb hts hown hK hW 1 rfl (q := 2) (hcP (by decide)) (uwP (by decide)) 0 (by decide) rfl al_81 (fun x9 h9 => u_same (hts _ (List.mem_cons_of_mem _ al_82)) x9 h9) dX4_listOne_19 ?_
        refine n_iconst hx hb dX4_listOne_22 ?_
        refine fin_CI hW (run_VN (k := 2) (As := [.int (iN 5)]) (rest := [.int (iN (r9 + v2_2))]) 18 S hK hE hW (c_X1_boundOf l G 3 tl ad σ_2 5 _ hw H.size) rfl rfl rfl al_267 sl_X1_boundOf al_5 al_268 hd_X1_boundOf.2 rfl rfl ⟨Nat.le_of_ble_eq_true rfl, Nat.le_of_ble_eq_true rfl⟩ rfl hl.1 rfl (Nat.le_of_ble_eq_true rfl) dX4_listOne_23 ⟨Nat.zero_le _, Nat.zero_le _⟩) ?_
        intro r11 H locs hw hW
        refine n_isub hx hb dX4_listOne_26 ?_
        refine fin_CI hW (run_S (As := [.int (iN ((r9 + v2_2) - r11))]) (rest := []) S hK hE hW (c_X4_isPartial l G tl ad σ_2 ((r9 + v2_2) - r11) _ hw H.size) al_370 al_371 al_8 al_372 hd_X4_isPartial.2 rfl rfl ⟨Nat.le_of_ble_eq_true rfl, Nat.le_of_ble_eq_true rfl⟩ rfl hl.1 rfl (Nat.le_of_ble_eq_true rfl) dX4_listOne_27 ⟨Nat.zero_le _, Nat.zero_le _⟩) ?_
        intro r13 H locs hw hW
        refine n_if_eq hx hb hw.1 hw.2.1 hw.2.2 (tgt := 47) dX4_listOne_30 (by decide) (fun hw => ?_) (fun hw => ?_)
        · exact hB47 σ_2 v2_2 H locs ls hw hW (lv_sub hl [0, 1, 2] rfl)
        · refine lv_aload_n hx hb dX4_listOne_33 rfl (lv_at hl 0 rfl) ?_
          refine lv_iload_n hx hb dX4_listOne_34 rfl (lv_at hl 1 rfl) ?_
          refine n_iconst hx hb dX4_listOne_35 ?_
          refine lv_iload_n hx hb dX4_listOne_36 rfl (lv_at hl 2 rfl) ?_
          refine n_iconst hx hb dX4_listOne_37 ?_
          refine n_isub hx hb dX4_listOne_38 ?_
          refine n_mmax hx hb (hml.trans hl.1.symm) hown (hts _ (List.mem_cons_of_mem _ al_375)) (hts _ (List.mem_cons_of_mem _ al_27)) (hts _ (List.mem_cons_of_mem _ al_2)) (hts _ (List.mem_cons_of_mem _ al_28)) (Nat.le_of_ble_eq_true rfl) (Nat.le_of_ble_eq_true rfl) (Nat.zero_le _) (Nat.zero_le _) (rg_c _ rfl) hw.1 dX4_listOne_39 ?_
          replace hw := hw.2
          refine lv_iload_n hx hb dX4_listOne_42 rfl (lv_at hl 2 rfl) ?_
          refine n_iconst hx hb dX4_listOne_43 ?_
          refine fin_CV hW (run_U (k := 1) (As := [.int (iN v1_2), .int (iN (max 0 (v2_2 - 4))), .int (iN v2_2), .int (iN 0)]) (rest := []) S hK hE hW (c_X2_addState l G 3 (by decide) tl ad σ_2 v1_2 (max 0 (v2_2 - 4)) v2_2 0 _ hw H.size) rfl (hcP (by decide)) al_376 al_377 (se_X4_X2_addState (by decide)) al_363 al_3 al_364 rfl hd_X2_addState.2 rfl rfl ⟨Nat.le_of_ble_eq_true rfl, Nat.le_of_ble_eq_true rfl⟩ rfl hl.1 rfl (Nat.le_of_ble_eq_true rfl) dX4_listOne_44 ⟨Nat.zero_le _, Nat.zero_le _⟩) ?_
          intro σ16 H locs hw hW
          exact hB47 σ16 v2_2 H locs ls hw hW (lv_sub hl [0, 1, 2] rfl)
  unfold w_X4_listOne at hw
  refine n_iconst hx hb dX4_listOne_0 ?_
  refine lv_istore_n (lv' := [(2, .int (iN 0)), (0, .ref (ad 1)), (1, .int (iN v1))]) hx hb dX4_listOne_1 rfl hl (by decide) rfl (fun ls hl => ?_)
  obtain ⟨n, hw⟩ := hw
  exact hL2 v1 n 0 σ s.heap [] ls hw hW (lv_sub hl [1, 2, 0] rfl)
set_option maxHeartbeats 4000000 in
set_option maxRecDepth 100000 in
theorem c_X5_latestOfTwo (l : Launch) (G : Gt)   (tl : Bool) (ad : Nat → Nat)  (σ : Mem) (v1 : Int) (post : Int → Prop) (hw : w_X5_latestOfTwo  σ v1 post) : CI l yX5_latestOfTwo (Cond.code yX5_latestOfTwo cX5_latestOfTwo 3 (some .int)) ({ frames := 1, cells := 0, slots := 0, locals := 21 } : Room) G (shW 4 tl) ad σ [.ref (ad 1), .int (iN v1)] post := by
  refine s_all (y := yX5_latestOfTwo) (code := cX5_latestOfTwo) (maxL := 3) (ret := (some .int)) (rm := ({ frames := 1, cells := 0, slots := 0, locals := 21 } : Room)) (av := [.ref (ad 1), .int (iN v1)]) (Qc := fun sz => QI G (shW 4 tl) ad σ post (sz)) (by decide) (Nat.le_of_ble_eq_true rfl) ?_
  intro p e s m below meth c S hr hlk _ hK hE hW ls hl
  obtain ⟨hx, hb, hml, hown, hts⟩ := id S
  replace hl : lv_has ls 3 [(0, .ref (ad 1)), (1, .int (iN v1))] := hl
  have hL4 : ∀  (n : Nat) (v2_4 : Int) (H : Heap) (locs : List Loc) (ls : Array Slot), w_X5_latestOfTwo_L4 σ post n v2_4 → Wd G (shW 4 tl) ad σ (Aw ad (shW 4 tl).length s.heap.size) s.heap H locs → lv_has ls 3 [(0, .ref (ad 1)), (2, .int (iN v2_4))] → W p l e ({ frames := 1, cells := 0, slots := 0, locals := 21 } : Room) s m ([.ref (ad 1), .int (iN v1)] : List Value).toArray below meth c H locs 0 0 (MQ below (QI G (shW 4 tl) ad σ post (s.heap.size)) ([.ref (ad 1), .int (iN v1)] : List Value).toArray s 0 0 (Aw ad (shW 4 tl).length s.heap.size)) (F0 m 4 ls []) := by
    intro  n
    induction n with
    | zero =>
      intro v2_4 H locs ls hw
      exact hw.elim
    | succ n4 ih4 =>
      intro v2_4 H locs ls hw hW hl
      replace hw : w_X5_latestOfTwo_L4_body σ post (w_X5_latestOfTwo_L4 σ post n4) v2_4 := hw
      unfold w_X5_latestOfTwo_L4_body at hw
      refine lv_iload_n hx hb dX5_latestOfTwo_4 rfl (lv_at hl 1 rfl) ?_
      refine n_if_lt hx hb hw.1 hw.2.1 hw.2.2 (tgt := 28) dX5_latestOfTwo_5 (by decide) (fun hw => ?_) (fun hw => ?_)
      · refine n_iconst hx hb dX5_latestOfTwo_28 ?_
        exact r_CI hx hb hr hlk hK hW hw dX5_latestOfTwo_29
      · refine lv_aload_n hx hb dX5_latestOfTwo_8 rfl (lv_at hl 0 rfl) ?_
        refine g_getr hx hb hts hown hK hW 1 rfl (q := 2) (hcP (by decide)) (uwP (by decide)) 0 (by decide) rfl al_79 (fun x9 h9 => u_same (hts _ (List.mem_cons_of_mem _ al_80)) x9 h9) dX5_latestOfTwo_9 ?_
        refine lv_iload_n hx hb dX5_latestOfTwo_12 rfl (lv_at hl 1 rfl) ?_
        refine fin_CI hW (run_VN (k := 2) (As := [.int (iN v2_4)]) (rest := []) 19 S hK hE hW (c_X1_sizeOf l G 4 tl ad σ v2_4 _ hw H.size) rfl rfl rfl al_328 sl_X1_sizeOf al_5 al_329 hd_X1_sizeOf.2 rfl rfl ⟨Nat.le_of_ble_eq_true rfl, Nat.le_of_ble_eq_true rfl⟩ rfl hl.1 rfl (Nat.le_of_ble_eq_true rfl) dX5_latestOfTwo_13 ⟨Nat.zero_le _, Nat.zero_le _⟩) ?_
        intro r3 H locs hw hW
        refine n_iconst hx hb dX5_latestOfTwo_16 ?_
        refine n_icmp_ne hx hb hw.1 (rg_c _ rfl) hw.2.1 hw.2.2 (tgt := 22) dX5_latestOfTwo_17 (by decide) (fun hw => ?_) (fun hw => ?_)
        · refine lv_iinc (v := iN (v2_4 + (-1))) (lv' := [(2, .int (iN (v2_4 + (-1)))), (0, .ref (ad 1))]) hx hb dX5_latestOfTwo_22 hl (k := 1) rfl (iN_add _ _) (by decide) rfl (fun ls hl => ?_)
          refine lv_goto (tgt := 4) hx hb dX5_latestOfTwo_25 (by decide) ?_
          exact ih4 (v2_4 + (-1)) H locs ls hw hW (lv_sub hl [1, 0] rfl)
        · refine lv_iload_n hx hb dX5_latestOfTwo_20 rfl (lv_at hl 1 rfl) ?_
          exact r_CI hx hb hr hlk hK hW hw dX5_latestOfTwo_21
  unfold w_X5_latestOfTwo at hw
  refine lv_iload_n hx hb dX5_latestOfTwo_0 rfl (lv_at hl 1 rfl) ?_
  refine n_iconst hx hb dX5_latestOfTwo_1 ?_
  refine n_isub hx hb dX5_latestOfTwo_2 ?_
  refine lv_istore_n (lv' := [(2, .int (iN (v1 - 1))), (0, .ref (ad 1)), (1, .int (iN v1))]) hx hb dX5_latestOfTwo_3 rfl hl (by decide) rfl (fun ls hl => ?_)
  obtain ⟨n, hw⟩ := hw
  exact hL4 n (v1 - 1) s.heap [] ls hw hW (lv_sub hl [1, 0] rfl)
set_option maxHeartbeats 4000000 in
set_option maxRecDepth 100000 in
theorem c_X5_pitchBy (l : Launch) (G : Gt)   (tl : Bool) (ad : Nat → Nat)  (σ : Mem) (v1 : Int) (v2 : Int) (post : Int → Prop) (hw : w_X5_pitchBy  σ v1 v2 post) : CI l yX5_pitchBy (Cond.code yX5_pitchBy cX5_pitchBy 3 (some .int)) ({ frames := 1, cells := 0, slots := 0, locals := 22 } : Room) G (shW 4 tl) ad σ [.ref (ad 1), .int (iN v1), .int (iN v2)] post := by
  refine s_all (y := yX5_pitchBy) (code := cX5_pitchBy) (maxL := 3) (ret := (some .int)) (rm := ({ frames := 1, cells := 0, slots := 0, locals := 22 } : Room)) (av := [.ref (ad 1), .int (iN v1), .int (iN v2)]) (Qc := fun sz => QI G (shW 4 tl) ad σ post (sz)) (by decide) (Nat.le_of_ble_eq_true rfl) ?_
  intro p e s m below meth c S hr hlk _ hK hE hW ls hl
  obtain ⟨hx, hb, hml, hown, hts⟩ := id S
  replace hl : lv_has ls 3 [(0, .ref (ad 1)), (1, .int (iN v1)), (2, .int (iN v2))] := hl
  have hB23 : ∀  (s0_23 : Int) (H : Heap) (locs : List Loc) (ls : Array Slot), w_X5_pitchBy_B23 σ s0_23 post → Wd G (shW 4 tl) ad σ (Aw ad (shW 4 tl).length s.heap.size) s.heap H locs → lv_has ls 3 [] → W p l e ({ frames := 1, cells := 0, slots := 0, locals := 22 } : Room) s m ([.ref (ad 1), .int (iN v1), .int (iN v2)] : List Value).toArray below meth c H locs 0 0 (MQ below (QI G (shW 4 tl) ad σ post (s.heap.size)) ([.ref (ad 1), .int (iN v1), .int (iN v2)] : List Value).toArray s 0 0 (Aw ad (shW 4 tl).length s.heap.size)) (F0 m 23 ls [.int (iN s0_23)]) := by
    intro s0_23 H locs ls hw hW hl
    unfold w_X5_pitchBy_B23 at hw
    exact r_CI hx hb hr hlk hK hW hw dX5_pitchBy_23
  unfold w_X5_pitchBy at hw
  refine lv_iload_n hx hb dX5_pitchBy_0 rfl (lv_at hl 1 rfl) ?_
  refine n_if_ne hx hb hw.1 hw.2.1 hw.2.2 (tgt := 15) dX5_pitchBy_1 (by decide) (fun hw => ?_) (fun hw => ?_)
  · refine lv_aload_n hx hb dX5_pitchBy_15 rfl (lv_at hl 0 rfl) ?_
    refine g_getr hx hb hts hown hK hW 1 rfl (q := 2) (hcP (by decide)) (uwP (by decide)) 0 (by decide) rfl al_79 (fun x9 h9 => u_same (hts _ (List.mem_cons_of_mem _ al_80)) x9 h9) dX5_pitchBy_16 ?_
    refine lv_iload_n hx hb dX5_pitchBy_19 rfl (lv_at hl 2 rfl) ?_
    refine fin_CI hW (run_VN (k := 2) (As := [.int (iN v2)]) (rest := []) 21 S hK hE hW (c_X1_highestOf l G 4 tl ad σ v2 _ hw s.heap.size) rfl rfl rfl al_312 sl_X1_highestOf al_5 al_313 hd_X1_highestOf.2 rfl rfl ⟨Nat.le_of_ble_eq_true rfl, Nat.le_of_ble_eq_true rfl⟩ rfl hl.1 rfl (Nat.le_of_ble_eq_true rfl) dX5_pitchBy_20 ⟨Nat.zero_le _, Nat.zero_le _⟩) ?_
    intro r1 H locs hw hW
    exact hB23 r1 H locs ls hw hW (lv_sub hl [] rfl)
  · refine lv_aload_n hx hb dX5_pitchBy_4 rfl (lv_at hl 0 rfl) ?_
    refine g_getr hx hb hts hown hK hW 1 rfl (q := 2) (hcP (by decide)) (uwP (by decide)) 0 (by decide) rfl al_79 (fun x9 h9 => u_same (hts _ (List.mem_cons_of_mem _ al_80)) x9 h9) dX5_pitchBy_5 ?_
    refine lv_iload_n hx hb dX5_pitchBy_8 rfl (lv_at hl 2 rfl) ?_
    refine fin_CI hW (run_VN (k := 2) (As := [.int (iN v2)]) (rest := []) 20 S hK hE hW (c_X1_lowestOf l G 4 tl ad σ v2 _ hw s.heap.size) rfl rfl rfl al_308 sl_X1_lowestOf al_5 al_309 hd_X1_lowestOf.2 rfl rfl ⟨Nat.le_of_ble_eq_true rfl, Nat.le_of_ble_eq_true rfl⟩ rfl hl.1 rfl (Nat.le_of_ble_eq_true rfl) dX5_pitchBy_9 ⟨Nat.zero_le _, Nat.zero_le _⟩) ?_
    intro r3 H locs hw hW
    refine lv_goto (tgt := 23) hx hb dX5_pitchBy_12 (by decide) ?_
    exact hB23 r3 H locs ls hw hW (lv_sub hl [] rfl)
set_option maxHeartbeats 4000000 in
set_option maxRecDepth 100000 in
theorem c_X5_crossing (l : Launch) (G : Gt)   (tl : Bool) (ad : Nat → Nat)  (σ : Mem) (v1 : Int) (v2 : Int) (v3 : Int) (post : Int → Prop) (hw : w_X5_crossing  σ v1 v2 v3 post) : CI l yX5_crossing (Cond.code yX5_crossing cX5_crossing 5 (some .int)) ({ frames := 2, cells := 0, slots := 0, locals := 44 } : Room) G (shW 4 tl) ad σ [.ref (ad 1), .int (iN v1), .int (iN v2), .int (iN v3)] post := by
  refine s_all (y := yX5_crossing) (code := cX5_crossing) (maxL := 5) (ret := (some .int)) (rm := ({ frames := 2, cells := 0, slots := 0, locals := 44 } : Room)) (av := [.ref (ad 1), .int (iN v1), .int (iN v2), .int (iN v3)]) (Qc := fun sz => QI G (shW 4 tl) ad σ post (sz)) (by decide) (Nat.le_of_ble_eq_true rfl) ?_
  intro p e s m below meth c S hr hlk _ hK hE hW ls hl
  obtain ⟨hx, hb, hml, hown, hts⟩ := id S
  replace hl : lv_has ls 5 [(0, .ref (ad 1)), (1, .int (iN v1)), (2, .int (iN v2)), (3, .int (iN v3))] := hl
  have hB48 : ∀  (s0_48 : Int) (H : Heap) (locs : List Loc) (ls : Array Slot), w_X5_crossing_B48 σ s0_48 post → Wd G (shW 4 tl) ad σ (Aw ad (shW 4 tl).length s.heap.size) s.heap H locs → lv_has ls 5 [] → W p l e ({ frames := 2, cells := 0, slots := 0, locals := 44 } : Room) s m ([.ref (ad 1), .int (iN v1), .int (iN v2), .int (iN v3)] : List Value).toArray below meth c H locs 0 0 (MQ below (QI G (shW 4 tl) ad σ post (s.heap.size)) ([.ref (ad 1), .int (iN v1), .int (iN v2), .int (iN v3)] : List Value).toArray s 0 0 (Aw ad (shW 4 tl).length s.heap.size)) (F0 m 48 ls [.int (iN s0_48)]) := by
    intro s0_48 H locs ls hw hW hl
    unfold w_X5_crossing_B48 at hw
    exact r_CI hx hb hr hlk hK hW hw dX5_crossing_48
  have hB47 : ∀   (H : Heap) (locs : List Loc) (ls : Array Slot), w_X5_crossing_B47 σ post → Wd G (shW 4 tl) ad σ (Aw ad (shW 4 tl).length s.heap.size) s.heap H locs → lv_has ls 5 [] → W p l e ({ frames := 2, cells := 0, slots := 0, locals := 44 } : Room) s m ([.ref (ad 1), .int (iN v1), .int (iN v2), .int (iN v3)] : List Value).toArray below meth c H locs 0 0 (MQ below (QI G (shW 4 tl) ad σ post (s.heap.size)) ([.ref (ad 1), .int (iN v1), .int (iN v2), .int (iN v3)] : List Value).toArray s 0 0 (Aw ad (shW 4 tl).length s.heap.size)) (F0 m 47 ls []) := by
    intro  H locs ls hw hW hl
    unfold w_X5_crossing_B47 at hw
    refine n_iconst hx hb dX5_crossing_47 ?_
    exact hB48 0 H locs ls hw hW (lv_sub hl [] rfl)
  have hB43 : ∀   (H : Heap) (locs : List Loc) (ls : Array Slot), w_X5_crossing_B43 σ post → Wd G (shW 4 tl) ad σ (Aw ad (shW 4 tl).length s.heap.size) s.heap H locs → lv_has ls 5 [] → W p l e ({ frames := 2, cells := 0, slots := 0, locals := 44 } : Room) s m ([.ref (ad 1), .int (iN v1), .int (iN v2), .int (iN v3)] : List Value).toArray below meth c H locs 0 0 (MQ below (QI G (shW 4 tl) ad σ post (s.heap.size)) ([.ref (ad 1), .int (iN v1), .int (iN v2), .int (iN v3)] : List Value).toArray s 0 0 (Aw ad (shW 4 tl).length s.heap.size)) (F0 m 43 ls []) := by
    intro  H locs ls hw hW hl
    unfold w_X5_crossing_B43 at hw
    refine n_iconst hx hb dX5_crossing_43 ?_
    refine lv_goto (tgt := 48) hx hb dX5_crossing_44 (by decide) ?_
    exact hB48 4 H locs ls hw hW (lv_sub hl [] rfl)
  unfold w_X5_crossing at hw
  refine lv_iload_n hx hb dX5_crossing_0 rfl (lv_at hl 3 rfl) ?_
  refine n_iconst hx hb dX5_crossing_1 ?_
  refine n_icmp_ne hx hb hw.1 (rg_c _ rfl) hw.2.1 hw.2.2 (tgt := 7) dX5_crossing_2 (by decide) (fun hw => ?_) (fun hw => ?_)
  · refine lv_aload_n hx hb dX5_crossing_7 rfl (lv_at hl 0 rfl) ?_
    refine g_getr hx hb hts hown hK hW 1 rfl (q := 2) (hcP (by decide)) (uwP (by decide)) 0 (by decide) rfl al_79 (fun x9 h9 => u_same (hts _ (List.mem_cons_of_mem _ al_80)) x9 h9) dX5_crossing_8 ?_
    refine lv_iload_n hx hb dX5_crossing_11 rfl (lv_at hl 1 rfl) ?_
    refine fin_CI hW (run_VN (k := 2) (As := [.int (iN v1)]) (rest := []) 20 S hK hE hW (c_X1_lowestOf l G 4 tl ad σ v1 _ hw s.heap.size) rfl rfl rfl al_308 sl_X1_lowestOf al_5 al_309 hd_X1_lowestOf.2 rfl rfl ⟨Nat.le_of_ble_eq_true rfl, Nat.le_of_ble_eq_true rfl⟩ rfl hl.1 rfl (Nat.le_of_ble_eq_true rfl) dX5_crossing_12 ⟨Nat.zero_le _, Nat.zero_le _⟩) ?_
    intro r1 H locs hw hW
    refine lv_aload_n hx hb dX5_crossing_15 rfl (lv_at hl 0 rfl) ?_
    refine n_iconst hx hb dX5_crossing_16 ?_
    refine lv_iload_n hx hb dX5_crossing_17 rfl (lv_at hl 2 rfl) ?_
    refine n_isub hx hb dX5_crossing_18 ?_
    refine lv_iload_n hx hb dX5_crossing_19 rfl (lv_at hl 3 rfl) ?_
    refine fin_CI hW (run_V (k := 1) (As := [.int (iN (1 - v2)), .int (iN v3)]) (rest := [.int (iN r1)]) S hK hE hW (c_X5_pitchBy l G tl ad σ (1 - v2) v3 _ hw H.size) rfl rfl al_395 al_397 sl_X5_pitchBy al_9 al_398 hd_X5_pitchBy rfl rfl ⟨Nat.le_of_ble_eq_true rfl, Nat.le_of_ble_eq_true rfl⟩ rfl hl.1 rfl (Nat.le_of_ble_eq_true rfl) dX5_crossing_20 ⟨Nat.zero_le _, Nat.zero_le _⟩) ?_
    intro r3 H locs hw hW
    refine n_isub hx hb dX5_crossing_23 ?_
    refine lv_istore (lv' := [(4, .int (iN (r1 - r3))), (0, .ref (ad 1)), (1, .int (iN v1)), (2, .int (iN v2)), (3, .int (iN v3))]) hx hb dX5_crossing_24 hl (by decide) rfl (fun ls hl => ?_)
    refine lv_iload_n hx hb dX5_crossing_26 rfl (lv_at hl 3 rfl) ?_
    refine n_if_ne hx hb hw.1 hw.2.1 hw.2.2 (tgt := 38) dX5_crossing_27 (by decide) (fun hw => ?_) (fun hw => ?_)
    · refine lv_iload hx hb dX5_crossing_38 (lv_at hl 0 rfl) ?_
      refine n_if_ge hx hb hw.1 hw.2.1 hw.2.2 (tgt := 47) dX5_crossing_40 (by decide) (fun hw => ?_) (fun hw => ?_)
      · exact hB47  H locs ls hw hW (lv_sub hl [] rfl)
      · exact hB43  H locs ls hw hW (lv_sub hl [] rfl)
    · refine lv_iload hx hb dX5_crossing_30 (lv_at hl 0 rfl) ?_
      refine n_if_le hx hb hw.1 hw.2.1 hw.2.2 (tgt := 47) dX5_crossing_32 (by decide) (fun hw => ?_) (fun hw => ?_)
      · exact hB47  H locs ls hw hW (lv_sub hl [] rfl)
      · refine lv_goto (tgt := 43) hx hb dX5_crossing_35 (by decide) ?_
        exact hB43  H locs ls hw hW (lv_sub hl [] rfl)
  · refine n_iconst hx hb dX5_crossing_5 ?_
    exact r_CI hx hb hr hlk hK hW hw dX5_crossing_6
set_option maxHeartbeats 4000000 in
set_option maxRecDepth 100000 in
theorem c_X5_listOne (l : Launch) (G : Gt)   (tl : Bool) (ad : Nat → Nat)  (σ : Mem) (v1 : Int) (post : Mem → Prop) (hw : w_X5_listOne  σ v1 post) : CV l yX5_listOne (Cond.code yX5_listOne cX5_listOne 5 none) ({ frames := 3, cells := 0, slots := 0, locals := 68 } : Room) G (shW 4 tl) ad σ [.ref (ad 1), .int (iN v1)] post := by
  refine s_all (y := yX5_listOne) (code := cX5_listOne) (maxL := 5) (ret := none) (rm := ({ frames := 3, cells := 0, slots := 0, locals := 68 } : Room)) (av := [.ref (ad 1), .int (iN v1)]) (Qc := fun sz => QV G (shW 4 tl) ad post (sz)) (by decide) (Nat.le_of_ble_eq_true rfl) ?_
  intro p e s m below meth c S hr hlk _ hK hE hW ls hl
  obtain ⟨hx, hb, hml, hown, hts⟩ := id S
  replace hl : lv_has ls 5 [(0, .ref (ad 1)), (1, .int (iN v1))] := hl
  have hL29 : ∀ (v1_29 : Int) (v2_29 : Int) (n : Nat) (v3_29 : Int) (σ_29 : Mem) (H : Heap) (locs : List Loc) (ls : Array Slot), w_X5_listOne_L29 v1_29 v2_29 post n v3_29 σ_29 → Wd G (shW 4 tl) ad σ_29 (Aw ad (shW 4 tl).length s.heap.size) s.heap H locs → lv_has ls 5 [(0, .ref (ad 1)), (1, .int (iN v1_29)), (2, .int (iN v2_29)), (3, .int (iN v3_29))] → W p l e ({ frames := 3, cells := 0, slots := 0, locals := 68 } : Room) s m ([.ref (ad 1), .int (iN v1)] : List Value).toArray below meth c H locs 0 0 (MQ below (QV G (shW 4 tl) ad post (s.heap.size)) ([.ref (ad 1), .int (iN v1)] : List Value).toArray s 0 0 (Aw ad (shW 4 tl).length s.heap.size)) (F0 m 29 ls []) := by
    intro v1_29 v2_29 n
    induction n with
    | zero =>
      intro v3_29 σ_29 H locs ls hw
      exact hw.elim
    | succ n29 ih29 =>
      intro v3_29 σ_29 H locs ls hw hW hl
      replace hw : w_X5_listOne_L29_body v1_29 v2_29 post (w_X5_listOne_L29 v1_29 v2_29 post n29) v3_29 σ_29 := hw
      have hL37 : ∀ (v3_37 : Int) (n : Nat) (v4_37 : Int) (σ_37 : Mem) (H : Heap) (locs : List Loc) (ls : Array Slot), w_X5_listOne_L37 v1_29 v2_29 v3_37 post (w_X5_listOne_L29 v1_29 v2_29 post n29) n v4_37 σ_37 → Wd G (shW 4 tl) ad σ_37 (Aw ad (shW 4 tl).length s.heap.size) s.heap H locs → lv_has ls 5 [(0, .ref (ad 1)), (1, .int (iN v1_29)), (2, .int (iN v2_29)), (3, .int (iN v3_37)), (4, .int (iN v4_37))] → W p l e ({ frames := 3, cells := 0, slots := 0, locals := 68 } : Room) s m ([.ref (ad 1), .int (iN v1)] : List Value).toArray below meth c H locs 0 0 (MQ below (QV G (shW 4 tl) ad post (s.heap.size)) ([.ref (ad 1), .int (iN v1)] : List Value).toArray s 0 0 (Aw ad (shW 4 tl).length s.heap.size)) (F0 m 37 ls []) := by
        intro v3_37 n
        induction n with
        | zero =>
          intro v4_37 σ_37 H locs ls hw
          exact hw.elim
        | succ n37 ih37 =>
          intro v4_37 σ_37 H locs ls hw hW hl
          replace hw : w_X5_listOne_L37_body v1_29 v2_29 v3_37 post (w_X5_listOne_L29 v1_29 v2_29 post n29) (w_X5_listOne_L37 v1_29 v2_29 v3_37 post (w_X5_listOne_L29 v1_29 v2_29 post n29) n37) v4_37 σ_37 := hw
          unfold w_X5_listOne_L37_body at hw
          refine lv_iload hx hb dX5_listOne_37 (lv_at hl 4 rfl) ?_
          refine lv_iload_n hx hb dX5_listOne_39 rfl (lv_at hl 1 rfl) ?_
          refine n_icmp_ge hx hb hw.1 hw.2.1 hw.2.2.1 hw.2.2.2 (tgt := 65) dX5_listOne_40 (by decide) (fun hw => ?_) (fun hw => ?_)
          · refine lv_iinc (v := iN (v3_37 + 1)) (lv' := [(3, .int (iN (v3_37 + 1))), (0, .ref (ad 1)), (1, .int (iN v1_29)), (2, .int (iN v2_29)), (4, .int (iN v4_37))]) hx hb dX5_listOne_65 hl (k := 3) rfl (iN_add _ _) (by decide) rfl (fun ls hl => ?_)
            refine lv_goto (tgt := 29) hx hb dX5_listOne_68 (by decide) ?_
            exact ih29 (v3_37 + 1) σ_37 H locs ls hw hW (lv_sub hl [1, 2, 3, 0] rfl)
          · refine lv_aload_n hx hb dX5_listOne_43 rfl (lv_at hl 0 rfl) ?_
            refine lv_iload_n hx hb dX5_listOne_44 rfl (lv_at hl 1 rfl) ?_
            refine lv_aload_n hx hb dX5_listOne_45 rfl (lv_at hl 0 rfl) ?_
            refine lv_iload_n hx hb dX5_listOne_46 rfl (lv_at hl 1 rfl) ?_
            refine lv_iload_n hx hb dX5_listOne_47 rfl (lv_at hl 3 rfl) ?_
            refine lv_iload hx hb dX5_listOne_48 (lv_at hl 4 rfl) ?_
            refine fin_CI hW (run_V (k := 1) (As := [.int (iN v1_29), .int (iN v3_37), .int (iN v4_37)]) (rest := [.int (iN v1_29), .ref (ad 1)]) S hK hE hW (c_X5_crossing l G tl ad σ_37 v1_29 v3_37 v4_37 _ hw H.size) rfl rfl al_390 al_392 sl_X5_crossing al_9 al_393 hd_X5_crossing rfl rfl ⟨Nat.le_of_ble_eq_true rfl, Nat.le_of_ble_eq_true rfl⟩ rfl hl.1 rfl (Nat.le_of_ble_eq_true rfl) dX5_listOne_50 ⟨Nat.zero_le _, Nat.zero_le _⟩) ?_
            intro r11 H locs hw hW
            refine lv_iload_n hx hb dX5_listOne_53 rfl (lv_at hl 3 rfl) ?_
            refine lv_iload hx hb dX5_listOne_54 (lv_at hl 4 rfl) ?_
            refine fin_CV hW (run_U (k := 1) (As := [.int (iN v1_29), .int (iN r11), .int (iN v3_37), .int (iN v4_37)]) (rest := []) S hK hE hW (c_X2_addState l G 4 (by decide) tl ad σ_37 v1_29 r11 v3_37 v4_37 _ hw H.size) rfl (hcP (by decide)) al_383 al_384 (se_X5_X2_addState (by decide)) al_363 al_3 al_364 rfl hd_X2_addState.2 rfl rfl ⟨Nat.le_of_ble_eq_true rfl, Nat.le_of_ble_eq_true rfl⟩ rfl hl.1 rfl (Nat.le_of_ble_eq_true rfl) dX5_listOne_56 ⟨Nat.zero_le _, Nat.zero_le _⟩) ?_
            intro σ14 H locs hw hW
            refine lv_iinc (v := iN (v4_37 + 1)) (lv' := [(4, .int (iN (v4_37 + 1))), (0, .ref (ad 1)), (1, .int (iN v1_29)), (2, .int (iN v2_29)), (3, .int (iN v3_37))]) hx hb dX5_listOne_59 hl (k := 4) rfl (iN_add _ _) (by decide) rfl (fun ls hl => ?_)
            refine lv_goto (tgt := 37) hx hb dX5_listOne_62 (by decide) ?_
            exact ih37 (v4_37 + 1) σ14 H locs ls hw hW (lv_sub hl [1, 2, 3, 4, 0] rfl)
      unfold w_X5_listOne_L29_body at hw
      refine lv_iload_n hx hb dX5_listOne_29 rfl (lv_at hl 3 rfl) ?_
      refine n_iconst hx hb dX5_listOne_30 ?_
      refine n_icmp_ge hx hb hw.1 (rg_c _ rfl) hw.2.1 hw.2.2 (tgt := 71) dX5_listOne_31 (by decide) (fun hw => ?_) (fun hw => ?_)
      · exact r_CV hx hb hr hlk hK hW hw dX5_listOne_71
      · refine lv_iload_n hx hb dX5_listOne_34 rfl (lv_at hl 2 rfl) ?_
        refine lv_istore (lv' := [(4, .int (iN v2_29)), (0, .ref (ad 1)), (1, .int (iN v1_29)), (2, .int (iN v2_29)), (3, .int (iN v3_29))]) hx hb dX5_listOne_35 hl (by decide) rfl (fun ls hl => ?_)
        obtain ⟨n, hw⟩ := hw
        exact hL37 v3_29 n v2_29 σ_29 H locs ls hw hW (lv_sub hl [1, 2, 3, 4, 0] rfl)
  unfold w_X5_listOne at hw
  refine lv_aload_n hx hb dX5_listOne_0 rfl (lv_at hl 0 rfl) ?_
  refine g_getr hx hb hts hown hK hW 1 rfl (q := 2) (hcP (by decide)) (uwP (by decide)) 0 (by decide) rfl al_79 (fun x9 h9 => u_same (hts _ (List.mem_cons_of_mem _ al_80)) x9 h9) dX5_listOne_1 ?_
  refine lv_iload_n hx hb dX5_listOne_4 rfl (lv_at hl 1 rfl) ?_
  refine fin_CI hW (run_VN (k := 2) (As := [.int (iN v1)]) (rest := []) 19 S hK hE hW (c_X1_sizeOf l G 4 tl ad σ v1 _ hw s.heap.size) rfl rfl rfl al_328 sl_X1_sizeOf al_5 al_329 hd_X1_sizeOf.2 rfl rfl ⟨Nat.le_of_ble_eq_true rfl, Nat.le_of_ble_eq_true rfl⟩ rfl hl.1 rfl (Nat.le_of_ble_eq_true rfl) dX5_listOne_5 ⟨Nat.zero_le _, Nat.zero_le _⟩) ?_
  intro r1 H locs hw hW
  refine n_iconst hx hb dX5_listOne_8 ?_
  refine n_icmp_ne hx hb hw.1 (rg_c _ rfl) hw.2.1 hw.2.2 (tgt := 21) dX5_listOne_9 (by decide) (fun hw => ?_) (fun hw => ?_)
  · refine lv_aload_n hx hb dX5_listOne_21 rfl (lv_at hl 0 rfl) ?_
    refine lv_iload_n hx hb dX5_listOne_22 rfl (lv_at hl 1 rfl) ?_
    refine fin_CI hW (run_V (k := 1) (As := [.int (iN v1)]) (rest := []) S hK hE hW (c_X5_latestOfTwo l G tl ad σ v1 _ hw H.size) rfl rfl al_386 al_388 sl_X5_latestOfTwo al_9 al_389 hd_X5_latestOfTwo rfl rfl ⟨Nat.le_of_ble_eq_true rfl, Nat.le_of_ble_eq_true rfl⟩ rfl hl.1 rfl (Nat.le_of_ble_eq_true rfl) dX5_listOne_23 ⟨Nat.zero_le _, Nat.zero_le _⟩) ?_
    intro r3 H locs hw hW
    refine lv_istore_n (lv' := [(2, .int (iN r3)), (0, .ref (ad 1)), (1, .int (iN v1))]) hx hb dX5_listOne_26 rfl hl (by decide) rfl (fun ls hl => ?_)
    refine n_iconst hx hb dX5_listOne_27 ?_
    refine lv_istore_n (lv' := [(3, .int (iN 0)), (2, .int (iN r3)), (0, .ref (ad 1)), (1, .int (iN v1))]) hx hb dX5_listOne_28 rfl hl (by decide) rfl (fun ls hl => ?_)
    obtain ⟨n, hw⟩ := hw
    exact hL29 v1 r3 n 0 σ H locs ls hw hW (lv_sub hl [2, 3, 1, 0] rfl)
  · refine lv_aload_n hx hb dX5_listOne_12 rfl (lv_at hl 0 rfl) ?_
    refine lv_iload_n hx hb dX5_listOne_13 rfl (lv_at hl 1 rfl) ?_
    refine n_iconst hx hb dX5_listOne_14 ?_
    refine n_iconst hx hb dX5_listOne_15 ?_
    refine n_iconst hx hb dX5_listOne_16 ?_
    refine fin_CV hW (run_U (k := 1) (As := [.int (iN v1), .int (iN 0), .int (iN 2), .int (iN (-1))]) (rest := []) S hK hE hW (c_X2_addState l G 4 (by decide) tl ad σ v1 0 2 (-1) _ hw H.size) rfl (hcP (by decide)) al_383 al_384 (se_X5_X2_addState (by decide)) al_363 al_3 al_364 rfl hd_X2_addState.2 rfl rfl ⟨Nat.le_of_ble_eq_true rfl, Nat.le_of_ble_eq_true rfl⟩ rfl hl.1 rfl (Nat.le_of_ble_eq_true rfl) dX5_listOne_17 ⟨Nat.zero_le _, Nat.zero_le _⟩) ?_
    intro σ10 H locs hw hW
    exact r_CV hx hb hr hlk hK hW hw dX5_listOne_20
set_option maxHeartbeats 4000000 in
set_option maxRecDepth 100000 in
theorem c_X6_stepPrice (l : Launch) (G : Gt)   (tl : Bool) (ad : Nat → Nat)  (σ : Mem) (v1 : Int) (v2 : Int) (v3 : Int) (v4 : Int) (post : Int → Prop) (hw : w_X6_stepPrice  σ v1 v2 v3 v4 post) : CI l yX6_stepPrice (Cond.code yX6_stepPrice cX6_stepPrice 6 (some .int)) ({ frames := 2, cells := 0, slots := 0, locals := 44 } : Room) G (shW 1 tl) ad σ [.ref (ad 1), .int (iN v1), .int (iN v2), .int (iN v3), .int (iN v4)] post := by
  refine s_all (y := yX6_stepPrice) (code := cX6_stepPrice) (maxL := 6) (ret := (some .int)) (rm := ({ frames := 2, cells := 0, slots := 0, locals := 44 } : Room)) (av := [.ref (ad 1), .int (iN v1), .int (iN v2), .int (iN v3), .int (iN v4)]) (Qc := fun sz => QI G (shW 1 tl) ad σ post (sz)) (by decide) (Nat.le_of_ble_eq_true rfl) ?_
  intro p e s m below meth c S hr hlk _ hK hE hW ls hl
  obtain ⟨hx, hb, hml, hown, hts⟩ := id S
  replace hl : lv_has ls 6 [(0, .ref (ad 1)), (1, .int (iN v1)), (2, .int (iN v2)), (3, .int (iN v3)), (4, .int (iN v4))] := hl
  unfold w_X6_stepPrice at hw
  refine lv_aload_n hx hb dX6_stepPrice_0 rfl (lv_at hl 0 rfl) ?_
  refine lv_iload_n hx hb dX6_stepPrice_1 rfl (lv_at hl 1 rfl) ?_
  refine lv_iload_n hx hb dX6_stepPrice_2 rfl (lv_at hl 2 rfl) ?_
  refine fin_CI hW (run_U (k := 1) (As := [.int (iN v1), .int (iN v2)]) (rest := []) S hK hE hW (c_X2_firstOf l G 1 (by decide) tl ad σ v1 v2 _ hw s.heap.size) rfl (hcP (by decide)) al_535 al_536 (se_X6_X2_firstOf (by decide)) al_452 al_3 al_459 rfl hd_X2_firstOf.2 rfl rfl ⟨Nat.le_of_ble_eq_true rfl, Nat.le_of_ble_eq_true rfl⟩ rfl hl.1 rfl (Nat.le_of_ble_eq_true rfl) dX6_stepPrice_3 ⟨Nat.zero_le _, Nat.zero_le _⟩) ?_
  intro r1 H locs hw hW
  refine lv_aload_n hx hb dX6_stepPrice_6 rfl (lv_at hl 0 rfl) ?_
  refine lv_iload_n hx hb dX6_stepPrice_7 rfl (lv_at hl 3 rfl) ?_
  refine lv_iload hx hb dX6_stepPrice_8 (lv_at hl 4 rfl) ?_
  refine fin_CI hW (run_U (k := 1) (As := [.int (iN v3), .int (iN v4)]) (rest := [.int (iN r1)]) S hK hE hW (c_X2_firstOf l G 1 (by decide) tl ad σ v3 v4 _ hw H.size) rfl (hcP (by decide)) al_535 al_536 (se_X6_X2_firstOf (by decide)) al_452 al_3 al_459 rfl hd_X2_firstOf.2 rfl rfl ⟨Nat.le_of_ble_eq_true rfl, Nat.le_of_ble_eq_true rfl⟩ rfl hl.1 rfl (Nat.le_of_ble_eq_true rfl) dX6_stepPrice_10 ⟨Nat.zero_le _, Nat.zero_le _⟩) ?_
  intro r3 H locs hw hW
  refine n_isub hx hb dX6_stepPrice_13 ?_
  refine n_mabs hx hb (hml.trans hl.1.symm) hown (hts _ (List.mem_cons_of_mem _ al_538)) (hts _ (List.mem_cons_of_mem _ al_350)) (hts _ (List.mem_cons_of_mem _ al_2)) (hts _ (List.mem_cons_of_mem _ al_351)) (Nat.le_of_ble_eq_true rfl) (Nat.le_of_ble_eq_true rfl) (Nat.zero_le _) (Nat.zero_le _) hw.1 dX6_stepPrice_14 ?_
  replace hw := hw.2
  refine lv_istore (lv' := [(5, .int (iN (max (r1 - r3) (-(r1 - r3))))), (0, .ref (ad 1)), (1, .int (iN v1)), (2, .int (iN v2)), (3, .int (iN v3)), (4, .int (iN v4))]) hx hb dX6_stepPrice_17 hl (by decide) rfl (fun ls hl => ?_)
  refine lv_aload_n hx hb dX6_stepPrice_19 rfl (lv_at hl 1 rfl) ?_
  refine lv_iload hx hb dX6_stepPrice_20 (lv_at hl 0 rfl) ?_
  refine lv_iload_n hx hb dX6_stepPrice_22 rfl (lv_at hl 2 rfl) ?_
  refine lv_iload_n hx hb dX6_stepPrice_23 rfl (lv_at hl 4 rfl) ?_
  refine fin_CI hW (run_U (k := 1) (As := [.int (iN (max (r1 - r3) (-(r1 - r3)))), .int (iN v1), .int (iN v3)]) (rest := []) S hK hE hW (c_X2_tooFar l G 1 (by decide) tl ad σ (max (r1 - r3) (-(r1 - r3))) v1 v3 _ hw H.size) rfl (hcP (by decide)) al_539 al_540 (se_X6_X2_tooFar (by decide)) al_497 al_3 al_498 rfl hd_X2_tooFar.2 rfl rfl ⟨Nat.le_of_ble_eq_true rfl, Nat.le_of_ble_eq_true rfl⟩ rfl hl.1 rfl (Nat.le_of_ble_eq_true rfl) dX6_stepPrice_24 ⟨Nat.zero_le _, Nat.zero_le _⟩) ?_
  intro r5 H locs hw hW
  refine n_if_eq hx hb hw.1 hw.2.1 hw.2.2 (tgt := 33) dX6_stepPrice_27 (by decide) (fun hw => ?_) (fun hw => ?_)
  · refine n_iconst hx hb dX6_stepPrice_33 ?_
    refine lv_iload hx hb dX6_stepPrice_34 (lv_at hl 0 rfl) ?_
    refine n_imul hx hb dX6_stepPrice_36 ?_
    refine lv_aload_n hx hb dX6_stepPrice_37 rfl (lv_at hl 1 rfl) ?_
    refine lv_iload_n hx hb dX6_stepPrice_38 rfl (lv_at hl 2 rfl) ?_
    refine lv_iload_n hx hb dX6_stepPrice_39 rfl (lv_at hl 3 rfl) ?_
    refine fin_CI hW (run_U (k := 1) (As := [.int (iN v1), .int (iN v2)]) (rest := [.int (iN (2 * (max (r1 - r3) (-(r1 - r3)))))]) S hK hE hW (c_X2_secondOf l G 1 (by decide) tl ad σ v1 v2 _ hw H.size) rfl (hcP (by decide)) al_542 al_543 (se_X6_X2_secondOf (by decide)) al_461 al_3 al_468 rfl hd_X2_secondOf.2 rfl rfl ⟨Nat.le_of_ble_eq_true rfl, Nat.le_of_ble_eq_true rfl⟩ rfl hl.1 rfl (Nat.le_of_ble_eq_true rfl) dX6_stepPrice_40 ⟨Nat.zero_le _, Nat.zero_le _⟩) ?_
    intro r7 H locs hw hW
    refine lv_aload_n hx hb dX6_stepPrice_43 rfl (lv_at hl 1 rfl) ?_
    refine lv_iload_n hx hb dX6_stepPrice_44 rfl (lv_at hl 4 rfl) ?_
    refine lv_iload hx hb dX6_stepPrice_45 (lv_at hl 5 rfl) ?_
    refine fin_CI hW (run_U (k := 1) (As := [.int (iN v3), .int (iN v4)]) (rest := [.int (iN r7), .int (iN (2 * (max (r1 - r3) (-(r1 - r3)))))]) S hK hE hW (c_X2_secondOf l G 1 (by decide) tl ad σ v3 v4 _ hw H.size) rfl (hcP (by decide)) al_542 al_543 (se_X6_X2_secondOf (by decide)) al_461 al_3 al_468 rfl hd_X2_secondOf.2 rfl rfl ⟨Nat.le_of_ble_eq_true rfl, Nat.le_of_ble_eq_true rfl⟩ rfl hl.1 rfl (Nat.le_of_ble_eq_true rfl) dX6_stepPrice_47 ⟨Nat.zero_le _, Nat.zero_le _⟩) ?_
    intro r9 H locs hw hW
    refine n_isub hx hb dX6_stepPrice_50 ?_
    refine n_mabs hx hb (hml.trans hl.1.symm) hown (hts _ (List.mem_cons_of_mem _ al_538)) (hts _ (List.mem_cons_of_mem _ al_350)) (hts _ (List.mem_cons_of_mem _ al_2)) (hts _ (List.mem_cons_of_mem _ al_351)) (Nat.le_of_ble_eq_true rfl) (Nat.le_of_ble_eq_true rfl) (Nat.zero_le _) (Nat.zero_le _) hw.1 dX6_stepPrice_51 ?_
    replace hw := hw.2
    refine n_iadd hx hb dX6_stepPrice_54 ?_
    exact r_CI hx hb hr hlk hK hW hw dX6_stepPrice_55
  · refine n_bipush hx hb dX6_stepPrice_30 (by decide) ?_
    exact r_CI hx hb hr hlk hK hW hw dX6_stepPrice_32
set_option maxHeartbeats 4000000 in
set_option maxRecDepth 100000 in
theorem c_X8_breathPrice (l : Launch) (G : Gt)   (tl : Bool) (ad : Nat → Nat)  (σ : Mem) (v1 : Int) (v2 : Int) (post : Int → Prop) (hw : w_X8_breathPrice  σ v1 v2 post) : CI l yX8_breathPrice (Cond.code yX8_breathPrice cX8_breathPrice 5 (some .int)) ({ frames := 1, cells := 0, slots := 0, locals := 23 } : Room) G (shW 2 tl) ad σ [.ref (ad 1), .int (iN v1), .int (iN v2)] post := by
  refine s_all (y := yX8_breathPrice) (code := cX8_breathPrice) (maxL := 5) (ret := (some .int)) (rm := ({ frames := 1, cells := 0, slots := 0, locals := 23 } : Room)) (av := [.ref (ad 1), .int (iN v1), .int (iN v2)]) (Qc := fun sz => QI G (shW 2 tl) ad σ post (sz)) (by decide) (Nat.le_of_ble_eq_true rfl) ?_
  intro p e s m below meth c S hr hlk _ hK hE hW ls hl
  obtain ⟨hx, hb, hml, hown, hts⟩ := id S
  replace hl : lv_has ls 5 [(0, .ref (ad 1)), (1, .int (iN v1)), (2, .int (iN v2))] := hl
  have hB67 : ∀  (s0_67 : Int) (H : Heap) (locs : List Loc) (ls : Array Slot), w_X8_breathPrice_B67 σ s0_67 post → Wd G (shW 2 tl) ad σ (Aw ad (shW 2 tl).length s.heap.size) s.heap H locs → lv_has ls 5 [] → W p l e ({ frames := 1, cells := 0, slots := 0, locals := 23 } : Room) s m ([.ref (ad 1), .int (iN v1), .int (iN v2)] : List Value).toArray below meth c H locs 0 0 (MQ below (QI G (shW 2 tl) ad σ post (s.heap.size)) ([.ref (ad 1), .int (iN v1), .int (iN v2)] : List Value).toArray s 0 0 (Aw ad (shW 2 tl).length s.heap.size)) (F0 m 67 ls [.int (iN s0_67)]) := by
    intro s0_67 H locs ls hw hW hl
    unfold w_X8_breathPrice_B67 at hw
    exact r_CI hx hb hr hlk hK hW hw dX8_breathPrice_67
  unfold w_X8_breathPrice at hw
  refine lv_aload_n hx hb dX8_breathPrice_0 rfl (lv_at hl 0 rfl) ?_
  refine g_getr hx hb hts hown hK hW 1 rfl (q := 2) (hcP (by decide)) (uwP (by decide)) 0 (by decide) rfl al_89 (fun x9 h9 => u_same (hts _ (List.mem_cons_of_mem _ al_90)) x9 h9) dX8_breathPrice_1 ?_
  refine lv_iload_n hx hb dX8_breathPrice_4 rfl (lv_at hl 2 rfl) ?_
  refine fin_CI hW (run_VN (k := 2) (As := [.int (iN v2)]) (rest := []) 30 S hK hE hW (c_X1_timeOf l G 2 tl ad σ v2 _ hw s.heap.size) rfl rfl rfl al_238 sl_X1_timeOf al_5 al_239 hd_X1_timeOf.2 rfl rfl ⟨Nat.le_of_ble_eq_true rfl, Nat.le_of_ble_eq_true rfl⟩ rfl hl.1 rfl (Nat.le_of_ble_eq_true rfl) dX8_breathPrice_5 ⟨Nat.zero_le _, Nat.zero_le _⟩) ?_
  intro r1 H locs hw hW
  refine lv_aload_n hx hb dX8_breathPrice_8 rfl (lv_at hl 0 rfl) ?_
  refine g_getr hx hb hts hown hK hW 1 rfl (q := 2) (hcP (by decide)) (uwP (by decide)) 0 (by decide) rfl al_89 (fun x9 h9 => u_same (hts _ (List.mem_cons_of_mem _ al_90)) x9 h9) dX8_breathPrice_9 ?_
  refine lv_iload_n hx hb dX8_breathPrice_12 rfl (lv_at hl 1 rfl) ?_
  refine fin_CI hW (run_VN (k := 2) (As := [.int (iN v1)]) (rest := [.int (iN r1)]) 30 S hK hE hW (c_X1_timeOf l G 2 tl ad σ v1 _ hw H.size) rfl rfl rfl al_238 sl_X1_timeOf al_5 al_239 hd_X1_timeOf.2 rfl rfl ⟨Nat.le_of_ble_eq_true rfl, Nat.le_of_ble_eq_true rfl⟩ rfl hl.1 rfl (Nat.le_of_ble_eq_true rfl) dX8_breathPrice_13 ⟨Nat.zero_le _, Nat.zero_le _⟩) ?_
  intro r3 H locs hw hW
  refine n_isub hx hb dX8_breathPrice_16 ?_
  refine lv_aload_n hx hb dX8_breathPrice_17 rfl (lv_at hl 0 rfl) ?_
  refine g_getr hx hb hts hown hK hW 1 rfl (q := 2) (hcP (by decide)) (uwP (by decide)) 0 (by decide) rfl al_89 (fun x9 h9 => u_same (hts _ (List.mem_cons_of_mem _ al_90)) x9 h9) dX8_breathPrice_18 ?_
  refine lv_iload_n hx hb dX8_breathPrice_21 rfl (lv_at hl 1 rfl) ?_
  refine fin_CI hW (run_VN (k := 2) (As := [.int (iN v1)]) (rest := [.int (iN (r1 - r3))]) 26 S hK hE hW (c_X1_lengthOf l G 2 tl ad σ v1 _ hw H.size) rfl rfl rfl al_242 sl_X1_lengthOf al_5 al_243 hd_X1_lengthOf.2 rfl rfl ⟨Nat.le_of_ble_eq_true rfl, Nat.le_of_ble_eq_true rfl⟩ rfl hl.1 rfl (Nat.le_of_ble_eq_true rfl) dX8_breathPrice_22 ⟨Nat.zero_le _, Nat.zero_le _⟩) ?_
  intro r5 H locs hw hW
  refine n_isub hx hb dX8_breathPrice_25 ?_
  refine lv_istore_n (lv' := [(3, .int (iN ((r1 - r3) - r5))), (0, .ref (ad 1)), (1, .int (iN v1)), (2, .int (iN v2))]) hx hb dX8_breathPrice_26 rfl hl (by decide) rfl (fun ls hl => ?_)
  refine lv_aload_n hx hb dX8_breathPrice_27 rfl (lv_at hl 1 rfl) ?_
  refine g_getr hx hb hts hown hK hW 1 rfl (q := 2) (hcP (by decide)) (uwP (by decide)) 0 (by decide) rfl al_89 (fun x9 h9 => u_same (hts _ (List.mem_cons_of_mem _ al_90)) x9 h9) dX8_breathPrice_28 ?_
  refine n_iconst hx hb dX8_breathPrice_31 ?_
  refine fin_CI hW (run_VN (k := 2) (As := [.int (iN 2)]) (rest := []) 25 S hK hE hW (c_X1_boundOf l G 2 tl ad σ 2 _ hw H.size) rfl rfl rfl al_267 sl_X1_boundOf al_5 al_268 hd_X1_boundOf.2 rfl rfl ⟨Nat.le_of_ble_eq_true rfl, Nat.le_of_ble_eq_true rfl⟩ rfl hl.1 rfl (Nat.le_of_ble_eq_true rfl) dX8_breathPrice_32 ⟨Nat.zero_le _, Nat.zero_le _⟩) ?_
  intro r7 H locs hw hW
  refine lv_iload_n hx hb dX8_breathPrice_35 rfl (lv_at hl 0 rfl) ?_
  refine n_isub hx hb dX8_breathPrice_36 ?_
  refine lv_istore (lv' := [(4, .int (iN (r7 - ((r1 - r3) - r5)))), (3, .int (iN ((r1 - r3) - r5))), (0, .ref (ad 1)), (1, .int (iN v1)), (2, .int (iN v2))]) hx hb dX8_breathPrice_37 hl (by decide) rfl (fun ls hl => ?_)
  refine lv_iload hx hb dX8_breathPrice_39 (lv_at hl 0 rfl) ?_
  refine lv_aload_n hx hb dX8_breathPrice_41 rfl (lv_at hl 2 rfl) ?_
  refine g_getr hx hb hts hown hK hW 1 rfl (q := 2) (hcP (by decide)) (uwP (by decide)) 0 (by decide) rfl al_89 (fun x9 h9 => u_same (hts _ (List.mem_cons_of_mem _ al_90)) x9 h9) dX8_breathPrice_42 ?_
  refine lv_iload_n hx hb dX8_breathPrice_45 rfl (lv_at hl 3 rfl) ?_
  refine fin_CI hW (run_VN (k := 2) (As := [.int (iN v1)]) (rest := [.int (iN (r7 - ((r1 - r3) - r5)))]) 26 S hK hE hW (c_X1_lengthOf l G 2 tl ad σ v1 _ hw H.size) rfl rfl rfl al_242 sl_X1_lengthOf al_5 al_243 hd_X1_lengthOf.2 rfl rfl ⟨Nat.le_of_ble_eq_true rfl, Nat.le_of_ble_eq_true rfl⟩ rfl hl.1 rfl (Nat.le_of_ble_eq_true rfl) dX8_breathPrice_46 ⟨Nat.zero_le _, Nat.zero_le _⟩) ?_
  intro r9 H locs hw hW
  refine n_icmp_lt hx hb hw.1 hw.2.1 hw.2.2.1 hw.2.2.2 (tgt := 57) dX8_breathPrice_49 (by decide) (fun hw => ?_) (fun hw => ?_)
  · refine n_iconst hx hb dX8_breathPrice_57 ?_
    refine n_iconst hx hb dX8_breathPrice_58 ?_
    refine n_iconst hx hb dX8_breathPrice_59 ?_
    refine lv_iload hx hb dX8_breathPrice_60 (lv_at hl 0 rfl) ?_
    refine n_mmax hx hb (hml.trans hl.1.symm) hown (hts _ (List.mem_cons_of_mem _ al_556)) (hts _ (List.mem_cons_of_mem _ al_27)) (hts _ (List.mem_cons_of_mem _ al_2)) (hts _ (List.mem_cons_of_mem _ al_28)) (Nat.le_of_ble_eq_true rfl) (Nat.le_of_ble_eq_true rfl) (Nat.zero_le _) (Nat.zero_le _) (rg_c _ rfl) hw.1 dX8_breathPrice_62 ?_
    replace hw := hw.2
    refine n_imul hx hb dX8_breathPrice_65 ?_
    refine n_iadd hx hb dX8_breathPrice_66 ?_
    exact hB67 (1 + (2 * (max 0 (r7 - ((r1 - r3) - r5))))) H locs ls hw hW (lv_sub hl [] rfl)
  · refine n_bipush hx hb dX8_breathPrice_52 (by decide) ?_
    refine lv_goto (tgt := 67) hx hb dX8_breathPrice_54 (by decide) ?_
    exact hB67 (-2) H locs ls hw hW (lv_sub hl [] rfl)
set_option maxHeartbeats 4000000 in
set_option maxRecDepth 100000 in
theorem c_X8_stepPrice (l : Launch) (G : Gt)   (tl : Bool) (ad : Nat → Nat)  (σ : Mem) (v1 : Int) (v2 : Int) (v3 : Int) (v4 : Int) (post : Int → Prop) (hw : w_X8_stepPrice  σ v1 v2 v3 v4 post) : CI l yX8_stepPrice (Cond.code yX8_stepPrice cX8_stepPrice 5 (some .int)) ({ frames := 2, cells := 0, slots := 0, locals := 47 } : Room) G (shW 2 tl) ad σ [.ref (ad 1), .int (iN v1), .int (iN v2), .int (iN v3), .int (iN v4)] post := by
  refine s_all (y := yX8_stepPrice) (code := cX8_stepPrice) (maxL := 5) (ret := (some .int)) (rm := ({ frames := 2, cells := 0, slots := 0, locals := 47 } : Room)) (av := [.ref (ad 1), .int (iN v1), .int (iN v2), .int (iN v3), .int (iN v4)]) (Qc := fun sz => QI G (shW 2 tl) ad σ post (sz)) (by decide) (Nat.le_of_ble_eq_true rfl) ?_
  intro p e s m below meth c S hr hlk _ hK hE hW ls hl
  obtain ⟨hx, hb, hml, hown, hts⟩ := id S
  replace hl : lv_has ls 5 [(0, .ref (ad 1)), (1, .int (iN v1)), (2, .int (iN v2)), (3, .int (iN v3)), (4, .int (iN v4))] := hl
  have hB40 : ∀  (s0_40 : Int) (H : Heap) (locs : List Loc) (ls : Array Slot), w_X8_stepPrice_B40 σ s0_40 post → Wd G (shW 2 tl) ad σ (Aw ad (shW 2 tl).length s.heap.size) s.heap H locs → lv_has ls 5 [] → W p l e ({ frames := 2, cells := 0, slots := 0, locals := 47 } : Room) s m ([.ref (ad 1), .int (iN v1), .int (iN v2), .int (iN v3), .int (iN v4)] : List Value).toArray below meth c H locs 0 0 (MQ below (QI G (shW 2 tl) ad σ post (s.heap.size)) ([.ref (ad 1), .int (iN v1), .int (iN v2), .int (iN v3), .int (iN v4)] : List Value).toArray s 0 0 (Aw ad (shW 2 tl).length s.heap.size)) (F0 m 40 ls [.int (iN s0_40)]) := by
    intro s0_40 H locs ls hw hW hl
    unfold w_X8_stepPrice_B40 at hw
    exact r_CI hx hb hr hlk hK hW hw dX8_stepPrice_40
  unfold w_X8_stepPrice at hw
  refine lv_aload_n hx hb dX8_stepPrice_0 rfl (lv_at hl 0 rfl) ?_
  refine lv_iload_n hx hb dX8_stepPrice_1 rfl (lv_at hl 1 rfl) ?_
  refine lv_iload_n hx hb dX8_stepPrice_2 rfl (lv_at hl 2 rfl) ?_
  refine fin_CI hW (run_U (k := 1) (As := [.int (iN v1), .int (iN v2)]) (rest := []) S hK hE hW (c_X2_firstOf l G 2 (by decide) tl ad σ v1 v2 _ hw s.heap.size) rfl (hcP (by decide)) al_548 al_549 (se_X8_X2_firstOf (by decide)) al_452 al_3 al_459 rfl hd_X2_firstOf.2 rfl rfl ⟨Nat.le_of_ble_eq_true rfl, Nat.le_of_ble_eq_true rfl⟩ rfl hl.1 rfl (Nat.le_of_ble_eq_true rfl) dX8_stepPrice_3 ⟨Nat.zero_le _, Nat.zero_le _⟩) ?_
  intro r1 H locs hw hW
  refine lv_aload_n hx hb dX8_stepPrice_6 rfl (lv_at hl 0 rfl) ?_
  refine lv_iload_n hx hb dX8_stepPrice_7 rfl (lv_at hl 3 rfl) ?_
  refine lv_iload hx hb dX8_stepPrice_8 (lv_at hl 4 rfl) ?_
  refine fin_CI hW (run_U (k := 1) (As := [.int (iN v3), .int (iN v4)]) (rest := [.int (iN r1)]) S hK hE hW (c_X2_firstOf l G 2 (by decide) tl ad σ v3 v4 _ hw H.size) rfl (hcP (by decide)) al_548 al_549 (se_X8_X2_firstOf (by decide)) al_452 al_3 al_459 rfl hd_X2_firstOf.2 rfl rfl ⟨Nat.le_of_ble_eq_true rfl, Nat.le_of_ble_eq_true rfl⟩ rfl hl.1 rfl (Nat.le_of_ble_eq_true rfl) dX8_stepPrice_10 ⟨Nat.zero_le _, Nat.zero_le _⟩) ?_
  intro r3 H locs hw hW
  refine n_icmp_ne hx hb hw.1 hw.2.1 hw.2.2.1 hw.2.2.2 (tgt := 18) dX8_stepPrice_13 (by decide) (fun hw => ?_) (fun hw => ?_)
  · refine lv_aload_n hx hb dX8_stepPrice_18 rfl (lv_at hl 0 rfl) ?_
    refine lv_iload_n hx hb dX8_stepPrice_19 rfl (lv_at hl 3 rfl) ?_
    refine lv_iload hx hb dX8_stepPrice_20 (lv_at hl 4 rfl) ?_
    refine fin_CI hW (run_U (k := 1) (As := [.int (iN v3), .int (iN v4)]) (rest := []) S hK hE hW (c_X2_firstOf l G 2 (by decide) tl ad σ v3 v4 _ hw H.size) rfl (hcP (by decide)) al_548 al_549 (se_X8_X2_firstOf (by decide)) al_452 al_3 al_459 rfl hd_X2_firstOf.2 rfl rfl ⟨Nat.le_of_ble_eq_true rfl, Nat.le_of_ble_eq_true rfl⟩ rfl hl.1 rfl (Nat.le_of_ble_eq_true rfl) dX8_stepPrice_22 ⟨Nat.zero_le _, Nat.zero_le _⟩) ?_
    intro r5 H locs hw hW
    refine lv_iload_n hx hb dX8_stepPrice_25 rfl (lv_at hl 3 rfl) ?_
    refine n_icmp_ne hx hb hw.1 hw.2.1 hw.2.2.1 hw.2.2.2 (tgt := 38) dX8_stepPrice_26 (by decide) (fun hw => ?_) (fun hw => ?_)
    · refine n_bipush hx hb dX8_stepPrice_38 (by decide) ?_
      exact hB40 (-2) H locs ls hw hW (lv_sub hl [] rfl)
    · refine lv_aload_n hx hb dX8_stepPrice_29 rfl (lv_at hl 0 rfl) ?_
      refine lv_iload_n hx hb dX8_stepPrice_30 rfl (lv_at hl 1 rfl) ?_
      refine lv_iload_n hx hb dX8_stepPrice_31 rfl (lv_at hl 3 rfl) ?_
      refine fin_CI hW (run_V (k := 1) (As := [.int (iN v1), .int (iN v3)]) (rest := []) S hK hE hW (c_X8_breathPrice l G tl ad σ v1 v3 _ hw H.size) rfl rfl al_551 al_553 sl_X8_breathPrice al_7 al_554 hd_X8_breathPrice rfl rfl ⟨Nat.le_of_ble_eq_true rfl, Nat.le_of_ble_eq_true rfl⟩ rfl hl.1 rfl (Nat.le_of_ble_eq_true rfl) dX8_stepPrice_32 ⟨Nat.zero_le _, Nat.zero_le _⟩) ?_
      intro r7 H locs hw hW
      refine lv_goto (tgt := 40) hx hb dX8_stepPrice_35 (by decide) ?_
      exact hB40 r7 H locs ls hw hW (lv_sub hl [] rfl)
  · refine n_iconst hx hb dX8_stepPrice_16 ?_
    exact r_CI hx hb hr hlk hK hW hw dX8_stepPrice_17
set_option maxHeartbeats 4000000 in
set_option maxRecDepth 100000 in
theorem c_X4_stepPrice (l : Launch) (G : Gt)   (tl : Bool) (ad : Nat → Nat)  (σ : Mem) (v1 : Int) (v2 : Int) (v3 : Int) (v4 : Int) (post : Int → Prop) (hw : w_X4_stepPrice  σ v1 v2 v3 v4 post) : CI l yX4_stepPrice (Cond.code yX4_stepPrice cX4_stepPrice 6 (some .int)) ({ frames := 2, cells := 0, slots := 0, locals := 44 } : Room) G (shW 3 tl) ad σ [.ref (ad 1), .int (iN v1), .int (iN v2), .int (iN v3), .int (iN v4)] post := by
  refine s_all (y := yX4_stepPrice) (code := cX4_stepPrice) (maxL := 6) (ret := (some .int)) (rm := ({ frames := 2, cells := 0, slots := 0, locals := 44 } : Room)) (av := [.ref (ad 1), .int (iN v1), .int (iN v2), .int (iN v3), .int (iN v4)]) (Qc := fun sz => QI G (shW 3 tl) ad σ post (sz)) (by decide) (Nat.le_of_ble_eq_true rfl) ?_
  intro p e s m below meth c S hr hlk _ hK hE hW ls hl
  obtain ⟨hx, hb, hml, hown, hts⟩ := id S
  replace hl : lv_has ls 6 [(0, .ref (ad 1)), (1, .int (iN v1)), (2, .int (iN v2)), (3, .int (iN v3)), (4, .int (iN v4))] := hl
  have hB37 : ∀  (s0_37 : Int) (H : Heap) (locs : List Loc) (ls : Array Slot), w_X4_stepPrice_B37 σ s0_37 post → Wd G (shW 3 tl) ad σ (Aw ad (shW 3 tl).length s.heap.size) s.heap H locs → lv_has ls 6 [] → W p l e ({ frames := 2, cells := 0, slots := 0, locals := 44 } : Room) s m ([.ref (ad 1), .int (iN v1), .int (iN v2), .int (iN v3), .int (iN v4)] : List Value).toArray below meth c H locs 0 0 (MQ below (QI G (shW 3 tl) ad σ post (s.heap.size)) ([.ref (ad 1), .int (iN v1), .int (iN v2), .int (iN v3), .int (iN v4)] : List Value).toArray s 0 0 (Aw ad (shW 3 tl).length s.heap.size)) (F0 m 37 ls [.int (iN s0_37)]) := by
    intro s0_37 H locs ls hw hW hl
    unfold w_X4_stepPrice_B37 at hw
    exact r_CI hx hb hr hlk hK hW hw dX4_stepPrice_37
  unfold w_X4_stepPrice at hw
  refine lv_aload_n hx hb dX4_stepPrice_0 rfl (lv_at hl 0 rfl) ?_
  refine lv_iload_n hx hb dX4_stepPrice_1 rfl (lv_at hl 1 rfl) ?_
  refine lv_iload_n hx hb dX4_stepPrice_2 rfl (lv_at hl 2 rfl) ?_
  refine fin_CI hW (run_U (k := 1) (As := [.int (iN v1), .int (iN v2)]) (rest := []) S hK hE hW (c_X2_firstOf l G 3 (by decide) tl ad σ v1 v2 _ hw s.heap.size) rfl (hcP (by decide)) al_508 al_509 (se_X4_X2_firstOf (by decide)) al_452 al_3 al_459 rfl hd_X2_firstOf.2 rfl rfl ⟨Nat.le_of_ble_eq_true rfl, Nat.le_of_ble_eq_true rfl⟩ rfl hl.1 rfl (Nat.le_of_ble_eq_true rfl) dX4_stepPrice_3 ⟨Nat.zero_le _, Nat.zero_le _⟩) ?_
  intro r1 H locs hw hW
  refine lv_aload_n hx hb dX4_stepPrice_6 rfl (lv_at hl 0 rfl) ?_
  refine lv_iload_n hx hb dX4_stepPrice_7 rfl (lv_at hl 3 rfl) ?_
  refine lv_iload hx hb dX4_stepPrice_8 (lv_at hl 4 rfl) ?_
  refine fin_CI hW (run_U (k := 1) (As := [.int (iN v3), .int (iN v4)]) (rest := [.int (iN r1)]) S hK hE hW (c_X2_firstOf l G 3 (by decide) tl ad σ v3 v4 _ hw H.size) rfl (hcP (by decide)) al_508 al_509 (se_X4_X2_firstOf (by decide)) al_452 al_3 al_459 rfl hd_X2_firstOf.2 rfl rfl ⟨Nat.le_of_ble_eq_true rfl, Nat.le_of_ble_eq_true rfl⟩ rfl hl.1 rfl (Nat.le_of_ble_eq_true rfl) dX4_stepPrice_10 ⟨Nat.zero_le _, Nat.zero_le _⟩) ?_
  intro r3 H locs hw hW
  refine n_isub hx hb dX4_stepPrice_13 ?_
  refine n_mabs hx hb (hml.trans hl.1.symm) hown (hts _ (List.mem_cons_of_mem _ al_511)) (hts _ (List.mem_cons_of_mem _ al_350)) (hts _ (List.mem_cons_of_mem _ al_2)) (hts _ (List.mem_cons_of_mem _ al_351)) (Nat.le_of_ble_eq_true rfl) (Nat.le_of_ble_eq_true rfl) (Nat.zero_le _) (Nat.zero_le _) hw.1 dX4_stepPrice_14 ?_
  replace hw := hw.2
  refine lv_istore (lv' := [(5, .int (iN (max (r1 - r3) (-(r1 - r3))))), (0, .ref (ad 1)), (1, .int (iN v1)), (2, .int (iN v2)), (3, .int (iN v3)), (4, .int (iN v4))]) hx hb dX4_stepPrice_17 hl (by decide) rfl (fun ls hl => ?_)
  refine lv_aload_n hx hb dX4_stepPrice_19 rfl (lv_at hl 1 rfl) ?_
  refine lv_iload hx hb dX4_stepPrice_20 (lv_at hl 0 rfl) ?_
  refine lv_iload_n hx hb dX4_stepPrice_22 rfl (lv_at hl 2 rfl) ?_
  refine lv_iload_n hx hb dX4_stepPrice_23 rfl (lv_at hl 4 rfl) ?_
  refine fin_CI hW (run_U (k := 1) (As := [.int (iN (max (r1 - r3) (-(r1 - r3)))), .int (iN v1), .int (iN v3)]) (rest := []) S hK hE hW (c_X2_tooFar l G 3 (by decide) tl ad σ (max (r1 - r3) (-(r1 - r3))) v1 v3 _ hw H.size) rfl (hcP (by decide)) al_512 al_513 (se_X4_X2_tooFar (by decide)) al_497 al_3 al_498 rfl hd_X2_tooFar.2 rfl rfl ⟨Nat.le_of_ble_eq_true rfl, Nat.le_of_ble_eq_true rfl⟩ rfl hl.1 rfl (Nat.le_of_ble_eq_true rfl) dX4_stepPrice_24 ⟨Nat.zero_le _, Nat.zero_le _⟩) ?_
  intro r5 H locs hw hW
  refine n_if_eq hx hb hw.1 hw.2.1 hw.2.2 (tgt := 35) dX4_stepPrice_27 (by decide) (fun hw => ?_) (fun hw => ?_)
  · refine lv_iload hx hb dX4_stepPrice_35 (lv_at hl 0 rfl) ?_
    exact hB37 (max (r1 - r3) (-(r1 - r3))) H locs ls hw hW (lv_sub hl [] rfl)
  · refine n_bipush hx hb dX4_stepPrice_30 (by decide) ?_
    refine lv_goto (tgt := 37) hx hb dX4_stepPrice_32 (by decide) ?_
    exact hB37 (-2) H locs ls hw hW (lv_sub hl [] rfl)
set_option maxHeartbeats 4000000 in
set_option maxRecDepth 100000 in
theorem c_X5_lastPlayed (l : Launch) (G : Gt)   (tl : Bool) (ad : Nat → Nat)  (σ : Mem) (v1 : Int) (v2 : Int) (v3 : Int) (post : Int → Prop) (hw : w_X5_lastPlayed  σ v1 v2 v3 post) : CI l yX5_lastPlayed (Cond.code yX5_lastPlayed cX5_lastPlayed 5 (some .int)) ({ frames := 1, cells := 0, slots := 0, locals := 23 } : Room) G (shW 4 tl) ad σ [.ref (ad 1), .int (iN v1), .int (iN v2), .int (iN v3)] post := by
  refine s_all (y := yX5_lastPlayed) (code := cX5_lastPlayed) (maxL := 5) (ret := (some .int)) (rm := ({ frames := 1, cells := 0, slots := 0, locals := 23 } : Room)) (av := [.ref (ad 1), .int (iN v1), .int (iN v2), .int (iN v3)]) (Qc := fun sz => QI G (shW 4 tl) ad σ post (sz)) (by decide) (Nat.le_of_ble_eq_true rfl) ?_
  intro p e s m below meth c S hr hlk _ hK hE hW ls hl
  obtain ⟨hx, hb, hml, hown, hts⟩ := id S
  replace hl : lv_has ls 5 [(0, .ref (ad 1)), (1, .int (iN v1)), (2, .int (iN v2)), (3, .int (iN v3))] := hl
  have hB30 : ∀  (s0_30 : Int) (H : Heap) (locs : List Loc) (ls : Array Slot), w_X5_lastPlayed_B30 σ s0_30 post → Wd G (shW 4 tl) ad σ (Aw ad (shW 4 tl).length s.heap.size) s.heap H locs → lv_has ls 5 [] → W p l e ({ frames := 1, cells := 0, slots := 0, locals := 23 } : Room) s m ([.ref (ad 1), .int (iN v1), .int (iN v2), .int (iN v3)] : List Value).toArray below meth c H locs 0 0 (MQ below (QI G (shW 4 tl) ad σ post (s.heap.size)) ([.ref (ad 1), .int (iN v1), .int (iN v2), .int (iN v3)] : List Value).toArray s 0 0 (Aw ad (shW 4 tl).length s.heap.size)) (F0 m 30 ls [.int (iN s0_30)]) := by
    intro s0_30 H locs ls hw hW hl
    unfold w_X5_lastPlayed_B30 at hw
    exact r_CI hx hb hr hlk hK hW hw dX5_lastPlayed_30
  have hB20 : ∀  (v1_20 : Int) (H : Heap) (locs : List Loc) (ls : Array Slot), w_X5_lastPlayed_B20 σ v1_20 post → Wd G (shW 4 tl) ad σ (Aw ad (shW 4 tl).length s.heap.size) s.heap H locs → lv_has ls 5 [(1, .int (iN v1_20))] → W p l e ({ frames := 1, cells := 0, slots := 0, locals := 23 } : Room) s m ([.ref (ad 1), .int (iN v1), .int (iN v2), .int (iN v3)] : List Value).toArray below meth c H locs 0 0 (MQ below (QI G (shW 4 tl) ad σ post (s.heap.size)) ([.ref (ad 1), .int (iN v1), .int (iN v2), .int (iN v3)] : List Value).toArray s 0 0 (Aw ad (shW 4 tl).length s.heap.size)) (F0 m 20 ls []) := by
    intro v1_20 H locs ls hw hW hl
    unfold w_X5_lastPlayed_B20 at hw
    refine lv_iload_n hx hb dX5_lastPlayed_20 rfl (lv_at hl 0 rfl) ?_
    refine lv_goto (tgt := 30) hx hb dX5_lastPlayed_21 (by decide) ?_
    exact hB30 v1_20 H locs ls hw hW (lv_sub hl [] rfl)
  unfold w_X5_lastPlayed at hw
  refine lv_aload_n hx hb dX5_lastPlayed_0 rfl (lv_at hl 0 rfl) ?_
  refine lv_iload_n hx hb dX5_lastPlayed_1 rfl (lv_at hl 1 rfl) ?_
  refine lv_iload_n hx hb dX5_lastPlayed_2 rfl (lv_at hl 2 rfl) ?_
  refine fin_CI hW (run_U (k := 1) (As := [.int (iN v1), .int (iN v2)]) (rest := []) S hK hE hW (c_X2_firstOf l G 4 (by decide) tl ad σ v1 v2 _ hw s.heap.size) rfl (hcP (by decide)) al_518 al_519 (se_X5_X2_firstOf (by decide)) al_452 al_3 al_459 rfl hd_X2_firstOf.2 rfl rfl ⟨Nat.le_of_ble_eq_true rfl, Nat.le_of_ble_eq_true rfl⟩ rfl hl.1 rfl (Nat.le_of_ble_eq_true rfl) dX5_lastPlayed_3 ⟨Nat.zero_le _, Nat.zero_le _⟩) ?_
  intro r1 H locs hw hW
  refine lv_istore (lv' := [(4, .int (iN r1)), (0, .ref (ad 1)), (1, .int (iN v1)), (2, .int (iN v2)), (3, .int (iN v3))]) hx hb dX5_lastPlayed_6 hl (by decide) rfl (fun ls hl => ?_)
  refine lv_iload hx hb dX5_lastPlayed_8 (lv_at hl 0 rfl) ?_
  refine n_iconst hx hb dX5_lastPlayed_10 ?_
  refine n_icmp_eq hx hb hw.1 (rg_c _ rfl) hw.2.1 hw.2.2 (tgt := 20) dX5_lastPlayed_11 (by decide) (fun hw => ?_) (fun hw => ?_)
  · exact hB20 v1 H locs ls hw hW (lv_sub hl [2] rfl)
  · refine lv_iload hx hb dX5_lastPlayed_14 (lv_at hl 0 rfl) ?_
    refine lv_iload_n hx hb dX5_lastPlayed_16 rfl (lv_at hl 4 rfl) ?_
    refine n_icmp_ne hx hb hw.1 hw.2.1 hw.2.2.1 hw.2.2.2 (tgt := 24) dX5_lastPlayed_17 (by decide) (fun hw => ?_) (fun hw => ?_)
    · refine lv_aload_n hx hb dX5_lastPlayed_24 rfl (lv_at hl 1 rfl) ?_
      refine lv_iload_n hx hb dX5_lastPlayed_25 rfl (lv_at hl 2 rfl) ?_
      refine lv_iload_n hx hb dX5_lastPlayed_26 rfl (lv_at hl 3 rfl) ?_
      refine fin_CI hW (run_U (k := 1) (As := [.int (iN v1), .int (iN v2)]) (rest := []) S hK hE hW (c_X2_secondOf l G 4 (by decide) tl ad σ v1 v2 _ hw H.size) rfl (hcP (by decide)) al_525 al_526 (se_X5_X2_secondOf (by decide)) al_461 al_3 al_468 rfl hd_X2_secondOf.2 rfl rfl ⟨Nat.le_of_ble_eq_true rfl, Nat.le_of_ble_eq_true rfl⟩ rfl hl.1 rfl (Nat.le_of_ble_eq_true rfl) dX5_lastPlayed_27 ⟨Nat.zero_le _, Nat.zero_le _⟩) ?_
      intro r3 H locs hw hW
      exact hB30 r3 H locs ls hw hW (lv_sub hl [] rfl)
    · exact hB20 v1 H locs ls hw hW (lv_sub hl [2] rfl)
set_option maxHeartbeats 4000000 in
set_option maxRecDepth 100000 in
theorem c_X5_stepPrice (l : Launch) (G : Gt)   (tl : Bool) (ad : Nat → Nat)  (σ : Mem) (v1 : Int) (v2 : Int) (v3 : Int) (v4 : Int) (post : Int → Prop) (hw : w_X5_stepPrice  σ v1 v2 v3 v4 post) : CI l yX5_stepPrice (Cond.code yX5_stepPrice cX5_stepPrice 10 (some .int)) ({ frames := 2, cells := 0, slots := 0, locals := 47 } : Room) G (shW 4 tl) ad σ [.ref (ad 1), .int (iN v1), .int (iN v2), .int (iN v3), .int (iN v4)] post := by
  refine s_all (y := yX5_stepPrice) (code := cX5_stepPrice) (maxL := 10) (ret := (some .int)) (rm := ({ frames := 2, cells := 0, slots := 0, locals := 47 } : Room)) (av := [.ref (ad 1), .int (iN v1), .int (iN v2), .int (iN v3), .int (iN v4)]) (Qc := fun sz => QI G (shW 4 tl) ad σ post (sz)) (by decide) (Nat.le_of_ble_eq_true rfl) ?_
  intro p e s m below meth c S hr hlk _ hK hE hW ls hl
  obtain ⟨hx, hb, hml, hown, hts⟩ := id S
  replace hl : lv_has ls 10 [(0, .ref (ad 1)), (1, .int (iN v1)), (2, .int (iN v2)), (3, .int (iN v3)), (4, .int (iN v4))] := hl
  have hL65 : ∀ (v1_65 : Int) (v2_65 : Int) (v3_65 : Int) (v5_65 : Int) (n : Nat) (v6_65 : Int) (v7_65 : Int) (H : Heap) (locs : List Loc) (ls : Array Slot), w_X5_stepPrice_L65 σ v1_65 v2_65 v3_65 v5_65 post n v6_65 v7_65 → Wd G (shW 4 tl) ad σ (Aw ad (shW 4 tl).length s.heap.size) s.heap H locs → lv_has ls 10 [(0, .ref (ad 1)), (1, .int (iN v1_65)), (2, .int (iN v2_65)), (3, .int (iN v3_65)), (5, .int (iN v5_65)), (6, .int (iN v6_65)), (7, .int (iN v7_65))] → W p l e ({ frames := 2, cells := 0, slots := 0, locals := 47 } : Room) s m ([.ref (ad 1), .int (iN v1), .int (iN v2), .int (iN v3), .int (iN v4)] : List Value).toArray below meth c H locs 0 0 (MQ below (QI G (shW 4 tl) ad σ post (s.heap.size)) ([.ref (ad 1), .int (iN v1), .int (iN v2), .int (iN v3), .int (iN v4)] : List Value).toArray s 0 0 (Aw ad (shW 4 tl).length s.heap.size)) (F0 m 65 ls []) := by
    intro v1_65 v2_65 v3_65 v5_65 n
    induction n with
    | zero =>
      intro v6_65 v7_65 H locs ls hw
      exact hw.elim
    | succ n65 ih65 =>
      intro v6_65 v7_65 H locs ls hw hW hl
      replace hw : w_X5_stepPrice_L65_body σ v1_65 v2_65 v3_65 v5_65 post (w_X5_stepPrice_L65 σ v1_65 v2_65 v3_65 v5_65 post n65) v6_65 v7_65 := hw
      have hB143 : ∀  (v6_143 : Int) (v7_143 : Int) (H : Heap) (locs : List Loc) (ls : Array Slot), w_X5_stepPrice_B143 σ v1_65 v2_65 v3_65 v5_65 v6_143 v7_143 post (w_X5_stepPrice_L65 σ v1_65 v2_65 v3_65 v5_65 post n65) → Wd G (shW 4 tl) ad σ (Aw ad (shW 4 tl).length s.heap.size) s.heap H locs → lv_has ls 10 [(0, .ref (ad 1)), (1, .int (iN v1_65)), (2, .int (iN v2_65)), (3, .int (iN v3_65)), (5, .int (iN v5_65)), (6, .int (iN v6_143)), (7, .int (iN v7_143))] → W p l e ({ frames := 2, cells := 0, slots := 0, locals := 47 } : Room) s m ([.ref (ad 1), .int (iN v1), .int (iN v2), .int (iN v3), .int (iN v4)] : List Value).toArray below meth c H locs 0 0 (MQ below (QI G (shW 4 tl) ad σ post (s.heap.size)) ([.ref (ad 1), .int (iN v1), .int (iN v2), .int (iN v3), .int (iN v4)] : List Value).toArray s 0 0 (Aw ad (shW 4 tl).length s.heap.size)) (F0 m 143 ls []) := by
        intro v6_143 v7_143 H locs ls hw hW hl
        unfold w_X5_stepPrice_B143 at hw
        refine lv_iinc (v := iN (v7_143 + 1)) (lv' := [(7, .int (iN (v7_143 + 1))), (0, .ref (ad 1)), (1, .int (iN v1_65)), (2, .int (iN v2_65)), (3, .int (iN v3_65)), (5, .int (iN v5_65)), (6, .int (iN v6_143))]) hx hb dX5_stepPrice_143 hl (k := 6) rfl (iN_add _ _) (by decide) rfl (fun ls hl => ?_)
        refine lv_goto (tgt := 65) hx hb dX5_stepPrice_146 (by decide) ?_
        exact ih65 v6_143 (v7_143 + 1) H locs ls hw hW (lv_sub hl [1, 2, 3, 4, 5, 6, 0] rfl)
      have hB100 : ∀  (v6_100 : Int) (v7_100 : Int) (v8_100 : Int) (H : Heap) (locs : List Loc) (ls : Array Slot), w_X5_stepPrice_B100 σ v1_65 v2_65 v3_65 v5_65 v6_100 v7_100 v8_100 post (w_X5_stepPrice_L65 σ v1_65 v2_65 v3_65 v5_65 post n65) → Wd G (shW 4 tl) ad σ (Aw ad (shW 4 tl).length s.heap.size) s.heap H locs → lv_has ls 10 [(0, .ref (ad 1)), (1, .int (iN v1_65)), (2, .int (iN v2_65)), (3, .int (iN v3_65)), (5, .int (iN v5_65)), (6, .int (iN v6_100)), (7, .int (iN v7_100)), (8, .int (iN v8_100))] → W p l e ({ frames := 2, cells := 0, slots := 0, locals := 47 } : Room) s m ([.ref (ad 1), .int (iN v1), .int (iN v2), .int (iN v3), .int (iN v4)] : List Value).toArray below meth c H locs 0 0 (MQ below (QI G (shW 4 tl) ad σ post (s.heap.size)) ([.ref (ad 1), .int (iN v1), .int (iN v2), .int (iN v3), .int (iN v4)] : List Value).toArray s 0 0 (Aw ad (shW 4 tl).length s.heap.size)) (F0 m 100 ls []) := by
        intro v6_100 v7_100 v8_100 H locs ls hw hW hl
        unfold w_X5_stepPrice_B100 at hw
        refine lv_aload_n hx hb dX5_stepPrice_100 rfl (lv_at hl 0 rfl) ?_
        refine lv_iload hx hb dX5_stepPrice_101 (lv_at hl 6 rfl) ?_
        refine lv_iload_n hx hb dX5_stepPrice_103 rfl (lv_at hl 3 rfl) ?_
        refine fin_CI hW (run_V (k := 1) (As := [.int (iN v7_100), .int (iN v3_65)]) (rest := []) S hK hE hW (c_X5_pitchBy l G tl ad σ v7_100 v3_65 _ hw H.size) rfl rfl al_395 al_397 sl_X5_pitchBy al_9 al_398 hd_X5_pitchBy rfl rfl ⟨Nat.le_of_ble_eq_true rfl, Nat.le_of_ble_eq_true rfl⟩ rfl hl.1 rfl (Nat.le_of_ble_eq_true rfl) dX5_stepPrice_104 ⟨Nat.zero_le _, Nat.zero_le _⟩) ?_
        intro r17 H locs hw hW
        refine lv_aload_n hx hb dX5_stepPrice_107 rfl (lv_at hl 0 rfl) ?_
        refine lv_iload hx hb dX5_stepPrice_108 (lv_at hl 6 rfl) ?_
        refine lv_iload hx hb dX5_stepPrice_110 (lv_at hl 7 rfl) ?_
        refine fin_CI hW (run_V (k := 1) (As := [.int (iN v7_100), .int (iN v8_100)]) (rest := [.int (iN r17)]) S hK hE hW (c_X5_pitchBy l G tl ad σ v7_100 v8_100 _ hw H.size) rfl rfl al_395 al_397 sl_X5_pitchBy al_9 al_398 hd_X5_pitchBy rfl rfl ⟨Nat.le_of_ble_eq_true rfl, Nat.le_of_ble_eq_true rfl⟩ rfl hl.1 rfl (Nat.le_of_ble_eq_true rfl) dX5_stepPrice_112 ⟨Nat.zero_le _, Nat.zero_le _⟩) ?_
        intro r19 H locs hw hW
        refine n_isub hx hb dX5_stepPrice_115 ?_
        refine n_mabs hx hb (hml.trans hl.1.symm) hown (hts _ (List.mem_cons_of_mem _ al_528)) (hts _ (List.mem_cons_of_mem _ al_350)) (hts _ (List.mem_cons_of_mem _ al_2)) (hts _ (List.mem_cons_of_mem _ al_351)) (Nat.le_of_ble_eq_true rfl) (Nat.le_of_ble_eq_true rfl) (Nat.zero_le _) (Nat.zero_le _) hw.1 dX5_stepPrice_116 ?_
        replace hw := hw.2
        refine lv_istore (lv' := [(9, .int (iN (max (r17 - r19) (-(r17 - r19))))), (0, .ref (ad 1)), (1, .int (iN v1_65)), (2, .int (iN v2_65)), (3, .int (iN v3_65)), (5, .int (iN v5_65)), (6, .int (iN v6_100)), (7, .int (iN v7_100)), (8, .int (iN v8_100))]) hx hb dX5_stepPrice_119 hl (by decide) rfl (fun ls hl => ?_)
        refine lv_aload_n hx hb dX5_stepPrice_121 rfl (lv_at hl 1 rfl) ?_
        refine lv_iload hx hb dX5_stepPrice_122 (lv_at hl 0 rfl) ?_
        refine lv_iload hx hb dX5_stepPrice_124 (lv_at hl 8 rfl) ?_
        refine lv_iload_n hx hb dX5_stepPrice_126 rfl (lv_at hl 4 rfl) ?_
        refine fin_CI hW (run_U (k := 1) (As := [.int (iN (max (r17 - r19) (-(r17 - r19)))), .int (iN v8_100), .int (iN v3_65)]) (rest := []) S hK hE hW (c_X2_tooFar l G 4 (by decide) tl ad σ (max (r17 - r19) (-(r17 - r19))) v8_100 v3_65 _ hw H.size) rfl (hcP (by decide)) al_529 al_530 (se_X5_X2_tooFar (by decide)) al_497 al_3 al_498 rfl hd_X2_tooFar.2 rfl rfl ⟨Nat.le_of_ble_eq_true rfl, Nat.le_of_ble_eq_true rfl⟩ rfl hl.1 rfl (Nat.le_of_ble_eq_true rfl) dX5_stepPrice_127 ⟨Nat.zero_le _, Nat.zero_le _⟩) ?_
        intro r21 H locs hw hW
        refine n_if_eq hx hb hw.1 hw.2.1 hw.2.2 (tgt := 136) dX5_stepPrice_130 (by decide) (fun hw => ?_) (fun hw => ?_)
        · refine lv_iload hx hb dX5_stepPrice_136 (lv_at hl 6 rfl) ?_
          refine lv_iload hx hb dX5_stepPrice_138 (lv_at hl 0 rfl) ?_
          refine n_iadd hx hb dX5_stepPrice_140 ?_
          refine lv_istore (lv' := [(6, .int (iN (v6_100 + (max (r17 - r19) (-(r17 - r19)))))), (9, .int (iN (max (r17 - r19) (-(r17 - r19))))), (0, .ref (ad 1)), (1, .int (iN v1_65)), (2, .int (iN v2_65)), (3, .int (iN v3_65)), (5, .int (iN v5_65)), (7, .int (iN v7_100)), (8, .int (iN v8_100))]) hx hb dX5_stepPrice_141 hl (by decide) rfl (fun ls hl => ?_)
          exact hB143 (v6_100 + (max (r17 - r19) (-(r17 - r19)))) v7_100 H locs ls hw hW (lv_sub hl [2, 3, 4, 5, 6, 0, 7] rfl)
        · refine n_bipush hx hb dX5_stepPrice_133 (by decide) ?_
          exact r_CI hx hb hr hlk hK hW hw dX5_stepPrice_135
      unfold w_X5_stepPrice_L65_body at hw
      refine lv_iload hx hb dX5_stepPrice_65 (lv_at hl 6 rfl) ?_
      refine n_iconst hx hb dX5_stepPrice_67 ?_
      refine n_icmp_ge hx hb hw.1 (rg_c _ rfl) hw.2.1 hw.2.2 (tgt := 149) dX5_stepPrice_68 (by decide) (fun hw => ?_) (fun hw => ?_)
      · refine lv_iload hx hb dX5_stepPrice_149 (lv_at hl 5 rfl) ?_
        exact r_CI hx hb hr hlk hK hW hw dX5_stepPrice_151
      · refine lv_aload_n hx hb dX5_stepPrice_71 rfl (lv_at hl 0 rfl) ?_
        refine lv_iload_n hx hb dX5_stepPrice_72 rfl (lv_at hl 1 rfl) ?_
        refine lv_iload_n hx hb dX5_stepPrice_73 rfl (lv_at hl 2 rfl) ?_
        refine lv_iload hx hb dX5_stepPrice_74 (lv_at hl 6 rfl) ?_
        refine fin_CI hW (run_V (k := 1) (As := [.int (iN v1_65), .int (iN v2_65), .int (iN v7_65)]) (rest := []) S hK hE hW (c_X5_lastPlayed l G tl ad σ v1_65 v2_65 v7_65 _ hw H.size) rfl rfl al_521 al_523 sl_X5_lastPlayed al_9 al_524 hd_X5_lastPlayed rfl rfl ⟨Nat.le_of_ble_eq_true rfl, Nat.le_of_ble_eq_true rfl⟩ rfl hl.1 rfl (Nat.le_of_ble_eq_true rfl) dX5_stepPrice_76 ⟨Nat.zero_le _, Nat.zero_le _⟩) ?_
        intro r23 H locs hw hW
        refine lv_istore (lv' := [(8, .int (iN r23)), (0, .ref (ad 1)), (1, .int (iN v1_65)), (2, .int (iN v2_65)), (3, .int (iN v3_65)), (5, .int (iN v5_65)), (6, .int (iN v6_65)), (7, .int (iN v7_65))]) hx hb dX5_stepPrice_79 hl (by decide) rfl (fun ls hl => ?_)
        refine lv_iload hx hb dX5_stepPrice_81 (lv_at hl 0 rfl) ?_
        refine n_iconst hx hb dX5_stepPrice_83 ?_
        refine n_icmp_eq hx hb hw.1 (rg_c _ rfl) hw.2.1 hw.2.2 (tgt := 143) dX5_stepPrice_84 (by decide) (fun hw => ?_) (fun hw => ?_)
        · exact hB143 v6_65 v7_65 H locs ls hw hW (lv_sub hl [1, 2, 3, 4, 5, 6, 7] rfl)
        · refine lv_iload hx hb dX5_stepPrice_87 (lv_at hl 5 rfl) ?_
          refine n_iconst hx hb dX5_stepPrice_89 ?_
          refine n_icmp_eq hx hb hw.1 (rg_c _ rfl) hw.2.1 hw.2.2 (tgt := 100) dX5_stepPrice_90 (by decide) (fun hw => ?_) (fun hw => ?_)
          · exact hB100 v6_65 v7_65 r23 H locs ls hw hW (lv_sub hl [1, 2, 3, 4, 5, 6, 7, 0] rfl)
          · refine lv_iload hx hb dX5_stepPrice_93 (lv_at hl 5 rfl) ?_
            refine lv_iload hx hb dX5_stepPrice_95 (lv_at hl 7 rfl) ?_
            refine n_icmp_ne hx hb hw.1 hw.2.1 hw.2.2.1 hw.2.2.2 (tgt := 143) dX5_stepPrice_97 (by decide) (fun hw => ?_) (fun hw => ?_)
            · exact hB143 v6_65 v7_65 H locs ls hw hW (lv_sub hl [1, 2, 3, 4, 5, 6, 7] rfl)
            · exact hB100 v6_65 v7_65 r23 H locs ls hw hW (lv_sub hl [1, 2, 3, 4, 5, 6, 7, 0] rfl)
  have hB60 : ∀  (v1_60 : Int) (v2_60 : Int) (v3_60 : Int) (v5_60 : Int) (s0_60 : Int) (H : Heap) (locs : List Loc) (ls : Array Slot), w_X5_stepPrice_B60 σ v1_60 v2_60 v3_60 v5_60 s0_60 post → Wd G (shW 4 tl) ad σ (Aw ad (shW 4 tl).length s.heap.size) s.heap H locs → lv_has ls 10 [(0, .ref (ad 1)), (1, .int (iN v1_60)), (2, .int (iN v2_60)), (3, .int (iN v3_60)), (5, .int (iN v5_60))] → W p l e ({ frames := 2, cells := 0, slots := 0, locals := 47 } : Room) s m ([.ref (ad 1), .int (iN v1), .int (iN v2), .int (iN v3), .int (iN v4)] : List Value).toArray below meth c H locs 0 0 (MQ below (QI G (shW 4 tl) ad σ post (s.heap.size)) ([.ref (ad 1), .int (iN v1), .int (iN v2), .int (iN v3), .int (iN v4)] : List Value).toArray s 0 0 (Aw ad (shW 4 tl).length s.heap.size)) (F0 m 60 ls [.int (iN s0_60)]) := by
    intro v1_60 v2_60 v3_60 v5_60 s0_60 H locs ls hw hW hl
    unfold w_X5_stepPrice_B60 at hw
    refine lv_istore (lv' := [(6, .int (iN s0_60)), (0, .ref (ad 1)), (1, .int (iN v1_60)), (2, .int (iN v2_60)), (3, .int (iN v3_60)), (5, .int (iN v5_60))]) hx hb dX5_stepPrice_60 hl (by decide) rfl (fun ls hl => ?_)
    refine n_iconst hx hb dX5_stepPrice_62 ?_
    refine lv_istore (lv' := [(7, .int (iN 0)), (6, .int (iN s0_60)), (0, .ref (ad 1)), (1, .int (iN v1_60)), (2, .int (iN v2_60)), (3, .int (iN v3_60)), (5, .int (iN v5_60))]) hx hb dX5_stepPrice_63 hl (by decide) rfl (fun ls hl => ?_)
    obtain ⟨n, hw⟩ := hw
    exact hL65 v1_60 v2_60 v3_60 v5_60 n s0_60 0 H locs ls hw hW (lv_sub hl [2, 3, 4, 5, 6, 1, 0] rfl)
  have hB59 : ∀  (v1_59 : Int) (v2_59 : Int) (v3_59 : Int) (v5_59 : Int) (H : Heap) (locs : List Loc) (ls : Array Slot), w_X5_stepPrice_B59 σ v1_59 v2_59 v3_59 v5_59 post → Wd G (shW 4 tl) ad σ (Aw ad (shW 4 tl).length s.heap.size) s.heap H locs → lv_has ls 10 [(0, .ref (ad 1)), (1, .int (iN v1_59)), (2, .int (iN v2_59)), (3, .int (iN v3_59)), (5, .int (iN v5_59))] → W p l e ({ frames := 2, cells := 0, slots := 0, locals := 47 } : Room) s m ([.ref (ad 1), .int (iN v1), .int (iN v2), .int (iN v3), .int (iN v4)] : List Value).toArray below meth c H locs 0 0 (MQ below (QI G (shW 4 tl) ad σ post (s.heap.size)) ([.ref (ad 1), .int (iN v1), .int (iN v2), .int (iN v3), .int (iN v4)] : List Value).toArray s 0 0 (Aw ad (shW 4 tl).length s.heap.size)) (F0 m 59 ls []) := by
    intro v1_59 v2_59 v3_59 v5_59 H locs ls hw hW hl
    unfold w_X5_stepPrice_B59 at hw
    refine n_iconst hx hb dX5_stepPrice_59 ?_
    exact hB60 v1_59 v2_59 v3_59 v5_59 0 H locs ls hw hW (lv_sub hl [0, 1, 2, 3, 4] rfl)
  have hB38 : ∀  (v1_38 : Int) (v2_38 : Int) (v3_38 : Int) (v5_38 : Int) (H : Heap) (locs : List Loc) (ls : Array Slot), w_X5_stepPrice_B38 σ v1_38 v2_38 v3_38 v5_38 post → Wd G (shW 4 tl) ad σ (Aw ad (shW 4 tl).length s.heap.size) s.heap H locs → lv_has ls 10 [(0, .ref (ad 1)), (1, .int (iN v1_38)), (2, .int (iN v2_38)), (3, .int (iN v3_38)), (5, .int (iN v5_38))] → W p l e ({ frames := 2, cells := 0, slots := 0, locals := 47 } : Room) s m ([.ref (ad 1), .int (iN v1), .int (iN v2), .int (iN v3), .int (iN v4)] : List Value).toArray below meth c H locs 0 0 (MQ below (QI G (shW 4 tl) ad σ post (s.heap.size)) ([.ref (ad 1), .int (iN v1), .int (iN v2), .int (iN v3), .int (iN v4)] : List Value).toArray s 0 0 (Aw ad (shW 4 tl).length s.heap.size)) (F0 m 38 ls []) := by
    intro v1_38 v2_38 v3_38 v5_38 H locs ls hw hW hl
    unfold w_X5_stepPrice_B38 at hw
    refine lv_iload hx hb dX5_stepPrice_38 (lv_at hl 4 rfl) ?_
    refine n_iconst hx hb dX5_stepPrice_40 ?_
    refine n_icmp_eq hx hb hw.1 (rg_c _ rfl) hw.2.1 hw.2.2 (tgt := 59) dX5_stepPrice_41 (by decide) (fun hw => ?_) (fun hw => ?_)
    · exact hB59 v1_38 v2_38 v3_38 v5_38 H locs ls hw hW (lv_sub hl [0, 1, 2, 3, 4] rfl)
    · refine lv_aload_n hx hb dX5_stepPrice_44 rfl (lv_at hl 0 rfl) ?_
      refine lv_iload_n hx hb dX5_stepPrice_45 rfl (lv_at hl 1 rfl) ?_
      refine lv_iload_n hx hb dX5_stepPrice_46 rfl (lv_at hl 2 rfl) ?_
      refine fin_CI hW (run_U (k := 1) (As := [.int (iN v1_38), .int (iN v2_38)]) (rest := []) S hK hE hW (c_X2_firstOf l G 4 (by decide) tl ad σ v1_38 v2_38 _ hw H.size) rfl (hcP (by decide)) al_518 al_519 (se_X5_X2_firstOf (by decide)) al_452 al_3 al_459 rfl hd_X2_firstOf.2 rfl rfl ⟨Nat.le_of_ble_eq_true rfl, Nat.le_of_ble_eq_true rfl⟩ rfl hl.1 rfl (Nat.le_of_ble_eq_true rfl) dX5_stepPrice_47 ⟨Nat.zero_le _, Nat.zero_le _⟩) ?_
      intro r25 H locs hw hW
      refine lv_iload hx hb dX5_stepPrice_50 (lv_at hl 4 rfl) ?_
      refine n_icmp_ne hx hb hw.1 hw.2.1 hw.2.2.1 hw.2.2.2 (tgt := 59) dX5_stepPrice_52 (by decide) (fun hw => ?_) (fun hw => ?_)
      · exact hB59 v1_38 v2_38 v3_38 v5_38 H locs ls hw hW (lv_sub hl [0, 1, 2, 3, 4] rfl)
      · refine n_iconst hx hb dX5_stepPrice_55 ?_
        refine lv_goto (tgt := 60) hx hb dX5_stepPrice_56 (by decide) ?_
        exact hB60 v1_38 v2_38 v3_38 v5_38 2 H locs ls hw hW (lv_sub hl [0, 1, 2, 3, 4] rfl)
  unfold w_X5_stepPrice at hw
  refine lv_aload_n hx hb dX5_stepPrice_0 rfl (lv_at hl 0 rfl) ?_
  refine lv_iload_n hx hb dX5_stepPrice_1 rfl (lv_at hl 3 rfl) ?_
  refine lv_iload hx hb dX5_stepPrice_2 (lv_at hl 4 rfl) ?_
  refine fin_CI hW (run_U (k := 1) (As := [.int (iN v3), .int (iN v4)]) (rest := []) S hK hE hW (c_X2_firstOf l G 4 (by decide) tl ad σ v3 v4 _ hw s.heap.size) rfl (hcP (by decide)) al_518 al_519 (se_X5_X2_firstOf (by decide)) al_452 al_3 al_459 rfl hd_X2_firstOf.2 rfl rfl ⟨Nat.le_of_ble_eq_true rfl, Nat.le_of_ble_eq_true rfl⟩ rfl hl.1 rfl (Nat.le_of_ble_eq_true rfl) dX5_stepPrice_4 ⟨Nat.zero_le _, Nat.zero_le _⟩) ?_
  intro r1 H locs hw hW
  refine lv_istore (lv' := [(5, .int (iN r1)), (0, .ref (ad 1)), (1, .int (iN v1)), (2, .int (iN v2)), (3, .int (iN v3)), (4, .int (iN v4))]) hx hb dX5_stepPrice_7 hl (by decide) rfl (fun ls hl => ?_)
  refine lv_iload hx hb dX5_stepPrice_9 (lv_at hl 0 rfl) ?_
  refine n_iconst hx hb dX5_stepPrice_11 ?_
  refine n_icmp_eq hx hb hw.1 (rg_c _ rfl) hw.2.1 hw.2.2 (tgt := 38) dX5_stepPrice_12 (by decide) (fun hw => ?_) (fun hw => ?_)
  · exact hB38 v1 v2 v3 r1 H locs ls hw hW (lv_sub hl [1, 2, 3, 4, 0] rfl)
  · refine lv_aload_n hx hb dX5_stepPrice_15 rfl (lv_at hl 1 rfl) ?_
    refine lv_iload_n hx hb dX5_stepPrice_16 rfl (lv_at hl 2 rfl) ?_
    refine lv_iload_n hx hb dX5_stepPrice_17 rfl (lv_at hl 3 rfl) ?_
    refine n_iconst hx hb dX5_stepPrice_18 ?_
    refine lv_iload hx hb dX5_stepPrice_19 (lv_at hl 0 rfl) ?_
    refine n_isub hx hb dX5_stepPrice_21 ?_
    refine fin_CI hW (run_V (k := 1) (As := [.int (iN v1), .int (iN v2), .int (iN (1 - r1))]) (rest := []) S hK hE hW (c_X5_lastPlayed l G tl ad σ v1 v2 (1 - r1) _ hw H.size) rfl rfl al_521 al_523 sl_X5_lastPlayed al_9 al_524 hd_X5_lastPlayed rfl rfl ⟨Nat.le_of_ble_eq_true rfl, Nat.le_of_ble_eq_true rfl⟩ rfl hl.1 rfl (Nat.le_of_ble_eq_true rfl) dX5_stepPrice_22 ⟨Nat.zero_le _, Nat.zero_le _⟩) ?_
    intro r13 H locs hw hW
    refine lv_aload_n hx hb dX5_stepPrice_25 rfl (lv_at hl 1 rfl) ?_
    refine lv_iload_n hx hb dX5_stepPrice_26 rfl (lv_at hl 4 rfl) ?_
    refine lv_iload hx hb dX5_stepPrice_27 (lv_at hl 5 rfl) ?_
    refine fin_CI hW (run_U (k := 1) (As := [.int (iN v3), .int (iN v4)]) (rest := [.int (iN r13)]) S hK hE hW (c_X2_secondOf l G 4 (by decide) tl ad σ v3 v4 _ hw H.size) rfl (hcP (by decide)) al_525 al_526 (se_X5_X2_secondOf (by decide)) al_461 al_3 al_468 rfl hd_X2_secondOf.2 rfl rfl ⟨Nat.le_of_ble_eq_true rfl, Nat.le_of_ble_eq_true rfl⟩ rfl hl.1 rfl (Nat.le_of_ble_eq_true rfl) dX5_stepPrice_29 ⟨Nat.zero_le _, Nat.zero_le _⟩) ?_
    intro r15 H locs hw hW
    refine n_icmp_eq hx hb hw.1 hw.2.1 hw.2.2.1 hw.2.2.2 (tgt := 38) dX5_stepPrice_32 (by decide) (fun hw => ?_) (fun hw => ?_)
    · exact hB38 v1 v2 v3 r1 H locs ls hw hW (lv_sub hl [1, 2, 3, 4, 0] rfl)
    · refine n_bipush hx hb dX5_stepPrice_35 (by decide) ?_
      exact r_CI hx hb hr hlk hK hW hw dX5_stepPrice_37
