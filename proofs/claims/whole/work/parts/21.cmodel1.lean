set_option maxHeartbeats 4000000 in
set_option maxRecDepth 100000 in
theorem c_X10_in (l : Launch) (G : Gt) (κ : Nat)  (tl : Bool) (ad : Nat → Nat)  (σ : Mem) (v0 : Int) (v1 : Int) (v2 : Int) (post : Int → Prop) (hw : w_X10_in  σ v0 v1 v2 post) : CI l yX10_in (Cond.code yX10_in cX10_in 3 (some .boolean)) ({ frames := 0, cells := 0, slots := 0, locals := 0 } : Room) G (shW κ tl) ad σ [.int (iN v0), .int (iN v1), .int (iN v2)] post := by
  refine s_all (y := yX10_in) (code := cX10_in) (maxL := 3) (ret := (some .boolean)) (rm := ({ frames := 0, cells := 0, slots := 0, locals := 0 } : Room)) (av := [.int (iN v0), .int (iN v1), .int (iN v2)]) (Qc := fun sz => QI G (shW κ tl) ad σ post (sz)) (by decide) (Nat.le_of_ble_eq_true rfl) ?_
  intro p e s m below meth c S hr hlk _ hK hE hW ls hl
  obtain ⟨hx, hb, hml, hown, hts⟩ := id S
  replace hl : lv_has ls 3 [(0, .int (iN v0)), (1, .int (iN v1)), (2, .int (iN v2))] := hl
  have hB15 : ∀  (s0_15 : Int) (H : Heap) (locs : List Loc) (ls : Array Slot), w_X10_in_B15 σ s0_15 post → Wd G (shW κ tl) ad σ (Aw ad (shW κ tl).length s.heap.size) s.heap H locs → lv_has ls 3 [] → W p l e ({ frames := 0, cells := 0, slots := 0, locals := 0 } : Room) s m ([.int (iN v0), .int (iN v1), .int (iN v2)] : List Value).toArray below meth c H locs 0 0 (MQ below (QI G (shW κ tl) ad σ post (s.heap.size)) ([.int (iN v0), .int (iN v1), .int (iN v2)] : List Value).toArray s 0 0 (Aw ad (shW κ tl).length s.heap.size)) (F0 m 15 ls [.int (iN s0_15)]) := by
    intro s0_15 H locs ls hw hW hl
    unfold w_X10_in_B15 at hw
    exact rz_CI hx hb hr hlk hK hW hw.1 hw.2 dX10_in_15
  have hB14 : ∀   (H : Heap) (locs : List Loc) (ls : Array Slot), w_X10_in_B14 σ post → Wd G (shW κ tl) ad σ (Aw ad (shW κ tl).length s.heap.size) s.heap H locs → lv_has ls 3 [] → W p l e ({ frames := 0, cells := 0, slots := 0, locals := 0 } : Room) s m ([.int (iN v0), .int (iN v1), .int (iN v2)] : List Value).toArray below meth c H locs 0 0 (MQ below (QI G (shW κ tl) ad σ post (s.heap.size)) ([.int (iN v0), .int (iN v1), .int (iN v2)] : List Value).toArray s 0 0 (Aw ad (shW κ tl).length s.heap.size)) (F0 m 14 ls []) := by
    intro  H locs ls hw hW hl
    unfold w_X10_in_B14 at hw
    refine n_iconst hx hb dX10_in_14 ?_
    exact hB15 0 H locs ls hw hW (lv_sub hl [] rfl)
  unfold w_X10_in at hw
  refine lv_iload_n hx hb dX10_in_0 rfl (lv_at hl 0 rfl) ?_
  refine lv_iload_n hx hb dX10_in_1 rfl (lv_at hl 1 rfl) ?_
  refine n_icmp_lt hx hb hw.1 hw.2.1 hw.2.2.1 hw.2.2.2 (tgt := 14) dX10_in_2 (by decide) (fun hw => ?_) (fun hw => ?_)
  · exact hB14  s.heap [] ls hw hW (lv_sub hl [] rfl)
  · refine lv_iload_n hx hb dX10_in_5 rfl (lv_at hl 0 rfl) ?_
    refine lv_iload_n hx hb dX10_in_6 rfl (lv_at hl 2 rfl) ?_
    refine n_icmp_gt hx hb hw.1 hw.2.1 hw.2.2.1 hw.2.2.2 (tgt := 14) dX10_in_7 (by decide) (fun hw => ?_) (fun hw => ?_)
    · exact hB14  s.heap [] ls hw hW (lv_sub hl [] rfl)
    · refine n_iconst hx hb dX10_in_10 ?_
      refine lv_goto (tgt := 15) hx hb dX10_in_11 (by decide) ?_
      exact hB15 1 s.heap [] ls hw hW (lv_sub hl [] rfl)
set_option maxHeartbeats 4000000 in
set_option maxRecDepth 100000 in
theorem c_X10_far (l : Launch) (G : Gt) (κ : Nat)  (tl : Bool) (ad : Nat → Nat)  (σ : Mem) (v0 : Int) (v1 : Int) (post : Int → Prop) (hw : w_X10_far  σ v0 v1 post) : CI l yX10_far (Cond.code yX10_far cX10_far 2 (some .int)) ({ frames := 0, cells := 0, slots := 0, locals := 0 } : Room) G (shW κ tl) ad σ [.int (iN v0), .int (iN v1)] post := by
  refine s_all (y := yX10_far) (code := cX10_far) (maxL := 2) (ret := (some .int)) (rm := ({ frames := 0, cells := 0, slots := 0, locals := 0 } : Room)) (av := [.int (iN v0), .int (iN v1)]) (Qc := fun sz => QI G (shW κ tl) ad σ post (sz)) (by decide) (Nat.le_of_ble_eq_true rfl) ?_
  intro p e s m below meth c S hr hlk _ hK hE hW ls hl
  obtain ⟨hx, hb, hml, hown, hts⟩ := id S
  replace hl : lv_has ls 2 [(0, .int (iN v0)), (1, .int (iN v1))] := hl
  have hB14 : ∀  (s0_14 : Int) (H : Heap) (locs : List Loc) (ls : Array Slot), w_X10_far_B14 σ s0_14 post → Wd G (shW κ tl) ad σ (Aw ad (shW κ tl).length s.heap.size) s.heap H locs → lv_has ls 2 [] → W p l e ({ frames := 0, cells := 0, slots := 0, locals := 0 } : Room) s m ([.int (iN v0), .int (iN v1)] : List Value).toArray below meth c H locs 0 0 (MQ below (QI G (shW κ tl) ad σ post (s.heap.size)) ([.int (iN v0), .int (iN v1)] : List Value).toArray s 0 0 (Aw ad (shW κ tl).length s.heap.size)) (F0 m 14 ls [.int (iN s0_14)]) := by
    intro s0_14 H locs ls hw hW hl
    unfold w_X10_far_B14 at hw
    exact r_CI hx hb hr hlk hK hW hw dX10_far_14
  unfold w_X10_far at hw
  refine lv_iload_n hx hb dX10_far_0 rfl (lv_at hl 0 rfl) ?_
  refine lv_iload_n hx hb dX10_far_1 rfl (lv_at hl 1 rfl) ?_
  refine n_icmp_le hx hb hw.1 hw.2.1 hw.2.2.1 hw.2.2.2 (tgt := 11) dX10_far_2 (by decide) (fun hw => ?_) (fun hw => ?_)
  · refine lv_iload_n hx hb dX10_far_11 rfl (lv_at hl 1 rfl) ?_
    refine lv_iload_n hx hb dX10_far_12 rfl (lv_at hl 0 rfl) ?_
    refine n_isub hx hb dX10_far_13 ?_
    exact hB14 (v1 - v0) s.heap [] ls hw hW (lv_sub hl [] rfl)
  · refine lv_iload_n hx hb dX10_far_5 rfl (lv_at hl 0 rfl) ?_
    refine lv_iload_n hx hb dX10_far_6 rfl (lv_at hl 1 rfl) ?_
    refine n_isub hx hb dX10_far_7 ?_
    refine lv_goto (tgt := 14) hx hb dX10_far_8 (by decide) ?_
    exact hB14 (v0 - v1) s.heap [] ls hw hW (lv_sub hl [] rfl)
set_option maxHeartbeats 4000000 in
set_option maxRecDepth 100000 in
theorem c_X10_before (l : Launch) (G : Gt) (κ : Nat)  (tl : Bool) (ad : Nat → Nat)  (σ : Mem) (v1 : Int) (v2 : Int) (post : Int → Prop) (hw : w_X10_before  σ v1 v2 post) : CI l yX10_before (Cond.code yX10_before cX10_before 4 (some .int)) ({ frames := 0, cells := 0, slots := 0, locals := 0 } : Room) G (shW κ tl) ad σ [.ref (ad 17), .int (iN v1), .int (iN v2)] post := by
  refine s_all (y := yX10_before) (code := cX10_before) (maxL := 4) (ret := (some .int)) (rm := ({ frames := 0, cells := 0, slots := 0, locals := 0 } : Room)) (av := [.ref (ad 17), .int (iN v1), .int (iN v2)]) (Qc := fun sz => QI G (shW κ tl) ad σ post (sz)) (by decide) (Nat.le_of_ble_eq_true rfl) ?_
  intro p e s m below meth c S hr hlk _ hK hE hW ls hl
  obtain ⟨hx, hb, hml, hown, hts⟩ := id S
  replace hl : lv_has ls 4 [(0, .ref (ad 17)), (1, .int (iN v1)), (2, .int (iN v2))] := hl
  have hB34 : ∀  (s0_34 : Int) (H : Heap) (locs : List Loc) (ls : Array Slot), w_X10_before_B34 σ s0_34 post → Wd G (shW κ tl) ad σ (Aw ad (shW κ tl).length s.heap.size) s.heap H locs → lv_has ls 4 [] → W p l e ({ frames := 0, cells := 0, slots := 0, locals := 0 } : Room) s m ([.ref (ad 17), .int (iN v1), .int (iN v2)] : List Value).toArray below meth c H locs 0 0 (MQ below (QI G (shW κ tl) ad σ post (s.heap.size)) ([.ref (ad 17), .int (iN v1), .int (iN v2)] : List Value).toArray s 0 0 (Aw ad (shW κ tl).length s.heap.size)) (F0 m 34 ls [.int (iN s0_34)]) := by
    intro s0_34 H locs ls hw hW hl
    unfold w_X10_before_B34 at hw
    exact r_CI hx hb hr hlk hK hW hw dX10_before_34
  have hB24 : ∀  (v3_24 : Int) (H : Heap) (locs : List Loc) (ls : Array Slot), w_X10_before_B24 σ v3_24 post → Wd G (shW κ tl) ad σ (Aw ad (shW κ tl).length s.heap.size) s.heap H locs → lv_has ls 4 [(3, .int (iN v3_24))] → W p l e ({ frames := 0, cells := 0, slots := 0, locals := 0 } : Room) s m ([.ref (ad 17), .int (iN v1), .int (iN v2)] : List Value).toArray below meth c H locs 0 0 (MQ below (QI G (shW κ tl) ad σ post (s.heap.size)) ([.ref (ad 17), .int (iN v1), .int (iN v2)] : List Value).toArray s 0 0 (Aw ad (shW κ tl).length s.heap.size)) (F0 m 24 ls []) := by
    intro v3_24 H locs ls hw hW hl
    unfold w_X10_before_B24 at hw
    refine lv_iload_n hx hb dX10_before_24 rfl (lv_at hl 0 rfl) ?_
    refine n_if_ge hx hb hw.1 hw.2.1 hw.2.2 (tgt := 33) dX10_before_25 (by decide) (fun hw => ?_) (fun hw => ?_)
    · refine lv_iload_n hx hb dX10_before_33 rfl (lv_at hl 0 rfl) ?_
      exact hB34 v3_24 H locs ls hw hW (lv_sub hl [] rfl)
    · refine n_bipush hx hb dX10_before_28 (by decide) ?_
      refine lv_goto (tgt := 34) hx hb dX10_before_30 (by decide) ?_
      exact hB34 (-2) H locs ls hw hW (lv_sub hl [] rfl)
  have hL4 : ∀ (v2_4 : Int) (n : Nat) (v3_4 : Int) (H : Heap) (locs : List Loc) (ls : Array Slot), w_X10_before_L4 σ v2_4 post n v3_4 → Wd G (shW κ tl) ad σ (Aw ad (shW κ tl).length s.heap.size) s.heap H locs → lv_has ls 4 [(0, .ref (ad 17)), (2, .int (iN v2_4)), (3, .int (iN v3_4))] → W p l e ({ frames := 0, cells := 0, slots := 0, locals := 0 } : Room) s m ([.ref (ad 17), .int (iN v1), .int (iN v2)] : List Value).toArray below meth c H locs 0 0 (MQ below (QI G (shW κ tl) ad σ post (s.heap.size)) ([.ref (ad 17), .int (iN v1), .int (iN v2)] : List Value).toArray s 0 0 (Aw ad (shW κ tl).length s.heap.size)) (F0 m 4 ls []) := by
    intro v2_4 n
    induction n with
    | zero =>
      intro v3_4 H locs ls hw
      exact hw.elim
    | succ n4 ih4 =>
      intro v3_4 H locs ls hw hW hl
      replace hw : w_X10_before_L4_body σ v2_4 post (w_X10_before_L4 σ v2_4 post n4) v3_4 := hw
      unfold w_X10_before_L4_body at hw
      refine lv_iload_n hx hb dX10_before_4 rfl (lv_at hl 2 rfl) ?_
      refine n_if_lt hx hb hw.1 hw.2.1 hw.2.2 (tgt := 24) dX10_before_5 (by decide) (fun hw => ?_) (fun hw => ?_)
      · exact hB24 v3_4 H locs ls hw hW (lv_sub hl [2] rfl)
      · refine lv_aload_n hx hb dX10_before_8 rfl (lv_at hl 0 rfl) ?_
        refine g_getr hx hb hts hown hK hW 17 rfl (q := 18) rfl uw_X10 2 (by decide) rfl al_765 (fun _ h9 => h9) dX10_before_9 ?_
        refine lv_iload_n hx hb dX10_before_12 rfl (lv_at hl 2 rfl) ?_
        refine g_ald hx hb hK hW 18 rfl hw.1 dX10_before_13 ?_
        replace hw := hw.2
        refine lv_iload_n hx hb dX10_before_14 rfl (lv_at hl 1 rfl) ?_
        refine n_icmp_eq hx hb hw.1 hw.2.1 hw.2.2.1 hw.2.2.2 (tgt := 24) dX10_before_15 (by decide) (fun hw => ?_) (fun hw => ?_)
        · exact hB24 v3_4 H locs ls hw hW (lv_sub hl [2] rfl)
        · refine lv_iinc (v := iN (v3_4 + (-1))) (lv' := [(3, .int (iN (v3_4 + (-1)))), (0, .ref (ad 17)), (2, .int (iN v2_4))]) hx hb dX10_before_18 hl (k := 2) rfl (iN_add _ _) (by decide) rfl (fun ls hl => ?_)
          refine lv_goto (tgt := 4) hx hb dX10_before_21 (by decide) ?_
          exact ih4 (v3_4 + (-1)) H locs ls hw hW (lv_sub hl [1, 2, 0] rfl)
  unfold w_X10_before at hw
  refine lv_iload_n hx hb dX10_before_0 rfl (lv_at hl 1 rfl) ?_
  refine n_iconst hx hb dX10_before_1 ?_
  refine n_isub hx hb dX10_before_2 ?_
  refine lv_istore_n (lv' := [(3, .int (iN (v1 - 1))), (0, .ref (ad 17)), (1, .int (iN v1)), (2, .int (iN v2))]) hx hb dX10_before_3 rfl hl (by decide) rfl (fun ls hl => ?_)
  obtain ⟨n, hw⟩ := hw
  exact hL4 v2 n (v1 - 1) s.heap [] ls hw hW (lv_sub hl [1, 3, 0] rfl)
set_option maxHeartbeats 4000000 in
set_option maxRecDepth 100000 in
theorem c_X10_after (l : Launch) (G : Gt) (κ : Nat)  (tl : Bool) (ad : Nat → Nat)  (σ : Mem) (v1 : Int) (post : Int → Prop) (hw : w_X10_after  σ v1 post) : CI l yX10_after (Cond.code yX10_after cX10_after 3 (some .int)) ({ frames := 0, cells := 0, slots := 0, locals := 0 } : Room) G (shW κ tl) ad σ [.ref (ad 17), .int (iN v1)] post := by
  refine s_all (y := yX10_after) (code := cX10_after) (maxL := 3) (ret := (some .int)) (rm := ({ frames := 0, cells := 0, slots := 0, locals := 0 } : Room)) (av := [.ref (ad 17), .int (iN v1)]) (Qc := fun sz => QI G (shW κ tl) ad σ post (sz)) (by decide) (Nat.le_of_ble_eq_true rfl) ?_
  intro p e s m below meth c S hr hlk _ hK hE hW ls hl
  obtain ⟨hx, hb, hml, hown, hts⟩ := id S
  replace hl : lv_has ls 3 [(0, .ref (ad 17)), (1, .int (iN v1))] := hl
  have hB47 : ∀  (s0_47 : Int) (H : Heap) (locs : List Loc) (ls : Array Slot), w_X10_after_B47 σ s0_47 post → Wd G (shW κ tl) ad σ (Aw ad (shW κ tl).length s.heap.size) s.heap H locs → lv_has ls 3 [] → W p l e ({ frames := 0, cells := 0, slots := 0, locals := 0 } : Room) s m ([.ref (ad 17), .int (iN v1)] : List Value).toArray below meth c H locs 0 0 (MQ below (QI G (shW κ tl) ad σ post (s.heap.size)) ([.ref (ad 17), .int (iN v1)] : List Value).toArray s 0 0 (Aw ad (shW κ tl).length s.heap.size)) (F0 m 47 ls [.int (iN s0_47)]) := by
    intro s0_47 H locs ls hw hW hl
    unfold w_X10_after_B47 at hw
    exact r_CI hx hb hr hlk hK hW hw dX10_after_47
  have hB33 : ∀  (v2_33 : Int) (H : Heap) (locs : List Loc) (ls : Array Slot), w_X10_after_B33 σ v2_33 post → Wd G (shW κ tl) ad σ (Aw ad (shW κ tl).length s.heap.size) s.heap H locs → lv_has ls 3 [(0, .ref (ad 17)), (2, .int (iN v2_33))] → W p l e ({ frames := 0, cells := 0, slots := 0, locals := 0 } : Room) s m ([.ref (ad 17), .int (iN v1)] : List Value).toArray below meth c H locs 0 0 (MQ below (QI G (shW κ tl) ad σ post (s.heap.size)) ([.ref (ad 17), .int (iN v1)] : List Value).toArray s 0 0 (Aw ad (shW κ tl).length s.heap.size)) (F0 m 33 ls []) := by
    intro v2_33 H locs ls hw hW hl
    unfold w_X10_after_B33 at hw
    refine lv_iload_n hx hb dX10_after_33 rfl (lv_at hl 1 rfl) ?_
    refine lv_aload_n hx hb dX10_after_34 rfl (lv_at hl 0 rfl) ?_
    refine g_get hx hb hts hown hK hW 17 rfl rfl uw_X10 1 (by decide) rfl al_764 (fun _ h9 => h9) dX10_after_35 ?_
    refine n_icmp_ge hx hb hw.1 hw.2.1 hw.2.2.1 hw.2.2.2 (tgt := 45) dX10_after_38 (by decide) (fun hw => ?_) (fun hw => ?_)
    · refine n_bipush hx hb dX10_after_45 (by decide) ?_
      exact hB47 (-2) H locs ls hw hW (lv_sub hl [] rfl)
    · refine lv_iload_n hx hb dX10_after_41 rfl (lv_at hl 1 rfl) ?_
      refine lv_goto (tgt := 47) hx hb dX10_after_42 (by decide) ?_
      exact hB47 v2_33 H locs ls hw hW (lv_sub hl [] rfl)
  have hL4 : ∀ (v1_4 : Int) (n : Nat) (v2_4 : Int) (H : Heap) (locs : List Loc) (ls : Array Slot), w_X10_after_L4 σ v1_4 post n v2_4 → Wd G (shW κ tl) ad σ (Aw ad (shW κ tl).length s.heap.size) s.heap H locs → lv_has ls 3 [(0, .ref (ad 17)), (1, .int (iN v1_4)), (2, .int (iN v2_4))] → W p l e ({ frames := 0, cells := 0, slots := 0, locals := 0 } : Room) s m ([.ref (ad 17), .int (iN v1)] : List Value).toArray below meth c H locs 0 0 (MQ below (QI G (shW κ tl) ad σ post (s.heap.size)) ([.ref (ad 17), .int (iN v1)] : List Value).toArray s 0 0 (Aw ad (shW κ tl).length s.heap.size)) (F0 m 4 ls []) := by
    intro v1_4 n
    induction n with
    | zero =>
      intro v2_4 H locs ls hw
      exact hw.elim
    | succ n4 ih4 =>
      intro v2_4 H locs ls hw hW hl
      replace hw : w_X10_after_L4_body σ v1_4 post (w_X10_after_L4 σ v1_4 post n4) v2_4 := hw
      unfold w_X10_after_L4_body at hw
      refine lv_iload_n hx hb dX10_after_4 rfl (lv_at hl 2 rfl) ?_
      refine lv_aload_n hx hb dX10_after_5 rfl (lv_at hl 0 rfl) ?_
      refine g_get hx hb hts hown hK hW 17 rfl rfl uw_X10 1 (by decide) rfl al_764 (fun _ h9 => h9) dX10_after_6 ?_
      refine n_icmp_ge hx hb hw.1 hw.2.1 hw.2.2.1 hw.2.2.2 (tgt := 33) dX10_after_9 (by decide) (fun hw => ?_) (fun hw => ?_)
      · exact hB33 v2_4 H locs ls hw hW (lv_sub hl [0, 2] rfl)
      · refine lv_aload_n hx hb dX10_after_12 rfl (lv_at hl 0 rfl) ?_
        refine g_getr hx hb hts hown hK hW 17 rfl (q := 18) rfl uw_X10 2 (by decide) rfl al_765 (fun _ h9 => h9) dX10_after_13 ?_
        refine lv_iload_n hx hb dX10_after_16 rfl (lv_at hl 2 rfl) ?_
        refine g_ald hx hb hK hW 18 rfl hw.1 dX10_after_17 ?_
        replace hw := hw.2
        refine lv_aload_n hx hb dX10_after_18 rfl (lv_at hl 0 rfl) ?_
        refine g_getr hx hb hts hown hK hW 17 rfl (q := 18) rfl uw_X10 2 (by decide) rfl al_765 (fun _ h9 => h9) dX10_after_19 ?_
        refine lv_iload_n hx hb dX10_after_22 rfl (lv_at hl 1 rfl) ?_
        refine g_ald hx hb hK hW 18 rfl hw.1 dX10_after_23 ?_
        replace hw := hw.2
        refine n_icmp_eq hx hb hw.1 hw.2.1 hw.2.2.1 hw.2.2.2 (tgt := 33) dX10_after_24 (by decide) (fun hw => ?_) (fun hw => ?_)
        · exact hB33 v2_4 H locs ls hw hW (lv_sub hl [0, 2] rfl)
        · refine lv_iinc (v := iN (v2_4 + 1)) (lv' := [(2, .int (iN (v2_4 + 1))), (0, .ref (ad 17)), (1, .int (iN v1_4))]) hx hb dX10_after_27 hl (k := 2) rfl (iN_add _ _) (by decide) rfl (fun ls hl => ?_)
          refine lv_goto (tgt := 4) hx hb dX10_after_30 (by decide) ?_
          exact ih4 (v2_4 + 1) H locs ls hw hW (lv_sub hl [1, 2, 0] rfl)
  unfold w_X10_after at hw
  refine lv_iload_n hx hb dX10_after_0 rfl (lv_at hl 1 rfl) ?_
  refine n_iconst hx hb dX10_after_1 ?_
  refine n_iadd hx hb dX10_after_2 ?_
  refine lv_istore_n (lv' := [(2, .int (iN (v1 + 1))), (0, .ref (ad 17)), (1, .int (iN v1))]) hx hb dX10_after_3 rfl hl (by decide) rfl (fun ls hl => ?_)
  obtain ⟨n, hw⟩ := hw
  exact hL4 v1 n (v1 + 1) s.heap [] ls hw hW (lv_sub hl [1, 2, 0] rfl)
set_option maxHeartbeats 4000000 in
set_option maxRecDepth 100000 in
theorem c_X10_isWell (l : Launch) (G : Gt) (κ : Nat)  (tl : Bool) (ad : Nat → Nat)  (σ : Mem) (v1 : Int) (v2 : Int) (v3 : Int) (v4 : Int) (v5 : Int) (v6 : Int) (post : Int → Prop) (hw : w_X10_isWell  σ v1 v2 v3 v4 v5 v6 post) : CI l yX10_isWell (Cond.code yX10_isWell cX10_isWell 7 (some .boolean)) ({ frames := 1, cells := 0, slots := 0, locals := 22 } : Room) G (shW κ tl) ad σ [.ref (ad 17), .int (iN v1), .int (iN v2), .int (iN v3), .int (iN v4), .int (iN v5), .int (iN v6)] post := by
  refine s_all (y := yX10_isWell) (code := cX10_isWell) (maxL := 7) (ret := (some .boolean)) (rm := ({ frames := 1, cells := 0, slots := 0, locals := 22 } : Room)) (av := [.ref (ad 17), .int (iN v1), .int (iN v2), .int (iN v3), .int (iN v4), .int (iN v5), .int (iN v6)]) (Qc := fun sz => QI G (shW κ tl) ad σ post (sz)) (by decide) (Nat.le_of_ble_eq_true rfl) ?_
  intro p e s m below meth c S hr hlk _ hK hE hW ls hl
  obtain ⟨hx, hb, hml, hown, hts⟩ := id S
  replace hl : lv_has ls 7 [(0, .ref (ad 17)), (1, .int (iN v1)), (2, .int (iN v2)), (3, .int (iN v3)), (4, .int (iN v4)), (5, .int (iN v5)), (6, .int (iN v6))] := hl
  have hB137 : ∀  (s0_137 : Int) (H : Heap) (locs : List Loc) (ls : Array Slot), w_X10_isWell_B137 σ s0_137 post → Wd G (shW κ tl) ad σ (Aw ad (shW κ tl).length s.heap.size) s.heap H locs → lv_has ls 7 [] → W p l e ({ frames := 1, cells := 0, slots := 0, locals := 22 } : Room) s m ([.ref (ad 17), .int (iN v1), .int (iN v2), .int (iN v3), .int (iN v4), .int (iN v5), .int (iN v6)] : List Value).toArray below meth c H locs 0 0 (MQ below (QI G (shW κ tl) ad σ post (s.heap.size)) ([.ref (ad 17), .int (iN v1), .int (iN v2), .int (iN v3), .int (iN v4), .int (iN v5), .int (iN v6)] : List Value).toArray s 0 0 (Aw ad (shW κ tl).length s.heap.size)) (F0 m 137 ls [.int (iN s0_137)]) := by
    intro s0_137 H locs ls hw hW hl
    unfold w_X10_isWell_B137 at hw
    exact rz_CI hx hb hr hlk hK hW hw.1 hw.2 dX10_isWell_137
  have hB136 : ∀   (H : Heap) (locs : List Loc) (ls : Array Slot), w_X10_isWell_B136 σ post → Wd G (shW κ tl) ad σ (Aw ad (shW κ tl).length s.heap.size) s.heap H locs → lv_has ls 7 [] → W p l e ({ frames := 1, cells := 0, slots := 0, locals := 22 } : Room) s m ([.ref (ad 17), .int (iN v1), .int (iN v2), .int (iN v3), .int (iN v4), .int (iN v5), .int (iN v6)] : List Value).toArray below meth c H locs 0 0 (MQ below (QI G (shW κ tl) ad σ post (s.heap.size)) ([.ref (ad 17), .int (iN v1), .int (iN v2), .int (iN v3), .int (iN v4), .int (iN v5), .int (iN v6)] : List Value).toArray s 0 0 (Aw ad (shW κ tl).length s.heap.size)) (F0 m 136 ls []) := by
    intro  H locs ls hw hW hl
    unfold w_X10_isWell_B136 at hw
    refine n_iconst hx hb dX10_isWell_136 ?_
    exact hB137 0 H locs ls hw hW (lv_sub hl [] rfl)
  have hB132 : ∀   (H : Heap) (locs : List Loc) (ls : Array Slot), w_X10_isWell_B132 σ post → Wd G (shW κ tl) ad σ (Aw ad (shW κ tl).length s.heap.size) s.heap H locs → lv_has ls 7 [] → W p l e ({ frames := 1, cells := 0, slots := 0, locals := 22 } : Room) s m ([.ref (ad 17), .int (iN v1), .int (iN v2), .int (iN v3), .int (iN v4), .int (iN v5), .int (iN v6)] : List Value).toArray below meth c H locs 0 0 (MQ below (QI G (shW κ tl) ad σ post (s.heap.size)) ([.ref (ad 17), .int (iN v1), .int (iN v2), .int (iN v3), .int (iN v4), .int (iN v5), .int (iN v6)] : List Value).toArray s 0 0 (Aw ad (shW κ tl).length s.heap.size)) (F0 m 132 ls []) := by
    intro  H locs ls hw hW hl
    unfold w_X10_isWell_B132 at hw
    refine n_iconst hx hb dX10_isWell_132 ?_
    refine lv_goto (tgt := 137) hx hb dX10_isWell_133 (by decide) ?_
    exact hB137 1 H locs ls hw hW (lv_sub hl [] rfl)
  have hB102 : ∀   (H : Heap) (locs : List Loc) (ls : Array Slot), w_X10_isWell_B102 σ post → Wd G (shW κ tl) ad σ (Aw ad (shW κ tl).length s.heap.size) s.heap H locs → lv_has ls 7 [] → W p l e ({ frames := 1, cells := 0, slots := 0, locals := 22 } : Room) s m ([.ref (ad 17), .int (iN v1), .int (iN v2), .int (iN v3), .int (iN v4), .int (iN v5), .int (iN v6)] : List Value).toArray below meth c H locs 0 0 (MQ below (QI G (shW κ tl) ad σ post (s.heap.size)) ([.ref (ad 17), .int (iN v1), .int (iN v2), .int (iN v3), .int (iN v4), .int (iN v5), .int (iN v6)] : List Value).toArray s 0 0 (Aw ad (shW κ tl).length s.heap.size)) (F0 m 102 ls []) := by
    intro  H locs ls hw hW hl
    unfold w_X10_isWell_B102 at hw
    refine n_iconst hx hb dX10_isWell_102 ?_
    exact rz_CI hx hb hr hlk hK hW (Or.inl rfl) hw dX10_isWell_103
  have hB71 : ∀  (s0_71 : Int) (H : Heap) (locs : List Loc) (ls : Array Slot), w_X10_isWell_B71 σ s0_71 post → Wd G (shW κ tl) ad σ (Aw ad (shW κ tl).length s.heap.size) s.heap H locs → lv_has ls 7 [] → W p l e ({ frames := 1, cells := 0, slots := 0, locals := 22 } : Room) s m ([.ref (ad 17), .int (iN v1), .int (iN v2), .int (iN v3), .int (iN v4), .int (iN v5), .int (iN v6)] : List Value).toArray below meth c H locs 0 0 (MQ below (QI G (shW κ tl) ad σ post (s.heap.size)) ([.ref (ad 17), .int (iN v1), .int (iN v2), .int (iN v3), .int (iN v4), .int (iN v5), .int (iN v6)] : List Value).toArray s 0 0 (Aw ad (shW κ tl).length s.heap.size)) (F0 m 71 ls [.int (iN s0_71)]) := by
    intro s0_71 H locs ls hw hW hl
    unfold w_X10_isWell_B71 at hw
    exact rz_CI hx hb hr hlk hK hW hw.1 hw.2 dX10_isWell_71
  have hB52 : ∀   (H : Heap) (locs : List Loc) (ls : Array Slot), w_X10_isWell_B52 σ post → Wd G (shW κ tl) ad σ (Aw ad (shW κ tl).length s.heap.size) s.heap H locs → lv_has ls 7 [] → W p l e ({ frames := 1, cells := 0, slots := 0, locals := 22 } : Room) s m ([.ref (ad 17), .int (iN v1), .int (iN v2), .int (iN v3), .int (iN v4), .int (iN v5), .int (iN v6)] : List Value).toArray below meth c H locs 0 0 (MQ below (QI G (shW κ tl) ad σ post (s.heap.size)) ([.ref (ad 17), .int (iN v1), .int (iN v2), .int (iN v3), .int (iN v4), .int (iN v5), .int (iN v6)] : List Value).toArray s 0 0 (Aw ad (shW κ tl).length s.heap.size)) (F0 m 52 ls []) := by
    intro  H locs ls hw hW hl
    unfold w_X10_isWell_B52 at hw
    refine n_iconst hx hb dX10_isWell_52 ?_
    exact rz_CI hx hb hr hlk hK hW (Or.inl rfl) hw dX10_isWell_53
  have hB14 : ∀  (v2_14 : Int) (v3_14 : Int) (v4_14 : Int) (v5_14 : Int) (v6_14 : Int) (s0_14 : Int) (s1_14 : Int) (s2_14 : Int) (H : Heap) (locs : List Loc) (ls : Array Slot), w_X10_isWell_B14 σ v2_14 v3_14 v4_14 v5_14 v6_14 s0_14 s1_14 s2_14 post → Wd G (shW κ tl) ad σ (Aw ad (shW κ tl).length s.heap.size) s.heap H locs → lv_has ls 7 [(0, .ref (ad 17)), (2, .int (iN v2_14)), (3, .int (iN v3_14)), (4, .int (iN v4_14)), (5, .int (iN v5_14)), (6, .int (iN v6_14))] → W p l e ({ frames := 1, cells := 0, slots := 0, locals := 22 } : Room) s m ([.ref (ad 17), .int (iN v1), .int (iN v2), .int (iN v3), .int (iN v4), .int (iN v5), .int (iN v6)] : List Value).toArray below meth c H locs 0 0 (MQ below (QI G (shW κ tl) ad σ post (s.heap.size)) ([.ref (ad 17), .int (iN v1), .int (iN v2), .int (iN v3), .int (iN v4), .int (iN v5), .int (iN v6)] : List Value).toArray s 0 0 (Aw ad (shW κ tl).length s.heap.size)) (F0 m 14 ls [.int (iN s0_14), .int (iN s1_14), .int (iN s2_14)]) := by
    intro v2_14 v3_14 v4_14 v5_14 v6_14 s0_14 s1_14 s2_14 H locs ls hw hW hl
    unfold w_X10_isWell_B14 at hw
    refine fin_CI hW (run_S (As := [.int (iN s2_14), .int (iN s1_14), .int (iN s0_14)]) (rest := []) S hK hE hW (c_X10_in l G κ tl ad σ s2_14 s1_14 s0_14 _ hw H.size) al_833 al_834 al_11 al_835 hd_X10_in.2 rfl rfl ⟨Nat.le_of_ble_eq_true rfl, Nat.le_of_ble_eq_true rfl⟩ rfl hl.1 rfl (Nat.le_of_ble_eq_true rfl) dX10_isWell_14 ⟨Nat.zero_le _, Nat.zero_le _⟩) ?_
    intro r13 H locs hw hW
    refine n_if_eq hx hb hw.1 hw.2.1 hw.2.2 (tgt := 52) dX10_isWell_17 (by decide) (fun hw => ?_) (fun hw => ?_)
    · exact hB52  H locs ls hw hW (lv_sub hl [] rfl)
    · refine lv_iload_n hx hb dX10_isWell_20 rfl (lv_at hl 1 rfl) ?_
      refine n_iconst hx hb dX10_isWell_21 ?_
      refine n_ldc (n := 100000) hx hb hown (hts _ (List.mem_cons_of_mem _ al_836)) (by decide) dX10_isWell_22 ?_
      refine fin_CI hW (run_S (As := [.int (iN v2_14), .int (iN 0), .int (iN 100000)]) (rest := []) S hK hE hW (c_X10_in l G κ tl ad σ v2_14 0 100000 _ hw H.size) al_833 al_834 al_11 al_835 hd_X10_in.2 rfl rfl ⟨Nat.le_of_ble_eq_true rfl, Nat.le_of_ble_eq_true rfl⟩ rfl hl.1 rfl (Nat.le_of_ble_eq_true rfl) dX10_isWell_24 ⟨Nat.zero_le _, Nat.zero_le _⟩) ?_
      intro r15 H locs hw hW
      refine n_if_eq hx hb hw.1 hw.2.1 hw.2.2 (tgt := 52) dX10_isWell_27 (by decide) (fun hw => ?_) (fun hw => ?_)
      · exact hB52  H locs ls hw hW (lv_sub hl [] rfl)
      · refine lv_iload_n hx hb dX10_isWell_30 rfl (lv_at hl 2 rfl) ?_
        refine n_iconst hx hb dX10_isWell_31 ?_
        refine n_sipush hx hb dX10_isWell_32 (by decide) ?_
        refine fin_CI hW (run_S (As := [.int (iN v3_14), .int (iN 1), .int (iN 1000)]) (rest := []) S hK hE hW (c_X10_in l G κ tl ad σ v3_14 1 1000 _ hw H.size) al_833 al_834 al_11 al_835 hd_X10_in.2 rfl rfl ⟨Nat.le_of_ble_eq_true rfl, Nat.le_of_ble_eq_true rfl⟩ rfl hl.1 rfl (Nat.le_of_ble_eq_true rfl) dX10_isWell_35 ⟨Nat.zero_le _, Nat.zero_le _⟩) ?_
        intro r17 H locs hw hW
        refine n_if_eq hx hb hw.1 hw.2.1 hw.2.2 (tgt := 52) dX10_isWell_38 (by decide) (fun hw => ?_) (fun hw => ?_)
        · exact hB52  H locs ls hw hW (lv_sub hl [] rfl)
        · refine lv_iload hx hb dX10_isWell_41 (lv_at hl 3 rfl) ?_
          refine n_iconst hx hb dX10_isWell_43 ?_
          refine n_bipush hx hb dX10_isWell_44 (by decide) ?_
          refine fin_CI hW (run_S (As := [.int (iN v4_14), .int (iN 0), .int (iN 127)]) (rest := []) S hK hE hW (c_X10_in l G κ tl ad σ v4_14 0 127 _ hw H.size) al_833 al_834 al_11 al_835 hd_X10_in.2 rfl rfl ⟨Nat.le_of_ble_eq_true rfl, Nat.le_of_ble_eq_true rfl⟩ rfl hl.1 rfl (Nat.le_of_ble_eq_true rfl) dX10_isWell_46 ⟨Nat.zero_le _, Nat.zero_le _⟩) ?_
          intro r19 H locs hw hW
          refine n_if_ne hx hb hw.1 hw.2.1 hw.2.2 (tgt := 54) dX10_isWell_49 (by decide) (fun hw => ?_) (fun hw => ?_)
          · refine lv_iload hx hb dX10_isWell_54 (lv_at hl 4 rfl) ?_
            refine n_iconst hx hb dX10_isWell_56 ?_
            refine n_icmp_ne hx hb hw.1 (rg_c _ rfl) hw.2.1 hw.2.2 (tgt := 72) dX10_isWell_57 (by decide) (fun hw => ?_) (fun hw => ?_)
            · refine lv_aload_n hx hb dX10_isWell_72 rfl (lv_at hl 0 rfl) ?_
              refine g_get hx hb hts hown hK hW 17 rfl rfl uw_X10 0 (by decide) rfl al_763 (fun _ h9 => h9) dX10_isWell_73 ?_
              refine n_iconst hx hb dX10_isWell_76 ?_
              refine n_icmp_eq hx hb hw.1 (rg_c _ rfl) hw.2.1 hw.2.2 (tgt := 102) dX10_isWell_77 (by decide) (fun hw => ?_) (fun hw => ?_)
              · exact hB102  H locs ls hw hW (lv_sub hl [] rfl)
              · refine lv_aload_n hx hb dX10_isWell_80 rfl (lv_at hl 0 rfl) ?_
                refine g_get hx hb hts hown hK hW 17 rfl rfl uw_X10 0 (by decide) rfl al_763 (fun _ h9 => h9) dX10_isWell_81 ?_
                refine n_iconst hx hb dX10_isWell_84 ?_
                refine n_icmp_eq hx hb hw.1 (rg_c _ rfl) hw.2.1 hw.2.2 (tgt := 102) dX10_isWell_85 (by decide) (fun hw => ?_) (fun hw => ?_)
                · exact hB102  H locs ls hw hW (lv_sub hl [] rfl)
                · refine lv_iload hx hb dX10_isWell_88 (lv_at hl 4 rfl) ?_
                  refine lv_iload hx hb dX10_isWell_90 (lv_at hl 3 rfl) ?_
                  refine n_iconst hx hb dX10_isWell_92 ?_
                  refine n_iadd hx hb dX10_isWell_93 ?_
                  refine n_bipush hx hb dX10_isWell_94 (by decide) ?_
                  refine fin_CI hW (run_S (As := [.int (iN v5_14), .int (iN (v4_14 + 1)), .int (iN 127)]) (rest := []) S hK hE hW (c_X10_in l G κ tl ad σ v5_14 (v4_14 + 1) 127 _ hw H.size) al_833 al_834 al_11 al_835 hd_X10_in.2 rfl rfl ⟨Nat.le_of_ble_eq_true rfl, Nat.le_of_ble_eq_true rfl⟩ rfl hl.1 rfl (Nat.le_of_ble_eq_true rfl) dX10_isWell_96 ⟨Nat.zero_le _, Nat.zero_le _⟩) ?_
                  intro r21 H locs hw hW
                  refine n_if_ne hx hb hw.1 hw.2.1 hw.2.2 (tgt := 104) dX10_isWell_99 (by decide) (fun hw => ?_) (fun hw => ?_)
                  · refine lv_iload hx hb dX10_isWell_104 (lv_at hl 5 rfl) ?_
                    refine n_iconst hx hb dX10_isWell_106 ?_
                    refine n_icmp_eq hx hb hw.1 (rg_c _ rfl) hw.2.1 hw.2.2 (tgt := 132) dX10_isWell_107 (by decide) (fun hw => ?_) (fun hw => ?_)
                    · exact hB132  H locs ls hw hW (lv_sub hl [] rfl)
                    · refine lv_aload_n hx hb dX10_isWell_110 rfl (lv_at hl 0 rfl) ?_
                      refine g_get hx hb hts hown hK hW 17 rfl rfl uw_X10 0 (by decide) rfl al_763 (fun _ h9 => h9) dX10_isWell_111 ?_
                      refine n_iconst hx hb dX10_isWell_114 ?_
                      refine n_icmp_eq hx hb hw.1 (rg_c _ rfl) hw.2.1 hw.2.2 (tgt := 136) dX10_isWell_115 (by decide) (fun hw => ?_) (fun hw => ?_)
                      · exact hB136  H locs ls hw hW (lv_sub hl [] rfl)
                      · refine lv_iload hx hb dX10_isWell_118 (lv_at hl 5 rfl) ?_
                        refine lv_iload hx hb dX10_isWell_120 (lv_at hl 4 rfl) ?_
                        refine n_iconst hx hb dX10_isWell_122 ?_
                        refine n_iadd hx hb dX10_isWell_123 ?_
                        refine n_bipush hx hb dX10_isWell_124 (by decide) ?_
                        refine fin_CI hW (run_S (As := [.int (iN v6_14), .int (iN (v5_14 + 1)), .int (iN 127)]) (rest := []) S hK hE hW (c_X10_in l G κ tl ad σ v6_14 (v5_14 + 1) 127 _ hw H.size) al_833 al_834 al_11 al_835 hd_X10_in.2 rfl rfl ⟨Nat.le_of_ble_eq_true rfl, Nat.le_of_ble_eq_true rfl⟩ rfl hl.1 rfl (Nat.le_of_ble_eq_true rfl) dX10_isWell_126 ⟨Nat.zero_le _, Nat.zero_le _⟩) ?_
                        intro r23 H locs hw hW
                        refine n_if_eq hx hb hw.1 hw.2.1 hw.2.2 (tgt := 136) dX10_isWell_129 (by decide) (fun hw => ?_) (fun hw => ?_)
                        · exact hB136  H locs ls hw hW (lv_sub hl [] rfl)
                        · exact hB132  H locs ls hw hW (lv_sub hl [] rfl)
                  · exact hB102  H locs ls hw hW (lv_sub hl [] rfl)
            · refine lv_iload hx hb dX10_isWell_60 (lv_at hl 5 rfl) ?_
              refine n_iconst hx hb dX10_isWell_62 ?_
              refine n_icmp_ne hx hb hw.1 (rg_c _ rfl) hw.2.1 hw.2.2 (tgt := 70) dX10_isWell_63 (by decide) (fun hw => ?_) (fun hw => ?_)
              · refine n_iconst hx hb dX10_isWell_70 ?_
                exact hB71 0 H locs ls hw hW (lv_sub hl [] rfl)
              · refine n_iconst hx hb dX10_isWell_66 ?_
                refine lv_goto (tgt := 71) hx hb dX10_isWell_67 (by decide) ?_
                exact hB71 1 H locs ls hw hW (lv_sub hl [] rfl)
          · exact hB52  H locs ls hw hW (lv_sub hl [] rfl)
  unfold w_X10_isWell at hw
  refine lv_iload_n hx hb dX10_isWell_0 rfl (lv_at hl 1 rfl) ?_
  refine n_iconst hx hb dX10_isWell_1 ?_
  refine lv_aload_n hx hb dX10_isWell_2 rfl (lv_at hl 0 rfl) ?_
  refine g_get hx hb hts hown hK hW 17 rfl rfl uw_X10 0 (by decide) rfl al_763 (fun _ h9 => h9) dX10_isWell_3 ?_
  refine n_if_ne hx hb hw.1 hw.2.1 hw.2.2 (tgt := 13) dX10_isWell_6 (by decide) (fun hw => ?_) (fun hw => ?_)
  · refine n_iconst hx hb dX10_isWell_13 ?_
    exact hB14 v2 v3 v4 v5 v6 0 0 v1 s.heap [] ls hw hW (lv_sub hl [0, 2, 3, 4, 5, 6] rfl)
  · refine n_iconst hx hb dX10_isWell_9 ?_
    refine lv_goto (tgt := 14) hx hb dX10_isWell_10 (by decide) ?_
    exact hB14 v2 v3 v4 v5 v6 1 0 v1 s.heap [] ls hw hW (lv_sub hl [0, 2, 3, 4, 5, 6] rfl)
set_option maxHeartbeats 4000000 in
set_option maxRecDepth 100000 in
theorem c_X10_event (l : Launch) (G : Gt) (κ : Nat)  (tl : Bool) (ad : Nat → Nat)  (σ : Mem) (v1 : Int) (v2 : Int) (v3 : Int) (v4 : Int) (v5 : Int) (v6 : Int) (post : Int → Mem → Prop) (hw : w_X10_event  σ v1 v2 v3 v4 v5 v6 post) : CM l yX10_event (Cond.code yX10_event cX10_event 10 (some .int)) ({ frames := 2, cells := 0, slots := 0, locals := 48 } : Room) G (shW κ tl) ad σ [.ref (ad 17), .int (iN v1), .int (iN v2), .int (iN v3), .int (iN v4), .int (iN v5), .int (iN v6)] post := by
  refine s_all (y := yX10_event) (code := cX10_event) (maxL := 10) (ret := (some .int)) (rm := ({ frames := 2, cells := 0, slots := 0, locals := 48 } : Room)) (av := [.ref (ad 17), .int (iN v1), .int (iN v2), .int (iN v3), .int (iN v4), .int (iN v5), .int (iN v6)]) (Qc := fun sz => QM G (shW κ tl) ad post (sz)) (by decide) (Nat.le_of_ble_eq_true rfl) ?_
  intro p e s m below meth c S hr hlk _ hK hE hW ls hl
  obtain ⟨hx, hb, hml, hown, hts⟩ := id S
  replace hl : lv_has ls 10 [(0, .ref (ad 17)), (1, .int (iN v1)), (2, .int (iN v2)), (3, .int (iN v3)), (4, .int (iN v4)), (5, .int (iN v5)), (6, .int (iN v6))] := hl
  have hB191 : ∀ (σ_191 : Mem) (v4_191 : Int) (v5_191 : Int) (v6_191 : Int) (v9_191 : Int) (s0_191 : Int) (s1_191 : Int) (H : Heap) (locs : List Loc) (ls : Array Slot), w_X10_event_B191 σ_191 v4_191 v5_191 v6_191 v9_191 s0_191 s1_191 post → Wd G (shW κ tl) ad σ_191 (Aw ad (shW κ tl).length s.heap.size) s.heap H locs → lv_has ls 10 [(0, .ref (ad 17)), (4, .int (iN v4_191)), (5, .int (iN v5_191)), (6, .int (iN v6_191)), (9, .int (iN v9_191))] → W p l e ({ frames := 2, cells := 0, slots := 0, locals := 48 } : Room) s m ([.ref (ad 17), .int (iN v1), .int (iN v2), .int (iN v3), .int (iN v4), .int (iN v5), .int (iN v6)] : List Value).toArray below meth c H locs 0 0 (MQ below (QM G (shW κ tl) ad post (s.heap.size)) ([.ref (ad 17), .int (iN v1), .int (iN v2), .int (iN v3), .int (iN v4), .int (iN v5), .int (iN v6)] : List Value).toArray s 0 0 (Aw ad (shW κ tl).length s.heap.size)) (F0 m 191 ls [.int (iN s0_191), .int (iN s1_191), .ref (ad 21)]) := by
    intro σ_191 v4_191 v5_191 v6_191 v9_191 s0_191 s1_191 H locs ls hw hW hl
    unfold w_X10_event_B191 at hw
    refine g_ast hx hb hK hW 21 rfl hw.1 dX10_event_191 (fun σ15 H locs hτ hW => ?_)
    replace hw := hw.2 σ15 hτ
    refine lv_aload_n hx hb dX10_event_192 rfl (lv_at hl 0 rfl) ?_
    refine g_getr hx hb hts hown hK hW 17 rfl (q := 22) rfl uw_X10 6 (by decide) rfl al_769 (fun _ h9 => h9) dX10_event_193 ?_
    refine n_iconst hx hb dX10_event_196 ?_
    refine lv_iload hx hb dX10_event_197 (lv_at hl 4 rfl) ?_
    refine n_imul hx hb dX10_event_199 ?_
    refine lv_iload hx hb dX10_event_200 (lv_at hl 1 rfl) ?_
    refine g_ast hx hb hK hW 22 rfl hw.1 dX10_event_202 (fun σ16 H locs hτ hW => ?_)
    replace hw := hw.2 σ16 hτ
    refine lv_aload_n hx hb dX10_event_203 rfl (lv_at hl 0 rfl) ?_
    refine g_getr hx hb hts hown hK hW 17 rfl (q := 22) rfl uw_X10 6 (by decide) rfl al_769 (fun _ h9 => h9) dX10_event_204 ?_
    refine n_iconst hx hb dX10_event_207 ?_
    refine lv_iload hx hb dX10_event_208 (lv_at hl 4 rfl) ?_
    refine n_imul hx hb dX10_event_210 ?_
    refine n_iconst hx hb dX10_event_211 ?_
    refine n_iadd hx hb dX10_event_212 ?_
    refine lv_iload hx hb dX10_event_213 (lv_at hl 2 rfl) ?_
    refine g_ast hx hb hK hW 22 rfl hw.1 dX10_event_215 (fun σ17 H locs hτ hW => ?_)
    replace hw := hw.2 σ17 hτ
    refine lv_aload_n hx hb dX10_event_216 rfl (lv_at hl 0 rfl) ?_
    refine g_getr hx hb hts hown hK hW 17 rfl (q := 22) rfl uw_X10 6 (by decide) rfl al_769 (fun _ h9 => h9) dX10_event_217 ?_
    refine n_iconst hx hb dX10_event_220 ?_
    refine lv_iload hx hb dX10_event_221 (lv_at hl 4 rfl) ?_
    refine n_imul hx hb dX10_event_223 ?_
    refine n_iconst hx hb dX10_event_224 ?_
    refine n_iadd hx hb dX10_event_225 ?_
    refine lv_iload hx hb dX10_event_226 (lv_at hl 3 rfl) ?_
    refine g_ast hx hb hK hW 22 rfl hw.1 dX10_event_228 (fun σ18 H locs hτ hW => ?_)
    replace hw := hw.2 σ18 hτ
    refine lv_aload_n hx hb dX10_event_229 rfl (lv_at hl 0 rfl) ?_
    refine g_getr hx hb hts hown hK hW 17 rfl (q := 23) rfl uw_X10 7 (by decide) rfl al_770 (fun _ h9 => h9) dX10_event_230 ?_
    refine lv_iload hx hb dX10_event_233 (lv_at hl 4 rfl) ?_
    refine n_bipush hx hb dX10_event_235 (by decide) ?_
    refine g_ast hx hb hK hW 23 rfl hw.1 dX10_event_237 (fun σ19 H locs hτ hW => ?_)
    replace hw := hw.2 σ19 hτ
    refine lv_aload_n hx hb dX10_event_238 rfl (lv_at hl 0 rfl) ?_
    refine n_iconst hx hb dX10_event_239 ?_
    refine g_put hx hb hts hown hK hW 17 rfl rfl uw_X10 tyX10 tyX10_ok nmX10 9 (by decide) rfl al_772 (fun _ h9 => h9) rfl (nar_z (Or.inl rfl)) rfl dX10_event_240 (fun σ20 H locs hτ hW => ?_)
    replace hw := hw σ20 hτ
    refine lv_iload hx hb dX10_event_243 (lv_at hl 4 rfl) ?_
    exact r_CM hx hb hr hlk hK hW hw dX10_event_245
  have hB117 : ∀ (σ_117 : Mem) (v1_117 : Int) (v2_117 : Int) (v3_117 : Int) (v4_117 : Int) (v5_117 : Int) (v6_117 : Int) (H : Heap) (locs : List Loc) (ls : Array Slot), w_X10_event_B117 σ_117 v1_117 v2_117 v3_117 v4_117 v5_117 v6_117 post → Wd G (shW κ tl) ad σ_117 (Aw ad (shW κ tl).length s.heap.size) s.heap H locs → lv_has ls 10 [(0, .ref (ad 17)), (1, .int (iN v1_117)), (2, .int (iN v2_117)), (3, .int (iN v3_117)), (4, .int (iN v4_117)), (5, .int (iN v5_117)), (6, .int (iN v6_117))] → W p l e ({ frames := 2, cells := 0, slots := 0, locals := 48 } : Room) s m ([.ref (ad 17), .int (iN v1), .int (iN v2), .int (iN v3), .int (iN v4), .int (iN v5), .int (iN v6)] : List Value).toArray below meth c H locs 0 0 (MQ below (QM G (shW κ tl) ad post (s.heap.size)) ([.ref (ad 17), .int (iN v1), .int (iN v2), .int (iN v3), .int (iN v4), .int (iN v5), .int (iN v6)] : List Value).toArray s 0 0 (Aw ad (shW κ tl).length s.heap.size)) (F0 m 117 ls []) := by
    intro σ_117 v1_117 v2_117 v3_117 v4_117 v5_117 v6_117 H locs ls hw hW hl
    unfold w_X10_event_B117 at hw
    refine lv_aload_n hx hb dX10_event_117 rfl (lv_at hl 0 rfl) ?_
    refine g_get hx hb hts hown hK hW 17 rfl rfl uw_X10 1 (by decide) rfl al_764 (fun _ h9 => h9) dX10_event_118 ?_
    refine n_bipush hx hb dX10_event_121 (by decide) ?_
    refine n_icmp_ne hx hb hw.1 (rg_c _ rfl) hw.2.1 hw.2.2 (tgt := 129) dX10_event_123 (by decide) (fun hw => ?_) (fun hw => ?_)
    · refine lv_aload_n hx hb dX10_event_129 rfl (lv_at hl 0 rfl) ?_
      refine lv_dup hx hb dX10_event_130 rfl ?_
      refine g_get hx hb hts hown hK hW 17 rfl rfl uw_X10 1 (by decide) rfl al_764 (fun _ h9 => h9) dX10_event_131 ?_
      refine lv_dup_x1 hx hb dX10_event_134 rfl rfl ?_
      refine n_iconst hx hb dX10_event_135 ?_
      refine n_iadd hx hb dX10_event_136 ?_
      refine g_put hx hb hts hown hK hW 17 rfl rfl uw_X10 tyX10 tyX10_ok nmX10 1 (by decide) rfl al_764 (fun _ h9 => h9) rfl rfl rfl dX10_event_137 (fun σ21 H locs hτ hW => ?_)
      replace hw := hw σ21 hτ
      refine lv_istore (lv' := [(9, .int (iN (σ_117 17 1))), (0, .ref (ad 17)), (1, .int (iN v1_117)), (2, .int (iN v2_117)), (3, .int (iN v3_117)), (4, .int (iN v4_117)), (5, .int (iN v5_117)), (6, .int (iN v6_117))]) hx hb dX10_event_140 hl (by decide) rfl (fun ls hl => ?_)
      refine lv_aload_n hx hb dX10_event_142 rfl (lv_at hl 1 rfl) ?_
      refine g_getr hx hb hts hown hK hW 17 rfl (q := 18) rfl uw_X10 2 (by decide) rfl al_765 (fun _ h9 => h9) dX10_event_143 ?_
      refine lv_iload hx hb dX10_event_146 (lv_at hl 0 rfl) ?_
      refine lv_iload_n hx hb dX10_event_148 rfl (lv_at hl 2 rfl) ?_
      refine g_ast hx hb hK hW 18 rfl hw.1 dX10_event_149 (fun σ22 H locs hτ hW => ?_)
      replace hw := hw.2 σ22 hτ
      refine lv_aload_n hx hb dX10_event_150 rfl (lv_at hl 1 rfl) ?_
      refine g_getr hx hb hts hown hK hW 17 rfl (q := 19) rfl uw_X10 3 (by decide) rfl al_766 (fun _ h9 => h9) dX10_event_151 ?_
      refine lv_iload hx hb dX10_event_154 (lv_at hl 0 rfl) ?_
      refine lv_iload_n hx hb dX10_event_156 rfl (lv_at hl 3 rfl) ?_
      refine g_ast hx hb hK hW 19 rfl hw.1 dX10_event_157 (fun σ23 H locs hτ hW => ?_)
      replace hw := hw.2 σ23 hτ
      refine lv_aload_n hx hb dX10_event_158 rfl (lv_at hl 1 rfl) ?_
      refine g_getr hx hb hts hown hK hW 17 rfl (q := 20) rfl uw_X10 4 (by decide) rfl al_767 (fun _ h9 => h9) dX10_event_159 ?_
      refine lv_iload hx hb dX10_event_162 (lv_at hl 0 rfl) ?_
      refine lv_iload_n hx hb dX10_event_164 rfl (lv_at hl 4 rfl) ?_
      refine g_ast hx hb hK hW 20 rfl hw.1 dX10_event_165 (fun σ24 H locs hτ hW => ?_)
      replace hw := hw.2 σ24 hτ
      refine lv_aload_n hx hb dX10_event_166 rfl (lv_at hl 1 rfl) ?_
      refine g_getr hx hb hts hown hK hW 17 rfl (q := 21) rfl uw_X10 5 (by decide) rfl al_768 (fun _ h9 => h9) dX10_event_167 ?_
      refine lv_iload hx hb dX10_event_170 (lv_at hl 0 rfl) ?_
      refine lv_iload hx hb dX10_event_172 (lv_at hl 6 rfl) ?_
      refine n_if_ge hx hb hw.1 hw.2.1 hw.2.2 (tgt := 181) dX10_event_174 (by decide) (fun hw => ?_) (fun hw => ?_)
      · refine lv_iload hx hb dX10_event_181 (lv_at hl 7 rfl) ?_
        refine n_if_ge hx hb hw.1 hw.2.1 hw.2.2 (tgt := 190) dX10_event_183 (by decide) (fun hw => ?_) (fun hw => ?_)
        · refine n_iconst hx hb dX10_event_190 ?_
          exact hB191 σ24 v4_117 v5_117 v6_117 (σ_117 17 1) 3 (σ_117 17 1) H locs ls hw hW (lv_sub hl [1, 5, 6, 7, 0] rfl)
        · refine n_iconst hx hb dX10_event_186 ?_
          refine lv_goto (tgt := 191) hx hb dX10_event_187 (by decide) ?_
          exact hB191 σ24 v4_117 v5_117 v6_117 (σ_117 17 1) 2 (σ_117 17 1) H locs ls hw hW (lv_sub hl [1, 5, 6, 7, 0] rfl)
      · refine n_iconst hx hb dX10_event_177 ?_
        refine lv_goto (tgt := 191) hx hb dX10_event_178 (by decide) ?_
        exact hB191 σ24 v4_117 v5_117 v6_117 (σ_117 17 1) 1 (σ_117 17 1) H locs ls hw hW (lv_sub hl [1, 5, 6, 7, 0] rfl)
    · refine n_bipush hx hb dX10_event_126 (by decide) ?_
      exact r_CM hx hb hr hlk hK hW hw dX10_event_128
  have hB114 : ∀ (σ_114 : Mem)  (H : Heap) (locs : List Loc) (ls : Array Slot), w_X10_event_B114 σ_114 post → Wd G (shW κ tl) ad σ_114 (Aw ad (shW κ tl).length s.heap.size) s.heap H locs → lv_has ls 10 [] → W p l e ({ frames := 2, cells := 0, slots := 0, locals := 48 } : Room) s m ([.ref (ad 17), .int (iN v1), .int (iN v2), .int (iN v3), .int (iN v4), .int (iN v5), .int (iN v6)] : List Value).toArray below meth c H locs 0 0 (MQ below (QM G (shW κ tl) ad post (s.heap.size)) ([.ref (ad 17), .int (iN v1), .int (iN v2), .int (iN v3), .int (iN v4), .int (iN v5), .int (iN v6)] : List Value).toArray s 0 0 (Aw ad (shW κ tl).length s.heap.size)) (F0 m 114 ls []) := by
    intro σ_114 H locs ls hw hW hl
    unfold w_X10_event_B114 at hw
    refine n_bipush hx hb dX10_event_114 (by decide) ?_
    exact r_CM hx hb hr hlk hK hW hw dX10_event_116
  have hB85 : ∀ (σ_85 : Mem) (v1_85 : Int) (v2_85 : Int) (v3_85 : Int) (v4_85 : Int) (v5_85 : Int) (v6_85 : Int) (s0_85 : Int) (H : Heap) (locs : List Loc) (ls : Array Slot), w_X10_event_B85 σ_85 v1_85 v2_85 v3_85 v4_85 v5_85 v6_85 s0_85 post → Wd G (shW κ tl) ad σ_85 (Aw ad (shW κ tl).length s.heap.size) s.heap H locs → lv_has ls 10 [(0, .ref (ad 17)), (1, .int (iN v1_85)), (2, .int (iN v2_85)), (3, .int (iN v3_85)), (4, .int (iN v4_85)), (5, .int (iN v5_85)), (6, .int (iN v6_85))] → W p l e ({ frames := 2, cells := 0, slots := 0, locals := 48 } : Room) s m ([.ref (ad 17), .int (iN v1), .int (iN v2), .int (iN v3), .int (iN v4), .int (iN v5), .int (iN v6)] : List Value).toArray below meth c H locs 0 0 (MQ below (QM G (shW κ tl) ad post (s.heap.size)) ([.ref (ad 17), .int (iN v1), .int (iN v2), .int (iN v3), .int (iN v4), .int (iN v5), .int (iN v6)] : List Value).toArray s 0 0 (Aw ad (shW κ tl).length s.heap.size)) (F0 m 85 ls [.int (iN s0_85)]) := by
    intro σ_85 v1_85 v2_85 v3_85 v4_85 v5_85 v6_85 s0_85 H locs ls hw hW hl
    unfold w_X10_event_B85 at hw
    refine lv_istore (lv' := [(8, .int (iN s0_85)), (0, .ref (ad 17)), (1, .int (iN v1_85)), (2, .int (iN v2_85)), (3, .int (iN v3_85)), (4, .int (iN v4_85)), (5, .int (iN v5_85)), (6, .int (iN v6_85))]) hx hb dX10_event_85 hl (by decide) rfl (fun ls hl => ?_)
    refine lv_iload hx hb dX10_event_87 (lv_at hl 0 rfl) ?_
    refine n_if_ne hx hb hw.1 hw.2.1 hw.2.2 (tgt := 114) dX10_event_89 (by decide) (fun hw => ?_) (fun hw => ?_)
    · exact hB114 σ_85 H locs ls hw hW (lv_sub hl [] rfl)
    · refine lv_aload_n hx hb dX10_event_92 rfl (lv_at hl 1 rfl) ?_
      refine g_get hx hb hts hown hK hW 17 rfl rfl uw_X10 1 (by decide) rfl al_764 (fun _ h9 => h9) dX10_event_93 ?_
      refine n_if_le hx hb hw.1 hw.2.1 hw.2.2 (tgt := 117) dX10_event_96 (by decide) (fun hw => ?_) (fun hw => ?_)
      · exact hB117 σ_85 v1_85 v2_85 v3_85 v4_85 v5_85 v6_85 H locs ls hw hW (lv_sub hl [1, 2, 3, 4, 5, 6, 7] rfl)
      · refine lv_iload_n hx hb dX10_event_99 rfl (lv_at hl 3 rfl) ?_
        refine lv_aload_n hx hb dX10_event_100 rfl (lv_at hl 1 rfl) ?_
        refine g_getr hx hb hts hown hK hW 17 rfl (q := 19) rfl uw_X10 3 (by decide) rfl al_766 (fun _ h9 => h9) dX10_event_101 ?_
        refine lv_aload_n hx hb dX10_event_104 rfl (lv_at hl 1 rfl) ?_
        refine g_get hx hb hts hown hK hW 17 rfl rfl uw_X10 1 (by decide) rfl al_764 (fun _ h9 => h9) dX10_event_105 ?_
        refine n_iconst hx hb dX10_event_108 ?_
        refine n_isub hx hb dX10_event_109 ?_
        refine g_ald hx hb hK hW 19 rfl hw.1 dX10_event_110 ?_
        replace hw := hw.2
        refine n_icmp_ge hx hb hw.1 hw.2.1 hw.2.2.1 hw.2.2.2 (tgt := 117) dX10_event_111 (by decide) (fun hw => ?_) (fun hw => ?_)
        · exact hB117 σ_85 v1_85 v2_85 v3_85 v4_85 v5_85 v6_85 H locs ls hw hW (lv_sub hl [1, 2, 3, 4, 5, 6, 7] rfl)
        · exact hB114 σ_85 H locs ls hw hW (lv_sub hl [] rfl)
  have hB84 : ∀ (σ_84 : Mem) (v1_84 : Int) (v2_84 : Int) (v3_84 : Int) (v4_84 : Int) (v5_84 : Int) (v6_84 : Int) (H : Heap) (locs : List Loc) (ls : Array Slot), w_X10_event_B84 σ_84 v1_84 v2_84 v3_84 v4_84 v5_84 v6_84 post → Wd G (shW κ tl) ad σ_84 (Aw ad (shW κ tl).length s.heap.size) s.heap H locs → lv_has ls 10 [(0, .ref (ad 17)), (1, .int (iN v1_84)), (2, .int (iN v2_84)), (3, .int (iN v3_84)), (4, .int (iN v4_84)), (5, .int (iN v5_84)), (6, .int (iN v6_84))] → W p l e ({ frames := 2, cells := 0, slots := 0, locals := 48 } : Room) s m ([.ref (ad 17), .int (iN v1), .int (iN v2), .int (iN v3), .int (iN v4), .int (iN v5), .int (iN v6)] : List Value).toArray below meth c H locs 0 0 (MQ below (QM G (shW κ tl) ad post (s.heap.size)) ([.ref (ad 17), .int (iN v1), .int (iN v2), .int (iN v3), .int (iN v4), .int (iN v5), .int (iN v6)] : List Value).toArray s 0 0 (Aw ad (shW κ tl).length s.heap.size)) (F0 m 84 ls []) := by
    intro σ_84 v1_84 v2_84 v3_84 v4_84 v5_84 v6_84 H locs ls hw hW hl
    unfold w_X10_event_B84 at hw
    refine n_iconst hx hb dX10_event_84 ?_
    exact hB85 σ_84 v1_84 v2_84 v3_84 v4_84 v5_84 v6_84 0 H locs ls hw hW (lv_sub hl [0, 1, 2, 3, 4, 5, 6] rfl)
  have hB80 : ∀ (σ_80 : Mem) (v1_80 : Int) (v2_80 : Int) (v3_80 : Int) (v4_80 : Int) (v5_80 : Int) (v6_80 : Int) (H : Heap) (locs : List Loc) (ls : Array Slot), w_X10_event_B80 σ_80 v1_80 v2_80 v3_80 v4_80 v5_80 v6_80 post → Wd G (shW κ tl) ad σ_80 (Aw ad (shW κ tl).length s.heap.size) s.heap H locs → lv_has ls 10 [(0, .ref (ad 17)), (1, .int (iN v1_80)), (2, .int (iN v2_80)), (3, .int (iN v3_80)), (4, .int (iN v4_80)), (5, .int (iN v5_80)), (6, .int (iN v6_80))] → W p l e ({ frames := 2, cells := 0, slots := 0, locals := 48 } : Room) s m ([.ref (ad 17), .int (iN v1), .int (iN v2), .int (iN v3), .int (iN v4), .int (iN v5), .int (iN v6)] : List Value).toArray below meth c H locs 0 0 (MQ below (QM G (shW κ tl) ad post (s.heap.size)) ([.ref (ad 17), .int (iN v1), .int (iN v2), .int (iN v3), .int (iN v4), .int (iN v5), .int (iN v6)] : List Value).toArray s 0 0 (Aw ad (shW κ tl).length s.heap.size)) (F0 m 80 ls []) := by
    intro σ_80 v1_80 v2_80 v3_80 v4_80 v5_80 v6_80 H locs ls hw hW hl
    unfold w_X10_event_B80 at hw
    refine n_iconst hx hb dX10_event_80 ?_
    refine lv_goto (tgt := 85) hx hb dX10_event_81 (by decide) ?_
    exact hB85 σ_80 v1_80 v2_80 v3_80 v4_80 v5_80 v6_80 1 H locs ls hw hW (lv_sub hl [0, 1, 2, 3, 4, 5, 6] rfl)
  have hB61 : ∀ (σ_61 : Mem) (v1_61 : Int) (v2_61 : Int) (v3_61 : Int) (v4_61 : Int) (v5_61 : Int) (v6_61 : Int) (v7_61 : Int) (H : Heap) (locs : List Loc) (ls : Array Slot), w_X10_event_B61 σ_61 v1_61 v2_61 v3_61 v4_61 v5_61 v6_61 v7_61 post → Wd G (shW κ tl) ad σ_61 (Aw ad (shW κ tl).length s.heap.size) s.heap H locs → lv_has ls 10 [(0, .ref (ad 17)), (1, .int (iN v1_61)), (2, .int (iN v2_61)), (3, .int (iN v3_61)), (4, .int (iN v4_61)), (5, .int (iN v5_61)), (6, .int (iN v6_61)), (7, .int (iN v7_61))] → W p l e ({ frames := 2, cells := 0, slots := 0, locals := 48 } : Room) s m ([.ref (ad 17), .int (iN v1), .int (iN v2), .int (iN v3), .int (iN v4), .int (iN v5), .int (iN v6)] : List Value).toArray below meth c H locs 0 0 (MQ below (QM G (shW κ tl) ad post (s.heap.size)) ([.ref (ad 17), .int (iN v1), .int (iN v2), .int (iN v3), .int (iN v4), .int (iN v5), .int (iN v6)] : List Value).toArray s 0 0 (Aw ad (shW κ tl).length s.heap.size)) (F0 m 61 ls []) := by
    intro σ_61 v1_61 v2_61 v3_61 v4_61 v5_61 v6_61 v7_61 H locs ls hw hW hl
    unfold w_X10_event_B61 at hw
    refine lv_iload_n hx hb dX10_event_61 rfl (lv_at hl 2 rfl) ?_
    refine lv_aload_n hx hb dX10_event_62 rfl (lv_at hl 0 rfl) ?_
    refine g_getr hx hb hts hown hK hW 17 rfl (q := 19) rfl uw_X10 3 (by decide) rfl al_766 (fun _ h9 => h9) dX10_event_63 ?_
    refine lv_iload hx hb dX10_event_66 (lv_at hl 7 rfl) ?_
    refine g_ald hx hb hK hW 19 rfl hw.1 dX10_event_68 ?_
    replace hw := hw.2
    refine lv_aload_n hx hb dX10_event_69 rfl (lv_at hl 0 rfl) ?_
    refine g_getr hx hb hts hown hK hW 17 rfl (q := 20) rfl uw_X10 4 (by decide) rfl al_767 (fun _ h9 => h9) dX10_event_70 ?_
    refine lv_iload hx hb dX10_event_73 (lv_at hl 7 rfl) ?_
    refine g_ald hx hb hK hW 20 rfl hw.1 dX10_event_75 ?_
    replace hw := hw.2
    refine n_iadd hx hb dX10_event_76 ?_
    refine n_icmp_ge hx hb hw.1 hw.2.1 hw.2.2.1 hw.2.2.2 (tgt := 84) dX10_event_77 (by decide) (fun hw => ?_) (fun hw => ?_)
    · exact hB84 σ_61 v1_61 v2_61 v3_61 v4_61 v5_61 v6_61 H locs ls hw hW (lv_sub hl [0, 1, 2, 3, 4, 5, 6] rfl)
    · exact hB80 σ_61 v1_61 v2_61 v3_61 v4_61 v5_61 v6_61 H locs ls hw hW (lv_sub hl [0, 1, 2, 3, 4, 5, 6] rfl)
  unfold w_X10_event at hw
  refine lv_aload_n hx hb dX10_event_0 rfl (lv_at hl 0 rfl) ?_
  refine lv_iload_n hx hb dX10_event_1 rfl (lv_at hl 1 rfl) ?_
  refine lv_iload_n hx hb dX10_event_2 rfl (lv_at hl 2 rfl) ?_
  refine lv_iload_n hx hb dX10_event_3 rfl (lv_at hl 3 rfl) ?_
  refine lv_iload hx hb dX10_event_4 (lv_at hl 4 rfl) ?_
  refine lv_iload hx hb dX10_event_6 (lv_at hl 5 rfl) ?_
  refine lv_iload hx hb dX10_event_8 (lv_at hl 6 rfl) ?_
  refine fin_CI hW (run_V (k := 17) (As := [.int (iN v1), .int (iN v2), .int (iN v3), .int (iN v4), .int (iN v5), .int (iN v6)]) (rest := []) S hK hE hW (c_X10_isWell l G κ tl ad σ v1 v2 v3 v4 v5 v6 _ hw s.heap.size) rfl rfl al_829 al_831 sl_X10_isWell al_11 al_832 hd_X10_isWell rfl rfl ⟨Nat.le_of_ble_eq_true rfl, Nat.le_of_ble_eq_true rfl⟩ rfl hl.1 rfl (Nat.le_of_ble_eq_true rfl) dX10_event_10 ⟨Nat.zero_le _, Nat.zero_le _⟩) ?_
  intro r1 H locs hw hW
  refine n_if_ne hx hb hw.1 hw.2.1 hw.2.2 (tgt := 18) dX10_event_13 (by decide) (fun hw => ?_) (fun hw => ?_)
  · refine lv_aload_n hx hb dX10_event_18 rfl (lv_at hl 0 rfl) ?_
    refine lv_aload_n hx hb dX10_event_19 rfl (lv_at hl 0 rfl) ?_
    refine g_get hx hb hts hown hK hW 17 rfl rfl uw_X10 1 (by decide) rfl al_764 (fun _ h9 => h9) dX10_event_20 ?_
    refine lv_iload_n hx hb dX10_event_23 rfl (lv_at hl 1 rfl) ?_
    refine fin_CI hW (run_V (k := 17) (As := [.int (iN (σ 17 1)), .int (iN v1)]) (rest := []) S hK hE hW (c_X10_before l G κ tl ad σ (σ 17 1) v1 _ hw H.size) rfl rfl al_837 al_839 sl_X10_before al_11 al_840 hd_X10_before rfl rfl ⟨Nat.le_of_ble_eq_true rfl, Nat.le_of_ble_eq_true rfl⟩ rfl hl.1 rfl (Nat.le_of_ble_eq_true rfl) dX10_event_24 ⟨Nat.zero_le _, Nat.zero_le _⟩) ?_
    intro r3 H locs hw hW
    refine lv_istore (lv' := [(7, .int (iN r3)), (0, .ref (ad 17)), (1, .int (iN v1)), (2, .int (iN v2)), (3, .int (iN v3)), (4, .int (iN v4)), (5, .int (iN v5)), (6, .int (iN v6))]) hx hb dX10_event_27 hl (by decide) rfl (fun ls hl => ?_)
    refine lv_iload hx hb dX10_event_29 (lv_at hl 0 rfl) ?_
    refine n_if_lt hx hb hw.1 hw.2.1 hw.2.2 (tgt := 84) dX10_event_31 (by decide) (fun hw => ?_) (fun hw => ?_)
    · exact hB84 σ v1 v2 v3 v4 v5 v6 H locs ls hw hW (lv_sub hl [1, 2, 3, 4, 5, 6, 7] rfl)
    · refine lv_iload_n hx hb dX10_event_34 rfl (lv_at hl 3 rfl) ?_
      refine lv_aload_n hx hb dX10_event_35 rfl (lv_at hl 1 rfl) ?_
      refine g_getr hx hb hts hown hK hW 17 rfl (q := 19) rfl uw_X10 3 (by decide) rfl al_766 (fun _ h9 => h9) dX10_event_36 ?_
      refine lv_iload hx hb dX10_event_39 (lv_at hl 0 rfl) ?_
      refine g_ald hx hb hK hW 19 rfl hw.1 dX10_event_41 ?_
      replace hw := hw.2
      refine n_icmp_le hx hb hw.1 hw.2.1 hw.2.2.1 hw.2.2.2 (tgt := 80) dX10_event_42 (by decide) (fun hw => ?_) (fun hw => ?_)
      · exact hB80 σ v1 v2 v3 v4 v5 v6 H locs ls hw hW (lv_sub hl [1, 2, 3, 4, 5, 6, 7] rfl)
      · refine lv_aload_n hx hb dX10_event_45 rfl (lv_at hl 1 rfl) ?_
        refine g_get hx hb hts hown hK hW 17 rfl rfl uw_X10 0 (by decide) rfl al_763 (fun _ h9 => h9) dX10_event_46 ?_
        refine n_iconst hx hb dX10_event_49 ?_
        refine n_icmp_eq hx hb hw.1 (rg_c _ rfl) hw.2.1 hw.2.2 (tgt := 61) dX10_event_50 (by decide) (fun hw => ?_) (fun hw => ?_)
        · exact hB61 σ v1 v2 v3 v4 v5 v6 r3 H locs ls hw hW (lv_sub hl [1, 2, 3, 4, 5, 6, 7, 0] rfl)
        · refine lv_aload_n hx hb dX10_event_53 rfl (lv_at hl 1 rfl) ?_
          refine g_get hx hb hts hown hK hW 17 rfl rfl uw_X10 0 (by decide) rfl al_763 (fun _ h9 => h9) dX10_event_54 ?_
          refine n_iconst hx hb dX10_event_57 ?_
          refine n_icmp_ne hx hb hw.1 (rg_c _ rfl) hw.2.1 hw.2.2 (tgt := 84) dX10_event_58 (by decide) (fun hw => ?_) (fun hw => ?_)
          · exact hB84 σ v1 v2 v3 v4 v5 v6 H locs ls hw hW (lv_sub hl [1, 2, 3, 4, 5, 6, 7] rfl)
          · exact hB61 σ v1 v2 v3 v4 v5 v6 r3 H locs ls hw hW (lv_sub hl [1, 2, 3, 4, 5, 6, 7, 0] rfl)
  · refine n_iconst hx hb dX10_event_16 ?_
    exact r_CM hx hb hr hlk hK hW hw dX10_event_17
set_option maxHeartbeats 4000000 in
set_option maxRecDepth 100000 in
theorem c_X10_drop (l : Launch) (G : Gt) (κ : Nat)  (tl : Bool) (ad : Nat → Nat)  (σ : Mem)  (post : Int → Mem → Prop) (hw : w_X10_drop  σ  post) : CM l yX10_drop (Cond.code yX10_drop cX10_drop 1 (some .int)) ({ frames := 0, cells := 0, slots := 0, locals := 0 } : Room) G (shW κ tl) ad σ [.ref (ad 17)] post := by
  refine s_all (y := yX10_drop) (code := cX10_drop) (maxL := 1) (ret := (some .int)) (rm := ({ frames := 0, cells := 0, slots := 0, locals := 0 } : Room)) (av := [.ref (ad 17)]) (Qc := fun sz => QM G (shW κ tl) ad post (sz)) (by decide) (Nat.le_of_ble_eq_true rfl) ?_
  intro p e s m below meth c S hr hlk _ hK hE hW ls hl
  obtain ⟨hx, hb, hml, hown, hts⟩ := id S
  replace hl : lv_has ls 1 [(0, .ref (ad 17))] := hl
  unfold w_X10_drop at hw
  refine lv_aload_n hx hb dX10_drop_0 rfl (lv_at hl 0 rfl) ?_
  refine g_get hx hb hts hown hK hW 17 rfl rfl uw_X10 1 (by decide) rfl al_764 (fun _ h9 => h9) dX10_drop_1 ?_
  refine n_if_ne hx hb hw.1 hw.2.1 hw.2.2 (tgt := 10) dX10_drop_4 (by decide) (fun hw => ?_) (fun hw => ?_)
  · refine lv_aload_n hx hb dX10_drop_10 rfl (lv_at hl 0 rfl) ?_
    refine lv_dup hx hb dX10_drop_11 rfl ?_
    refine g_get hx hb hts hown hK hW 17 rfl rfl uw_X10 1 (by decide) rfl al_764 (fun _ h9 => h9) dX10_drop_12 ?_
    refine n_iconst hx hb dX10_drop_15 ?_
    refine n_isub hx hb dX10_drop_16 ?_
    refine g_put hx hb hts hown hK hW 17 rfl rfl uw_X10 tyX10 tyX10_ok nmX10 1 (by decide) rfl al_764 (fun _ h9 => h9) rfl rfl rfl dX10_drop_17 (fun σ1 H locs hτ hW => ?_)
    replace hw := hw σ1 hτ
    refine lv_aload_n hx hb dX10_drop_20 rfl (lv_at hl 0 rfl) ?_
    refine n_iconst hx hb dX10_drop_21 ?_
    refine g_put hx hb hts hown hK hW 17 rfl rfl uw_X10 tyX10 tyX10_ok nmX10 9 (by decide) rfl al_772 (fun _ h9 => h9) rfl (nar_z (Or.inl rfl)) rfl dX10_drop_22 (fun σ2 H locs hτ hW => ?_)
    replace hw := hw σ2 hτ
    refine lv_aload_n hx hb dX10_drop_25 rfl (lv_at hl 0 rfl) ?_
    refine g_get hx hb hts hown hK hW 17 rfl rfl uw_X10 1 (by decide) rfl al_764 (fun _ h9 => h9) dX10_drop_26 ?_
    exact r_CM hx hb hr hlk hK hW hw dX10_drop_29
  · refine n_bipush hx hb dX10_drop_7 (by decide) ?_
    exact r_CM hx hb hr hlk hK hW hw dX10_drop_9
set_option maxHeartbeats 4000000 in
set_option maxRecDepth 100000 in
theorem c_X10_bound (l : Launch) (G : Gt) (κ : Nat)  (tl : Bool) (ad : Nat → Nat)  (σ : Mem) (v1 : Int) (v2 : Int) (post : Int → Mem → Prop) (hw : w_X10_bound  σ v1 v2 post) : CM l yX10_bound (Cond.code yX10_bound cX10_bound 6 (some .int)) ({ frames := 1, cells := 0, slots := 0, locals := 22 } : Room) G (shW κ tl) ad σ [.ref (ad 17), .int (iN v1), .int (iN v2)] post := by
  refine s_all (y := yX10_bound) (code := cX10_bound) (maxL := 6) (ret := (some .int)) (rm := ({ frames := 1, cells := 0, slots := 0, locals := 22 } : Room)) (av := [.ref (ad 17), .int (iN v1), .int (iN v2)]) (Qc := fun sz => QM G (shW κ tl) ad post (sz)) (by decide) (Nat.le_of_ble_eq_true rfl) ?_
  intro p e s m below meth c S hr hlk _ hK hE hW ls hl
  obtain ⟨hx, hb, hml, hown, hts⟩ := id S
  replace hl : lv_has ls 6 [(0, .ref (ad 17)), (1, .int (iN v1)), (2, .int (iN v2))] := hl
  have hB61 : ∀ (σ_61 : Mem) (v1_61 : Int) (v2_61 : Int) (v3_61 : Int) (s0_61 : Int) (H : Heap) (locs : List Loc) (ls : Array Slot), w_X10_bound_B61 σ_61 v1_61 v2_61 v3_61 s0_61 post → Wd G (shW κ tl) ad σ_61 (Aw ad (shW κ tl).length s.heap.size) s.heap H locs → lv_has ls 6 [(0, .ref (ad 17)), (1, .int (iN v1_61)), (2, .int (iN v2_61)), (3, .int (iN v3_61))] → W p l e ({ frames := 1, cells := 0, slots := 0, locals := 22 } : Room) s m ([.ref (ad 17), .int (iN v1), .int (iN v2)] : List Value).toArray below meth c H locs 0 0 (MQ below (QM G (shW κ tl) ad post (s.heap.size)) ([.ref (ad 17), .int (iN v1), .int (iN v2)] : List Value).toArray s 0 0 (Aw ad (shW κ tl).length s.heap.size)) (F0 m 61 ls [.int (iN s0_61)]) := by
    intro σ_61 v1_61 v2_61 v3_61 s0_61 H locs ls hw hW hl
    unfold w_X10_bound_B61 at hw
    refine lv_istore (lv' := [(4, .int (iN s0_61)), (0, .ref (ad 17)), (1, .int (iN v1_61)), (2, .int (iN v2_61)), (3, .int (iN v3_61))]) hx hb dX10_bound_61 hl (by decide) rfl (fun ls hl => ?_)
    refine lv_iload_n hx hb dX10_bound_63 rfl (lv_at hl 3 rfl) ?_
    refine lv_iload_n hx hb dX10_bound_64 rfl (lv_at hl 4 rfl) ?_
    refine lv_iload hx hb dX10_bound_65 (lv_at hl 0 rfl) ?_
    refine fin_CI hW (run_S (As := [.int (iN v2_61), .int (iN v3_61), .int (iN s0_61)]) (rest := []) S hK hE hW (c_X10_in l G κ tl ad σ_61 v2_61 v3_61 s0_61 _ hw H.size) al_833 al_834 al_11 al_835 hd_X10_in.2 rfl rfl ⟨Nat.le_of_ble_eq_true rfl, Nat.le_of_ble_eq_true rfl⟩ rfl hl.1 rfl (Nat.le_of_ble_eq_true rfl) dX10_bound_67 ⟨Nat.zero_le _, Nat.zero_le _⟩) ?_
    intro r7 H locs hw hW
    refine n_if_ne hx hb hw.1 hw.2.1 hw.2.2 (tgt := 75) dX10_bound_70 (by decide) (fun hw => ?_) (fun hw => ?_)
    · refine lv_aload_n hx hb dX10_bound_75 rfl (lv_at hl 1 rfl) ?_
      refine g_getr hx hb hts hown hK hW 17 rfl (q := 24) rfl uw_X10 8 (by decide) rfl al_771 (fun _ h9 => h9) dX10_bound_76 ?_
      refine lv_iload_n hx hb dX10_bound_79 rfl (lv_at hl 2 rfl) ?_
      refine g_ald hx hb hK hW 24 rfl hw.1 dX10_bound_80 ?_
      replace hw := hw.2
      refine lv_istore (lv' := [(5, .int (iN (σ_61 24 (v1_61).toNat))), (4, .int (iN s0_61)), (0, .ref (ad 17)), (1, .int (iN v1_61)), (2, .int (iN v2_61)), (3, .int (iN v3_61))]) hx hb dX10_bound_81 hl (by decide) rfl (fun ls hl => ?_)
      refine lv_aload_n hx hb dX10_bound_83 rfl (lv_at hl 2 rfl) ?_
      refine g_getr hx hb hts hown hK hW 17 rfl (q := 24) rfl uw_X10 8 (by decide) rfl al_771 (fun _ h9 => h9) dX10_bound_84 ?_
      refine lv_iload_n hx hb dX10_bound_87 rfl (lv_at hl 3 rfl) ?_
      refine lv_iload_n hx hb dX10_bound_88 rfl (lv_at hl 4 rfl) ?_
      refine g_ast hx hb hK hW 24 rfl hw.1 dX10_bound_89 (fun σ9 H locs hτ hW => ?_)
      replace hw := hw.2 σ9 hτ
      refine lv_aload_n hx hb dX10_bound_90 rfl (lv_at hl 2 rfl) ?_
      refine n_iconst hx hb dX10_bound_91 ?_
      refine g_put hx hb hts hown hK hW 17 rfl rfl uw_X10 tyX10 tyX10_ok nmX10 9 (by decide) rfl al_772 (fun _ h9 => h9) rfl (nar_z (Or.inl rfl)) rfl dX10_bound_92 (fun σ10 H locs hτ hW => ?_)
      replace hw := hw σ10 hτ
      refine lv_iload hx hb dX10_bound_95 (lv_at hl 0 rfl) ?_
      exact r_CM hx hb hr hlk hK hW hw dX10_bound_97
    · refine n_iconst hx hb dX10_bound_73 ?_
      exact r_CM hx hb hr hlk hK hW hw dX10_bound_74
  have hB32 : ∀ (σ_32 : Mem) (v1_32 : Int) (v2_32 : Int) (v3_32 : Int) (H : Heap) (locs : List Loc) (ls : Array Slot), w_X10_bound_B32 σ_32 v1_32 v2_32 v3_32 post → Wd G (shW κ tl) ad σ_32 (Aw ad (shW κ tl).length s.heap.size) s.heap H locs → lv_has ls 6 [(0, .ref (ad 17)), (1, .int (iN v1_32)), (2, .int (iN v2_32)), (3, .int (iN v3_32))] → W p l e ({ frames := 1, cells := 0, slots := 0, locals := 22 } : Room) s m ([.ref (ad 17), .int (iN v1), .int (iN v2)] : List Value).toArray below meth c H locs 0 0 (MQ below (QM G (shW κ tl) ad post (s.heap.size)) ([.ref (ad 17), .int (iN v1), .int (iN v2)] : List Value).toArray s 0 0 (Aw ad (shW κ tl).length s.heap.size)) (F0 m 32 ls []) := by
    intro σ_32 v1_32 v2_32 v3_32 H locs ls hw hW hl
    unfold w_X10_bound_B32 at hw
    refine n_bipush hx hb dX10_bound_32 (by decide) ?_
    refine lv_goto (tgt := 61) hx hb dX10_bound_34 (by decide) ?_
    exact hB61 σ_32 v1_32 v2_32 v3_32 100 H locs ls hw hW (lv_sub hl [0, 1, 2, 3] rfl)
  have hB22 : ∀ (σ_22 : Mem) (v1_22 : Int) (v2_22 : Int) (s0_22 : Int) (H : Heap) (locs : List Loc) (ls : Array Slot), w_X10_bound_B22 σ_22 v1_22 v2_22 s0_22 post → Wd G (shW κ tl) ad σ_22 (Aw ad (shW κ tl).length s.heap.size) s.heap H locs → lv_has ls 6 [(0, .ref (ad 17)), (1, .int (iN v1_22)), (2, .int (iN v2_22))] → W p l e ({ frames := 1, cells := 0, slots := 0, locals := 22 } : Room) s m ([.ref (ad 17), .int (iN v1), .int (iN v2)] : List Value).toArray below meth c H locs 0 0 (MQ below (QM G (shW κ tl) ad post (s.heap.size)) ([.ref (ad 17), .int (iN v1), .int (iN v2)] : List Value).toArray s 0 0 (Aw ad (shW κ tl).length s.heap.size)) (F0 m 22 ls [.int (iN s0_22)]) := by
    intro σ_22 v1_22 v2_22 s0_22 H locs ls hw hW hl
    unfold w_X10_bound_B22 at hw
    refine lv_istore_n (lv' := [(3, .int (iN s0_22)), (0, .ref (ad 17)), (1, .int (iN v1_22)), (2, .int (iN v2_22))]) hx hb dX10_bound_22 rfl hl (by decide) rfl (fun ls hl => ?_)
    refine lv_iload_n hx hb dX10_bound_23 rfl (lv_at hl 2 rfl) ?_
    refine n_if_eq hx hb hw.1 hw.2.1 hw.2.2 (tgt := 32) dX10_bound_24 (by decide) (fun hw => ?_) (fun hw => ?_)
    · exact hB32 σ_22 v1_22 v2_22 s0_22 H locs ls hw hW (lv_sub hl [1, 2, 3, 0] rfl)
    · refine lv_iload_n hx hb dX10_bound_27 rfl (lv_at hl 2 rfl) ?_
      refine n_iconst hx hb dX10_bound_28 ?_
      refine n_icmp_ne hx hb hw.1 (rg_c _ rfl) hw.2.1 hw.2.2 (tgt := 37) dX10_bound_29 (by decide) (fun hw => ?_) (fun hw => ?_)
      · refine lv_iload_n hx hb dX10_bound_37 rfl (lv_at hl 2 rfl) ?_
        refine n_iconst hx hb dX10_bound_38 ?_
        refine n_icmp_ne hx hb hw.1 (rg_c _ rfl) hw.2.1 hw.2.2 (tgt := 48) dX10_bound_39 (by decide) (fun hw => ?_) (fun hw => ?_)
        · refine lv_iload_n hx hb dX10_bound_48 rfl (lv_at hl 2 rfl) ?_
          refine n_iconst hx hb dX10_bound_49 ?_
          refine n_icmp_ne hx hb hw.1 (rg_c _ rfl) hw.2.1 hw.2.2 (tgt := 59) dX10_bound_50 (by decide) (fun hw => ?_) (fun hw => ?_)
          · refine n_bipush hx hb dX10_bound_59 (by decide) ?_
            exact hB61 σ_22 v1_22 v2_22 s0_22 127 H locs ls hw hW (lv_sub hl [1, 2, 3, 0] rfl)
          · refine n_sipush hx hb dX10_bound_53 (by decide) ?_
            refine lv_goto (tgt := 61) hx hb dX10_bound_56 (by decide) ?_
            exact hB61 σ_22 v1_22 v2_22 s0_22 200 H locs ls hw hW (lv_sub hl [1, 2, 3, 0] rfl)
        · refine n_sipush hx hb dX10_bound_42 (by decide) ?_
          refine lv_goto (tgt := 61) hx hb dX10_bound_45 (by decide) ?_
          exact hB61 σ_22 v1_22 v2_22 s0_22 2000 H locs ls hw hW (lv_sub hl [1, 2, 3, 0] rfl)
      · exact hB32 σ_22 v1_22 v2_22 s0_22 H locs ls hw hW (lv_sub hl [1, 2, 3, 0] rfl)
  unfold w_X10_bound at hw
  refine lv_iload_n hx hb dX10_bound_0 rfl (lv_at hl 1 rfl) ?_
  refine n_iconst hx hb dX10_bound_1 ?_
  refine n_bipush hx hb dX10_bound_2 (by decide) ?_
  refine fin_CI hW (run_S (As := [.int (iN v1), .int (iN 0), .int (iN 9)]) (rest := []) S hK hE hW (c_X10_in l G κ tl ad σ v1 0 9 _ hw s.heap.size) al_833 al_834 al_11 al_835 hd_X10_in.2 rfl rfl ⟨Nat.le_of_ble_eq_true rfl, Nat.le_of_ble_eq_true rfl⟩ rfl hl.1 rfl (Nat.le_of_ble_eq_true rfl) dX10_bound_4 ⟨Nat.zero_le _, Nat.zero_le _⟩) ?_
  intro r1 H locs hw hW
  refine n_if_ne hx hb hw.1 hw.2.1 hw.2.2 (tgt := 12) dX10_bound_7 (by decide) (fun hw => ?_) (fun hw => ?_)
  · refine lv_iload_n hx hb dX10_bound_12 rfl (lv_at hl 1 rfl) ?_
    refine n_iconst hx hb dX10_bound_13 ?_
    refine n_icmp_ne hx hb hw.1 (rg_c _ rfl) hw.2.1 hw.2.2 (tgt := 21) dX10_bound_14 (by decide) (fun hw => ?_) (fun hw => ?_)
    · refine n_iconst hx hb dX10_bound_21 ?_
      exact hB22 σ v1 v2 0 H locs ls hw hW (lv_sub hl [0, 1, 2] rfl)
    · refine n_iconst hx hb dX10_bound_17 ?_
      refine lv_goto (tgt := 22) hx hb dX10_bound_18 (by decide) ?_
      exact hB22 σ v1 v2 1 H locs ls hw hW (lv_sub hl [0, 1, 2] rfl)
  · refine n_iconst hx hb dX10_bound_10 ?_
    exact r_CM hx hb hr hlk hK hW hw dX10_bound_11
set_option maxHeartbeats 4000000 in
set_option maxRecDepth 100000 in
theorem c_X10_pin (l : Launch) (G : Gt) (κ : Nat)  (tl : Bool) (ad : Nat → Nat)  (σ : Mem) (v1 : Int) (v2 : Int) (post : Int → Mem → Prop) (hw : w_X10_pin  σ v1 v2 post) : CM l yX10_pin (Cond.code yX10_pin cX10_pin 4 (some .int)) ({ frames := 1, cells := 0, slots := 0, locals := 22 } : Room) G (shW κ tl) ad σ [.ref (ad 17), .int (iN v1), .int (iN v2)] post := by
  refine s_all (y := yX10_pin) (code := cX10_pin) (maxL := 4) (ret := (some .int)) (rm := ({ frames := 1, cells := 0, slots := 0, locals := 22 } : Room)) (av := [.ref (ad 17), .int (iN v1), .int (iN v2)]) (Qc := fun sz => QM G (shW κ tl) ad post (sz)) (by decide) (Nat.le_of_ble_eq_true rfl) ?_
  intro p e s m below meth c S hr hlk _ hK hE hW ls hl
  obtain ⟨hx, hb, hml, hown, hts⟩ := id S
  replace hl : lv_has ls 4 [(0, .ref (ad 17)), (1, .int (iN v1)), (2, .int (iN v2))] := hl
  have hB48 : ∀ (σ_48 : Mem) (v3_48 : Int) (s0_48 : Int) (s1_48 : Int) (H : Heap) (locs : List Loc) (ls : Array Slot), w_X10_pin_B48 σ_48 v3_48 s0_48 s1_48 post → Wd G (shW κ tl) ad σ_48 (Aw ad (shW κ tl).length s.heap.size) s.heap H locs → lv_has ls 4 [(3, .int (iN v3_48))] → W p l e ({ frames := 1, cells := 0, slots := 0, locals := 22 } : Room) s m ([.ref (ad 17), .int (iN v1), .int (iN v2)] : List Value).toArray below meth c H locs 0 0 (MQ below (QM G (shW κ tl) ad post (s.heap.size)) ([.ref (ad 17), .int (iN v1), .int (iN v2)] : List Value).toArray s 0 0 (Aw ad (shW κ tl).length s.heap.size)) (F0 m 48 ls [.int (iN s0_48), .int (iN s1_48), .ref (ad 23)]) := by
    intro σ_48 v3_48 s0_48 s1_48 H locs ls hw hW hl
    unfold w_X10_pin_B48 at hw
    refine g_ast hx hb hK hW 23 rfl hw.1 dX10_pin_48 (fun σ6 H locs hτ hW => ?_)
    replace hw := hw.2 σ6 hτ
    refine lv_iload_n hx hb dX10_pin_49 rfl (lv_at hl 0 rfl) ?_
    exact r_CM hx hb hr hlk hK hW hw dX10_pin_50
  have hB24 : ∀ (σ_24 : Mem)  (H : Heap) (locs : List Loc) (ls : Array Slot), w_X10_pin_B24 σ_24 post → Wd G (shW κ tl) ad σ_24 (Aw ad (shW κ tl).length s.heap.size) s.heap H locs → lv_has ls 4 [] → W p l e ({ frames := 1, cells := 0, slots := 0, locals := 22 } : Room) s m ([.ref (ad 17), .int (iN v1), .int (iN v2)] : List Value).toArray below meth c H locs 0 0 (MQ below (QM G (shW κ tl) ad post (s.heap.size)) ([.ref (ad 17), .int (iN v1), .int (iN v2)] : List Value).toArray s 0 0 (Aw ad (shW κ tl).length s.heap.size)) (F0 m 24 ls []) := by
    intro σ_24 H locs ls hw hW hl
    unfold w_X10_pin_B24 at hw
    refine n_iconst hx hb dX10_pin_24 ?_
    exact r_CM hx hb hr hlk hK hW hw dX10_pin_25
  unfold w_X10_pin at hw
  refine lv_iload_n hx hb dX10_pin_0 rfl (lv_at hl 1 rfl) ?_
  refine n_iconst hx hb dX10_pin_1 ?_
  refine lv_aload_n hx hb dX10_pin_2 rfl (lv_at hl 0 rfl) ?_
  refine g_get hx hb hts hown hK hW 17 rfl rfl uw_X10 1 (by decide) rfl al_764 (fun _ h9 => h9) dX10_pin_3 ?_
  refine n_iconst hx hb dX10_pin_6 ?_
  refine n_isub hx hb dX10_pin_7 ?_
  refine fin_CI hW (run_S (As := [.int (iN v1), .int (iN 0), .int (iN ((σ 17 1) - 1))]) (rest := []) S hK hE hW (c_X10_in l G κ tl ad σ v1 0 ((σ 17 1) - 1) _ hw s.heap.size) al_833 al_834 al_11 al_835 hd_X10_in.2 rfl rfl ⟨Nat.le_of_ble_eq_true rfl, Nat.le_of_ble_eq_true rfl⟩ rfl hl.1 rfl (Nat.le_of_ble_eq_true rfl) dX10_pin_8 ⟨Nat.zero_le _, Nat.zero_le _⟩) ?_
  intro r1 H locs hw hW
  refine n_if_eq hx hb hw.1 hw.2.1 hw.2.2 (tgt := 24) dX10_pin_11 (by decide) (fun hw => ?_) (fun hw => ?_)
  · exact hB24 σ H locs ls hw hW (lv_sub hl [] rfl)
  · refine lv_iload_n hx hb dX10_pin_14 rfl (lv_at hl 2 rfl) ?_
    refine n_iconst hx hb dX10_pin_15 ?_
    refine n_bipush hx hb dX10_pin_16 (by decide) ?_
    refine fin_CI hW (run_S (As := [.int (iN v2), .int (iN (-1)), .int (iN 99)]) (rest := []) S hK hE hW (c_X10_in l G κ tl ad σ v2 (-1) 99 _ hw H.size) al_833 al_834 al_11 al_835 hd_X10_in.2 rfl rfl ⟨Nat.le_of_ble_eq_true rfl, Nat.le_of_ble_eq_true rfl⟩ rfl hl.1 rfl (Nat.le_of_ble_eq_true rfl) dX10_pin_18 ⟨Nat.zero_le _, Nat.zero_le _⟩) ?_
    intro r3 H locs hw hW
    refine n_if_ne hx hb hw.1 hw.2.1 hw.2.2 (tgt := 26) dX10_pin_21 (by decide) (fun hw => ?_) (fun hw => ?_)
    · refine lv_aload_n hx hb dX10_pin_26 rfl (lv_at hl 0 rfl) ?_
      refine g_getr hx hb hts hown hK hW 17 rfl (q := 23) rfl uw_X10 7 (by decide) rfl al_770 (fun _ h9 => h9) dX10_pin_27 ?_
      refine lv_iload_n hx hb dX10_pin_30 rfl (lv_at hl 1 rfl) ?_
      refine g_ald hx hb hK hW 23 rfl hw.1 dX10_pin_31 ?_
      replace hw := hw.2
      refine lv_istore_n (lv' := [(3, .int (iN (σ 23 (v1).toNat))), (0, .ref (ad 17)), (1, .int (iN v1)), (2, .int (iN v2))]) hx hb dX10_pin_32 rfl hl (by decide) rfl (fun ls hl => ?_)
      refine lv_aload_n hx hb dX10_pin_33 rfl (lv_at hl 1 rfl) ?_
      refine g_getr hx hb hts hown hK hW 17 rfl (q := 23) rfl uw_X10 7 (by decide) rfl al_770 (fun _ h9 => h9) dX10_pin_34 ?_
      refine lv_iload_n hx hb dX10_pin_37 rfl (lv_at hl 2 rfl) ?_
      refine lv_iload_n hx hb dX10_pin_38 rfl (lv_at hl 3 rfl) ?_
      refine n_if_ge hx hb hw.1 hw.2.1 hw.2.2 (tgt := 47) dX10_pin_39 (by decide) (fun hw => ?_) (fun hw => ?_)
      · refine lv_iload_n hx hb dX10_pin_47 rfl (lv_at hl 3 rfl) ?_
        exact hB48 σ (σ 23 (v1).toNat) v2 v1 H locs ls hw hW (lv_sub hl [0] rfl)
      · refine n_bipush hx hb dX10_pin_42 (by decide) ?_
        refine lv_goto (tgt := 48) hx hb dX10_pin_44 (by decide) ?_
        exact hB48 σ (σ 23 (v1).toNat) (-2) v1 H locs ls hw hW (lv_sub hl [0] rfl)
    · exact hB24 σ H locs ls hw hW (lv_sub hl [] rfl)
set_option maxHeartbeats 4000000 in
set_option maxRecDepth 100000 in
theorem c_X10_add (l : Launch) (G : Gt) (κ : Nat)  (tl : Bool) (ad : Nat → Nat)  (σ : Mem) (v1 : Int) (v2 : Int) (v3 : Int) (v4 : Int) (post : Mem → Prop) (hw : w_X10_add  σ v1 v2 v3 v4 post) : CV l yX10_add (Cond.code yX10_add cX10_add 6 none) ({ frames := 0, cells := 0, slots := 0, locals := 0 } : Room) G (shW κ tl) ad σ [.ref (ad 17), .int (iN v1), .int (iN v2), .int (iN v3), .int (iN v4)] post := by
  refine s_all (y := yX10_add) (code := cX10_add) (maxL := 6) (ret := none) (rm := ({ frames := 0, cells := 0, slots := 0, locals := 0 } : Room)) (av := [.ref (ad 17), .int (iN v1), .int (iN v2), .int (iN v3), .int (iN v4)]) (Qc := fun sz => QV G (shW κ tl) ad post (sz)) (by decide) (Nat.le_of_ble_eq_true rfl) ?_
  intro p e s m below meth c S hr hlk _ hK hE hW ls hl
  obtain ⟨hx, hb, hml, hown, hts⟩ := id S
  replace hl : lv_has ls 6 [(0, .ref (ad 17)), (1, .int (iN v1)), (2, .int (iN v2)), (3, .int (iN v3)), (4, .int (iN v4))] := hl
  unfold w_X10_add at hw
  refine n_bipush hx hb dX10_add_0 (by decide) ?_
  refine lv_iload_n hx hb dX10_add_2 rfl (lv_at hl 1 rfl) ?_
  refine n_imul hx hb dX10_add_3 ?_
  refine lv_aload_n hx hb dX10_add_4 rfl (lv_at hl 0 rfl) ?_
  refine g_getr hx hb hts hown hK hW 17 rfl (q := 25) rfl uw_X10 10 (by decide) rfl al_773 (fun _ h9 => h9) dX10_add_5 ?_
  refine lv_iload_n hx hb dX10_add_8 rfl (lv_at hl 1 rfl) ?_
  refine g_ald hx hb hK hW 25 rfl hw.1 dX10_add_9 ?_
  replace hw := hw.2
  refine n_iadd hx hb dX10_add_10 ?_
  refine lv_istore (lv' := [(5, .int (iN ((80 * v1) + (σ 25 (v1).toNat)))), (0, .ref (ad 17)), (1, .int (iN v1)), (2, .int (iN v2)), (3, .int (iN v3)), (4, .int (iN v4))]) hx hb dX10_add_11 hl (by decide) rfl (fun ls hl => ?_)
  refine lv_aload_n hx hb dX10_add_13 rfl (lv_at hl 1 rfl) ?_
  refine g_getr hx hb hts hown hK hW 17 rfl (q := 26) rfl uw_X10 11 (by decide) rfl al_774 (fun _ h9 => h9) dX10_add_14 ?_
  refine lv_iload hx hb dX10_add_17 (lv_at hl 0 rfl) ?_
  refine lv_iload_n hx hb dX10_add_19 rfl (lv_at hl 3 rfl) ?_
  refine g_ast hx hb hK hW 26 rfl hw.1 dX10_add_20 (fun σ1 H locs hτ hW => ?_)
  replace hw := hw.2 σ1 hτ
  refine lv_aload_n hx hb dX10_add_21 rfl (lv_at hl 1 rfl) ?_
  refine g_getr hx hb hts hown hK hW 17 rfl (q := 27) rfl uw_X10 12 (by decide) rfl al_775 (fun _ h9 => h9) dX10_add_22 ?_
  refine lv_iload hx hb dX10_add_25 (lv_at hl 0 rfl) ?_
  refine lv_iload_n hx hb dX10_add_27 rfl (lv_at hl 4 rfl) ?_
  refine g_ast hx hb hK hW 27 rfl hw.1 dX10_add_28 (fun σ2 H locs hτ hW => ?_)
  replace hw := hw.2 σ2 hτ
  refine lv_aload_n hx hb dX10_add_29 rfl (lv_at hl 1 rfl) ?_
  refine g_getr hx hb hts hown hK hW 17 rfl (q := 28) rfl uw_X10 13 (by decide) rfl al_776 (fun _ h9 => h9) dX10_add_30 ?_
  refine lv_iload hx hb dX10_add_33 (lv_at hl 0 rfl) ?_
  refine lv_iload hx hb dX10_add_35 (lv_at hl 5 rfl) ?_
  refine g_ast hx hb hK hW 28 rfl hw.1 dX10_add_37 (fun σ3 H locs hτ hW => ?_)
  replace hw := hw.2 σ3 hτ
  refine lv_aload_n hx hb dX10_add_38 rfl (lv_at hl 1 rfl) ?_
  refine g_getr hx hb hts hown hK hW 17 rfl (q := 25) rfl uw_X10 10 (by decide) rfl al_773 (fun _ h9 => h9) dX10_add_39 ?_
  refine lv_iload_n hx hb dX10_add_42 rfl (lv_at hl 2 rfl) ?_
  refine lv_dup2_11 hx hb dX10_add_43 rfl rfl ?_
  refine g_ald hx hb hK hW 25 rfl hw.1 dX10_add_44 ?_
  replace hw := hw.2
  refine n_iconst hx hb dX10_add_45 ?_
  refine n_iadd hx hb dX10_add_46 ?_
  refine g_ast hx hb hK hW 25 rfl hw.1 dX10_add_47 (fun σ4 H locs hτ hW => ?_)
  replace hw := hw.2 σ4 hτ
  exact r_CV hx hb hr hlk hK hW hw dX10_add_48
set_option maxHeartbeats 4000000 in
set_option maxRecDepth 100000 in
theorem c_X10_bits (l : Launch) (G : Gt) (κ : Nat)  (tl : Bool) (ad : Nat → Nat)  (σ : Mem) (v0 : Int) (post : Int → Prop) (hw : w_X10_bits  σ v0 post) : CI l yX10_bits (Cond.code yX10_bits cX10_bits 3 (some .int)) ({ frames := 0, cells := 0, slots := 0, locals := 0 } : Room) G (shW κ tl) ad σ [.int (iN v0)] post := by
  refine s_all (y := yX10_bits) (code := cX10_bits) (maxL := 3) (ret := (some .int)) (rm := ({ frames := 0, cells := 0, slots := 0, locals := 0 } : Room)) (av := [.int (iN v0)]) (Qc := fun sz => QI G (shW κ tl) ad σ post (sz)) (by decide) (Nat.le_of_ble_eq_true rfl) ?_
  intro p e s m below meth c S hr hlk _ hK hE hW ls hl
  obtain ⟨hx, hb, hml, hown, hts⟩ := id S
  replace hl : lv_has ls 3 [(0, .int (iN v0))] := hl
  have hL4 : ∀ (v0_4 : Int) (n : Nat) (v1_4 : Int) (v2_4 : Int) (H : Heap) (locs : List Loc) (ls : Array Slot), w_X10_bits_L4 σ v0_4 post n v1_4 v2_4 → Wd G (shW κ tl) ad σ (Aw ad (shW κ tl).length s.heap.size) s.heap H locs → lv_has ls 3 [(0, .int (iN v0_4)), (1, .int (iN v1_4)), (2, .int (iN v2_4))] → W p l e ({ frames := 0, cells := 0, slots := 0, locals := 0 } : Room) s m ([.int (iN v0)] : List Value).toArray below meth c H locs 0 0 (MQ below (QI G (shW κ tl) ad σ post (s.heap.size)) ([.int (iN v0)] : List Value).toArray s 0 0 (Aw ad (shW κ tl).length s.heap.size)) (F0 m 4 ls []) := by
    intro v0_4 n
    induction n with
    | zero =>
      intro v1_4 v2_4 H locs ls hw
      exact hw.elim
    | succ n4 ih4 =>
      intro v1_4 v2_4 H locs ls hw hW hl
      replace hw : w_X10_bits_L4_body σ v0_4 post (w_X10_bits_L4 σ v0_4 post n4) v1_4 v2_4 := hw
      unfold w_X10_bits_L4_body at hw
      refine lv_iload_n hx hb dX10_bits_4 rfl (lv_at hl 2 rfl) ?_
      refine n_iconst hx hb dX10_bits_5 ?_
      refine n_icmp_ge hx hb hw.1 (rg_c _ rfl) hw.2.1 hw.2.2 (tgt := 23) dX10_bits_6 (by decide) (fun hw => ?_) (fun hw => ?_)
      · refine lv_iload_n hx hb dX10_bits_23 rfl (lv_at hl 1 rfl) ?_
        exact r_CI hx hb hr hlk hK hW hw dX10_bits_24
      · refine lv_iload_n hx hb dX10_bits_9 rfl (lv_at hl 1 rfl) ?_
        refine lv_iload_n hx hb dX10_bits_10 rfl (lv_at hl 0 rfl) ?_
        refine lv_iload_n hx hb dX10_bits_11 rfl (lv_at hl 2 rfl) ?_
        refine n_ishr hx hb dX10_bits_12 ?_
        refine n_iconst hx hb dX10_bits_13 ?_
        refine n_iand hx hb dX10_bits_14 ?_
        refine n_iadd hx hb dX10_bits_15 ?_
        refine lv_istore_n (lv' := [(1, .int (iN (v1_4 + (andI (shrI v0_4 v2_4) 1)))), (0, .int (iN v0_4)), (2, .int (iN v2_4))]) hx hb dX10_bits_16 rfl hl (by decide) rfl (fun ls hl => ?_)
        refine lv_iinc (v := iN (v2_4 + 1)) (lv' := [(2, .int (iN (v2_4 + 1))), (1, .int (iN (v1_4 + (andI (shrI v0_4 v2_4) 1)))), (0, .int (iN v0_4))]) hx hb dX10_bits_17 hl (k := 2) rfl (iN_add _ _) (by decide) rfl (fun ls hl => ?_)
        refine lv_goto (tgt := 4) hx hb dX10_bits_20 (by decide) ?_
        exact ih4 (v1_4 + (andI (shrI v0_4 v2_4) 1)) (v2_4 + 1) H locs ls hw hW (lv_sub hl [2, 1, 0] rfl)
  unfold w_X10_bits at hw
  refine n_iconst hx hb dX10_bits_0 ?_
  refine lv_istore_n (lv' := [(1, .int (iN 0)), (0, .int (iN v0))]) hx hb dX10_bits_1 rfl hl (by decide) rfl (fun ls hl => ?_)
  refine n_iconst hx hb dX10_bits_2 ?_
  refine lv_istore_n (lv' := [(2, .int (iN 0)), (1, .int (iN 0)), (0, .int (iN v0))]) hx hb dX10_bits_3 rfl hl (by decide) rfl (fun ls hl => ?_)
  obtain ⟨n, hw⟩ := hw
  exact hL4 v0 n 0 0 s.heap [] ls hw hW (lv_sub hl [2, 1, 0] rfl)
set_option maxHeartbeats 4000000 in
set_option maxRecDepth 100000 in
theorem c_X10_finger (l : Launch) (G : Gt) (κ : Nat)  (tl : Bool) (ad : Nat → Nat)  (σ : Mem) (v1 : Int) (v2 : Int) (v3 : Int) (post : Int → Prop) (hw : w_X10_finger  σ v1 v2 v3 post) : CI l yX10_finger (Cond.code yX10_finger cX10_finger 6 (some .int)) ({ frames := 0, cells := 0, slots := 0, locals := 0 } : Room) G (shW κ tl) ad σ [.ref (ad 17), .int (iN v1), .int (iN v2), .int (iN v3)] post := by
  refine s_all (y := yX10_finger) (code := cX10_finger) (maxL := 6) (ret := (some .int)) (rm := ({ frames := 0, cells := 0, slots := 0, locals := 0 } : Room)) (av := [.ref (ad 17), .int (iN v1), .int (iN v2), .int (iN v3)]) (Qc := fun sz => QI G (shW κ tl) ad σ post (sz)) (by decide) (Nat.le_of_ble_eq_true rfl) ?_
  intro p e s m below meth c S hr hlk _ hK hE hW ls hl
  obtain ⟨hx, hb, hml, hown, hts⟩ := id S
  replace hl : lv_has ls 6 [(0, .ref (ad 17)), (1, .int (iN v1)), (2, .int (iN v2)), (3, .int (iN v3))] := hl
  have hL29 : ∀ (v2_29 : Int) (n : Nat) (v4_29 : Int) (v5_29 : Int) (H : Heap) (locs : List Loc) (ls : Array Slot), w_X10_finger_L29 σ v2_29 post n v4_29 v5_29 → Wd G (shW κ tl) ad σ (Aw ad (shW κ tl).length s.heap.size) s.heap H locs → lv_has ls 6 [(2, .int (iN v2_29)), (4, .int (iN v4_29)), (5, .int (iN v5_29))] → W p l e ({ frames := 0, cells := 0, slots := 0, locals := 0 } : Room) s m ([.ref (ad 17), .int (iN v1), .int (iN v2), .int (iN v3)] : List Value).toArray below meth c H locs 0 0 (MQ below (QI G (shW κ tl) ad σ post (s.heap.size)) ([.ref (ad 17), .int (iN v1), .int (iN v2), .int (iN v3)] : List Value).toArray s 0 0 (Aw ad (shW κ tl).length s.heap.size)) (F0 m 29 ls []) := by
    intro v2_29 n
    induction n with
    | zero =>
      intro v4_29 v5_29 H locs ls hw
      exact hw.elim
    | succ n29 ih29 =>
      intro v4_29 v5_29 H locs ls hw hW hl
      replace hw : w_X10_finger_L29_body σ v2_29 post (w_X10_finger_L29 σ v2_29 post n29) v4_29 v5_29 := hw
      have hB45 : ∀  (v4_45 : Int) (v5_45 : Int) (H : Heap) (locs : List Loc) (ls : Array Slot), w_X10_finger_B45 σ v2_29 v4_45 v5_45 post (w_X10_finger_L29 σ v2_29 post n29) → Wd G (shW κ tl) ad σ (Aw ad (shW κ tl).length s.heap.size) s.heap H locs → lv_has ls 6 [(2, .int (iN v2_29)), (4, .int (iN v4_45)), (5, .int (iN v5_45))] → W p l e ({ frames := 0, cells := 0, slots := 0, locals := 0 } : Room) s m ([.ref (ad 17), .int (iN v1), .int (iN v2), .int (iN v3)] : List Value).toArray below meth c H locs 0 0 (MQ below (QI G (shW κ tl) ad σ post (s.heap.size)) ([.ref (ad 17), .int (iN v1), .int (iN v2), .int (iN v3)] : List Value).toArray s 0 0 (Aw ad (shW κ tl).length s.heap.size)) (F0 m 45 ls []) := by
        intro v4_45 v5_45 H locs ls hw hW hl
        unfold w_X10_finger_B45 at hw
        refine lv_iload hx hb dX10_finger_45 (lv_at hl 1 rfl) ?_
        refine lv_iload_n hx hb dX10_finger_47 rfl (lv_at hl 0 rfl) ?_
        refine lv_iload hx hb dX10_finger_48 (lv_at hl 2 rfl) ?_
        refine n_iconst hx hb dX10_finger_50 ?_
        refine n_isub hx hb dX10_finger_51 ?_
        refine n_ishr hx hb dX10_finger_52 ?_
        refine n_iconst hx hb dX10_finger_53 ?_
        refine n_iand hx hb dX10_finger_54 ?_
        refine n_isub hx hb dX10_finger_55 ?_
        refine lv_istore (lv' := [(4, .int (iN (v4_45 - (andI (shrI v2_29 (v5_45 - 1)) 1)))), (2, .int (iN v2_29)), (5, .int (iN v5_45))]) hx hb dX10_finger_56 hl (by decide) rfl (fun ls hl => ?_)
        refine lv_iinc (v := iN (v5_45 + 1)) (lv' := [(5, .int (iN (v5_45 + 1))), (4, .int (iN (v4_45 - (andI (shrI v2_29 (v5_45 - 1)) 1)))), (2, .int (iN v2_29))]) hx hb dX10_finger_58 hl (k := 2) rfl (iN_add _ _) (by decide) rfl (fun ls hl => ?_)
        refine lv_goto (tgt := 29) hx hb dX10_finger_61 (by decide) ?_
        exact ih29 (v4_45 - (andI (shrI v2_29 (v5_45 - 1)) 1)) (v5_45 + 1) H locs ls hw hW (lv_sub hl [2, 1, 0] rfl)
      unfold w_X10_finger_L29_body at hw
      refine lv_iload_n hx hb dX10_finger_29 rfl (lv_at hl 0 rfl) ?_
      refine lv_iload hx hb dX10_finger_30 (lv_at hl 2 rfl) ?_
      refine n_iconst hx hb dX10_finger_32 ?_
      refine n_isub hx hb dX10_finger_33 ?_
      refine n_ishr hx hb dX10_finger_34 ?_
      refine n_iconst hx hb dX10_finger_35 ?_
      refine n_iand hx hb dX10_finger_36 ?_
      refine n_if_eq hx hb hw.1 hw.2.1 hw.2.2 (tgt := 45) dX10_finger_37 (by decide) (fun hw => ?_) (fun hw => ?_)
      · exact hB45 v4_29 v5_29 H locs ls hw hW (lv_sub hl [0, 1, 2] rfl)
      · refine lv_iload hx hb dX10_finger_40 (lv_at hl 1 rfl) ?_
        refine n_if_le hx hb hw.1 hw.2.1 hw.2.2 (tgt := 64) dX10_finger_42 (by decide) (fun hw => ?_) (fun hw => ?_)
        · refine lv_iload hx hb dX10_finger_64 (lv_at hl 2 rfl) ?_
          exact r_CI hx hb hr hlk hK hW hw dX10_finger_66
        · exact hB45 v4_29 v5_29 H locs ls hw hW (lv_sub hl [0, 1, 2] rfl)
  have hB24 : ∀  (v2_24 : Int) (s0_24 : Int) (H : Heap) (locs : List Loc) (ls : Array Slot), w_X10_finger_B24 σ v2_24 s0_24 post → Wd G (shW κ tl) ad σ (Aw ad (shW κ tl).length s.heap.size) s.heap H locs → lv_has ls 6 [(2, .int (iN v2_24))] → W p l e ({ frames := 0, cells := 0, slots := 0, locals := 0 } : Room) s m ([.ref (ad 17), .int (iN v1), .int (iN v2), .int (iN v3)] : List Value).toArray below meth c H locs 0 0 (MQ below (QI G (shW κ tl) ad σ post (s.heap.size)) ([.ref (ad 17), .int (iN v1), .int (iN v2), .int (iN v3)] : List Value).toArray s 0 0 (Aw ad (shW κ tl).length s.heap.size)) (F0 m 24 ls [.int (iN s0_24)]) := by
    intro v2_24 s0_24 H locs ls hw hW hl
    unfold w_X10_finger_B24 at hw
    refine lv_istore (lv' := [(4, .int (iN s0_24)), (2, .int (iN v2_24))]) hx hb dX10_finger_24 hl (by decide) rfl (fun ls hl => ?_)
    refine n_iconst hx hb dX10_finger_26 ?_
    refine lv_istore (lv' := [(5, .int (iN 1)), (4, .int (iN s0_24)), (2, .int (iN v2_24))]) hx hb dX10_finger_27 hl (by decide) rfl (fun ls hl => ?_)
    obtain ⟨n, hw⟩ := hw
    exact hL29 v2_24 n s0_24 1 H locs ls hw hW (lv_sub hl [2, 1, 0] rfl)
  unfold w_X10_finger at hw
  refine lv_aload_n hx hb dX10_finger_0 rfl (lv_at hl 0 rfl) ?_
  refine g_getr hx hb hts hown hK hW 17 rfl (q := 18) rfl uw_X10 2 (by decide) rfl al_765 (fun _ h9 => h9) dX10_finger_1 ?_
  refine lv_iload_n hx hb dX10_finger_4 rfl (lv_at hl 1 rfl) ?_
  refine g_ald hx hb hK hW 18 rfl hw.1 dX10_finger_5 ?_
  replace hw := hw.2
  refine n_iconst hx hb dX10_finger_6 ?_
  refine n_icmp_ne hx hb hw.1 (rg_c _ rfl) hw.2.1 hw.2.2 (tgt := 14) dX10_finger_7 (by decide) (fun hw => ?_) (fun hw => ?_)
  · refine lv_aload_n hx hb dX10_finger_14 rfl (lv_at hl 0 rfl) ?_
    refine g_getr hx hb hts hown hK hW 17 rfl (q := 21) rfl uw_X10 5 (by decide) rfl al_768 (fun _ h9 => h9) dX10_finger_15 ?_
    refine lv_iload_n hx hb dX10_finger_18 rfl (lv_at hl 1 rfl) ?_
    refine g_ald hx hb hK hW 21 rfl hw.1 dX10_finger_19 ?_
    replace hw := hw.2
    refine n_iconst hx hb dX10_finger_20 ?_
    refine n_isub hx hb dX10_finger_21 ?_
    refine lv_iload_n hx hb dX10_finger_22 rfl (lv_at hl 3 rfl) ?_
    refine n_isub hx hb dX10_finger_23 ?_
    exact hB24 v2 (((σ 21 (v1).toNat) - 1) - v3) s.heap [] ls hw hW (lv_sub hl [2] rfl)
  · refine lv_iload_n hx hb dX10_finger_10 rfl (lv_at hl 3 rfl) ?_
    refine lv_goto (tgt := 24) hx hb dX10_finger_11 (by decide) ?_
    exact hB24 v2 v3 s.heap [] ls hw hW (lv_sub hl [2] rfl)
set_option maxHeartbeats 4000000 in
set_option maxRecDepth 100000 in
theorem c_X10_fingers (l : Launch) (G : Gt) (κ : Nat)  (tl : Bool) (ad : Nat → Nat)  (σ : Mem) (v1 : Int) (v2 : Int) (post : Mem → Prop) (hw : w_X10_fingers  σ v1 v2 post) : CV l yX10_fingers (Cond.code yX10_fingers cX10_fingers 10 none) ({ frames := 1, cells := 0, slots := 0, locals := 25 } : Room) G (shW κ tl) ad σ [.ref (ad 17), .int (iN v1), .int (iN v2)] post := by
  refine s_all (y := yX10_fingers) (code := cX10_fingers) (maxL := 10) (ret := none) (rm := ({ frames := 1, cells := 0, slots := 0, locals := 25 } : Room)) (av := [.ref (ad 17), .int (iN v1), .int (iN v2)]) (Qc := fun sz => QV G (shW κ tl) ad post (sz)) (by decide) (Nat.le_of_ble_eq_true rfl) ?_
  intro p e s m below meth c S hr hlk _ hK hE hW ls hl
  obtain ⟨hx, hb, hml, hown, hts⟩ := id S
  replace hl : lv_has ls 10 [(0, .ref (ad 17)), (1, .int (iN v1)), (2, .int (iN v2))] := hl
  have hB243 : ∀ (σ_243 : Mem) (v3_243 : Int) (s0_243 : Int) (s1_243 : Int) (s2_243 : Int) (H : Heap) (locs : List Loc) (ls : Array Slot), w_X10_fingers_B243 σ_243 v3_243 s0_243 s1_243 s2_243 post → Wd G (shW κ tl) ad σ_243 (Aw ad (shW κ tl).length s.heap.size) s.heap H locs → lv_has ls 10 [(3, .int (iN v3_243))] → W p l e ({ frames := 1, cells := 0, slots := 0, locals := 25 } : Room) s m ([.ref (ad 17), .int (iN v1), .int (iN v2)] : List Value).toArray below meth c H locs 0 0 (MQ below (QV G (shW κ tl) ad post (s.heap.size)) ([.ref (ad 17), .int (iN v1), .int (iN v2)] : List Value).toArray s 0 0 (Aw ad (shW κ tl).length s.heap.size)) (F0 m 243 ls [.int (iN s0_243), .int (iN s1_243), .int (iN s2_243), .ref (ad 17)]) := by
    intro σ_243 v3_243 s0_243 s1_243 s2_243 H locs ls hw hW hl
    unfold w_X10_fingers_B243 at hw
    refine lv_iload_n hx hb dX10_fingers_243 rfl (lv_at hl 0 rfl) ?_
    refine fin_CV hW (run_V (k := 17) (As := [.int (iN s2_243), .int (iN s1_243), .int (iN s0_243), .int (iN v3_243)]) (rest := []) S hK hE hW (c_X10_add l G κ tl ad σ_243 s2_243 s1_243 s0_243 v3_243 _ hw H.size) rfl rfl al_879 al_881 sl_X10_add al_11 al_882 hd_X10_add rfl rfl ⟨Nat.le_of_ble_eq_true rfl, Nat.le_of_ble_eq_true rfl⟩ rfl hl.1 rfl (Nat.le_of_ble_eq_true rfl) dX10_fingers_244 ⟨Nat.zero_le _, Nat.zero_le _⟩) ?_
    intro σ12 H locs hw hW
    exact r_CV hx hb hr hlk hK hW hw dX10_fingers_247
  have hB186 : ∀ (σ_186 : Mem) (v1_186 : Int) (v2_186 : Int) (v3_186 : Int) (s0_186 : Int) (H : Heap) (locs : List Loc) (ls : Array Slot), w_X10_fingers_B186 σ_186 v1_186 v2_186 v3_186 s0_186 post → Wd G (shW κ tl) ad σ_186 (Aw ad (shW κ tl).length s.heap.size) s.heap H locs → lv_has ls 10 [(0, .ref (ad 17)), (1, .int (iN v1_186)), (2, .int (iN v2_186)), (3, .int (iN v3_186))] → W p l e ({ frames := 1, cells := 0, slots := 0, locals := 25 } : Room) s m ([.ref (ad 17), .int (iN v1), .int (iN v2)] : List Value).toArray below meth c H locs 0 0 (MQ below (QV G (shW κ tl) ad post (s.heap.size)) ([.ref (ad 17), .int (iN v1), .int (iN v2)] : List Value).toArray s 0 0 (Aw ad (shW κ tl).length s.heap.size)) (F0 m 186 ls [.int (iN s0_186)]) := by
    intro σ_186 v1_186 v2_186 v3_186 s0_186 H locs ls hw hW hl
    unfold w_X10_fingers_B186 at hw
    refine lv_istore (lv' := [(4, .int (iN s0_186)), (0, .ref (ad 17)), (1, .int (iN v1_186)), (2, .int (iN v2_186)), (3, .int (iN v3_186))]) hx hb dX10_fingers_186 hl (by decide) rfl (fun ls hl => ?_)
    refine n_iconst hx hb dX10_fingers_188 ?_
    refine lv_aload_n hx hb dX10_fingers_189 rfl (lv_at hl 1 rfl) ?_
    refine lv_iload_n hx hb dX10_fingers_190 rfl (lv_at hl 2 rfl) ?_
    refine lv_iload_n hx hb dX10_fingers_191 rfl (lv_at hl 3 rfl) ?_
    refine lv_iload hx hb dX10_fingers_192 (lv_at hl 0 rfl) ?_
    refine fin_CI hW (run_V (k := 17) (As := [.int (iN v1_186), .int (iN v2_186), .int (iN s0_186)]) (rest := [.int (iN 2)]) S hK hE hW (c_X10_finger l G κ tl ad σ_186 v1_186 v2_186 s0_186 _ hw H.size) rfl rfl al_872 al_874 sl_X10_finger al_11 al_875 hd_X10_finger rfl rfl ⟨Nat.le_of_ble_eq_true rfl, Nat.le_of_ble_eq_true rfl⟩ rfl hl.1 rfl (Nat.le_of_ble_eq_true rfl) dX10_fingers_194 ⟨Nat.zero_le _, Nat.zero_le _⟩) ?_
    intro r13 H locs hw hW
    refine n_iconst hx hb dX10_fingers_197 ?_
    refine n_isub hx hb dX10_fingers_198 ?_
    refine n_imul hx hb dX10_fingers_199 ?_
    refine lv_istore (lv' := [(5, .int (iN (2 * (r13 - 1)))), (4, .int (iN s0_186)), (0, .ref (ad 17)), (1, .int (iN v1_186)), (2, .int (iN v2_186)), (3, .int (iN v3_186))]) hx hb dX10_fingers_200 hl (by decide) rfl (fun ls hl => ?_)
    refine lv_aload_n hx hb dX10_fingers_202 rfl (lv_at hl 2 rfl) ?_
    refine lv_iload_n hx hb dX10_fingers_203 rfl (lv_at hl 3 rfl) ?_
    refine lv_iload_n hx hb dX10_fingers_204 rfl (lv_at hl 4 rfl) ?_
    refine lv_aload_n hx hb dX10_fingers_205 rfl (lv_at hl 2 rfl) ?_
    refine g_getr hx hb hts hown hK hW 17 rfl (q := 18) rfl uw_X10 2 (by decide) rfl al_765 (fun _ h9 => h9) dX10_fingers_206 ?_
    refine lv_iload_n hx hb dX10_fingers_209 rfl (lv_at hl 3 rfl) ?_
    refine g_ald hx hb hK hW 18 rfl hw.1 dX10_fingers_210 ?_
    replace hw := hw.2
    refine n_iconst hx hb dX10_fingers_211 ?_
    refine n_icmp_ne hx hb hw.1 (rg_c _ rfl) hw.2.1 hw.2.2 (tgt := 229) dX10_fingers_212 (by decide) (fun hw => ?_) (fun hw => ?_)
    · refine lv_aload_n hx hb dX10_fingers_229 rfl (lv_at hl 2 rfl) ?_
      refine g_getr hx hb hts hown hK hW 17 rfl (q := 22) rfl uw_X10 6 (by decide) rfl al_769 (fun _ h9 => h9) dX10_fingers_230 ?_
      refine n_iconst hx hb dX10_fingers_233 ?_
      refine lv_iload_n hx hb dX10_fingers_234 rfl (lv_at hl 3 rfl) ?_
      refine n_imul hx hb dX10_fingers_235 ?_
      refine lv_iload hx hb dX10_fingers_236 (lv_at hl 1 rfl) ?_
      refine n_iadd hx hb dX10_fingers_238 ?_
      refine g_ald hx hb hK hW 22 rfl hw.1 dX10_fingers_239 ?_
      replace hw := hw.2
      refine lv_iload hx hb dX10_fingers_240 (lv_at hl 0 rfl) ?_
      refine n_iadd hx hb dX10_fingers_242 ?_
      exact hB243 σ_186 v3_186 ((σ_186 22 (((3 * v1_186) + s0_186)).toNat) + (2 * (r13 - 1))) v2_186 v1_186 H locs ls hw hW (lv_sub hl [5] rfl)
    · refine lv_aload_n hx hb dX10_fingers_215 rfl (lv_at hl 2 rfl) ?_
      refine g_getr hx hb hts hown hK hW 17 rfl (q := 22) rfl uw_X10 6 (by decide) rfl al_769 (fun _ h9 => h9) dX10_fingers_216 ?_
      refine n_iconst hx hb dX10_fingers_219 ?_
      refine lv_iload_n hx hb dX10_fingers_220 rfl (lv_at hl 3 rfl) ?_
      refine n_imul hx hb dX10_fingers_221 ?_
      refine g_ald hx hb hK hW 22 rfl hw.1 dX10_fingers_222 ?_
      replace hw := hw.2
      refine lv_iload hx hb dX10_fingers_223 (lv_at hl 0 rfl) ?_
      refine n_isub hx hb dX10_fingers_225 ?_
      refine lv_goto (tgt := 243) hx hb dX10_fingers_226 (by decide) ?_
      exact hB243 σ_186 v3_186 ((σ_186 22 ((3 * v1_186)).toNat) - (2 * (r13 - 1))) v2_186 v1_186 H locs ls hw hW (lv_sub hl [5] rfl)
  have hL5 : ∀ (σ_5 : Mem) (v1_5 : Int) (v2_5 : Int) (n : Nat) (v3_5 : Int) (v4_5 : Int) (H : Heap) (locs : List Loc) (ls : Array Slot), w_X10_fingers_L5 σ_5 v1_5 v2_5 post n v3_5 v4_5 → Wd G (shW κ tl) ad σ_5 (Aw ad (shW κ tl).length s.heap.size) s.heap H locs → lv_has ls 10 [(0, .ref (ad 17)), (1, .int (iN v1_5)), (2, .int (iN v2_5)), (3, .int (iN v3_5)), (4, .int (iN v4_5))] → W p l e ({ frames := 1, cells := 0, slots := 0, locals := 25 } : Room) s m ([.ref (ad 17), .int (iN v1), .int (iN v2)] : List Value).toArray below meth c H locs 0 0 (MQ below (QV G (shW κ tl) ad post (s.heap.size)) ([.ref (ad 17), .int (iN v1), .int (iN v2)] : List Value).toArray s 0 0 (Aw ad (shW κ tl).length s.heap.size)) (F0 m 5 ls []) := by
    intro σ_5 v1_5 v2_5 n
    induction n with
    | zero =>
      intro v3_5 v4_5 H locs ls hw
      exact hw.elim
    | succ n5 ih5 =>
      intro v3_5 v4_5 H locs ls hw hW hl
      replace hw : w_X10_fingers_L5_body σ_5 v1_5 v2_5 post (w_X10_fingers_L5 σ_5 v1_5 v2_5 post n5) v3_5 v4_5 := hw
      have hB156 : ∀  (v4_156 : Int) (s0_156 : Int) (s1_156 : Int) (H : Heap) (locs : List Loc) (ls : Array Slot), w_X10_fingers_B156 σ_5 v1_5 v2_5 v4_156 s0_156 s1_156 post (w_X10_fingers_L5 σ_5 v1_5 v2_5 post n5) → Wd G (shW κ tl) ad σ_5 (Aw ad (shW κ tl).length s.heap.size) s.heap H locs → lv_has ls 10 [(0, .ref (ad 17)), (1, .int (iN v1_5)), (2, .int (iN v2_5)), (4, .int (iN v4_156))] → W p l e ({ frames := 1, cells := 0, slots := 0, locals := 25 } : Room) s m ([.ref (ad 17), .int (iN v1), .int (iN v2)] : List Value).toArray below meth c H locs 0 0 (MQ below (QV G (shW κ tl) ad post (s.heap.size)) ([.ref (ad 17), .int (iN v1), .int (iN v2)] : List Value).toArray s 0 0 (Aw ad (shW κ tl).length s.heap.size)) (F0 m 156 ls [.int (iN s0_156), .int (iN s1_156)]) := by
        intro v4_156 s0_156 s1_156 H locs ls hw hW hl
        unfold w_X10_fingers_B156 at hw
        refine n_iadd hx hb dX10_fingers_156 ?_
        refine lv_istore_n (lv' := [(3, .int (iN (s1_156 + s0_156))), (0, .ref (ad 17)), (1, .int (iN v1_5)), (2, .int (iN v2_5)), (4, .int (iN v4_156))]) hx hb dX10_fingers_157 rfl hl (by decide) rfl (fun ls hl => ?_)
        refine lv_iinc (v := iN (v4_156 + 1)) (lv' := [(4, .int (iN (v4_156 + 1))), (3, .int (iN (s1_156 + s0_156))), (0, .ref (ad 17)), (1, .int (iN v1_5)), (2, .int (iN v2_5))]) hx hb dX10_fingers_158 hl (k := 4) rfl (iN_add _ _) (by decide) rfl (fun ls hl => ?_)
        refine lv_goto (tgt := 5) hx hb dX10_fingers_161 (by decide) ?_
        exact ih5 (s1_156 + s0_156) (v4_156 + 1) H locs ls hw hW (lv_sub hl [2, 3, 4, 1, 0] rfl)
      have hB93 : ∀  (v3_93 : Int) (v4_93 : Int) (v7_93 : Int) (v8_93 : Int) (s0_93 : Int) (H : Heap) (locs : List Loc) (ls : Array Slot), w_X10_fingers_B93 σ_5 v1_5 v2_5 v3_93 v4_93 v7_93 v8_93 s0_93 post (w_X10_fingers_L5 σ_5 v1_5 v2_5 post n5) → Wd G (shW κ tl) ad σ_5 (Aw ad (shW κ tl).length s.heap.size) s.heap H locs → lv_has ls 10 [(0, .ref (ad 17)), (1, .int (iN v1_5)), (2, .int (iN v2_5)), (3, .int (iN v3_93)), (4, .int (iN v4_93)), (7, .int (iN v7_93)), (8, .int (iN v8_93))] → W p l e ({ frames := 1, cells := 0, slots := 0, locals := 25 } : Room) s m ([.ref (ad 17), .int (iN v1), .int (iN v2)] : List Value).toArray below meth c H locs 0 0 (MQ below (QV G (shW κ tl) ad post (s.heap.size)) ([.ref (ad 17), .int (iN v1), .int (iN v2)] : List Value).toArray s 0 0 (Aw ad (shW κ tl).length s.heap.size)) (F0 m 93 ls [.int (iN s0_93)]) := by
        intro v3_93 v4_93 v7_93 v8_93 s0_93 H locs ls hw hW hl
        unfold w_X10_fingers_B93 at hw
        refine lv_istore (lv' := [(9, .int (iN s0_93)), (0, .ref (ad 17)), (1, .int (iN v1_5)), (2, .int (iN v2_5)), (3, .int (iN v3_93)), (4, .int (iN v4_93)), (7, .int (iN v7_93)), (8, .int (iN v8_93))]) hx hb dX10_fingers_93 hl (by decide) rfl (fun ls hl => ?_)
        refine lv_iload hx hb dX10_fingers_95 (lv_at hl 7 rfl) ?_
        refine n_iconst hx hb dX10_fingers_97 ?_
        refine lv_iload hx hb dX10_fingers_98 (lv_at hl 6 rfl) ?_
        refine n_imul hx hb dX10_fingers_100 ?_
        refine n_iconst hx hb dX10_fingers_101 ?_
        refine lv_iload hx hb dX10_fingers_102 (lv_at hl 0 rfl) ?_
        refine n_imul hx hb dX10_fingers_104 ?_
        refine n_iadd hx hb dX10_fingers_105 ?_
        refine n_icmp_le hx hb hw.1 hw.2.1 hw.2.2.1 hw.2.2.2 (tgt := 110) dX10_fingers_106 (by decide) (fun hw => ?_) (fun hw => ?_)
        · refine lv_iload_n hx hb dX10_fingers_110 rfl (lv_at hl 4 rfl) ?_
          refine lv_iload hx hb dX10_fingers_111 (lv_at hl 7 rfl) ?_
          refine n_iconst hx hb dX10_fingers_113 ?_
          refine lv_iload hx hb dX10_fingers_114 (lv_at hl 6 rfl) ?_
          refine n_imul hx hb dX10_fingers_116 ?_
          refine n_iconst hx hb dX10_fingers_117 ?_
          refine lv_iload hx hb dX10_fingers_118 (lv_at hl 0 rfl) ?_
          refine n_imul hx hb dX10_fingers_120 ?_
          refine n_iadd hx hb dX10_fingers_121 ?_
          refine n_icmp_le hx hb hw.1 hw.2.1 hw.2.2.1 hw.2.2.2 (tgt := 140) dX10_fingers_122 (by decide) (fun hw => ?_) (fun hw => ?_)
          · refine lv_iload hx hb dX10_fingers_140 (lv_at hl 7 rfl) ?_
            refine lv_iload hx hb dX10_fingers_142 (lv_at hl 6 rfl) ?_
            refine n_icmp_ge hx hb hw.1 hw.2.1 hw.2.2.1 hw.2.2.2 (tgt := 155) dX10_fingers_144 (by decide) (fun hw => ?_) (fun hw => ?_)
            · refine n_iconst hx hb dX10_fingers_155 ?_
              exact hB156 v4_93 0 v3_93 H locs ls hw hW (lv_sub hl [1, 2, 3, 5] rfl)
            · refine lv_iload hx hb dX10_fingers_147 (lv_at hl 6 rfl) ?_
              refine lv_iload hx hb dX10_fingers_149 (lv_at hl 7 rfl) ?_
              refine n_isub hx hb dX10_fingers_151 ?_
              refine lv_goto (tgt := 156) hx hb dX10_fingers_152 (by decide) ?_
              exact hB156 v4_93 (v7_93 - v8_93) v3_93 H locs ls hw hW (lv_sub hl [1, 2, 3, 5] rfl)
          · refine lv_iload hx hb dX10_fingers_125 (lv_at hl 7 rfl) ?_
            refine n_iconst hx hb dX10_fingers_127 ?_
            refine lv_iload hx hb dX10_fingers_128 (lv_at hl 6 rfl) ?_
            refine n_imul hx hb dX10_fingers_130 ?_
            refine n_isub hx hb dX10_fingers_131 ?_
            refine n_iconst hx hb dX10_fingers_132 ?_
            refine lv_iload hx hb dX10_fingers_133 (lv_at hl 0 rfl) ?_
            refine n_imul hx hb dX10_fingers_135 ?_
            refine n_isub hx hb dX10_fingers_136 ?_
            refine lv_goto (tgt := 156) hx hb dX10_fingers_137 (by decide) ?_
            exact hB156 v4_93 ((v8_93 - (2 * v7_93)) - (2 * s0_93)) v3_93 H locs ls hw hW (lv_sub hl [1, 2, 3, 5] rfl)
        · exact r_CV hx hb hr hlk hK hW hw dX10_fingers_109
      have hB88 : ∀  (v3_88 : Int) (v4_88 : Int) (v7_88 : Int) (v8_88 : Int) (H : Heap) (locs : List Loc) (ls : Array Slot), w_X10_fingers_B88 σ_5 v1_5 v2_5 v3_88 v4_88 v7_88 v8_88 post (w_X10_fingers_L5 σ_5 v1_5 v2_5 post n5) → Wd G (shW κ tl) ad σ_5 (Aw ad (shW κ tl).length s.heap.size) s.heap H locs → lv_has ls 10 [(0, .ref (ad 17)), (1, .int (iN v1_5)), (2, .int (iN v2_5)), (3, .int (iN v3_88)), (4, .int (iN v4_88)), (7, .int (iN v7_88)), (8, .int (iN v8_88))] → W p l e ({ frames := 1, cells := 0, slots := 0, locals := 25 } : Room) s m ([.ref (ad 17), .int (iN v1), .int (iN v2)] : List Value).toArray below meth c H locs 0 0 (MQ below (QV G (shW κ tl) ad post (s.heap.size)) ([.ref (ad 17), .int (iN v1), .int (iN v2)] : List Value).toArray s 0 0 (Aw ad (shW κ tl).length s.heap.size)) (F0 m 88 ls []) := by
        intro v3_88 v4_88 v7_88 v8_88 H locs ls hw hW hl
        unfold w_X10_fingers_B88 at hw
        refine n_iconst hx hb dX10_fingers_88 ?_
        refine lv_goto (tgt := 93) hx hb dX10_fingers_89 (by decide) ?_
        exact hB93 v3_88 v4_88 v7_88 v8_88 1 H locs ls hw hW (lv_sub hl [0, 1, 2, 3, 4, 5, 6] rfl)
      unfold w_X10_fingers_L5_body at hw
      refine lv_iload hx hb dX10_fingers_5 (lv_at hl 4 rfl) ?_
      refine n_iconst hx hb dX10_fingers_7 ?_
      refine n_iadd hx hb dX10_fingers_8 ?_
      refine lv_aload_n hx hb dX10_fingers_9 rfl (lv_at hl 0 rfl) ?_
      refine g_getr hx hb hts hown hK hW 17 rfl (q := 21) rfl uw_X10 5 (by decide) rfl al_768 (fun _ h9 => h9) dX10_fingers_10 ?_
      refine lv_iload_n hx hb dX10_fingers_13 rfl (lv_at hl 1 rfl) ?_
      refine g_ald hx hb hK hW 21 rfl hw.1 dX10_fingers_14 ?_
      replace hw := hw.2
      refine n_icmp_ge hx hb hw.1 hw.2.1 hw.2.2.1 hw.2.2.2 (tgt := 164) dX10_fingers_15 (by decide) (fun hw => ?_) (fun hw => ?_)
      · refine lv_aload_n hx hb dX10_fingers_164 rfl (lv_at hl 0 rfl) ?_
        refine g_getr hx hb hts hown hK hW 17 rfl (q := 18) rfl uw_X10 2 (by decide) rfl al_765 (fun _ h9 => h9) dX10_fingers_165 ?_
        refine lv_iload_n hx hb dX10_fingers_168 rfl (lv_at hl 1 rfl) ?_
        refine g_ald hx hb hK hW 18 rfl hw.1 dX10_fingers_169 ?_
        replace hw := hw.2
        refine n_iconst hx hb dX10_fingers_170 ?_
        refine n_icmp_ne hx hb hw.1 (rg_c _ rfl) hw.2.1 hw.2.2 (tgt := 178) dX10_fingers_171 (by decide) (fun hw => ?_) (fun hw => ?_)
        · refine lv_aload_n hx hb dX10_fingers_178 rfl (lv_at hl 0 rfl) ?_
          refine g_getr hx hb hts hown hK hW 17 rfl (q := 21) rfl uw_X10 5 (by decide) rfl al_768 (fun _ h9 => h9) dX10_fingers_179 ?_
          refine lv_iload_n hx hb dX10_fingers_182 rfl (lv_at hl 1 rfl) ?_
          refine g_ald hx hb hK hW 21 rfl hw.1 dX10_fingers_183 ?_
          replace hw := hw.2
          refine n_iconst hx hb dX10_fingers_184 ?_
          refine n_isub hx hb dX10_fingers_185 ?_
          exact hB186 σ_5 v1_5 v2_5 v3_5 ((σ_5 21 (v1_5).toNat) - 1) H locs ls hw hW (lv_sub hl [0, 1, 2, 3] rfl)
        · refine n_iconst hx hb dX10_fingers_174 ?_
          refine lv_goto (tgt := 186) hx hb dX10_fingers_175 (by decide) ?_
          exact hB186 σ_5 v1_5 v2_5 v3_5 0 H locs ls hw hW (lv_sub hl [0, 1, 2, 3] rfl)
      · refine lv_aload_n hx hb dX10_fingers_18 rfl (lv_at hl 0 rfl) ?_
        refine lv_iload_n hx hb dX10_fingers_19 rfl (lv_at hl 1 rfl) ?_
        refine lv_iload_n hx hb dX10_fingers_20 rfl (lv_at hl 2 rfl) ?_
        refine lv_iload hx hb dX10_fingers_21 (lv_at hl 4 rfl) ?_
        refine fin_CI hW (run_V (k := 17) (As := [.int (iN v1_5), .int (iN v2_5), .int (iN v4_5)]) (rest := []) S hK hE hW (c_X10_finger l G κ tl ad σ_5 v1_5 v2_5 v4_5 _ hw H.size) rfl rfl al_872 al_874 sl_X10_finger al_11 al_875 hd_X10_finger rfl rfl ⟨Nat.le_of_ble_eq_true rfl, Nat.le_of_ble_eq_true rfl⟩ rfl hl.1 rfl (Nat.le_of_ble_eq_true rfl) dX10_fingers_23 ⟨Nat.zero_le _, Nat.zero_le _⟩) ?_
        intro r15 H locs hw hW
        refine lv_istore (lv' := [(5, .int (iN r15)), (0, .ref (ad 17)), (1, .int (iN v1_5)), (2, .int (iN v2_5)), (3, .int (iN v3_5)), (4, .int (iN v4_5))]) hx hb dX10_fingers_26 hl (by decide) rfl (fun ls hl => ?_)
        refine lv_aload_n hx hb dX10_fingers_28 rfl (lv_at hl 1 rfl) ?_
        refine lv_iload_n hx hb dX10_fingers_29 rfl (lv_at hl 2 rfl) ?_
        refine lv_iload_n hx hb dX10_fingers_30 rfl (lv_at hl 3 rfl) ?_
        refine lv_iload hx hb dX10_fingers_31 (lv_at hl 5 rfl) ?_
        refine n_iconst hx hb dX10_fingers_33 ?_
        refine n_iadd hx hb dX10_fingers_34 ?_
        refine fin_CI hW (run_V (k := 17) (As := [.int (iN v1_5), .int (iN v2_5), .int (iN (v4_5 + 1))]) (rest := []) S hK hE hW (c_X10_finger l G κ tl ad σ_5 v1_5 v2_5 (v4_5 + 1) _ hw H.size) rfl rfl al_872 al_874 sl_X10_finger al_11 al_875 hd_X10_finger rfl rfl ⟨Nat.le_of_ble_eq_true rfl, Nat.le_of_ble_eq_true rfl⟩ rfl hl.1 rfl (Nat.le_of_ble_eq_true rfl) dX10_fingers_35 ⟨Nat.zero_le _, Nat.zero_le _⟩) ?_
        intro r17 H locs hw hW
        refine lv_istore (lv' := [(6, .int (iN r17)), (5, .int (iN r15)), (0, .ref (ad 17)), (1, .int (iN v1_5)), (2, .int (iN v2_5)), (3, .int (iN v3_5)), (4, .int (iN v4_5))]) hx hb dX10_fingers_38 hl (by decide) rfl (fun ls hl => ?_)
        refine lv_iload hx hb dX10_fingers_40 (lv_at hl 1 rfl) ?_
        refine lv_iload hx hb dX10_fingers_42 (lv_at hl 0 rfl) ?_
        refine fin_CI hW (run_S (As := [.int (iN r15), .int (iN r17)]) (rest := []) S hK hE hW (c_X10_far l G κ tl ad σ_5 r15 r17 _ hw H.size) al_876 al_877 al_11 al_878 hd_X10_far.2 rfl rfl ⟨Nat.le_of_ble_eq_true rfl, Nat.le_of_ble_eq_true rfl⟩ rfl hl.1 rfl (Nat.le_of_ble_eq_true rfl) dX10_fingers_44 ⟨Nat.zero_le _, Nat.zero_le _⟩) ?_
        intro r19 H locs hw hW
        refine lv_istore (lv' := [(7, .int (iN r19)), (6, .int (iN r17)), (5, .int (iN r15)), (0, .ref (ad 17)), (1, .int (iN v1_5)), (2, .int (iN v2_5)), (3, .int (iN v3_5)), (4, .int (iN v4_5))]) hx hb dX10_fingers_47 hl (by decide) rfl (fun ls hl => ?_)
        refine lv_aload_n hx hb dX10_fingers_49 rfl (lv_at hl 3 rfl) ?_
        refine g_getr hx hb hts hown hK hW 17 rfl (q := 22) rfl uw_X10 6 (by decide) rfl al_769 (fun _ h9 => h9) dX10_fingers_50 ?_
        refine n_iconst hx hb dX10_fingers_53 ?_
        refine lv_iload_n hx hb dX10_fingers_54 rfl (lv_at hl 4 rfl) ?_
        refine n_imul hx hb dX10_fingers_55 ?_
        refine lv_iload hx hb dX10_fingers_56 (lv_at hl 7 rfl) ?_
        refine n_iadd hx hb dX10_fingers_58 ?_
        refine n_iconst hx hb dX10_fingers_59 ?_
        refine n_iadd hx hb dX10_fingers_60 ?_
        refine g_ald hx hb hK hW 22 rfl hw.1 dX10_fingers_61 ?_
        replace hw := hw.2
        refine lv_aload_n hx hb dX10_fingers_62 rfl (lv_at hl 3 rfl) ?_
        refine g_getr hx hb hts hown hK hW 17 rfl (q := 22) rfl uw_X10 6 (by decide) rfl al_769 (fun _ h9 => h9) dX10_fingers_63 ?_
        refine n_iconst hx hb dX10_fingers_66 ?_
        refine lv_iload_n hx hb dX10_fingers_67 rfl (lv_at hl 4 rfl) ?_
        refine n_imul hx hb dX10_fingers_68 ?_
        refine lv_iload hx hb dX10_fingers_69 (lv_at hl 7 rfl) ?_
        refine n_iadd hx hb dX10_fingers_71 ?_
        refine g_ald hx hb hK hW 22 rfl hw.1 dX10_fingers_72 ?_
        replace hw := hw.2
        refine n_isub hx hb dX10_fingers_73 ?_
        refine lv_istore (lv' := [(8, .int (iN ((σ_5 22 ((((3 * v1_5) + v4_5) + 1)).toNat) - (σ_5 22 (((3 * v1_5) + v4_5)).toNat)))), (7, .int (iN r19)), (6, .int (iN r17)), (5, .int (iN r15)), (0, .ref (ad 17)), (1, .int (iN v1_5)), (2, .int (iN v2_5)), (3, .int (iN v3_5)), (4, .int (iN v4_5))]) hx hb dX10_fingers_74 hl (by decide) rfl (fun ls hl => ?_)
        refine lv_iload hx hb dX10_fingers_76 (lv_at hl 3 rfl) ?_
        refine n_iconst hx hb dX10_fingers_78 ?_
        refine n_icmp_eq hx hb hw.1 (rg_c _ rfl) hw.2.1 hw.2.2 (tgt := 88) dX10_fingers_79 (by decide) (fun hw => ?_) (fun hw => ?_)
        · exact hB88 v3_5 v4_5 r19 ((σ_5 22 ((((3 * v1_5) + v4_5) + 1)).toNat) - (σ_5 22 (((3 * v1_5) + v4_5)).toNat)) H locs ls hw hW (lv_sub hl [4, 5, 6, 7, 8, 1, 0] rfl)
        · refine lv_iload hx hb dX10_fingers_82 (lv_at hl 2 rfl) ?_
          refine n_iconst hx hb dX10_fingers_84 ?_
          refine n_icmp_ne hx hb hw.1 (rg_c _ rfl) hw.2.1 hw.2.2 (tgt := 92) dX10_fingers_85 (by decide) (fun hw => ?_) (fun hw => ?_)
          · refine n_iconst hx hb dX10_fingers_92 ?_
            exact hB93 v3_5 v4_5 r19 ((σ_5 22 ((((3 * v1_5) + v4_5) + 1)).toNat) - (σ_5 22 (((3 * v1_5) + v4_5)).toNat)) 0 H locs ls hw hW (lv_sub hl [4, 5, 6, 7, 8, 1, 0] rfl)
          · exact hB88 v3_5 v4_5 r19 ((σ_5 22 ((((3 * v1_5) + v4_5) + 1)).toNat) - (σ_5 22 (((3 * v1_5) + v4_5)).toNat)) H locs ls hw hW (lv_sub hl [4, 5, 6, 7, 8, 1, 0] rfl)
  unfold w_X10_fingers at hw
  refine n_iconst hx hb dX10_fingers_0 ?_
  refine lv_istore_n (lv' := [(3, .int (iN 0)), (0, .ref (ad 17)), (1, .int (iN v1)), (2, .int (iN v2))]) hx hb dX10_fingers_1 rfl hl (by decide) rfl (fun ls hl => ?_)
  refine n_iconst hx hb dX10_fingers_2 ?_
  refine lv_istore (lv' := [(4, .int (iN 0)), (3, .int (iN 0)), (0, .ref (ad 17)), (1, .int (iN v1)), (2, .int (iN v2))]) hx hb dX10_fingers_3 hl (by decide) rfl (fun ls hl => ?_)
  obtain ⟨n, hw⟩ := hw
  exact hL5 σ v1 v2 n 0 0 s.heap [] ls hw hW (lv_sub hl [2, 3, 4, 1, 0] rfl)
set_option maxHeartbeats 4000000 in
set_option maxRecDepth 100000 in
theorem c_X10_strings (l : Launch) (G : Gt) (κ : Nat)  (tl : Bool) (ad : Nat → Nat)  (σ : Mem) (v1 : Int) (v2 : Int) (v3 : Int) (post : Mem → Prop) (hw : w_X10_strings  σ v1 v2 v3 post) : CV l yX10_strings (Cond.code yX10_strings cX10_strings 7 none) ({ frames := 1, cells := 0, slots := 0, locals := 25 } : Room) G (shW κ tl) ad σ [.ref (ad 17), .int (iN v1), .int (iN v2), .int (iN v3)] post := by
  refine s_all (y := yX10_strings) (code := cX10_strings) (maxL := 7) (ret := none) (rm := ({ frames := 1, cells := 0, slots := 0, locals := 25 } : Room)) (av := [.ref (ad 17), .int (iN v1), .int (iN v2), .int (iN v3)]) (Qc := fun sz => QV G (shW κ tl) ad post (sz)) (by decide) (Nat.le_of_ble_eq_true rfl) ?_
  intro p e s m below meth c S hr hlk _ hK hE hW ls hl
  obtain ⟨hx, hb, hml, hown, hts⟩ := id S
  replace hl : lv_has ls 7 [(0, .ref (ad 17)), (1, .int (iN v1)), (2, .int (iN v2)), (3, .int (iN v3))] := hl
  have hL6 : ∀ (σ_6 : Mem) (v1_6 : Int) (v2_6 : Int) (v3_6 : Int) (n : Nat) (v4_6 : Int) (v5_6 : Int) (H : Heap) (locs : List Loc) (ls : Array Slot), w_X10_strings_L6 σ_6 v1_6 v2_6 v3_6 post n v4_6 v5_6 → Wd G (shW κ tl) ad σ_6 (Aw ad (shW κ tl).length s.heap.size) s.heap H locs → lv_has ls 7 [(0, .ref (ad 17)), (1, .int (iN v1_6)), (2, .int (iN v2_6)), (3, .int (iN v3_6)), (4, .int (iN v4_6)), (5, .int (iN v5_6))] → W p l e ({ frames := 1, cells := 0, slots := 0, locals := 25 } : Room) s m ([.ref (ad 17), .int (iN v1), .int (iN v2), .int (iN v3)] : List Value).toArray below meth c H locs 0 0 (MQ below (QV G (shW κ tl) ad post (s.heap.size)) ([.ref (ad 17), .int (iN v1), .int (iN v2), .int (iN v3)] : List Value).toArray s 0 0 (Aw ad (shW κ tl).length s.heap.size)) (F0 m 6 ls []) := by
    intro σ_6 v1_6 v2_6 v3_6 n
    induction n with
    | zero =>
      intro v4_6 v5_6 H locs ls hw
      exact hw.elim
    | succ n6 ih6 =>
      intro v4_6 v5_6 H locs ls hw hW hl
      replace hw : w_X10_strings_L6_body σ_6 v1_6 v2_6 v3_6 post (w_X10_strings_L6 σ_6 v1_6 v2_6 v3_6 post n6) v4_6 v5_6 := hw
      have hB87 : ∀  (v5_87 : Int) (s0_87 : Int) (s1_87 : Int) (H : Heap) (locs : List Loc) (ls : Array Slot), w_X10_strings_B87 σ_6 v1_6 v2_6 v3_6 v5_87 s0_87 s1_87 post (w_X10_strings_L6 σ_6 v1_6 v2_6 v3_6 post n6) → Wd G (shW κ tl) ad σ_6 (Aw ad (shW κ tl).length s.heap.size) s.heap H locs → lv_has ls 7 [(0, .ref (ad 17)), (1, .int (iN v1_6)), (2, .int (iN v2_6)), (3, .int (iN v3_6)), (5, .int (iN v5_87))] → W p l e ({ frames := 1, cells := 0, slots := 0, locals := 25 } : Room) s m ([.ref (ad 17), .int (iN v1), .int (iN v2), .int (iN v3)] : List Value).toArray below meth c H locs 0 0 (MQ below (QV G (shW κ tl) ad post (s.heap.size)) ([.ref (ad 17), .int (iN v1), .int (iN v2), .int (iN v3)] : List Value).toArray s 0 0 (Aw ad (shW κ tl).length s.heap.size)) (F0 m 87 ls [.int (iN s0_87), .int (iN s1_87)]) := by
        intro v5_87 s0_87 s1_87 H locs ls hw hW hl
        unfold w_X10_strings_B87 at hw
        refine n_iadd hx hb dX10_strings_87 ?_
        refine lv_istore (lv' := [(4, .int (iN (s1_87 + s0_87))), (0, .ref (ad 17)), (1, .int (iN v1_6)), (2, .int (iN v2_6)), (3, .int (iN v3_6)), (5, .int (iN v5_87))]) hx hb dX10_strings_88 hl (by decide) rfl (fun ls hl => ?_)
        refine lv_iinc (v := iN (v5_87 + 1)) (lv' := [(5, .int (iN (v5_87 + 1))), (4, .int (iN (s1_87 + s0_87))), (0, .ref (ad 17)), (1, .int (iN v1_6)), (2, .int (iN v2_6)), (3, .int (iN v3_6))]) hx hb dX10_strings_90 hl (k := 5) rfl (iN_add _ _) (by decide) rfl (fun ls hl => ?_)
        refine lv_goto (tgt := 6) hx hb dX10_strings_93 (by decide) ?_
        exact ih6 (s1_87 + s0_87) (v5_87 + 1) H locs ls hw hW (lv_sub hl [2, 3, 4, 5, 1, 0] rfl)
      have hB63 : ∀  (v4_63 : Int) (v5_63 : Int) (v6_63 : Int) (H : Heap) (locs : List Loc) (ls : Array Slot), w_X10_strings_B63 σ_6 v1_6 v2_6 v3_6 v4_63 v5_63 v6_63 post (w_X10_strings_L6 σ_6 v1_6 v2_6 v3_6 post n6) → Wd G (shW κ tl) ad σ_6 (Aw ad (shW κ tl).length s.heap.size) s.heap H locs → lv_has ls 7 [(0, .ref (ad 17)), (1, .int (iN v1_6)), (2, .int (iN v2_6)), (3, .int (iN v3_6)), (4, .int (iN v4_63)), (5, .int (iN v5_63)), (6, .int (iN v6_63))] → W p l e ({ frames := 1, cells := 0, slots := 0, locals := 25 } : Room) s m ([.ref (ad 17), .int (iN v1), .int (iN v2), .int (iN v3)] : List Value).toArray below meth c H locs 0 0 (MQ below (QV G (shW κ tl) ad post (s.heap.size)) ([.ref (ad 17), .int (iN v1), .int (iN v2), .int (iN v3)] : List Value).toArray s 0 0 (Aw ad (shW κ tl).length s.heap.size)) (F0 m 63 ls []) := by
        intro v4_63 v5_63 v6_63 H locs ls hw hW hl
        unfold w_X10_strings_B63 at hw
        refine lv_iload hx hb dX10_strings_63 (lv_at hl 4 rfl) ?_
        refine lv_iload hx hb dX10_strings_65 (lv_at hl 6 rfl) ?_
        refine n_if_ne hx hb hw.1 hw.2.1 hw.2.2 (tgt := 74) dX10_strings_67 (by decide) (fun hw => ?_) (fun hw => ?_)
        · refine lv_iload hx hb dX10_strings_74 (lv_at hl 6 rfl) ?_
          refine lv_iload_n hx hb dX10_strings_76 rfl (lv_at hl 2 rfl) ?_
          refine n_iconst hx hb dX10_strings_77 ?_
          refine n_iadd hx hb dX10_strings_78 ?_
          refine n_icmp_ne hx hb hw.1 hw.2.1 hw.2.2.1 hw.2.2.2 (tgt := 86) dX10_strings_79 (by decide) (fun hw => ?_) (fun hw => ?_)
          · refine n_iconst hx hb dX10_strings_86 ?_
            exact hB87 v5_63 1 v4_63 H locs ls hw hW (lv_sub hl [0, 1, 2, 3, 5] rfl)
          · refine n_iconst hx hb dX10_strings_82 ?_
            refine lv_goto (tgt := 87) hx hb dX10_strings_83 (by decide) ?_
            exact hB87 v5_63 2 v4_63 H locs ls hw hW (lv_sub hl [0, 1, 2, 3, 5] rfl)
        · refine n_iconst hx hb dX10_strings_70 ?_
          refine lv_goto (tgt := 87) hx hb dX10_strings_71 (by decide) ?_
          exact hB87 v5_63 0 v4_63 H locs ls hw hW (lv_sub hl [0, 1, 2, 3, 5] rfl)
      unfold w_X10_strings_L6_body at hw
      refine lv_iload hx hb dX10_strings_6 (lv_at hl 5 rfl) ?_
      refine lv_aload_n hx hb dX10_strings_8 rfl (lv_at hl 0 rfl) ?_
      refine g_getr hx hb hts hown hK hW 17 rfl (q := 21) rfl uw_X10 5 (by decide) rfl al_768 (fun _ h9 => h9) dX10_strings_9 ?_
      refine lv_iload_n hx hb dX10_strings_12 rfl (lv_at hl 1 rfl) ?_
      refine g_ald hx hb hK hW 21 rfl hw.1 dX10_strings_13 ?_
      replace hw := hw.2
      refine n_icmp_ge hx hb hw.1 hw.2.1 hw.2.2.1 hw.2.2.2 (tgt := 96) dX10_strings_14 (by decide) (fun hw => ?_) (fun hw => ?_)
      · refine lv_aload_n hx hb dX10_strings_96 rfl (lv_at hl 0 rfl) ?_
        refine lv_iload_n hx hb dX10_strings_97 rfl (lv_at hl 1 rfl) ?_
        refine lv_iload_n hx hb dX10_strings_98 rfl (lv_at hl 2 rfl) ?_
        refine lv_iload_n hx hb dX10_strings_99 rfl (lv_at hl 3 rfl) ?_
        refine lv_iload hx hb dX10_strings_100 (lv_at hl 4 rfl) ?_
        refine fin_CV hW (run_V (k := 17) (As := [.int (iN v1_6), .int (iN v2_6), .int (iN v3_6), .int (iN v4_6)]) (rest := []) S hK hE hW (c_X10_add l G κ tl ad σ_6 v1_6 v2_6 v3_6 v4_6 _ hw H.size) rfl rfl al_879 al_881 sl_X10_add al_11 al_882 hd_X10_add rfl rfl ⟨Nat.le_of_ble_eq_true rfl, Nat.le_of_ble_eq_true rfl⟩ rfl hl.1 rfl (Nat.le_of_ble_eq_true rfl) dX10_strings_102 ⟨Nat.zero_le _, Nat.zero_le _⟩) ?_
        intro σ6 H locs hw hW
        exact r_CV hx hb hr hlk hK hW hw dX10_strings_105
      · refine lv_aload_n hx hb dX10_strings_17 rfl (lv_at hl 0 rfl) ?_
        refine g_getr hx hb hts hown hK hW 17 rfl (q := 22) rfl uw_X10 6 (by decide) rfl al_769 (fun _ h9 => h9) dX10_strings_18 ?_
        refine n_iconst hx hb dX10_strings_21 ?_
        refine lv_iload_n hx hb dX10_strings_22 rfl (lv_at hl 1 rfl) ?_
        refine n_imul hx hb dX10_strings_23 ?_
        refine lv_iload hx hb dX10_strings_24 (lv_at hl 5 rfl) ?_
        refine n_iadd hx hb dX10_strings_26 ?_
        refine g_ald hx hb hK hW 22 rfl hw.1 dX10_strings_27 ?_
        replace hw := hw.2
        refine lv_aload_n hx hb dX10_strings_28 rfl (lv_at hl 0 rfl) ?_
        refine g_getr hx hb hts hown hK hW 17 rfl (q := 24) rfl uw_X10 8 (by decide) rfl al_771 (fun _ h9 => h9) dX10_strings_29 ?_
        refine n_bipush hx hb dX10_strings_32 (by decide) ?_
        refine lv_iload_n hx hb dX10_strings_34 rfl (lv_at hl 3 rfl) ?_
        refine n_iadd hx hb dX10_strings_35 ?_
        refine lv_iload hx hb dX10_strings_36 (lv_at hl 5 rfl) ?_
        refine n_iadd hx hb dX10_strings_38 ?_
        refine g_ald hx hb hK hW 24 rfl hw.1 dX10_strings_39 ?_
        replace hw := hw.2
        refine n_isub hx hb dX10_strings_40 ?_
        refine lv_istore (lv' := [(6, .int (iN ((σ_6 22 (((3 * v1_6) + v5_6)).toNat) - (σ_6 24 (((6 + v3_6) + v5_6)).toNat)))), (0, .ref (ad 17)), (1, .int (iN v1_6)), (2, .int (iN v2_6)), (3, .int (iN v3_6)), (4, .int (iN v4_6)), (5, .int (iN v5_6))]) hx hb dX10_strings_41 hl (by decide) rfl (fun ls hl => ?_)
        refine lv_iload hx hb dX10_strings_43 (lv_at hl 0 rfl) ?_
        refine n_if_eq hx hb hw.1 hw.2.1 hw.2.2 (tgt := 63) dX10_strings_45 (by decide) (fun hw => ?_) (fun hw => ?_)
        · exact hB63 v4_6 v5_6 ((σ_6 22 (((3 * v1_6) + v5_6)).toNat) - (σ_6 24 (((6 + v3_6) + v5_6)).toNat)) H locs ls hw hW (lv_sub hl [1, 2, 3, 4, 5, 6, 0] rfl)
        · refine lv_iload hx hb dX10_strings_48 (lv_at hl 0 rfl) ?_
          refine lv_iload_n hx hb dX10_strings_50 rfl (lv_at hl 3 rfl) ?_
          refine n_iconst hx hb dX10_strings_51 ?_
          refine n_iadd hx hb dX10_strings_52 ?_
          refine lv_iload_n hx hb dX10_strings_53 rfl (lv_at hl 3 rfl) ?_
          refine n_iconst hx hb dX10_strings_54 ?_
          refine n_iadd hx hb dX10_strings_55 ?_
          refine fin_CI hW (run_S (As := [.int (iN ((σ_6 22 (((3 * v1_6) + v5_6)).toNat) - (σ_6 24 (((6 + v3_6) + v5_6)).toNat))), .int (iN (v2_6 + 1)), .int (iN (v2_6 + 4))]) (rest := []) S hK hE hW (c_X10_in l G κ tl ad σ_6 ((σ_6 22 (((3 * v1_6) + v5_6)).toNat) - (σ_6 24 (((6 + v3_6) + v5_6)).toNat)) (v2_6 + 1) (v2_6 + 4) _ hw H.size) al_833 al_834 al_11 al_835 hd_X10_in.2 rfl rfl ⟨Nat.le_of_ble_eq_true rfl, Nat.le_of_ble_eq_true rfl⟩ rfl hl.1 rfl (Nat.le_of_ble_eq_true rfl) dX10_strings_56 ⟨Nat.zero_le _, Nat.zero_le _⟩) ?_
          intro r7 H locs hw hW
          refine n_if_ne hx hb hw.1 hw.2.1 hw.2.2 (tgt := 63) dX10_strings_59 (by decide) (fun hw => ?_) (fun hw => ?_)
          · exact hB63 v4_6 v5_6 ((σ_6 22 (((3 * v1_6) + v5_6)).toNat) - (σ_6 24 (((6 + v3_6) + v5_6)).toNat)) H locs ls hw hW (lv_sub hl [1, 2, 3, 4, 5, 6, 0] rfl)
          · exact r_CV hx hb hr hlk hK hW hw dX10_strings_62
  unfold w_X10_strings at hw
  refine n_iconst hx hb dX10_strings_0 ?_
  refine lv_istore (lv' := [(4, .int (iN 0)), (0, .ref (ad 17)), (1, .int (iN v1)), (2, .int (iN v2)), (3, .int (iN v3))]) hx hb dX10_strings_1 hl (by decide) rfl (fun ls hl => ?_)
  refine n_iconst hx hb dX10_strings_3 ?_
  refine lv_istore (lv' := [(5, .int (iN 0)), (4, .int (iN 0)), (0, .ref (ad 17)), (1, .int (iN v1)), (2, .int (iN v2)), (3, .int (iN v3))]) hx hb dX10_strings_4 hl (by decide) rfl (fun ls hl => ?_)
  obtain ⟨n, hw⟩ := hw
  exact hL6 σ v1 v2 v3 n 0 0 s.heap [] ls hw hW (lv_sub hl [2, 3, 4, 5, 1, 0] rfl)
set_option maxHeartbeats 4000000 in
set_option maxRecDepth 100000 in
theorem c_X10_breaths (l : Launch) (G : Gt) (κ : Nat)  (tl : Bool) (ad : Nat → Nat)  (σ : Mem) (v1 : Int) (post : Mem → Prop) (hw : w_X10_breaths  σ v1 post) : CV l yX10_breaths (Cond.code yX10_breaths cX10_breaths 5 none) ({ frames := 1, cells := 0, slots := 0, locals := 25 } : Room) G (shW κ tl) ad σ [.ref (ad 17), .int (iN v1)] post := by
  refine s_all (y := yX10_breaths) (code := cX10_breaths) (maxL := 5) (ret := none) (rm := ({ frames := 1, cells := 0, slots := 0, locals := 25 } : Room)) (av := [.ref (ad 17), .int (iN v1)]) (Qc := fun sz => QV G (shW κ tl) ad post (sz)) (by decide) (Nat.le_of_ble_eq_true rfl) ?_
  intro p e s m below meth c S hr hlk _ hK hE hW ls hl
  obtain ⟨hx, hb, hml, hown, hts⟩ := id S
  replace hl : lv_has ls 5 [(0, .ref (ad 17)), (1, .int (iN v1))] := hl
  have hL2 : ∀ (v1_2 : Int) (n : Nat) (v2_2 : Int) (σ_2 : Mem) (H : Heap) (locs : List Loc) (ls : Array Slot), w_X10_breaths_L2 v1_2 post n v2_2 σ_2 → Wd G (shW κ tl) ad σ_2 (Aw ad (shW κ tl).length s.heap.size) s.heap H locs → lv_has ls 5 [(0, .ref (ad 17)), (1, .int (iN v1_2)), (2, .int (iN v2_2))] → W p l e ({ frames := 1, cells := 0, slots := 0, locals := 25 } : Room) s m ([.ref (ad 17), .int (iN v1)] : List Value).toArray below meth c H locs 0 0 (MQ below (QV G (shW κ tl) ad post (s.heap.size)) ([.ref (ad 17), .int (iN v1)] : List Value).toArray s 0 0 (Aw ad (shW κ tl).length s.heap.size)) (F0 m 2 ls []) := by
    intro v1_2 n
    induction n with
    | zero =>
      intro v2_2 σ_2 H locs ls hw
      exact hw.elim
    | succ n2 ih2 =>
      intro v2_2 σ_2 H locs ls hw hW hl
      replace hw : w_X10_breaths_L2_body v1_2 post (w_X10_breaths_L2 v1_2 post n2) v2_2 σ_2 := hw
      have hB52 : ∀ (σ_52 : Mem) (v2_52 : Int) (H : Heap) (locs : List Loc) (ls : Array Slot), w_X10_breaths_B52 σ_52 v1_2 v2_52 post (w_X10_breaths_L2 v1_2 post n2) → Wd G (shW κ tl) ad σ_52 (Aw ad (shW κ tl).length s.heap.size) s.heap H locs → lv_has ls 5 [(0, .ref (ad 17)), (1, .int (iN v1_2)), (2, .int (iN v2_52))] → W p l e ({ frames := 1, cells := 0, slots := 0, locals := 25 } : Room) s m ([.ref (ad 17), .int (iN v1)] : List Value).toArray below meth c H locs 0 0 (MQ below (QV G (shW κ tl) ad post (s.heap.size)) ([.ref (ad 17), .int (iN v1)] : List Value).toArray s 0 0 (Aw ad (shW κ tl).length s.heap.size)) (F0 m 52 ls []) := by
        intro σ_52 v2_52 H locs ls hw hW hl
        unfold w_X10_breaths_B52 at hw
        refine lv_iinc (v := iN (v2_52 + 1)) (lv' := [(2, .int (iN (v2_52 + 1))), (0, .ref (ad 17)), (1, .int (iN v1_2))]) hx hb dX10_breaths_52 hl (k := 2) rfl (iN_add _ _) (by decide) rfl (fun ls hl => ?_)
        refine lv_goto (tgt := 2) hx hb dX10_breaths_55 (by decide) ?_
        exact ih2 (v2_52 + 1) σ_52 H locs ls hw hW (lv_sub hl [1, 2, 0] rfl)
      have hL12 : ∀ (σ_12 : Mem) (v2_12 : Int) (n : Nat) (v3_12 : Int) (v4_12 : Int) (H : Heap) (locs : List Loc) (ls : Array Slot), w_X10_breaths_L12 σ_12 v1_2 v2_12 post (w_X10_breaths_L2 v1_2 post n2) n v3_12 v4_12 → Wd G (shW κ tl) ad σ_12 (Aw ad (shW κ tl).length s.heap.size) s.heap H locs → lv_has ls 5 [(0, .ref (ad 17)), (1, .int (iN v1_2)), (2, .int (iN v2_12)), (3, .int (iN v3_12)), (4, .int (iN v4_12))] → W p l e ({ frames := 1, cells := 0, slots := 0, locals := 25 } : Room) s m ([.ref (ad 17), .int (iN v1)] : List Value).toArray below meth c H locs 0 0 (MQ below (QV G (shW κ tl) ad post (s.heap.size)) ([.ref (ad 17), .int (iN v1)] : List Value).toArray s 0 0 (Aw ad (shW κ tl).length s.heap.size)) (F0 m 12 ls []) := by
        intro σ_12 v2_12 n
        induction n with
        | zero =>
          intro v3_12 v4_12 H locs ls hw
          exact hw.elim
        | succ n12 ih12 =>
          intro v3_12 v4_12 H locs ls hw hW hl
          replace hw : w_X10_breaths_L12_body σ_12 v1_2 v2_12 post (w_X10_breaths_L2 v1_2 post n2) (w_X10_breaths_L12 σ_12 v1_2 v2_12 post (w_X10_breaths_L2 v1_2 post n2) n12) v3_12 v4_12 := hw
          unfold w_X10_breaths_L12_body at hw
          refine lv_iload hx hb dX10_breaths_12 (lv_at hl 4 rfl) ?_
          refine lv_iload_n hx hb dX10_breaths_14 rfl (lv_at hl 1 rfl) ?_
          refine n_icmp_gt hx hb hw.1 hw.2.1 hw.2.2.1 hw.2.2.2 (tgt := 34) dX10_breaths_15 (by decide) (fun hw => ?_) (fun hw => ?_)
          · refine lv_iload_n hx hb dX10_breaths_34 rfl (lv_at hl 3 rfl) ?_
            refine lv_aload_n hx hb dX10_breaths_35 rfl (lv_at hl 0 rfl) ?_
            refine g_getr hx hb hts hown hK hW 17 rfl (q := 24) rfl uw_X10 8 (by decide) rfl al_771 (fun _ h9 => h9) dX10_breaths_36 ?_
            refine n_iconst hx hb dX10_breaths_39 ?_
            refine g_ald hx hb hK hW 24 rfl (inb_c _ _ rfl) dX10_breaths_40 ?_
            refine n_icmp_gt hx hb hw.1 hw.2.1 hw.2.2.1 hw.2.2.2 (tgt := 52) dX10_breaths_41 (by decide) (fun hw => ?_) (fun hw => ?_)
            · exact hB52 σ_12 v2_12 H locs ls hw hW (lv_sub hl [0, 1, 2] rfl)
            · refine lv_aload_n hx hb dX10_breaths_44 rfl (lv_at hl 0 rfl) ?_
              refine lv_iload_n hx hb dX10_breaths_45 rfl (lv_at hl 1 rfl) ?_
              refine lv_iload_n hx hb dX10_breaths_46 rfl (lv_at hl 2 rfl) ?_
              refine n_iconst hx hb dX10_breaths_47 ?_
              refine n_iconst hx hb dX10_breaths_48 ?_
              refine fin_CV hW (run_V (k := 17) (As := [.int (iN v1_2), .int (iN v2_12), .int (iN 0), .int (iN 0)]) (rest := []) S hK hE hW (c_X10_add l G κ tl ad σ_12 v1_2 v2_12 0 0 _ hw H.size) rfl rfl al_879 al_881 sl_X10_add al_11 al_882 hd_X10_add rfl rfl ⟨Nat.le_of_ble_eq_true rfl, Nat.le_of_ble_eq_true rfl⟩ rfl hl.1 rfl (Nat.le_of_ble_eq_true rfl) dX10_breaths_49 ⟨Nat.zero_le _, Nat.zero_le _⟩) ?_
              intro σ4 H locs hw hW
              exact hB52 σ4 v2_12 H locs ls hw hW (lv_sub hl [0, 1, 2] rfl)
          · refine lv_iload_n hx hb dX10_breaths_18 rfl (lv_at hl 3 rfl) ?_
            refine lv_aload_n hx hb dX10_breaths_19 rfl (lv_at hl 0 rfl) ?_
            refine g_getr hx hb hts hown hK hW 17 rfl (q := 20) rfl uw_X10 4 (by decide) rfl al_767 (fun _ h9 => h9) dX10_breaths_20 ?_
            refine lv_iload hx hb dX10_breaths_23 (lv_at hl 4 rfl) ?_
            refine g_ald hx hb hK hW 20 rfl hw.1 dX10_breaths_25 ?_
            replace hw := hw.2
            refine n_iadd hx hb dX10_breaths_26 ?_
            refine lv_istore_n (lv' := [(3, .int (iN (v3_12 + (σ_12 20 (v4_12).toNat)))), (0, .ref (ad 17)), (1, .int (iN v1_2)), (2, .int (iN v2_12)), (4, .int (iN v4_12))]) hx hb dX10_breaths_27 rfl hl (by decide) rfl (fun ls hl => ?_)
            refine lv_iinc (v := iN (v4_12 + 1)) (lv' := [(4, .int (iN (v4_12 + 1))), (3, .int (iN (v3_12 + (σ_12 20 (v4_12).toNat)))), (0, .ref (ad 17)), (1, .int (iN v1_2)), (2, .int (iN v2_12))]) hx hb dX10_breaths_28 hl (k := 4) rfl (iN_add _ _) (by decide) rfl (fun ls hl => ?_)
            refine lv_goto (tgt := 12) hx hb dX10_breaths_31 (by decide) ?_
            exact ih12 (v3_12 + (σ_12 20 (v4_12).toNat)) (v4_12 + 1) H locs ls hw hW (lv_sub hl [2, 3, 4, 1, 0] rfl)
      unfold w_X10_breaths_L2_body at hw
      refine lv_iload_n hx hb dX10_breaths_2 rfl (lv_at hl 2 rfl) ?_
      refine lv_iload_n hx hb dX10_breaths_3 rfl (lv_at hl 1 rfl) ?_
      refine n_icmp_gt hx hb hw.1 hw.2.1 hw.2.2.1 hw.2.2.2 (tgt := 58) dX10_breaths_4 (by decide) (fun hw => ?_) (fun hw => ?_)
      · exact r_CV hx hb hr hlk hK hW hw dX10_breaths_58
      · refine n_iconst hx hb dX10_breaths_7 ?_
        refine lv_istore_n (lv' := [(3, .int (iN 0)), (0, .ref (ad 17)), (1, .int (iN v1_2)), (2, .int (iN v2_2))]) hx hb dX10_breaths_8 rfl hl (by decide) rfl (fun ls hl => ?_)
        refine lv_iload_n hx hb dX10_breaths_9 rfl (lv_at hl 3 rfl) ?_
        refine lv_istore (lv' := [(4, .int (iN v2_2)), (3, .int (iN 0)), (0, .ref (ad 17)), (1, .int (iN v1_2)), (2, .int (iN v2_2))]) hx hb dX10_breaths_10 hl (by decide) rfl (fun ls hl => ?_)
        obtain ⟨n, hw⟩ := hw
        exact hL12 σ_2 v2_2 n 0 v2_2 H locs ls hw hW (lv_sub hl [2, 3, 4, 1, 0] rfl)
  unfold w_X10_breaths at hw
  refine n_iconst hx hb dX10_breaths_0 ?_
  refine lv_istore_n (lv' := [(2, .int (iN 0)), (0, .ref (ad 17)), (1, .int (iN v1))]) hx hb dX10_breaths_1 rfl hl (by decide) rfl (fun ls hl => ?_)
  obtain ⟨n, hw⟩ := hw
  exact hL2 v1 n 0 σ s.heap [] ls hw hW (lv_sub hl [1, 2, 0] rfl)
set_option maxHeartbeats 4000000 in
set_option maxRecDepth 100000 in
theorem c_X10_isPartial (l : Launch) (G : Gt) (κ : Nat)  (tl : Bool) (ad : Nat → Nat)  (σ : Mem) (v0 : Int) (post : Int → Prop) (hw : w_X10_isPartial  σ v0 post) : CI l yX10_isPartial (Cond.code yX10_isPartial cX10_isPartial 1 (some .boolean)) ({ frames := 0, cells := 0, slots := 0, locals := 0 } : Room) G (shW κ tl) ad σ [.int (iN v0)] post := by
  refine s_all (y := yX10_isPartial) (code := cX10_isPartial) (maxL := 1) (ret := (some .boolean)) (rm := ({ frames := 0, cells := 0, slots := 0, locals := 0 } : Room)) (av := [.int (iN v0)]) (Qc := fun sz => QI G (shW κ tl) ad σ post (sz)) (by decide) (Nat.le_of_ble_eq_true rfl) ?_
  intro p e s m below meth c S hr hlk _ hK hE hW ls hl
  obtain ⟨hx, hb, hml, hown, hts⟩ := id S
  replace hl : lv_has ls 1 [(0, .int (iN v0))] := hl
  have hB59 : ∀  (s0_59 : Int) (H : Heap) (locs : List Loc) (ls : Array Slot), w_X10_isPartial_B59 σ s0_59 post → Wd G (shW κ tl) ad σ (Aw ad (shW κ tl).length s.heap.size) s.heap H locs → lv_has ls 1 [] → W p l e ({ frames := 0, cells := 0, slots := 0, locals := 0 } : Room) s m ([.int (iN v0)] : List Value).toArray below meth c H locs 0 0 (MQ below (QI G (shW κ tl) ad σ post (s.heap.size)) ([.int (iN v0)] : List Value).toArray s 0 0 (Aw ad (shW κ tl).length s.heap.size)) (F0 m 59 ls [.int (iN s0_59)]) := by
    intro s0_59 H locs ls hw hW hl
    unfold w_X10_isPartial_B59 at hw
    exact rz_CI hx hb hr hlk hK hW hw.1 hw.2 dX10_isPartial_59
  have hB54 : ∀   (H : Heap) (locs : List Loc) (ls : Array Slot), w_X10_isPartial_B54 σ post → Wd G (shW κ tl) ad σ (Aw ad (shW κ tl).length s.heap.size) s.heap H locs → lv_has ls 1 [] → W p l e ({ frames := 0, cells := 0, slots := 0, locals := 0 } : Room) s m ([.int (iN v0)] : List Value).toArray below meth c H locs 0 0 (MQ below (QI G (shW κ tl) ad σ post (s.heap.size)) ([.int (iN v0)] : List Value).toArray s 0 0 (Aw ad (shW κ tl).length s.heap.size)) (F0 m 54 ls []) := by
    intro  H locs ls hw hW hl
    unfold w_X10_isPartial_B54 at hw
    refine n_iconst hx hb dX10_isPartial_54 ?_
    refine lv_goto (tgt := 59) hx hb dX10_isPartial_55 (by decide) ?_
    exact hB59 1 H locs ls hw hW (lv_sub hl [] rfl)
  unfold w_X10_isPartial at hw
  refine lv_iload_n hx hb dX10_isPartial_0 rfl (lv_at hl 0 rfl) ?_
  refine n_bipush hx hb dX10_isPartial_1 (by decide) ?_
  refine n_icmp_eq hx hb hw.1 (rg_c _ rfl) hw.2.1 hw.2.2 (tgt := 54) dX10_isPartial_3 (by decide) (fun hw => ?_) (fun hw => ?_)
  · exact hB54  s.heap [] ls hw hW (lv_sub hl [] rfl)
  · refine lv_iload_n hx hb dX10_isPartial_6 rfl (lv_at hl 0 rfl) ?_
    refine n_bipush hx hb dX10_isPartial_7 (by decide) ?_
    refine n_icmp_eq hx hb hw.1 (rg_c _ rfl) hw.2.1 hw.2.2 (tgt := 54) dX10_isPartial_9 (by decide) (fun hw => ?_) (fun hw => ?_)
    · exact hB54  s.heap [] ls hw hW (lv_sub hl [] rfl)
    · refine lv_iload_n hx hb dX10_isPartial_12 rfl (lv_at hl 0 rfl) ?_
      refine n_bipush hx hb dX10_isPartial_13 (by decide) ?_
      refine n_icmp_eq hx hb hw.1 (rg_c _ rfl) hw.2.1 hw.2.2 (tgt := 54) dX10_isPartial_15 (by decide) (fun hw => ?_) (fun hw => ?_)
      · exact hB54  s.heap [] ls hw hW (lv_sub hl [] rfl)
      · refine lv_iload_n hx hb dX10_isPartial_18 rfl (lv_at hl 0 rfl) ?_
        refine n_bipush hx hb dX10_isPartial_19 (by decide) ?_
        refine n_icmp_eq hx hb hw.1 (rg_c _ rfl) hw.2.1 hw.2.2 (tgt := 54) dX10_isPartial_21 (by decide) (fun hw => ?_) (fun hw => ?_)
        · exact hB54  s.heap [] ls hw hW (lv_sub hl [] rfl)
        · refine lv_iload_n hx hb dX10_isPartial_24 rfl (lv_at hl 0 rfl) ?_
          refine n_bipush hx hb dX10_isPartial_25 (by decide) ?_
          refine n_icmp_eq hx hb hw.1 (rg_c _ rfl) hw.2.1 hw.2.2 (tgt := 54) dX10_isPartial_27 (by decide) (fun hw => ?_) (fun hw => ?_)
          · exact hB54  s.heap [] ls hw hW (lv_sub hl [] rfl)
          · refine lv_iload_n hx hb dX10_isPartial_30 rfl (lv_at hl 0 rfl) ?_
            refine n_bipush hx hb dX10_isPartial_31 (by decide) ?_
            refine n_icmp_eq hx hb hw.1 (rg_c _ rfl) hw.2.1 hw.2.2 (tgt := 54) dX10_isPartial_33 (by decide) (fun hw => ?_) (fun hw => ?_)
            · exact hB54  s.heap [] ls hw hW (lv_sub hl [] rfl)
            · refine lv_iload_n hx hb dX10_isPartial_36 rfl (lv_at hl 0 rfl) ?_
              refine n_bipush hx hb dX10_isPartial_37 (by decide) ?_
              refine n_icmp_eq hx hb hw.1 (rg_c _ rfl) hw.2.1 hw.2.2 (tgt := 54) dX10_isPartial_39 (by decide) (fun hw => ?_) (fun hw => ?_)
              · exact hB54  s.heap [] ls hw hW (lv_sub hl [] rfl)
              · refine lv_iload_n hx hb dX10_isPartial_42 rfl (lv_at hl 0 rfl) ?_
                refine n_bipush hx hb dX10_isPartial_43 (by decide) ?_
                refine n_icmp_eq hx hb hw.1 (rg_c _ rfl) hw.2.1 hw.2.2 (tgt := 54) dX10_isPartial_45 (by decide) (fun hw => ?_) (fun hw => ?_)
                · exact hB54  s.heap [] ls hw hW (lv_sub hl [] rfl)
                · refine lv_iload_n hx hb dX10_isPartial_48 rfl (lv_at hl 0 rfl) ?_
                  refine n_bipush hx hb dX10_isPartial_49 (by decide) ?_
                  refine n_icmp_ne hx hb hw.1 (rg_c _ rfl) hw.2.1 hw.2.2 (tgt := 58) dX10_isPartial_51 (by decide) (fun hw => ?_) (fun hw => ?_)
                  · refine n_iconst hx hb dX10_isPartial_58 ?_
                    exact hB59 0 s.heap [] ls hw hW (lv_sub hl [] rfl)
                  · exact hB54  s.heap [] ls hw hW (lv_sub hl [] rfl)
set_option maxHeartbeats 4000000 in
set_option maxRecDepth 100000 in
theorem c_X10_isOther (l : Launch) (G : Gt) (κ : Nat)  (tl : Bool) (ad : Nat → Nat)  (σ : Mem) (v1 : Int) (v2 : Int) (post : Int → Prop) (hw : w_X10_isOther  σ v1 v2 post) : CI l yX10_isOther (Cond.code yX10_isOther cX10_isOther 5 (some .boolean)) ({ frames := 0, cells := 0, slots := 0, locals := 0 } : Room) G (shW κ tl) ad σ [.ref (ad 17), .int (iN v1), .int (iN v2)] post := by
  refine s_all (y := yX10_isOther) (code := cX10_isOther) (maxL := 5) (ret := (some .boolean)) (rm := ({ frames := 0, cells := 0, slots := 0, locals := 0 } : Room)) (av := [.ref (ad 17), .int (iN v1), .int (iN v2)]) (Qc := fun sz => QI G (shW κ tl) ad σ post (sz)) (by decide) (Nat.le_of_ble_eq_true rfl) ?_
  intro p e s m below meth c S hr hlk _ hK hE hW ls hl
  obtain ⟨hx, hb, hml, hown, hts⟩ := id S
  replace hl : lv_has ls 5 [(0, .ref (ad 17)), (1, .int (iN v1)), (2, .int (iN v2))] := hl
  have hL7 : ∀ (v2_7 : Int) (n : Nat) (v3_7 : Int) (v4_7 : Int) (H : Heap) (locs : List Loc) (ls : Array Slot), w_X10_isOther_L7 σ v2_7 post n v3_7 v4_7 → Wd G (shW κ tl) ad σ (Aw ad (shW κ tl).length s.heap.size) s.heap H locs → lv_has ls 5 [(0, .ref (ad 17)), (2, .int (iN v2_7)), (3, .int (iN v3_7)), (4, .int (iN v4_7))] → W p l e ({ frames := 0, cells := 0, slots := 0, locals := 0 } : Room) s m ([.ref (ad 17), .int (iN v1), .int (iN v2)] : List Value).toArray below meth c H locs 0 0 (MQ below (QI G (shW κ tl) ad σ post (s.heap.size)) ([.ref (ad 17), .int (iN v1), .int (iN v2)] : List Value).toArray s 0 0 (Aw ad (shW κ tl).length s.heap.size)) (F0 m 7 ls []) := by
    intro v2_7 n
    induction n with
    | zero =>
      intro v3_7 v4_7 H locs ls hw
      exact hw.elim
    | succ n7 ih7 =>
      intro v3_7 v4_7 H locs ls hw hW hl
      replace hw : w_X10_isOther_L7_body σ v2_7 post (w_X10_isOther_L7 σ v2_7 post n7) v3_7 v4_7 := hw
      have hB33 : ∀  (v4_33 : Int) (s0_33 : Int) (H : Heap) (locs : List Loc) (ls : Array Slot), w_X10_isOther_B33 σ v2_7 v4_33 s0_33 post (w_X10_isOther_L7 σ v2_7 post n7) → Wd G (shW κ tl) ad σ (Aw ad (shW κ tl).length s.heap.size) s.heap H locs → lv_has ls 5 [(0, .ref (ad 17)), (2, .int (iN v2_7)), (4, .int (iN v4_33))] → W p l e ({ frames := 0, cells := 0, slots := 0, locals := 0 } : Room) s m ([.ref (ad 17), .int (iN v1), .int (iN v2)] : List Value).toArray below meth c H locs 0 0 (MQ below (QI G (shW κ tl) ad σ post (s.heap.size)) ([.ref (ad 17), .int (iN v1), .int (iN v2)] : List Value).toArray s 0 0 (Aw ad (shW κ tl).length s.heap.size)) (F0 m 33 ls [.int (iN s0_33)]) := by
        intro v4_33 s0_33 H locs ls hw hW hl
        unfold w_X10_isOther_B33 at hw
        refine lv_istore_n (lv' := [(3, .int (iN s0_33)), (0, .ref (ad 17)), (2, .int (iN v2_7)), (4, .int (iN v4_33))]) hx hb dX10_isOther_33 rfl hl (by decide) rfl (fun ls hl => ?_)
        refine lv_iinc (v := iN (v4_33 + 1)) (lv' := [(4, .int (iN (v4_33 + 1))), (3, .int (iN s0_33)), (0, .ref (ad 17)), (2, .int (iN v2_7))]) hx hb dX10_isOther_34 hl (k := 3) rfl (iN_add _ _) (by decide) rfl (fun ls hl => ?_)
        refine lv_goto (tgt := 7) hx hb dX10_isOther_37 (by decide) ?_
        exact ih7 s0_33 (v4_33 + 1) H locs ls hw hW (lv_sub hl [2, 3, 1, 0] rfl)
      have hB32 : ∀  (v4_32 : Int) (H : Heap) (locs : List Loc) (ls : Array Slot), w_X10_isOther_B32 σ v2_7 v4_32 post (w_X10_isOther_L7 σ v2_7 post n7) → Wd G (shW κ tl) ad σ (Aw ad (shW κ tl).length s.heap.size) s.heap H locs → lv_has ls 5 [(0, .ref (ad 17)), (2, .int (iN v2_7)), (4, .int (iN v4_32))] → W p l e ({ frames := 0, cells := 0, slots := 0, locals := 0 } : Room) s m ([.ref (ad 17), .int (iN v1), .int (iN v2)] : List Value).toArray below meth c H locs 0 0 (MQ below (QI G (shW κ tl) ad σ post (s.heap.size)) ([.ref (ad 17), .int (iN v1), .int (iN v2)] : List Value).toArray s 0 0 (Aw ad (shW κ tl).length s.heap.size)) (F0 m 32 ls []) := by
        intro v4_32 H locs ls hw hW hl
        unfold w_X10_isOther_B32 at hw
        refine n_iconst hx hb dX10_isOther_32 ?_
        exact hB33 v4_32 0 H locs ls hw hW (lv_sub hl [0, 1, 2] rfl)
      unfold w_X10_isOther_L7_body at hw
      refine lv_iload hx hb dX10_isOther_7 (lv_at hl 3 rfl) ?_
      refine lv_iload_n hx hb dX10_isOther_9 rfl (lv_at hl 1 rfl) ?_
      refine n_icmp_ge hx hb hw.1 hw.2.1 hw.2.2.1 hw.2.2.2 (tgt := 40) dX10_isOther_10 (by decide) (fun hw => ?_) (fun hw => ?_)
      · refine lv_iload_n hx hb dX10_isOther_40 rfl (lv_at hl 2 rfl) ?_
        exact rz_CI hx hb hr hlk hK hW hw.1 hw.2 dX10_isOther_41
      · refine lv_iload_n hx hb dX10_isOther_13 rfl (lv_at hl 2 rfl) ?_
        refine n_if_eq hx hb hw.1 hw.2.1 hw.2.2 (tgt := 32) dX10_isOther_14 (by decide) (fun hw => ?_) (fun hw => ?_)
        · exact hB32 v4_7 H locs ls hw hW (lv_sub hl [0, 1, 3] rfl)
        · refine lv_aload_n hx hb dX10_isOther_17 rfl (lv_at hl 0 rfl) ?_
          refine g_getr hx hb hts hown hK hW 17 rfl (q := 21) rfl uw_X10 5 (by decide) rfl al_768 (fun _ h9 => h9) dX10_isOther_18 ?_
          refine lv_iload hx hb dX10_isOther_21 (lv_at hl 3 rfl) ?_
          refine g_ald hx hb hK hW 21 rfl hw.1 dX10_isOther_23 ?_
          replace hw := hw.2
          refine n_iconst hx hb dX10_isOther_24 ?_
          refine n_icmp_ne hx hb hw.1 (rg_c _ rfl) hw.2.1 hw.2.2 (tgt := 32) dX10_isOther_25 (by decide) (fun hw => ?_) (fun hw => ?_)
          · exact hB32 v4_7 H locs ls hw hW (lv_sub hl [0, 1, 3] rfl)
          · refine n_iconst hx hb dX10_isOther_28 ?_
            refine lv_goto (tgt := 33) hx hb dX10_isOther_29 (by decide) ?_
            exact hB33 v4_7 1 H locs ls hw hW (lv_sub hl [0, 1, 3] rfl)
  unfold w_X10_isOther at hw
  refine n_iconst hx hb dX10_isOther_0 ?_
  refine lv_istore_n (lv' := [(3, .int (iN 1)), (0, .ref (ad 17)), (1, .int (iN v1)), (2, .int (iN v2))]) hx hb dX10_isOther_1 rfl hl (by decide) rfl (fun ls hl => ?_)
  refine lv_iload_n hx hb dX10_isOther_2 rfl (lv_at hl 2 rfl) ?_
  refine n_iconst hx hb dX10_isOther_3 ?_
  refine n_iadd hx hb dX10_isOther_4 ?_
  refine lv_istore (lv' := [(4, .int (iN (v1 + 1))), (3, .int (iN 1)), (0, .ref (ad 17)), (1, .int (iN v1)), (2, .int (iN v2))]) hx hb dX10_isOther_5 hl (by decide) rfl (fun ls hl => ?_)
  obtain ⟨n, hw⟩ := hw
  exact hL7 v2 n 1 (v1 + 1) s.heap [] ls hw hW (lv_sub hl [2, 4, 1, 0] rfl)
set_option maxHeartbeats 4000000 in
set_option maxRecDepth 100000 in
theorem c_X10_played (l : Launch) (G : Gt) (κ : Nat)  (tl : Bool) (ad : Nat → Nat)  (σ : Mem) (v1 : Int) (v2 : Int) (post : Int → Prop) (hw : w_X10_played  σ v1 v2 post) : CI l yX10_played (Cond.code yX10_played cX10_played 3 (some .int)) ({ frames := 0, cells := 0, slots := 0, locals := 0 } : Room) G (shW κ tl) ad σ [.ref (ad 17), .int (iN v1), .int (iN v2)] post := by
  refine s_all (y := yX10_played) (code := cX10_played) (maxL := 3) (ret := (some .int)) (rm := ({ frames := 0, cells := 0, slots := 0, locals := 0 } : Room)) (av := [.ref (ad 17), .int (iN v1), .int (iN v2)]) (Qc := fun sz => QI G (shW κ tl) ad σ post (sz)) (by decide) (Nat.le_of_ble_eq_true rfl) ?_
  intro p e s m below meth c S hr hlk _ hK hE hW ls hl
  obtain ⟨hx, hb, hml, hown, hts⟩ := id S
  replace hl : lv_has ls 3 [(0, .ref (ad 17)), (1, .int (iN v1)), (2, .int (iN v2))] := hl
  have hB31 : ∀  (s0_31 : Int) (H : Heap) (locs : List Loc) (ls : Array Slot), w_X10_played_B31 σ s0_31 post → Wd G (shW κ tl) ad σ (Aw ad (shW κ tl).length s.heap.size) s.heap H locs → lv_has ls 3 [] → W p l e ({ frames := 0, cells := 0, slots := 0, locals := 0 } : Room) s m ([.ref (ad 17), .int (iN v1), .int (iN v2)] : List Value).toArray below meth c H locs 0 0 (MQ below (QI G (shW κ tl) ad σ post (s.heap.size)) ([.ref (ad 17), .int (iN v1), .int (iN v2)] : List Value).toArray s 0 0 (Aw ad (shW κ tl).length s.heap.size)) (F0 m 31 ls [.int (iN s0_31)]) := by
    intro s0_31 H locs ls hw hW hl
    unfold w_X10_played_B31 at hw
    exact r_CI hx hb hr hlk hK hW hw dX10_played_31
  unfold w_X10_played at hw
  refine lv_aload_n hx hb dX10_played_0 rfl (lv_at hl 0 rfl) ?_
  refine g_getr hx hb hts hown hK hW 17 rfl (q := 21) rfl uw_X10 5 (by decide) rfl al_768 (fun _ h9 => h9) dX10_played_1 ?_
  refine lv_iload_n hx hb dX10_played_4 rfl (lv_at hl 1 rfl) ?_
  refine g_ald hx hb hK hW 21 rfl hw.1 dX10_played_5 ?_
  replace hw := hw.2
  refine n_iconst hx hb dX10_played_6 ?_
  refine n_icmp_ne hx hb hw.1 (rg_c _ rfl) hw.2.1 hw.2.2 (tgt := 23) dX10_played_7 (by decide) (fun hw => ?_) (fun hw => ?_)
  · refine lv_aload_n hx hb dX10_played_23 rfl (lv_at hl 0 rfl) ?_
    refine g_getr hx hb hts hown hK hW 17 rfl (q := 22) rfl uw_X10 6 (by decide) rfl al_769 (fun _ h9 => h9) dX10_played_24 ?_
    refine n_iconst hx hb dX10_played_27 ?_
    refine lv_iload_n hx hb dX10_played_28 rfl (lv_at hl 1 rfl) ?_
    refine n_imul hx hb dX10_played_29 ?_
    refine g_ald hx hb hK hW 22 rfl hw.1 dX10_played_30 ?_
    replace hw := hw.2
    exact hB31 (σ 22 ((3 * v1)).toNat) s.heap [] ls hw hW (lv_sub hl [] rfl)
  · refine lv_aload_n hx hb dX10_played_10 rfl (lv_at hl 0 rfl) ?_
    refine g_getr hx hb hts hown hK hW 17 rfl (q := 22) rfl uw_X10 6 (by decide) rfl al_769 (fun _ h9 => h9) dX10_played_11 ?_
    refine n_iconst hx hb dX10_played_14 ?_
    refine lv_iload_n hx hb dX10_played_15 rfl (lv_at hl 1 rfl) ?_
    refine n_imul hx hb dX10_played_16 ?_
    refine lv_iload_n hx hb dX10_played_17 rfl (lv_at hl 2 rfl) ?_
    refine n_iadd hx hb dX10_played_18 ?_
    refine g_ald hx hb hK hW 22 rfl hw.1 dX10_played_19 ?_
    replace hw := hw.2
    refine lv_goto (tgt := 31) hx hb dX10_played_20 (by decide) ?_
    exact hB31 (σ 22 (((3 * v1) + v2)).toNat) s.heap [] ls hw hW (lv_sub hl [] rfl)
set_option maxHeartbeats 4000000 in
set_option maxRecDepth 100000 in
theorem c_X10_sticks (l : Launch) (G : Gt) (κ : Nat)  (tl : Bool) (ad : Nat → Nat)  (σ : Mem) (v1 : Int) (post : Mem → Prop) (hw : w_X10_sticks  σ v1 post) : CV l yX10_sticks (Cond.code yX10_sticks cX10_sticks 6 none) ({ frames := 1, cells := 0, slots := 0, locals := 25 } : Room) G (shW κ tl) ad σ [.ref (ad 17), .int (iN v1)] post := by
  refine s_all (y := yX10_sticks) (code := cX10_sticks) (maxL := 6) (ret := none) (rm := ({ frames := 1, cells := 0, slots := 0, locals := 25 } : Room)) (av := [.ref (ad 17), .int (iN v1)]) (Qc := fun sz => QV G (shW κ tl) ad post (sz)) (by decide) (Nat.le_of_ble_eq_true rfl) ?_
  intro p e s m below meth c S hr hlk _ hK hE hW ls hl
  obtain ⟨hx, hb, hml, hown, hts⟩ := id S
  replace hl : lv_has ls 6 [(0, .ref (ad 17)), (1, .int (iN v1))] := hl
  have hL21 : ∀ (v1_21 : Int) (n : Nat) (v2_21 : Int) (σ_21 : Mem) (H : Heap) (locs : List Loc) (ls : Array Slot), w_X10_sticks_L21 v1_21 post n v2_21 σ_21 → Wd G (shW κ tl) ad σ_21 (Aw ad (shW κ tl).length s.heap.size) s.heap H locs → lv_has ls 6 [(0, .ref (ad 17)), (1, .int (iN v1_21)), (2, .int (iN v2_21))] → W p l e ({ frames := 1, cells := 0, slots := 0, locals := 25 } : Room) s m ([.ref (ad 17), .int (iN v1)] : List Value).toArray below meth c H locs 0 0 (MQ below (QV G (shW κ tl) ad post (s.heap.size)) ([.ref (ad 17), .int (iN v1)] : List Value).toArray s 0 0 (Aw ad (shW κ tl).length s.heap.size)) (F0 m 21 ls []) := by
    intro v1_21 n
    induction n with
    | zero =>
      intro v2_21 σ_21 H locs ls hw
      exact hw.elim
    | succ n21 ih21 =>
      intro v2_21 σ_21 H locs ls hw hW hl
      replace hw : w_X10_sticks_L21_body v1_21 post (w_X10_sticks_L21 v1_21 post n21) v2_21 σ_21 := hw
      have hL28 : ∀ (v2_28 : Int) (n : Nat) (v3_28 : Int) (σ_28 : Mem) (H : Heap) (locs : List Loc) (ls : Array Slot), w_X10_sticks_L28 v1_21 v2_28 post (w_X10_sticks_L21 v1_21 post n21) n v3_28 σ_28 → Wd G (shW κ tl) ad σ_28 (Aw ad (shW κ tl).length s.heap.size) s.heap H locs → lv_has ls 6 [(0, .ref (ad 17)), (1, .int (iN v1_21)), (2, .int (iN v2_28)), (3, .int (iN v3_28))] → W p l e ({ frames := 1, cells := 0, slots := 0, locals := 25 } : Room) s m ([.ref (ad 17), .int (iN v1)] : List Value).toArray below meth c H locs 0 0 (MQ below (QV G (shW κ tl) ad post (s.heap.size)) ([.ref (ad 17), .int (iN v1)] : List Value).toArray s 0 0 (Aw ad (shW κ tl).length s.heap.size)) (F0 m 28 ls []) := by
        intro v2_28 n
        induction n with
        | zero =>
          intro v3_28 σ_28 H locs ls hw
          exact hw.elim
        | succ n28 ih28 =>
          intro v3_28 σ_28 H locs ls hw hW hl
          replace hw : w_X10_sticks_L28_body v1_21 v2_28 post (w_X10_sticks_L21 v1_21 post n21) (w_X10_sticks_L28 v1_21 v2_28 post (w_X10_sticks_L21 v1_21 post n21) n28) v3_28 σ_28 := hw
          have hB109 : ∀ (σ_109 : Mem) (v3_109 : Int) (H : Heap) (locs : List Loc) (ls : Array Slot), w_X10_sticks_B109 σ_109 v1_21 v2_28 v3_109 post (w_X10_sticks_L21 v1_21 post n21) (w_X10_sticks_L28 v1_21 v2_28 post (w_X10_sticks_L21 v1_21 post n21) n28) → Wd G (shW κ tl) ad σ_109 (Aw ad (shW κ tl).length s.heap.size) s.heap H locs → lv_has ls 6 [(0, .ref (ad 17)), (1, .int (iN v1_21)), (2, .int (iN v2_28)), (3, .int (iN v3_109))] → W p l e ({ frames := 1, cells := 0, slots := 0, locals := 25 } : Room) s m ([.ref (ad 17), .int (iN v1)] : List Value).toArray below meth c H locs 0 0 (MQ below (QV G (shW κ tl) ad post (s.heap.size)) ([.ref (ad 17), .int (iN v1)] : List Value).toArray s 0 0 (Aw ad (shW κ tl).length s.heap.size)) (F0 m 109 ls []) := by
            intro σ_109 v3_109 H locs ls hw hW hl
            unfold w_X10_sticks_B109 at hw
            refine lv_iinc (v := iN (v3_109 + 1)) (lv' := [(3, .int (iN (v3_109 + 1))), (0, .ref (ad 17)), (1, .int (iN v1_21)), (2, .int (iN v2_28))]) hx hb dX10_sticks_109 hl (k := 3) rfl (iN_add _ _) (by decide) rfl (fun ls hl => ?_)
            refine lv_goto (tgt := 28) hx hb dX10_sticks_112 (by decide) ?_
            exact ih28 (v3_109 + 1) σ_109 H locs ls hw hW (lv_sub hl [1, 2, 3, 0] rfl)
          have hB106 : ∀ (σ_106 : Mem) (v3_106 : Int) (s0_106 : Int) (s1_106 : Int) (s2_106 : Int) (s3_106 : Int) (H : Heap) (locs : List Loc) (ls : Array Slot), w_X10_sticks_B106 σ_106 v1_21 v2_28 v3_106 s0_106 s1_106 s2_106 s3_106 post (w_X10_sticks_L21 v1_21 post n21) (w_X10_sticks_L28 v1_21 v2_28 post (w_X10_sticks_L21 v1_21 post n21) n28) → Wd G (shW κ tl) ad σ_106 (Aw ad (shW κ tl).length s.heap.size) s.heap H locs → lv_has ls 6 [(0, .ref (ad 17)), (1, .int (iN v1_21)), (2, .int (iN v2_28)), (3, .int (iN v3_106))] → W p l e ({ frames := 1, cells := 0, slots := 0, locals := 25 } : Room) s m ([.ref (ad 17), .int (iN v1)] : List Value).toArray below meth c H locs 0 0 (MQ below (QV G (shW κ tl) ad post (s.heap.size)) ([.ref (ad 17), .int (iN v1)] : List Value).toArray s 0 0 (Aw ad (shW κ tl).length s.heap.size)) (F0 m 106 ls [.int (iN s0_106), .int (iN s1_106), .int (iN s2_106), .int (iN s3_106), .ref (ad 17)]) := by
            intro σ_106 v3_106 s0_106 s1_106 s2_106 s3_106 H locs ls hw hW hl
            unfold w_X10_sticks_B106 at hw
            refine fin_CV hW (run_V (k := 17) (As := [.int (iN s3_106), .int (iN s2_106), .int (iN s1_106), .int (iN s0_106)]) (rest := []) S hK hE hW (c_X10_add l G κ tl ad σ_106 s3_106 s2_106 s1_106 s0_106 _ hw H.size) rfl rfl al_879 al_881 sl_X10_add al_11 al_882 hd_X10_add rfl rfl ⟨Nat.le_of_ble_eq_true rfl, Nat.le_of_ble_eq_true rfl⟩ rfl hl.1 rfl (Nat.le_of_ble_eq_true rfl) dX10_sticks_106 ⟨Nat.zero_le _, Nat.zero_le _⟩) ?_
            intro σ10 H locs hw hW
            exact hB109 σ10 v3_106 H locs ls hw hW (lv_sub hl [0, 1, 2, 3] rfl)
          have hB105 : ∀ (σ_105 : Mem) (v3_105 : Int) (s0_105 : Int) (s1_105 : Int) (s2_105 : Int) (H : Heap) (locs : List Loc) (ls : Array Slot), w_X10_sticks_B105 σ_105 v1_21 v2_28 v3_105 s0_105 s1_105 s2_105 post (w_X10_sticks_L21 v1_21 post n21) (w_X10_sticks_L28 v1_21 v2_28 post (w_X10_sticks_L21 v1_21 post n21) n28) → Wd G (shW κ tl) ad σ_105 (Aw ad (shW κ tl).length s.heap.size) s.heap H locs → lv_has ls 6 [(0, .ref (ad 17)), (1, .int (iN v1_21)), (2, .int (iN v2_28)), (3, .int (iN v3_105))] → W p l e ({ frames := 1, cells := 0, slots := 0, locals := 25 } : Room) s m ([.ref (ad 17), .int (iN v1)] : List Value).toArray below meth c H locs 0 0 (MQ below (QV G (shW κ tl) ad post (s.heap.size)) ([.ref (ad 17), .int (iN v1)] : List Value).toArray s 0 0 (Aw ad (shW κ tl).length s.heap.size)) (F0 m 105 ls [.int (iN s0_105), .int (iN s1_105), .int (iN s2_105), .ref (ad 17)]) := by
            intro σ_105 v3_105 s0_105 s1_105 s2_105 H locs ls hw hW hl
            unfold w_X10_sticks_B105 at hw
            refine n_iconst hx hb dX10_sticks_105 ?_
            exact hB106 σ_105 v3_105 0 s0_105 s1_105 s2_105 H locs ls hw hW (lv_sub hl [0, 1, 2, 3] rfl)
          have hB101 : ∀ (σ_101 : Mem) (v3_101 : Int) (s0_101 : Int) (s1_101 : Int) (s2_101 : Int) (H : Heap) (locs : List Loc) (ls : Array Slot), w_X10_sticks_B101 σ_101 v1_21 v2_28 v3_101 s0_101 s1_101 s2_101 post (w_X10_sticks_L21 v1_21 post n21) (w_X10_sticks_L28 v1_21 v2_28 post (w_X10_sticks_L21 v1_21 post n21) n28) → Wd G (shW κ tl) ad σ_101 (Aw ad (shW κ tl).length s.heap.size) s.heap H locs → lv_has ls 6 [(0, .ref (ad 17)), (1, .int (iN v1_21)), (2, .int (iN v2_28)), (3, .int (iN v3_101))] → W p l e ({ frames := 1, cells := 0, slots := 0, locals := 25 } : Room) s m ([.ref (ad 17), .int (iN v1)] : List Value).toArray below meth c H locs 0 0 (MQ below (QV G (shW κ tl) ad post (s.heap.size)) ([.ref (ad 17), .int (iN v1)] : List Value).toArray s 0 0 (Aw ad (shW κ tl).length s.heap.size)) (F0 m 101 ls [.int (iN s0_101), .int (iN s1_101), .int (iN s2_101), .ref (ad 17)]) := by
            intro σ_101 v3_101 s0_101 s1_101 s2_101 H locs ls hw hW hl
            unfold w_X10_sticks_B101 at hw
            refine n_iconst hx hb dX10_sticks_101 ?_
            refine lv_goto (tgt := 106) hx hb dX10_sticks_102 (by decide) ?_
            exact hB106 σ_101 v3_101 4 s0_101 s1_101 s2_101 H locs ls hw hW (lv_sub hl [0, 1, 2, 3] rfl)
          have hB89 : ∀ (σ_89 : Mem) (v3_89 : Int) (v4_89 : Int) (v5_89 : Int) (s0_89 : Int) (s1_89 : Int) (s2_89 : Int) (H : Heap) (locs : List Loc) (ls : Array Slot), w_X10_sticks_B89 σ_89 v1_21 v2_28 v3_89 v4_89 v5_89 s0_89 s1_89 s2_89 post (w_X10_sticks_L21 v1_21 post n21) (w_X10_sticks_L28 v1_21 v2_28 post (w_X10_sticks_L21 v1_21 post n21) n28) → Wd G (shW κ tl) ad σ_89 (Aw ad (shW κ tl).length s.heap.size) s.heap H locs → lv_has ls 6 [(0, .ref (ad 17)), (1, .int (iN v1_21)), (2, .int (iN v2_28)), (3, .int (iN v3_89)), (4, .int (iN v4_89)), (5, .int (iN v5_89))] → W p l e ({ frames := 1, cells := 0, slots := 0, locals := 25 } : Room) s m ([.ref (ad 17), .int (iN v1)] : List Value).toArray below meth c H locs 0 0 (MQ below (QV G (shW κ tl) ad post (s.heap.size)) ([.ref (ad 17), .int (iN v1)] : List Value).toArray s 0 0 (Aw ad (shW κ tl).length s.heap.size)) (F0 m 89 ls [.int (iN s0_89), .int (iN s1_89), .int (iN s2_89), .ref (ad 17)]) := by
            intro σ_89 v3_89 v4_89 v5_89 s0_89 s1_89 s2_89 H locs ls hw hW hl
            unfold w_X10_sticks_B89 at hw
            refine lv_iload_n hx hb dX10_sticks_89 rfl (lv_at hl 2 rfl) ?_
            refine n_iconst hx hb dX10_sticks_90 ?_
            refine n_icmp_ne hx hb hw.1 (rg_c _ rfl) hw.2.1 hw.2.2 (tgt := 105) dX10_sticks_91 (by decide) (fun hw => ?_) (fun hw => ?_)
            · exact hB105 σ_89 v3_89 s0_89 s1_89 s2_89 H locs ls hw hW (lv_sub hl [0, 1, 2, 3] rfl)
            · refine lv_iload hx hb dX10_sticks_94 (lv_at hl 4 rfl) ?_
              refine lv_iload hx hb dX10_sticks_96 (lv_at hl 5 rfl) ?_
              refine n_icmp_ge hx hb hw.1 hw.2.1 hw.2.2.1 hw.2.2.2 (tgt := 105) dX10_sticks_98 (by decide) (fun hw => ?_) (fun hw => ?_)
              · exact hB105 σ_89 v3_89 s0_89 s1_89 s2_89 H locs ls hw hW (lv_sub hl [0, 1, 2, 3] rfl)
              · exact hB101 σ_89 v3_89 s0_89 s1_89 s2_89 H locs ls hw hW (lv_sub hl [0, 1, 2, 3] rfl)
          have hB72 : ∀ (σ_72 : Mem) (v3_72 : Int) (v4_72 : Int) (s0_72 : Int) (H : Heap) (locs : List Loc) (ls : Array Slot), w_X10_sticks_B72 σ_72 v1_21 v2_28 v3_72 v4_72 s0_72 post (w_X10_sticks_L21 v1_21 post n21) (w_X10_sticks_L28 v1_21 v2_28 post (w_X10_sticks_L21 v1_21 post n21) n28) → Wd G (shW κ tl) ad σ_72 (Aw ad (shW κ tl).length s.heap.size) s.heap H locs → lv_has ls 6 [(0, .ref (ad 17)), (1, .int (iN v1_21)), (2, .int (iN v2_28)), (3, .int (iN v3_72)), (4, .int (iN v4_72))] → W p l e ({ frames := 1, cells := 0, slots := 0, locals := 25 } : Room) s m ([.ref (ad 17), .int (iN v1)] : List Value).toArray below meth c H locs 0 0 (MQ below (QV G (shW κ tl) ad post (s.heap.size)) ([.ref (ad 17), .int (iN v1)] : List Value).toArray s 0 0 (Aw ad (shW κ tl).length s.heap.size)) (F0 m 72 ls [.int (iN s0_72)]) := by
            intro σ_72 v3_72 v4_72 s0_72 H locs ls hw hW hl
            unfold w_X10_sticks_B72 at hw
            refine lv_istore (lv' := [(5, .int (iN s0_72)), (0, .ref (ad 17)), (1, .int (iN v1_21)), (2, .int (iN v2_28)), (3, .int (iN v3_72)), (4, .int (iN v4_72))]) hx hb dX10_sticks_72 hl (by decide) rfl (fun ls hl => ?_)
            refine lv_aload_n hx hb dX10_sticks_74 rfl (lv_at hl 1 rfl) ?_
            refine lv_iload_n hx hb dX10_sticks_75 rfl (lv_at hl 2 rfl) ?_
            refine lv_iload_n hx hb dX10_sticks_76 rfl (lv_at hl 3 rfl) ?_
            refine lv_iload_n hx hb dX10_sticks_77 rfl (lv_at hl 4 rfl) ?_
            refine lv_iload_n hx hb dX10_sticks_78 rfl (lv_at hl 3 rfl) ?_
            refine n_if_ne hx hb hw.1 hw.2.1 hw.2.2 (tgt := 89) dX10_sticks_79 (by decide) (fun hw => ?_) (fun hw => ?_)
            · exact hB89 σ_72 v3_72 v4_72 s0_72 v3_72 v2_28 v1_21 H locs ls hw hW (lv_sub hl [1, 2, 3, 4, 5, 0] rfl)
            · refine lv_iload hx hb dX10_sticks_82 (lv_at hl 5 rfl) ?_
              refine lv_iload hx hb dX10_sticks_84 (lv_at hl 0 rfl) ?_
              refine n_icmp_gt hx hb hw.1 hw.2.1 hw.2.2.1 hw.2.2.2 (tgt := 101) dX10_sticks_86 (by decide) (fun hw => ?_) (fun hw => ?_)
              · exact hB101 σ_72 v3_72 v3_72 v2_28 v1_21 H locs ls hw hW (lv_sub hl [1, 2, 3, 4] rfl)
              · exact hB89 σ_72 v3_72 v4_72 s0_72 v3_72 v2_28 v1_21 H locs ls hw hW (lv_sub hl [1, 2, 3, 4, 5, 0] rfl)
          unfold w_X10_sticks_L28_body at hw
          refine lv_iload_n hx hb dX10_sticks_28 rfl (lv_at hl 3 rfl) ?_
          refine lv_iload_n hx hb dX10_sticks_29 rfl (lv_at hl 1 rfl) ?_
          refine n_icmp_ge hx hb hw.1 hw.2.1 hw.2.2.1 hw.2.2.2 (tgt := 115) dX10_sticks_30 (by decide) (fun hw => ?_) (fun hw => ?_)
          · refine lv_iinc (v := iN (v2_28 + 1)) (lv' := [(2, .int (iN (v2_28 + 1))), (0, .ref (ad 17)), (1, .int (iN v1_21)), (3, .int (iN v3_28))]) hx hb dX10_sticks_115 hl (k := 2) rfl (iN_add _ _) (by decide) rfl (fun ls hl => ?_)
            refine lv_goto (tgt := 21) hx hb dX10_sticks_118 (by decide) ?_
            exact ih21 (v2_28 + 1) σ_28 H locs ls hw hW (lv_sub hl [1, 2, 0] rfl)
          · refine lv_aload_n hx hb dX10_sticks_33 rfl (lv_at hl 0 rfl) ?_
            refine lv_iload_n hx hb dX10_sticks_34 rfl (lv_at hl 3 rfl) ?_
            refine lv_iload_n hx hb dX10_sticks_35 rfl (lv_at hl 1 rfl) ?_
            refine fin_CI hW (run_V (k := 17) (As := [.int (iN v3_28), .int (iN v1_21)]) (rest := []) S hK hE hW (c_X10_isOther l G κ tl ad σ_28 v3_28 v1_21 _ hw H.size) rfl rfl al_898 al_900 sl_X10_isOther al_11 al_901 hd_X10_isOther rfl rfl ⟨Nat.le_of_ble_eq_true rfl, Nat.le_of_ble_eq_true rfl⟩ rfl hl.1 rfl (Nat.le_of_ble_eq_true rfl) dX10_sticks_36 ⟨Nat.zero_le _, Nat.zero_le _⟩) ?_
            intro r11 H locs hw hW
            refine n_if_ne hx hb hw.1 hw.2.1 hw.2.2 (tgt := 45) dX10_sticks_39 (by decide) (fun hw => ?_) (fun hw => ?_)
            · refine lv_aload_n hx hb dX10_sticks_45 rfl (lv_at hl 0 rfl) ?_
              refine g_getr hx hb hts hown hK hW 17 rfl (q := 22) rfl uw_X10 6 (by decide) rfl al_769 (fun _ h9 => h9) dX10_sticks_46 ?_
              refine n_iconst hx hb dX10_sticks_49 ?_
              refine lv_iload_n hx hb dX10_sticks_50 rfl (lv_at hl 1 rfl) ?_
              refine n_imul hx hb dX10_sticks_51 ?_
              refine g_ald hx hb hK hW 22 rfl hw.1 dX10_sticks_52 ?_
              replace hw := hw.2
              refine lv_istore (lv' := [(4, .int (iN (σ_28 22 ((3 * v1_21)).toNat))), (0, .ref (ad 17)), (1, .int (iN v1_21)), (2, .int (iN v2_28)), (3, .int (iN v3_28))]) hx hb dX10_sticks_53 hl (by decide) rfl (fun ls hl => ?_)
              refine lv_iload_n hx hb dX10_sticks_55 rfl (lv_at hl 4 rfl) ?_
              refine n_if_ge hx hb hw.1 hw.2.1 hw.2.2 (tgt := 64) dX10_sticks_56 (by decide) (fun hw => ?_) (fun hw => ?_)
              · refine lv_aload_n hx hb dX10_sticks_64 rfl (lv_at hl 1 rfl) ?_
                refine lv_iload_n hx hb dX10_sticks_65 rfl (lv_at hl 4 rfl) ?_
                refine n_iconst hx hb dX10_sticks_66 ?_
                refine lv_iload_n hx hb dX10_sticks_67 rfl (lv_at hl 3 rfl) ?_
                refine n_isub hx hb dX10_sticks_68 ?_
                refine fin_CI hW (run_V (k := 17) (As := [.int (iN v3_28), .int (iN (1 - v2_28))]) (rest := []) S hK hE hW (c_X10_played l G κ tl ad σ_28 v3_28 (1 - v2_28) _ hw H.size) rfl rfl al_902 al_904 sl_X10_played al_11 al_905 hd_X10_played rfl rfl ⟨Nat.le_of_ble_eq_true rfl, Nat.le_of_ble_eq_true rfl⟩ rfl hl.1 rfl (Nat.le_of_ble_eq_true rfl) dX10_sticks_69 ⟨Nat.zero_le _, Nat.zero_le _⟩) ?_
                intro r13 H locs hw hW
                exact hB72 σ_28 v3_28 (σ_28 22 ((3 * v1_21)).toNat) r13 H locs ls hw hW (lv_sub hl [1, 2, 3, 4, 0] rfl)
              · refine lv_iload hx hb dX10_sticks_59 (lv_at hl 0 rfl) ?_
                refine lv_goto (tgt := 72) hx hb dX10_sticks_61 (by decide) ?_
                exact hB72 σ_28 v3_28 (σ_28 22 ((3 * v1_21)).toNat) (σ_28 22 ((3 * v1_21)).toNat) H locs ls hw hW (lv_sub hl [1, 2, 3, 4, 0] rfl)
            · refine lv_goto (tgt := 109) hx hb dX10_sticks_42 (by decide) ?_
              exact hB109 σ_28 v3_28 H locs ls hw hW (lv_sub hl [0, 1, 2, 3] rfl)
      unfold w_X10_sticks_L21_body at hw
      refine lv_iload_n hx hb dX10_sticks_21 rfl (lv_at hl 2 rfl) ?_
      refine n_iconst hx hb dX10_sticks_22 ?_
      refine n_icmp_ge hx hb hw.1 (rg_c _ rfl) hw.2.1 hw.2.2 (tgt := 121) dX10_sticks_23 (by decide) (fun hw => ?_) (fun hw => ?_)
      · exact r_CV hx hb hr hlk hK hW hw dX10_sticks_121
      · refine n_iconst hx hb dX10_sticks_26 ?_
        refine lv_istore_n (lv' := [(3, .int (iN (-1))), (0, .ref (ad 17)), (1, .int (iN v1_21)), (2, .int (iN v2_21))]) hx hb dX10_sticks_27 rfl hl (by decide) rfl (fun ls hl => ?_)
        obtain ⟨n, hw⟩ := hw
        exact hL28 v2_21 n (-1) σ_21 H locs ls hw hW (lv_sub hl [1, 2, 3, 0] rfl)
  unfold w_X10_sticks at hw
  refine lv_aload_n hx hb dX10_sticks_0 rfl (lv_at hl 0 rfl) ?_
  refine g_getr hx hb hts hown hK hW 17 rfl (q := 21) rfl uw_X10 5 (by decide) rfl al_768 (fun _ h9 => h9) dX10_sticks_1 ?_
  refine lv_iload_n hx hb dX10_sticks_4 rfl (lv_at hl 1 rfl) ?_
  refine g_ald hx hb hK hW 21 rfl hw.1 dX10_sticks_5 ?_
  replace hw := hw.2
  refine n_iconst hx hb dX10_sticks_6 ?_
  refine n_icmp_ne hx hb hw.1 (rg_c _ rfl) hw.2.1 hw.2.2 (tgt := 19) dX10_sticks_7 (by decide) (fun hw => ?_) (fun hw => ?_)
  · refine n_iconst hx hb dX10_sticks_19 ?_
    refine lv_istore_n (lv' := [(2, .int (iN 0)), (0, .ref (ad 17)), (1, .int (iN v1))]) hx hb dX10_sticks_20 rfl hl (by decide) rfl (fun ls hl => ?_)
    obtain ⟨n, hw⟩ := hw
    exact hL21 v1 n 0 σ s.heap [] ls hw hW (lv_sub hl [1, 2, 0] rfl)
  · refine lv_aload_n hx hb dX10_sticks_10 rfl (lv_at hl 0 rfl) ?_
    refine lv_iload_n hx hb dX10_sticks_11 rfl (lv_at hl 1 rfl) ?_
    refine n_iconst hx hb dX10_sticks_12 ?_
    refine n_iconst hx hb dX10_sticks_13 ?_
    refine n_iconst hx hb dX10_sticks_14 ?_
    refine fin_CV hW (run_V (k := 17) (As := [.int (iN v1), .int (iN 2), .int (iN (-1)), .int (iN 0)]) (rest := []) S hK hE hW (c_X10_add l G κ tl ad σ v1 2 (-1) 0 _ hw s.heap.size) rfl rfl al_879 al_881 sl_X10_add al_11 al_882 hd_X10_add rfl rfl ⟨Nat.le_of_ble_eq_true rfl, Nat.le_of_ble_eq_true rfl⟩ rfl hl.1 rfl (Nat.le_of_ble_eq_true rfl) dX10_sticks_15 ⟨Nat.zero_le _, Nat.zero_le _⟩) ?_
    intro σ8 H locs hw hW
    exact r_CV hx hb hr hlk hK hW hw dX10_sticks_18
set_option maxHeartbeats 4000000 in
set_option maxRecDepth 100000 in
theorem c_X10_findOf (l : Launch) (G : Gt) (κ : Nat)  (tl : Bool) (ad : Nat → Nat)  (σ : Mem) (v1 : Int) (post : Mem → Prop) (hw : w_X10_findOf  σ v1 post) : CV l yX10_findOf (Cond.code yX10_findOf cX10_findOf 4 none) ({ frames := 2, cells := 0, slots := 0, locals := 54 } : Room) G (shW κ tl) ad σ [.ref (ad 17), .int (iN v1)] post := by
  refine s_all (y := yX10_findOf) (code := cX10_findOf) (maxL := 4) (ret := none) (rm := ({ frames := 2, cells := 0, slots := 0, locals := 54 } : Room)) (av := [.ref (ad 17), .int (iN v1)]) (Qc := fun sz => QV G (shW κ tl) ad post (sz)) (by decide) (Nat.le_of_ble_eq_true rfl) ?_
  intro p e s m below meth c S hr hlk _ hK hE hW ls hl
  obtain ⟨hx, hb, hml, hown, hts⟩ := id S
  replace hl : lv_has ls 4 [(0, .ref (ad 17)), (1, .int (iN v1))] := hl
  have hB188 : ∀ (σ_188 : Mem)  (H : Heap) (locs : List Loc) (ls : Array Slot), w_X10_findOf_B188 σ_188 post → Wd G (shW κ tl) ad σ_188 (Aw ad (shW κ tl).length s.heap.size) s.heap H locs → lv_has ls 4 [] → W p l e ({ frames := 2, cells := 0, slots := 0, locals := 54 } : Room) s m ([.ref (ad 17), .int (iN v1)] : List Value).toArray below meth c H locs 0 0 (MQ below (QV G (shW κ tl) ad post (s.heap.size)) ([.ref (ad 17), .int (iN v1)] : List Value).toArray s 0 0 (Aw ad (shW κ tl).length s.heap.size)) (F0 m 188 ls []) := by
    intro σ_188 H locs ls hw hW hl
    unfold w_X10_findOf_B188 at hw
    exact r_CV hx hb hr hlk hK hW hw dX10_findOf_188
  have hL126 : ∀ (v1_126 : Int) (n : Nat) (v2_126 : Int) (σ_126 : Mem) (H : Heap) (locs : List Loc) (ls : Array Slot), w_X10_findOf_L126 v1_126 post n v2_126 σ_126 → Wd G (shW κ tl) ad σ_126 (Aw ad (shW κ tl).length s.heap.size) s.heap H locs → lv_has ls 4 [(0, .ref (ad 17)), (1, .int (iN v1_126)), (2, .int (iN v2_126))] → W p l e ({ frames := 2, cells := 0, slots := 0, locals := 54 } : Room) s m ([.ref (ad 17), .int (iN v1)] : List Value).toArray below meth c H locs 0 0 (MQ below (QV G (shW κ tl) ad post (s.heap.size)) ([.ref (ad 17), .int (iN v1)] : List Value).toArray s 0 0 (Aw ad (shW κ tl).length s.heap.size)) (F0 m 126 ls []) := by
    intro v1_126 n
    induction n with
    | zero =>
      intro v2_126 σ_126 H locs ls hw
      exact hw.elim
    | succ n126 ih126 =>
      intro v2_126 σ_126 H locs ls hw hW hl
      replace hw : w_X10_findOf_L126_body v1_126 post (w_X10_findOf_L126 v1_126 post n126) v2_126 σ_126 := hw
      have hB174 : ∀ (σ_174 : Mem) (v2_174 : Int) (H : Heap) (locs : List Loc) (ls : Array Slot), w_X10_findOf_B174 σ_174 v1_126 v2_174 post (w_X10_findOf_L126 v1_126 post n126) → Wd G (shW κ tl) ad σ_174 (Aw ad (shW κ tl).length s.heap.size) s.heap H locs → lv_has ls 4 [(0, .ref (ad 17)), (1, .int (iN v1_126)), (2, .int (iN v2_174))] → W p l e ({ frames := 2, cells := 0, slots := 0, locals := 54 } : Room) s m ([.ref (ad 17), .int (iN v1)] : List Value).toArray below meth c H locs 0 0 (MQ below (QV G (shW κ tl) ad post (s.heap.size)) ([.ref (ad 17), .int (iN v1)] : List Value).toArray s 0 0 (Aw ad (shW κ tl).length s.heap.size)) (F0 m 174 ls []) := by
        intro σ_174 v2_174 H locs ls hw hW hl
        unfold w_X10_findOf_B174 at hw
        refine lv_iinc (v := iN (v2_174 + 1)) (lv' := [(2, .int (iN (v2_174 + 1))), (0, .ref (ad 17)), (1, .int (iN v1_126))]) hx hb dX10_findOf_174 hl (k := 2) rfl (iN_add _ _) (by decide) rfl (fun ls hl => ?_)
        refine lv_goto (tgt := 126) hx hb dX10_findOf_177 (by decide) ?_
        exact ih126 (v2_174 + 1) σ_174 H locs ls hw hW (lv_sub hl [1, 2, 0] rfl)
      have hB171 : ∀ (σ_171 : Mem) (v2_171 : Int) (s0_171 : Int) (s1_171 : Int) (s2_171 : Int) (s3_171 : Int) (H : Heap) (locs : List Loc) (ls : Array Slot), w_X10_findOf_B171 σ_171 v1_126 v2_171 s0_171 s1_171 s2_171 s3_171 post (w_X10_findOf_L126 v1_126 post n126) → Wd G (shW κ tl) ad σ_171 (Aw ad (shW κ tl).length s.heap.size) s.heap H locs → lv_has ls 4 [(0, .ref (ad 17)), (1, .int (iN v1_126)), (2, .int (iN v2_171))] → W p l e ({ frames := 2, cells := 0, slots := 0, locals := 54 } : Room) s m ([.ref (ad 17), .int (iN v1)] : List Value).toArray below meth c H locs 0 0 (MQ below (QV G (shW κ tl) ad post (s.heap.size)) ([.ref (ad 17), .int (iN v1)] : List Value).toArray s 0 0 (Aw ad (shW κ tl).length s.heap.size)) (F0 m 171 ls [.int (iN s0_171), .int (iN s1_171), .int (iN s2_171), .int (iN s3_171), .ref (ad 17)]) := by
        intro σ_171 v2_171 s0_171 s1_171 s2_171 s3_171 H locs ls hw hW hl
        unfold w_X10_findOf_B171 at hw
        refine fin_CV hW (run_V (k := 17) (As := [.int (iN s3_171), .int (iN s2_171), .int (iN s1_171), .int (iN s0_171)]) (rest := []) S hK hE hW (c_X10_add l G κ tl ad σ_171 s3_171 s2_171 s1_171 s0_171 _ hw H.size) rfl rfl al_879 al_881 sl_X10_add al_11 al_882 hd_X10_add rfl rfl ⟨Nat.le_of_ble_eq_true rfl, Nat.le_of_ble_eq_true rfl⟩ rfl hl.1 rfl (Nat.le_of_ble_eq_true rfl) dX10_findOf_171 ⟨Nat.zero_le _, Nat.zero_le _⟩) ?_
        intro σ16 H locs hw hW
        exact hB174 σ16 v2_171 H locs ls hw hW (lv_sub hl [0, 1, 2] rfl)
      unfold w_X10_findOf_L126_body at hw
      refine lv_iload_n hx hb dX10_findOf_126 rfl (lv_at hl 2 rfl) ?_
      refine n_bipush hx hb dX10_findOf_127 (by decide) ?_
      refine n_icmp_ge hx hb hw.1 (rg_c _ rfl) hw.2.1 hw.2.2 (tgt := 180) dX10_findOf_129 (by decide) (fun hw => ?_) (fun hw => ?_)
      · refine lv_goto (tgt := 188) hx hb dX10_findOf_180 (by decide) ?_
        exact hB188 σ_126 H locs ls hw hW (lv_sub hl [] rfl)
      · refine lv_aload_n hx hb dX10_findOf_132 rfl (lv_at hl 0 rfl) ?_
        refine g_getr hx hb hts hown hK hW 17 rfl (q := 22) rfl uw_X10 6 (by decide) rfl al_769 (fun _ h9 => h9) dX10_findOf_133 ?_
        refine n_iconst hx hb dX10_findOf_136 ?_
        refine lv_iload_n hx hb dX10_findOf_137 rfl (lv_at hl 1 rfl) ?_
        refine n_imul hx hb dX10_findOf_138 ?_
        refine g_ald hx hb hK hW 22 rfl hw.1 dX10_findOf_139 ?_
        replace hw := hw.2
        refine lv_iload_n hx hb dX10_findOf_140 rfl (lv_at hl 2 rfl) ?_
        refine n_iadd hx hb dX10_findOf_141 ?_
        refine lv_aload_n hx hb dX10_findOf_142 rfl (lv_at hl 0 rfl) ?_
        refine g_getr hx hb hts hown hK hW 17 rfl (q := 24) rfl uw_X10 8 (by decide) rfl al_771 (fun _ h9 => h9) dX10_findOf_143 ?_
        refine n_iconst hx hb dX10_findOf_146 ?_
        refine g_ald hx hb hK hW 24 rfl (inb_c _ _ rfl) dX10_findOf_147 ?_
        refine n_isub hx hb dX10_findOf_148 ?_
        refine fin_CI hW (run_S (As := [.int (iN (((σ_126 22 ((3 * v1_126)).toNat) + v2_126) - (σ_126 24 (5 : Int).toNat)))]) (rest := []) S hK hE hW (c_X10_isPartial l G κ tl ad σ_126 (((σ_126 22 ((3 * v1_126)).toNat) + v2_126) - (σ_126 24 (5 : Int).toNat)) _ hw H.size) al_891 al_892 al_11 al_893 hd_X10_isPartial.2 rfl rfl ⟨Nat.le_of_ble_eq_true rfl, Nat.le_of_ble_eq_true rfl⟩ rfl hl.1 rfl (Nat.le_of_ble_eq_true rfl) dX10_findOf_149 ⟨Nat.zero_le _, Nat.zero_le _⟩) ?_
        intro r17 H locs hw hW
        refine n_if_eq hx hb hw.1 hw.2.1 hw.2.2 (tgt := 174) dX10_findOf_152 (by decide) (fun hw => ?_) (fun hw => ?_)
        · exact hB174 σ_126 v2_126 H locs ls hw hW (lv_sub hl [0, 1, 2] rfl)
        · refine lv_aload_n hx hb dX10_findOf_155 rfl (lv_at hl 0 rfl) ?_
          refine lv_iload_n hx hb dX10_findOf_156 rfl (lv_at hl 1 rfl) ?_
          refine lv_iload_n hx hb dX10_findOf_157 rfl (lv_at hl 2 rfl) ?_
          refine n_iconst hx hb dX10_findOf_158 ?_
          refine lv_iload_n hx hb dX10_findOf_159 rfl (lv_at hl 2 rfl) ?_
          refine n_iconst hx hb dX10_findOf_160 ?_
          refine n_icmp_ge hx hb hw.1 (rg_c _ rfl) hw.2.1 hw.2.2 (tgt := 168) dX10_findOf_161 (by decide) (fun hw => ?_) (fun hw => ?_)
          · refine lv_iload_n hx hb dX10_findOf_168 rfl (lv_at hl 2 rfl) ?_
            refine n_iconst hx hb dX10_findOf_169 ?_
            refine n_isub hx hb dX10_findOf_170 ?_
            exact hB171 σ_126 v2_126 (v2_126 - 4) 0 v2_126 v1_126 H locs ls hw hW (lv_sub hl [0, 1, 2] rfl)
          · refine n_iconst hx hb dX10_findOf_164 ?_
            refine lv_goto (tgt := 171) hx hb dX10_findOf_165 (by decide) ?_
            exact hB171 σ_126 v2_126 0 0 v2_126 v1_126 H locs ls hw hW (lv_sub hl [0, 1, 2] rfl)
  have hL74 : ∀ (v1_74 : Int) (n : Nat) (v2_74 : Int) (σ_74 : Mem) (H : Heap) (locs : List Loc) (ls : Array Slot), w_X10_findOf_L74 v1_74 post n v2_74 σ_74 → Wd G (shW κ tl) ad σ_74 (Aw ad (shW κ tl).length s.heap.size) s.heap H locs → lv_has ls 4 [(0, .ref (ad 17)), (1, .int (iN v1_74)), (2, .int (iN v2_74))] → W p l e ({ frames := 2, cells := 0, slots := 0, locals := 54 } : Room) s m ([.ref (ad 17), .int (iN v1)] : List Value).toArray below meth c H locs 0 0 (MQ below (QV G (shW κ tl) ad post (s.heap.size)) ([.ref (ad 17), .int (iN v1)] : List Value).toArray s 0 0 (Aw ad (shW κ tl).length s.heap.size)) (F0 m 74 ls []) := by
    intro v1_74 n
    induction n with
    | zero =>
      intro v2_74 σ_74 H locs ls hw
      exact hw.elim
    | succ n74 ih74 =>
      intro v2_74 σ_74 H locs ls hw hW hl
      replace hw : w_X10_findOf_L74_body v1_74 post (w_X10_findOf_L74 v1_74 post n74) v2_74 σ_74 := hw
      have hL82 : ∀ (v2_82 : Int) (n : Nat) (v3_82 : Int) (σ_82 : Mem) (H : Heap) (locs : List Loc) (ls : Array Slot), w_X10_findOf_L82 v1_74 v2_82 post (w_X10_findOf_L74 v1_74 post n74) n v3_82 σ_82 → Wd G (shW κ tl) ad σ_82 (Aw ad (shW κ tl).length s.heap.size) s.heap H locs → lv_has ls 4 [(0, .ref (ad 17)), (1, .int (iN v1_74)), (2, .int (iN v2_82)), (3, .int (iN v3_82))] → W p l e ({ frames := 2, cells := 0, slots := 0, locals := 54 } : Room) s m ([.ref (ad 17), .int (iN v1)] : List Value).toArray below meth c H locs 0 0 (MQ below (QV G (shW κ tl) ad post (s.heap.size)) ([.ref (ad 17), .int (iN v1)] : List Value).toArray s 0 0 (Aw ad (shW κ tl).length s.heap.size)) (F0 m 82 ls []) := by
        intro v2_82 n
        induction n with
        | zero =>
          intro v3_82 σ_82 H locs ls hw
          exact hw.elim
        | succ n82 ih82 =>
          intro v3_82 σ_82 H locs ls hw hW hl
          replace hw : w_X10_findOf_L82_body v1_74 v2_82 post (w_X10_findOf_L74 v1_74 post n74) (w_X10_findOf_L82 v1_74 v2_82 post (w_X10_findOf_L74 v1_74 post n74) n82) v3_82 σ_82 := hw
          unfold w_X10_findOf_L82_body at hw
          refine lv_iload_n hx hb dX10_findOf_82 rfl (lv_at hl 3 rfl) ?_
          refine lv_aload_n hx hb dX10_findOf_83 rfl (lv_at hl 0 rfl) ?_
          refine g_getr hx hb hts hown hK hW 17 rfl (q := 21) rfl uw_X10 5 (by decide) rfl al_768 (fun _ h9 => h9) dX10_findOf_84 ?_
          refine lv_iload_n hx hb dX10_findOf_87 rfl (lv_at hl 1 rfl) ?_
          refine g_ald hx hb hK hW 21 rfl hw.1 dX10_findOf_88 ?_
          replace hw := hw.2
          refine n_iadd hx hb dX10_findOf_89 ?_
          refine n_iconst hx hb dX10_findOf_90 ?_
          refine n_icmp_gt hx hb hw.1 (rg_c _ rfl) hw.2.1 hw.2.2 (tgt := 107) dX10_findOf_91 (by decide) (fun hw => ?_) (fun hw => ?_)
          · refine lv_iinc (v := iN (v2_82 + 1)) (lv' := [(2, .int (iN (v2_82 + 1))), (0, .ref (ad 17)), (1, .int (iN v1_74)), (3, .int (iN v3_82))]) hx hb dX10_findOf_107 hl (k := 2) rfl (iN_add _ _) (by decide) rfl (fun ls hl => ?_)
            refine lv_goto (tgt := 74) hx hb dX10_findOf_110 (by decide) ?_
            exact ih74 (v2_82 + 1) σ_82 H locs ls hw hW (lv_sub hl [1, 2, 0] rfl)
          · refine lv_aload_n hx hb dX10_findOf_94 rfl (lv_at hl 0 rfl) ?_
            refine lv_iload_n hx hb dX10_findOf_95 rfl (lv_at hl 1 rfl) ?_
            refine lv_iload_n hx hb dX10_findOf_96 rfl (lv_at hl 2 rfl) ?_
            refine lv_iload_n hx hb dX10_findOf_97 rfl (lv_at hl 3 rfl) ?_
            refine fin_CV hW (run_V (k := 17) (As := [.int (iN v1_74), .int (iN v2_82), .int (iN v3_82)]) (rest := []) S hK hE hW (c_X10_strings l G κ tl ad σ_82 v1_74 v2_82 v3_82 _ hw H.size) rfl rfl al_883 al_885 sl_X10_strings al_11 al_886 hd_X10_strings rfl rfl ⟨Nat.le_of_ble_eq_true rfl, Nat.le_of_ble_eq_true rfl⟩ rfl hl.1 rfl (Nat.le_of_ble_eq_true rfl) dX10_findOf_98 ⟨Nat.zero_le _, Nat.zero_le _⟩) ?_
            intro σ20 H locs hw hW
            refine lv_iinc (v := iN (v3_82 + 1)) (lv' := [(3, .int (iN (v3_82 + 1))), (0, .ref (ad 17)), (1, .int (iN v1_74)), (2, .int (iN v2_82))]) hx hb dX10_findOf_101 hl (k := 3) rfl (iN_add _ _) (by decide) rfl (fun ls hl => ?_)
            refine lv_goto (tgt := 82) hx hb dX10_findOf_104 (by decide) ?_
            exact ih82 (v3_82 + 1) σ20 H locs ls hw hW (lv_sub hl [1, 2, 3, 0] rfl)
      unfold w_X10_findOf_L74_body at hw
      refine lv_iload_n hx hb dX10_findOf_74 rfl (lv_at hl 2 rfl) ?_
      refine n_bipush hx hb dX10_findOf_75 (by decide) ?_
      refine n_icmp_ge hx hb hw.1 (rg_c _ rfl) hw.2.1 hw.2.2 (tgt := 113) dX10_findOf_77 (by decide) (fun hw => ?_) (fun hw => ?_)
      · refine lv_goto (tgt := 188) hx hb dX10_findOf_113 (by decide) ?_
        exact hB188 σ_74 H locs ls hw hW (lv_sub hl [] rfl)
      · refine n_iconst hx hb dX10_findOf_80 ?_
        refine lv_istore_n (lv' := [(3, .int (iN 0)), (0, .ref (ad 17)), (1, .int (iN v1_74)), (2, .int (iN v2_74))]) hx hb dX10_findOf_81 rfl hl (by decide) rfl (fun ls hl => ?_)
        obtain ⟨n, hw⟩ := hw
        exact hL82 v2_74 n 0 σ_74 H locs ls hw hW (lv_sub hl [1, 2, 3, 0] rfl)
  have hL38 : ∀ (v1_38 : Int) (n : Nat) (v2_38 : Int) (σ_38 : Mem) (H : Heap) (locs : List Loc) (ls : Array Slot), w_X10_findOf_L38 v1_38 post n v2_38 σ_38 → Wd G (shW κ tl) ad σ_38 (Aw ad (shW κ tl).length s.heap.size) s.heap H locs → lv_has ls 4 [(0, .ref (ad 17)), (1, .int (iN v1_38)), (2, .int (iN v2_38))] → W p l e ({ frames := 2, cells := 0, slots := 0, locals := 54 } : Room) s m ([.ref (ad 17), .int (iN v1)] : List Value).toArray below meth c H locs 0 0 (MQ below (QV G (shW κ tl) ad post (s.heap.size)) ([.ref (ad 17), .int (iN v1)] : List Value).toArray s 0 0 (Aw ad (shW κ tl).length s.heap.size)) (F0 m 38 ls []) := by
    intro v1_38 n
    induction n with
    | zero =>
      intro v2_38 σ_38 H locs ls hw
      exact hw.elim
    | succ n38 ih38 =>
      intro v2_38 σ_38 H locs ls hw hW hl
      replace hw : w_X10_findOf_L38_body v1_38 post (w_X10_findOf_L38 v1_38 post n38) v2_38 σ_38 := hw
      have hB63 : ∀ (σ_63 : Mem) (v2_63 : Int) (H : Heap) (locs : List Loc) (ls : Array Slot), w_X10_findOf_B63 σ_63 v1_38 v2_63 post (w_X10_findOf_L38 v1_38 post n38) → Wd G (shW κ tl) ad σ_63 (Aw ad (shW κ tl).length s.heap.size) s.heap H locs → lv_has ls 4 [(0, .ref (ad 17)), (1, .int (iN v1_38)), (2, .int (iN v2_63))] → W p l e ({ frames := 2, cells := 0, slots := 0, locals := 54 } : Room) s m ([.ref (ad 17), .int (iN v1)] : List Value).toArray below meth c H locs 0 0 (MQ below (QV G (shW κ tl) ad post (s.heap.size)) ([.ref (ad 17), .int (iN v1)] : List Value).toArray s 0 0 (Aw ad (shW κ tl).length s.heap.size)) (F0 m 63 ls []) := by
        intro σ_63 v2_63 H locs ls hw hW hl
        unfold w_X10_findOf_B63 at hw
        refine lv_iinc (v := iN (v2_63 + 1)) (lv' := [(2, .int (iN (v2_63 + 1))), (0, .ref (ad 17)), (1, .int (iN v1_38))]) hx hb dX10_findOf_63 hl (k := 2) rfl (iN_add _ _) (by decide) rfl (fun ls hl => ?_)
        refine lv_goto (tgt := 38) hx hb dX10_findOf_66 (by decide) ?_
        exact ih38 (v2_63 + 1) σ_63 H locs ls hw hW (lv_sub hl [1, 2, 0] rfl)
      unfold w_X10_findOf_L38_body at hw
      refine lv_iload_n hx hb dX10_findOf_38 rfl (lv_at hl 2 rfl) ?_
      refine n_bipush hx hb dX10_findOf_39 (by decide) ?_
      refine n_icmp_ge hx hb hw.1 (rg_c _ rfl) hw.2.1 hw.2.2 (tgt := 69) dX10_findOf_41 (by decide) (fun hw => ?_) (fun hw => ?_)
      · refine lv_goto (tgt := 188) hx hb dX10_findOf_69 (by decide) ?_
        exact hB188 σ_38 H locs ls hw hW (lv_sub hl [] rfl)
      · refine lv_iload_n hx hb dX10_findOf_44 rfl (lv_at hl 2 rfl) ?_
        refine fin_CI hW (run_S (As := [.int (iN v2_38)]) (rest := []) S hK hE hW (c_X10_bits l G κ tl ad σ_38 v2_38 _ hw H.size) al_865 al_866 al_11 al_867 hd_X10_bits.2 rfl rfl ⟨Nat.le_of_ble_eq_true rfl, Nat.le_of_ble_eq_true rfl⟩ rfl hl.1 rfl (Nat.le_of_ble_eq_true rfl) dX10_findOf_45 ⟨Nat.zero_le _, Nat.zero_le _⟩) ?_
        intro r21 H locs hw hW
        refine lv_aload_n hx hb dX10_findOf_48 rfl (lv_at hl 0 rfl) ?_
        refine g_getr hx hb hts hown hK hW 17 rfl (q := 21) rfl uw_X10 5 (by decide) rfl al_768 (fun _ h9 => h9) dX10_findOf_49 ?_
        refine lv_iload_n hx hb dX10_findOf_52 rfl (lv_at hl 1 rfl) ?_
        refine g_ald hx hb hK hW 21 rfl hw.1 dX10_findOf_53 ?_
        replace hw := hw.2
        refine n_icmp_ne hx hb hw.1 hw.2.1 hw.2.2.1 hw.2.2.2 (tgt := 63) dX10_findOf_54 (by decide) (fun hw => ?_) (fun hw => ?_)
        · exact hB63 σ_38 v2_38 H locs ls hw hW (lv_sub hl [0, 1, 2] rfl)
        · refine lv_aload_n hx hb dX10_findOf_57 rfl (lv_at hl 0 rfl) ?_
          refine lv_iload_n hx hb dX10_findOf_58 rfl (lv_at hl 1 rfl) ?_
          refine lv_iload_n hx hb dX10_findOf_59 rfl (lv_at hl 2 rfl) ?_
          refine fin_CV hW (run_V (k := 17) (As := [.int (iN v1_38), .int (iN v2_38)]) (rest := []) S hK hE hW (c_X10_fingers l G κ tl ad σ_38 v1_38 v2_38 _ hw H.size) rfl rfl al_868 al_870 sl_X10_fingers al_11 al_871 hd_X10_fingers rfl rfl ⟨Nat.le_of_ble_eq_true rfl, Nat.le_of_ble_eq_true rfl⟩ rfl hl.1 rfl (Nat.le_of_ble_eq_true rfl) dX10_findOf_60 ⟨Nat.zero_le _, Nat.zero_le _⟩) ?_
          intro σ24 H locs hw hW
          exact hB63 σ24 v2_38 H locs ls hw hW (lv_sub hl [0, 1, 2] rfl)
  unfold w_X10_findOf at hw
  refine lv_aload_n hx hb dX10_findOf_0 rfl (lv_at hl 0 rfl) ?_
  refine g_get hx hb hts hown hK hW 17 rfl rfl uw_X10 0 (by decide) rfl al_763 (fun _ h9 => h9) dX10_findOf_1 ?_
  rcases (show ((σ 17 0) < 0 ∨ 3 < (σ 17 0)) ∨ (σ 17 0) = 0 ∨ (σ 17 0) = 1 ∨ (σ 17 0) = 2 ∨ (σ 17 0) = 3 by omega) with hc | hc | hc | hc | hc
  · refine n_tableOut (tgt := 183) hx hb hw.1 hc dX10_findOf_4 (by decide) ?_
    replace hw := hw.2.1 hc
    refine lv_aload_n hx hb dX10_findOf_183 rfl (lv_at hl 0 rfl) ?_
    refine lv_iload_n hx hb dX10_findOf_184 rfl (lv_at hl 1 rfl) ?_
    refine fin_CV hW (run_V (k := 17) (As := [.int (iN v1)]) (rest := []) S hK hE hW (c_X10_sticks l G κ tl ad σ v1 _ hw s.heap.size) rfl rfl al_894 al_896 sl_X10_sticks al_11 al_897 hd_X10_sticks rfl rfl ⟨Nat.le_of_ble_eq_true rfl, Nat.le_of_ble_eq_true rfl⟩ rfl hl.1 rfl (Nat.le_of_ble_eq_true rfl) dX10_findOf_185 ⟨Nat.zero_le _, Nat.zero_le _⟩) ?_
    intro σ2 H locs hw hW
    exact hB188 σ2 H locs ls hw hW (lv_sub hl [] rfl)
  · refine n_tableIn (v := 0) (tgt := 36) hx hb hw.1 hc dX10_findOf_4 (by decide) (by decide) rfl (by decide) ?_
    replace hw := hw.2.2.1 hc
    refine n_iconst hx hb dX10_findOf_36 ?_
    refine lv_istore_n (lv' := [(2, .int (iN 1)), (0, .ref (ad 17)), (1, .int (iN v1))]) hx hb dX10_findOf_37 rfl hl (by decide) rfl (fun ls hl => ?_)
    obtain ⟨n, hw⟩ := hw
    exact hL38 v1 n 1 σ s.heap [] ls hw hW (lv_sub hl [1, 2, 0] rfl)
  · refine n_tableIn (v := 1) (tgt := 72) hx hb hw.1 hc dX10_findOf_4 (by decide) (by decide) rfl (by decide) ?_
    replace hw := hw.2.2.2.1 hc
    refine n_iconst hx hb dX10_findOf_72 ?_
    refine lv_istore_n (lv' := [(2, .int (iN 0)), (0, .ref (ad 17)), (1, .int (iN v1))]) hx hb dX10_findOf_73 rfl hl (by decide) rfl (fun ls hl => ?_)
    obtain ⟨n, hw⟩ := hw
    exact hL74 v1 n 0 σ s.heap [] ls hw hW (lv_sub hl [1, 2, 0] rfl)
  · refine n_tableIn (v := 2) (tgt := 116) hx hb hw.1 hc dX10_findOf_4 (by decide) (by decide) rfl (by decide) ?_
    replace hw := hw.2.2.2.2.1 hc
    refine lv_aload_n hx hb dX10_findOf_116 rfl (lv_at hl 0 rfl) ?_
    refine lv_iload_n hx hb dX10_findOf_117 rfl (lv_at hl 1 rfl) ?_
    refine fin_CV hW (run_V (k := 17) (As := [.int (iN v1)]) (rest := []) S hK hE hW (c_X10_breaths l G κ tl ad σ v1 _ hw s.heap.size) rfl rfl al_887 al_889 sl_X10_breaths al_11 al_890 hd_X10_breaths rfl rfl ⟨Nat.le_of_ble_eq_true rfl, Nat.le_of_ble_eq_true rfl⟩ rfl hl.1 rfl (Nat.le_of_ble_eq_true rfl) dX10_findOf_118 ⟨Nat.zero_le _, Nat.zero_le _⟩) ?_
    intro σ10 H locs hw hW
    refine lv_goto (tgt := 188) hx hb dX10_findOf_121 (by decide) ?_
    exact hB188 σ10 H locs ls hw hW (lv_sub hl [] rfl)
  · refine n_tableIn (v := 3) (tgt := 124) hx hb hw.1 hc dX10_findOf_4 (by decide) (by decide) rfl (by decide) ?_
    replace hw := hw.2.2.2.2.2 hc
    refine n_iconst hx hb dX10_findOf_124 ?_
    refine lv_istore_n (lv' := [(2, .int (iN 0)), (0, .ref (ad 17)), (1, .int (iN v1))]) hx hb dX10_findOf_125 rfl hl (by decide) rfl (fun ls hl => ?_)
    obtain ⟨n, hw⟩ := hw
    exact hL126 v1 n 0 σ s.heap [] ls hw hW (lv_sub hl [1, 2, 0] rfl)
set_option maxHeartbeats 4000000 in
set_option maxRecDepth 100000 in
theorem c_X10_find (l : Launch) (G : Gt) (κ : Nat)  (tl : Bool) (ad : Nat → Nat)  (σ : Mem)  (post : Mem → Prop) (hw : w_X10_find  σ  post) : CV l yX10_find (Cond.code yX10_find cX10_find 4 none) ({ frames := 3, cells := 0, slots := 0, locals := 77 } : Room) G (shW κ tl) ad σ [.ref (ad 17)] post := by
  refine s_all (y := yX10_find) (code := cX10_find) (maxL := 4) (ret := none) (rm := ({ frames := 3, cells := 0, slots := 0, locals := 77 } : Room)) (av := [.ref (ad 17)]) (Qc := fun sz => QV G (shW κ tl) ad post (sz)) (by decide) (Nat.le_of_ble_eq_true rfl) ?_
  intro p e s m below meth c S hr hlk _ hK hE hW ls hl
  obtain ⟨hx, hb, hml, hown, hts⟩ := id S
  replace hl : lv_has ls 4 [(0, .ref (ad 17))] := hl
  have hL15 : ∀  (n : Nat) (v1_15 : Int) (σ_15 : Mem) (H : Heap) (locs : List Loc) (ls : Array Slot), w_X10_find_L15 post n v1_15 σ_15 → Wd G (shW κ tl) ad σ_15 (Aw ad (shW κ tl).length s.heap.size) s.heap H locs → lv_has ls 4 [(0, .ref (ad 17)), (1, .int (iN v1_15))] → W p l e ({ frames := 3, cells := 0, slots := 0, locals := 77 } : Room) s m ([.ref (ad 17)] : List Value).toArray below meth c H locs 0 0 (MQ below (QV G (shW κ tl) ad post (s.heap.size)) ([.ref (ad 17)] : List Value).toArray s 0 0 (Aw ad (shW κ tl).length s.heap.size)) (F0 m 15 ls []) := by
    intro  n
    induction n with
    | zero =>
      intro v1_15 σ_15 H locs ls hw
      exact hw.elim
    | succ n15 ih15 =>
      intro v1_15 σ_15 H locs ls hw hW hl
      replace hw : w_X10_find_L15_body post (w_X10_find_L15 post n15) v1_15 σ_15 := hw
      have hB97 : ∀ (σ_97 : Mem) (v1_97 : Int) (H : Heap) (locs : List Loc) (ls : Array Slot), w_X10_find_B97 σ_97 v1_97 post (w_X10_find_L15 post n15) → Wd G (shW κ tl) ad σ_97 (Aw ad (shW κ tl).length s.heap.size) s.heap H locs → lv_has ls 4 [(0, .ref (ad 17)), (1, .int (iN v1_97))] → W p l e ({ frames := 3, cells := 0, slots := 0, locals := 77 } : Room) s m ([.ref (ad 17)] : List Value).toArray below meth c H locs 0 0 (MQ below (QV G (shW κ tl) ad post (s.heap.size)) ([.ref (ad 17)] : List Value).toArray s 0 0 (Aw ad (shW κ tl).length s.heap.size)) (F0 m 97 ls []) := by
        intro σ_97 v1_97 H locs ls hw hW hl
        unfold w_X10_find_B97 at hw
        refine lv_iinc (v := iN (v1_97 + 1)) (lv' := [(1, .int (iN (v1_97 + 1))), (0, .ref (ad 17))]) hx hb dX10_find_97 hl (k := 1) rfl (iN_add _ _) (by decide) rfl (fun ls hl => ?_)
        refine lv_goto (tgt := 15) hx hb dX10_find_100 (by decide) ?_
        exact ih15 (v1_97 + 1) σ_97 H locs ls hw hW (lv_sub hl [1, 0] rfl)
      have hL34 : ∀ (σ_34 : Mem) (v1_34 : Int) (n : Nat) (v2_34 : Int) (v3_34 : Int) (H : Heap) (locs : List Loc) (ls : Array Slot), w_X10_find_L34 σ_34 v1_34 post (w_X10_find_L15 post n15) n v2_34 v3_34 → Wd G (shW κ tl) ad σ_34 (Aw ad (shW κ tl).length s.heap.size) s.heap H locs → lv_has ls 4 [(0, .ref (ad 17)), (1, .int (iN v1_34)), (2, .int (iN v2_34)), (3, .int (iN v3_34))] → W p l e ({ frames := 3, cells := 0, slots := 0, locals := 77 } : Room) s m ([.ref (ad 17)] : List Value).toArray below meth c H locs 0 0 (MQ below (QV G (shW κ tl) ad post (s.heap.size)) ([.ref (ad 17)] : List Value).toArray s 0 0 (Aw ad (shW κ tl).length s.heap.size)) (F0 m 34 ls []) := by
        intro σ_34 v1_34 n
        induction n with
        | zero =>
          intro v2_34 v3_34 H locs ls hw
          exact hw.elim
        | succ n34 ih34 =>
          intro v2_34 v3_34 H locs ls hw hW hl
          replace hw : w_X10_find_L34_body σ_34 v1_34 post (w_X10_find_L15 post n15) (w_X10_find_L34 σ_34 v1_34 post (w_X10_find_L15 post n15) n34) v2_34 v3_34 := hw
          have hB81 : ∀  (v3_81 : Int) (s0_81 : Int) (H : Heap) (locs : List Loc) (ls : Array Slot), w_X10_find_B81 σ_34 v1_34 v3_81 s0_81 post (w_X10_find_L15 post n15) (w_X10_find_L34 σ_34 v1_34 post (w_X10_find_L15 post n15) n34) → Wd G (shW κ tl) ad σ_34 (Aw ad (shW κ tl).length s.heap.size) s.heap H locs → lv_has ls 4 [(0, .ref (ad 17)), (1, .int (iN v1_34)), (3, .int (iN v3_81))] → W p l e ({ frames := 3, cells := 0, slots := 0, locals := 77 } : Room) s m ([.ref (ad 17)] : List Value).toArray below meth c H locs 0 0 (MQ below (QV G (shW κ tl) ad post (s.heap.size)) ([.ref (ad 17)] : List Value).toArray s 0 0 (Aw ad (shW κ tl).length s.heap.size)) (F0 m 81 ls [.int (iN s0_81)]) := by
            intro v3_81 s0_81 H locs ls hw hW hl
            unfold w_X10_find_B81 at hw
            refine lv_istore_n (lv' := [(2, .int (iN s0_81)), (0, .ref (ad 17)), (1, .int (iN v1_34)), (3, .int (iN v3_81))]) hx hb dX10_find_81 rfl hl (by decide) rfl (fun ls hl => ?_)
            refine lv_iinc (v := iN (v3_81 + 1)) (lv' := [(3, .int (iN (v3_81 + 1))), (2, .int (iN s0_81)), (0, .ref (ad 17)), (1, .int (iN v1_34))]) hx hb dX10_find_82 hl (k := 3) rfl (iN_add _ _) (by decide) rfl (fun ls hl => ?_)
            refine lv_goto (tgt := 34) hx hb dX10_find_85 (by decide) ?_
            exact ih34 s0_81 (v3_81 + 1) H locs ls hw hW (lv_sub hl [2, 3, 1, 0] rfl)
          have hB80 : ∀  (v3_80 : Int) (H : Heap) (locs : List Loc) (ls : Array Slot), w_X10_find_B80 σ_34 v1_34 v3_80 post (w_X10_find_L15 post n15) (w_X10_find_L34 σ_34 v1_34 post (w_X10_find_L15 post n15) n34) → Wd G (shW κ tl) ad σ_34 (Aw ad (shW κ tl).length s.heap.size) s.heap H locs → lv_has ls 4 [(0, .ref (ad 17)), (1, .int (iN v1_34)), (3, .int (iN v3_80))] → W p l e ({ frames := 3, cells := 0, slots := 0, locals := 77 } : Room) s m ([.ref (ad 17)] : List Value).toArray below meth c H locs 0 0 (MQ below (QV G (shW κ tl) ad post (s.heap.size)) ([.ref (ad 17)] : List Value).toArray s 0 0 (Aw ad (shW κ tl).length s.heap.size)) (F0 m 80 ls []) := by
            intro v3_80 H locs ls hw hW hl
            unfold w_X10_find_B80 at hw
            refine n_iconst hx hb dX10_find_80 ?_
            exact hB81 v3_80 0 H locs ls hw hW (lv_sub hl [0, 1, 2] rfl)
          unfold w_X10_find_L34_body at hw
          refine lv_iload_n hx hb dX10_find_34 rfl (lv_at hl 3 rfl) ?_
          refine lv_aload_n hx hb dX10_find_35 rfl (lv_at hl 0 rfl) ?_
          refine g_getr hx hb hts hown hK hW 17 rfl (q := 21) rfl uw_X10 5 (by decide) rfl al_768 (fun _ h9 => h9) dX10_find_36 ?_
          refine lv_iload_n hx hb dX10_find_39 rfl (lv_at hl 1 rfl) ?_
          refine g_ald hx hb hK hW 21 rfl hw.1 dX10_find_40 ?_
          replace hw := hw.2
          refine n_icmp_ge hx hb hw.1 hw.2.1 hw.2.2.1 hw.2.2.2 (tgt := 88) dX10_find_41 (by decide) (fun hw => ?_) (fun hw => ?_)
          · refine lv_iload_n hx hb dX10_find_88 rfl (lv_at hl 2 rfl) ?_
            refine n_if_eq hx hb hw.1 hw.2.1 hw.2.2 (tgt := 97) dX10_find_89 (by decide) (fun hw => ?_) (fun hw => ?_)
            · exact hB97 σ_34 v1_34 H locs ls hw hW (lv_sub hl [0, 1] rfl)
            · refine lv_aload_n hx hb dX10_find_92 rfl (lv_at hl 0 rfl) ?_
              refine lv_iload_n hx hb dX10_find_93 rfl (lv_at hl 1 rfl) ?_
              refine fin_CV hW (run_V (k := 17) (As := [.int (iN v1_34)]) (rest := []) S hK hE hW (c_X10_findOf l G κ tl ad σ_34 v1_34 _ hw H.size) rfl rfl al_861 al_863 sl_X10_findOf al_11 al_864 hd_X10_findOf rfl rfl ⟨Nat.le_of_ble_eq_true rfl, Nat.le_of_ble_eq_true rfl⟩ rfl hl.1 rfl (Nat.le_of_ble_eq_true rfl) dX10_find_94 ⟨Nat.zero_le _, Nat.zero_le _⟩) ?_
              intro σ8 H locs hw hW
              exact hB97 σ8 v1_34 H locs ls hw hW (lv_sub hl [0, 1] rfl)
          · refine lv_iload_n hx hb dX10_find_44 rfl (lv_at hl 2 rfl) ?_
            refine n_if_eq hx hb hw.1 hw.2.1 hw.2.2 (tgt := 80) dX10_find_45 (by decide) (fun hw => ?_) (fun hw => ?_)
            · exact hB80 v3_34 H locs ls hw hW (lv_sub hl [0, 1, 3] rfl)
            · refine lv_aload_n hx hb dX10_find_48 rfl (lv_at hl 0 rfl) ?_
              refine g_getr hx hb hts hown hK hW 17 rfl (q := 22) rfl uw_X10 6 (by decide) rfl al_769 (fun _ h9 => h9) dX10_find_49 ?_
              refine n_iconst hx hb dX10_find_52 ?_
              refine lv_iload_n hx hb dX10_find_53 rfl (lv_at hl 1 rfl) ?_
              refine n_imul hx hb dX10_find_54 ?_
              refine lv_iload_n hx hb dX10_find_55 rfl (lv_at hl 3 rfl) ?_
              refine n_iadd hx hb dX10_find_56 ?_
              refine g_ald hx hb hK hW 22 rfl hw.1 dX10_find_57 ?_
              replace hw := hw.2
              refine lv_aload_n hx hb dX10_find_58 rfl (lv_at hl 0 rfl) ?_
              refine g_getr hx hb hts hown hK hW 17 rfl (q := 24) rfl uw_X10 8 (by decide) rfl al_771 (fun _ h9 => h9) dX10_find_59 ?_
              refine n_iconst hx hb dX10_find_62 ?_
              refine g_ald hx hb hK hW 24 rfl (inb_c _ _ rfl) dX10_find_63 ?_
              refine lv_aload_n hx hb dX10_find_64 rfl (lv_at hl 0 rfl) ?_
              refine g_getr hx hb hts hown hK hW 17 rfl (q := 24) rfl uw_X10 8 (by decide) rfl al_771 (fun _ h9 => h9) dX10_find_65 ?_
              refine n_iconst hx hb dX10_find_68 ?_
              refine g_ald hx hb hK hW 24 rfl (inb_c _ _ rfl) dX10_find_69 ?_
              refine fin_CI hW (run_S (As := [.int (iN (σ_34 22 (((3 * v1_34) + v3_34)).toNat)), .int (iN (σ_34 24 (3 : Int).toNat)), .int (iN (σ_34 24 (4 : Int).toNat))]) (rest := []) S hK hE hW (c_X10_in l G κ tl ad σ_34 (σ_34 22 (((3 * v1_34) + v3_34)).toNat) (σ_34 24 (3 : Int).toNat) (σ_34 24 (4 : Int).toNat) _ hw H.size) al_833 al_834 al_11 al_835 hd_X10_in.2 rfl rfl ⟨Nat.le_of_ble_eq_true rfl, Nat.le_of_ble_eq_true rfl⟩ rfl hl.1 rfl (Nat.le_of_ble_eq_true rfl) dX10_find_70 ⟨Nat.zero_le _, Nat.zero_le _⟩) ?_
              intro r9 H locs hw hW
              refine n_if_eq hx hb hw.1 hw.2.1 hw.2.2 (tgt := 80) dX10_find_73 (by decide) (fun hw => ?_) (fun hw => ?_)
              · exact hB80 v3_34 H locs ls hw hW (lv_sub hl [0, 1, 3] rfl)
              · refine n_iconst hx hb dX10_find_76 ?_
                refine lv_goto (tgt := 81) hx hb dX10_find_77 (by decide) ?_
                exact hB81 v3_34 1 H locs ls hw hW (lv_sub hl [0, 1, 3] rfl)
      unfold w_X10_find_L15_body at hw
      refine lv_iload_n hx hb dX10_find_15 rfl (lv_at hl 1 rfl) ?_
      refine lv_aload_n hx hb dX10_find_16 rfl (lv_at hl 0 rfl) ?_
      refine g_get hx hb hts hown hK hW 17 rfl rfl uw_X10 1 (by decide) rfl al_764 (fun _ h9 => h9) dX10_find_17 ?_
      refine n_icmp_ge hx hb hw.1 hw.2.1 hw.2.2.1 hw.2.2.2 (tgt := 103) dX10_find_20 (by decide) (fun hw => ?_) (fun hw => ?_)
      · exact r_CV hx hb hr hlk hK hW hw dX10_find_103
      · refine lv_aload_n hx hb dX10_find_23 rfl (lv_at hl 0 rfl) ?_
        refine g_getr hx hb hts hown hK hW 17 rfl (q := 25) rfl uw_X10 10 (by decide) rfl al_773 (fun _ h9 => h9) dX10_find_24 ?_
        refine lv_iload_n hx hb dX10_find_27 rfl (lv_at hl 1 rfl) ?_
        refine n_iconst hx hb dX10_find_28 ?_
        refine g_ast hx hb hK hW 25 rfl hw.1 dX10_find_29 (fun σ11 H locs hτ hW => ?_)
        replace hw := hw.2 σ11 hτ
        refine n_iconst hx hb dX10_find_30 ?_
        refine lv_istore_n (lv' := [(2, .int (iN 1)), (0, .ref (ad 17)), (1, .int (iN v1_15))]) hx hb dX10_find_31 rfl hl (by decide) rfl (fun ls hl => ?_)
        refine n_iconst hx hb dX10_find_32 ?_
        refine lv_istore_n (lv' := [(3, .int (iN 0)), (2, .int (iN 1)), (0, .ref (ad 17)), (1, .int (iN v1_15))]) hx hb dX10_find_33 rfl hl (by decide) rfl (fun ls hl => ?_)
        obtain ⟨n, hw⟩ := hw
        exact hL34 σ11 v1_15 n 1 0 H locs ls hw hW (lv_sub hl [2, 3, 1, 0] rfl)
  unfold w_X10_find at hw
  refine lv_aload_n hx hb dX10_find_0 rfl (lv_at hl 0 rfl) ?_
  refine g_get hx hb hts hown hK hW 17 rfl rfl uw_X10 9 (by decide) rfl al_772 (fun _ h9 => h9) dX10_find_1 ?_
  refine n_if_eq hx hb hw.1 hw.2.1 hw.2.2 (tgt := 8) dX10_find_4 (by decide) (fun hw => ?_) (fun hw => ?_)
  · refine lv_aload_n hx hb dX10_find_8 rfl (lv_at hl 0 rfl) ?_
    refine n_iconst hx hb dX10_find_9 ?_
    refine g_put hx hb hts hown hK hW 17 rfl rfl uw_X10 tyX10 tyX10_ok nmX10 9 (by decide) rfl al_772 (fun _ h9 => h9) rfl (nar_z (Or.inr rfl)) rfl dX10_find_10 (fun σ1 H locs hτ hW => ?_)
    replace hw := hw σ1 hτ
    refine n_iconst hx hb dX10_find_13 ?_
    refine lv_istore_n (lv' := [(1, .int (iN 0)), (0, .ref (ad 17))]) hx hb dX10_find_14 rfl hl (by decide) rfl (fun ls hl => ?_)
    obtain ⟨n, hw⟩ := hw
    exact hL15 n 0 σ1 H locs ls hw hW (lv_sub hl [1, 0] rfl)
  · exact r_CV hx hb hr hlk hK hW hw dX10_find_7
set_option maxHeartbeats 4000000 in
set_option maxRecDepth 100000 in
theorem c_X10_noState (l : Launch) (G : Gt) (κ : Nat)  (tl : Bool) (ad : Nat → Nat)  (σ : Mem) (v1 : Int) (v2 : Int) (post : Int → Prop) (hw : w_X10_noState  σ v1 v2 post) : CI l yX10_noState (Cond.code yX10_noState cX10_noState 3 (some .boolean)) ({ frames := 1, cells := 0, slots := 0, locals := 22 } : Room) G (shW κ tl) ad σ [.ref (ad 17), .int (iN v1), .int (iN v2)] post := by
  refine s_all (y := yX10_noState) (code := cX10_noState) (maxL := 3) (ret := (some .boolean)) (rm := ({ frames := 1, cells := 0, slots := 0, locals := 22 } : Room)) (av := [.ref (ad 17), .int (iN v1), .int (iN v2)]) (Qc := fun sz => QI G (shW κ tl) ad σ post (sz)) (by decide) (Nat.le_of_ble_eq_true rfl) ?_
  intro p e s m below meth c S hr hlk _ hK hE hW ls hl
  obtain ⟨hx, hb, hml, hown, hts⟩ := id S
  replace hl : lv_has ls 3 [(0, .ref (ad 17)), (1, .int (iN v1)), (2, .int (iN v2))] := hl
  have hB33 : ∀  (s0_33 : Int) (H : Heap) (locs : List Loc) (ls : Array Slot), w_X10_noState_B33 σ s0_33 post → Wd G (shW κ tl) ad σ (Aw ad (shW κ tl).length s.heap.size) s.heap H locs → lv_has ls 3 [] → W p l e ({ frames := 1, cells := 0, slots := 0, locals := 22 } : Room) s m ([.ref (ad 17), .int (iN v1), .int (iN v2)] : List Value).toArray below meth c H locs 0 0 (MQ below (QI G (shW κ tl) ad σ post (s.heap.size)) ([.ref (ad 17), .int (iN v1), .int (iN v2)] : List Value).toArray s 0 0 (Aw ad (shW κ tl).length s.heap.size)) (F0 m 33 ls [.int (iN s0_33)]) := by
    intro s0_33 H locs ls hw hW hl
    unfold w_X10_noState_B33 at hw
    exact rz_CI hx hb hr hlk hK hW hw.1 hw.2 dX10_noState_33
  have hB28 : ∀   (H : Heap) (locs : List Loc) (ls : Array Slot), w_X10_noState_B28 σ post → Wd G (shW κ tl) ad σ (Aw ad (shW κ tl).length s.heap.size) s.heap H locs → lv_has ls 3 [] → W p l e ({ frames := 1, cells := 0, slots := 0, locals := 22 } : Room) s m ([.ref (ad 17), .int (iN v1), .int (iN v2)] : List Value).toArray below meth c H locs 0 0 (MQ below (QI G (shW κ tl) ad σ post (s.heap.size)) ([.ref (ad 17), .int (iN v1), .int (iN v2)] : List Value).toArray s 0 0 (Aw ad (shW κ tl).length s.heap.size)) (F0 m 28 ls []) := by
    intro  H locs ls hw hW hl
    unfold w_X10_noState_B28 at hw
    refine n_iconst hx hb dX10_noState_28 ?_
    refine lv_goto (tgt := 33) hx hb dX10_noState_29 (by decide) ?_
    exact hB33 1 H locs ls hw hW (lv_sub hl [] rfl)
  unfold w_X10_noState at hw
  refine lv_iload_n hx hb dX10_noState_0 rfl (lv_at hl 1 rfl) ?_
  refine n_iconst hx hb dX10_noState_1 ?_
  refine lv_aload_n hx hb dX10_noState_2 rfl (lv_at hl 0 rfl) ?_
  refine g_get hx hb hts hown hK hW 17 rfl rfl uw_X10 1 (by decide) rfl al_764 (fun _ h9 => h9) dX10_noState_3 ?_
  refine n_iconst hx hb dX10_noState_6 ?_
  refine n_isub hx hb dX10_noState_7 ?_
  refine fin_CI hW (run_S (As := [.int (iN v1), .int (iN 0), .int (iN ((σ 17 1) - 1))]) (rest := []) S hK hE hW (c_X10_in l G κ tl ad σ v1 0 ((σ 17 1) - 1) _ hw s.heap.size) al_833 al_834 al_11 al_835 hd_X10_in.2 rfl rfl ⟨Nat.le_of_ble_eq_true rfl, Nat.le_of_ble_eq_true rfl⟩ rfl hl.1 rfl (Nat.le_of_ble_eq_true rfl) dX10_noState_8 ⟨Nat.zero_le _, Nat.zero_le _⟩) ?_
  intro r1 H locs hw hW
  refine n_if_eq hx hb hw.1 hw.2.1 hw.2.2 (tgt := 28) dX10_noState_11 (by decide) (fun hw => ?_) (fun hw => ?_)
  · exact hB28  H locs ls hw hW (lv_sub hl [] rfl)
  · refine lv_iload_n hx hb dX10_noState_14 rfl (lv_at hl 2 rfl) ?_
    refine n_if_lt hx hb hw.1 hw.2.1 hw.2.2 (tgt := 28) dX10_noState_15 (by decide) (fun hw => ?_) (fun hw => ?_)
    · exact hB28  H locs ls hw hW (lv_sub hl [] rfl)
    · refine lv_iload_n hx hb dX10_noState_18 rfl (lv_at hl 2 rfl) ?_
      refine lv_aload_n hx hb dX10_noState_19 rfl (lv_at hl 0 rfl) ?_
      refine g_getr hx hb hts hown hK hW 17 rfl (q := 25) rfl uw_X10 10 (by decide) rfl al_773 (fun _ h9 => h9) dX10_noState_20 ?_
      refine lv_iload_n hx hb dX10_noState_23 rfl (lv_at hl 1 rfl) ?_
      refine g_ald hx hb hK hW 25 rfl hw.1 dX10_noState_24 ?_
      replace hw := hw.2
      refine n_icmp_lt hx hb hw.1 hw.2.1 hw.2.2.1 hw.2.2.2 (tgt := 32) dX10_noState_25 (by decide) (fun hw => ?_) (fun hw => ?_)
      · refine n_iconst hx hb dX10_noState_32 ?_
        exact hB33 0 H locs ls hw hW (lv_sub hl [] rfl)
      · exact hB28  H locs ls hw hW (lv_sub hl [] rfl)
