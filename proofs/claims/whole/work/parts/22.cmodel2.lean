set_option maxHeartbeats 4000000 in
set_option maxRecDepth 100000 in
theorem c_X10_states (l : Launch) (G : Gt) (κ : Nat)  (tl : Bool) (ad : Nat → Nat)  (σ : Mem) (v1 : Int) (post : Int → Mem → Prop) (hw : w_X10_states  σ v1 post) : CM l yX10_states (Cond.code yX10_states cX10_states 2 (some .int)) ({ frames := 4, cells := 0, slots := 0, locals := 100 } : Room) G (shW κ tl) ad σ [.ref (ad 17), .int (iN v1)] post := by
  refine s_all (y := yX10_states) (code := cX10_states) (maxL := 2) (ret := (some .int)) (rm := ({ frames := 4, cells := 0, slots := 0, locals := 100 } : Room)) (av := [.ref (ad 17), .int (iN v1)]) (Qc := fun sz => QM G (shW κ tl) ad post (sz)) (by decide) (Nat.le_of_ble_eq_true rfl) ?_
  intro p e s m below meth c S hr hlk _ hK hE hW ls hl
  obtain ⟨hx, hb, hml, hown, hts⟩ := id S
  replace hl : lv_has ls 2 [(0, .ref (ad 17)), (1, .int (iN v1))] := hl
  have hB28 : ∀ (σ_28 : Mem) (s0_28 : Int) (H : Heap) (locs : List Loc) (ls : Array Slot), w_X10_states_B28 σ_28 s0_28 post → Wd G (shW κ tl) ad σ_28 (Aw ad (shW κ tl).length s.heap.size) s.heap H locs → lv_has ls 2 [] → W p l e ({ frames := 4, cells := 0, slots := 0, locals := 100 } : Room) s m ([.ref (ad 17), .int (iN v1)] : List Value).toArray below meth c H locs 0 0 (MQ below (QM G (shW κ tl) ad post (s.heap.size)) ([.ref (ad 17), .int (iN v1)] : List Value).toArray s 0 0 (Aw ad (shW κ tl).length s.heap.size)) (F0 m 28 ls [.int (iN s0_28)]) := by
    intro σ_28 s0_28 H locs ls hw hW hl
    unfold w_X10_states_B28 at hw
    exact r_CM hx hb hr hlk hK hW hw dX10_states_28
  unfold w_X10_states at hw
  refine lv_aload_n hx hb dX10_states_0 rfl (lv_at hl 0 rfl) ?_
  refine fin_CV hW (run_V (k := 17) (As := []) (rest := []) S hK hE hW (c_X10_find l G κ tl ad σ _ hw s.heap.size) rfl rfl al_857 al_859 sl_X10_find al_11 al_860 hd_X10_find rfl rfl ⟨Nat.le_of_ble_eq_true rfl, Nat.le_of_ble_eq_true rfl⟩ rfl hl.1 rfl (Nat.le_of_ble_eq_true rfl) dX10_states_1 ⟨Nat.zero_le _, Nat.zero_le _⟩) ?_
  intro σ2 H locs hw hW
  refine lv_iload_n hx hb dX10_states_4 rfl (lv_at hl 1 rfl) ?_
  refine n_iconst hx hb dX10_states_5 ?_
  refine lv_aload_n hx hb dX10_states_6 rfl (lv_at hl 0 rfl) ?_
  refine g_get hx hb hts hown hK hW 17 rfl rfl uw_X10 1 (by decide) rfl al_764 (fun _ h9 => h9) dX10_states_7 ?_
  refine n_iconst hx hb dX10_states_10 ?_
  refine n_isub hx hb dX10_states_11 ?_
  refine fin_CI hW (run_S (As := [.int (iN v1), .int (iN 0), .int (iN ((σ2 17 1) - 1))]) (rest := []) S hK hE hW (c_X10_in l G κ tl ad σ2 v1 0 ((σ2 17 1) - 1) _ hw H.size) al_833 al_834 al_11 al_835 hd_X10_in.2 rfl rfl ⟨Nat.le_of_ble_eq_true rfl, Nat.le_of_ble_eq_true rfl⟩ rfl hl.1 rfl (Nat.le_of_ble_eq_true rfl) dX10_states_12 ⟨Nat.zero_le _, Nat.zero_le _⟩) ?_
  intro r3 H locs hw hW
  refine n_if_eq hx hb hw.1 hw.2.1 hw.2.2 (tgt := 27) dX10_states_15 (by decide) (fun hw => ?_) (fun hw => ?_)
  · refine n_iconst hx hb dX10_states_27 ?_
    exact hB28 σ2 (-1) H locs ls hw hW (lv_sub hl [] rfl)
  · refine lv_aload_n hx hb dX10_states_18 rfl (lv_at hl 0 rfl) ?_
    refine g_getr hx hb hts hown hK hW 17 rfl (q := 25) rfl uw_X10 10 (by decide) rfl al_773 (fun _ h9 => h9) dX10_states_19 ?_
    refine lv_iload_n hx hb dX10_states_22 rfl (lv_at hl 1 rfl) ?_
    refine g_ald hx hb hK hW 25 rfl hw.1 dX10_states_23 ?_
    replace hw := hw.2
    refine lv_goto (tgt := 28) hx hb dX10_states_24 (by decide) ?_
    exact hB28 σ2 (σ2 25 (v1).toNat) H locs ls hw hW (lv_sub hl [] rfl)
set_option maxHeartbeats 4000000 in
set_option maxRecDepth 100000 in
theorem c_X10_state (l : Launch) (G : Gt) (κ : Nat)  (tl : Bool) (ad : Nat → Nat)  (σ : Mem) (v1 : Int) (v2 : Int) (v3 : Int) (post : Int → Mem → Prop) (hw : w_X10_state  σ v1 v2 v3 post) : CM l yX10_state (Cond.code yX10_state cX10_state 5 (some .int)) ({ frames := 4, cells := 0, slots := 0, locals := 100 } : Room) G (shW κ tl) ad σ [.ref (ad 17), .int (iN v1), .int (iN v2), .int (iN v3)] post := by
  refine s_all (y := yX10_state) (code := cX10_state) (maxL := 5) (ret := (some .int)) (rm := ({ frames := 4, cells := 0, slots := 0, locals := 100 } : Room)) (av := [.ref (ad 17), .int (iN v1), .int (iN v2), .int (iN v3)]) (Qc := fun sz => QM G (shW κ tl) ad post (sz)) (by decide) (Nat.le_of_ble_eq_true rfl) ?_
  intro p e s m below meth c S hr hlk _ hK hE hW ls hl
  obtain ⟨hx, hb, hml, hown, hts⟩ := id S
  replace hl : lv_has ls 5 [(0, .ref (ad 17)), (1, .int (iN v1)), (2, .int (iN v2)), (3, .int (iN v3))] := hl
  have hB68 : ∀ (σ_68 : Mem) (s0_68 : Int) (H : Heap) (locs : List Loc) (ls : Array Slot), w_X10_state_B68 σ_68 s0_68 post → Wd G (shW κ tl) ad σ_68 (Aw ad (shW κ tl).length s.heap.size) s.heap H locs → lv_has ls 5 [] → W p l e ({ frames := 4, cells := 0, slots := 0, locals := 100 } : Room) s m ([.ref (ad 17), .int (iN v1), .int (iN v2), .int (iN v3)] : List Value).toArray below meth c H locs 0 0 (MQ below (QM G (shW κ tl) ad post (s.heap.size)) ([.ref (ad 17), .int (iN v1), .int (iN v2), .int (iN v3)] : List Value).toArray s 0 0 (Aw ad (shW κ tl).length s.heap.size)) (F0 m 68 ls [.int (iN s0_68)]) := by
    intro σ_68 s0_68 H locs ls hw hW hl
    unfold w_X10_state_B68 at hw
    exact r_CM hx hb hr hlk hK hW hw dX10_state_68
  have hB22 : ∀ (σ_22 : Mem)  (H : Heap) (locs : List Loc) (ls : Array Slot), w_X10_state_B22 σ_22 post → Wd G (shW κ tl) ad σ_22 (Aw ad (shW κ tl).length s.heap.size) s.heap H locs → lv_has ls 5 [] → W p l e ({ frames := 4, cells := 0, slots := 0, locals := 100 } : Room) s m ([.ref (ad 17), .int (iN v1), .int (iN v2), .int (iN v3)] : List Value).toArray below meth c H locs 0 0 (MQ below (QM G (shW κ tl) ad post (s.heap.size)) ([.ref (ad 17), .int (iN v1), .int (iN v2), .int (iN v3)] : List Value).toArray s 0 0 (Aw ad (shW κ tl).length s.heap.size)) (F0 m 22 ls []) := by
    intro σ_22 H locs ls hw hW hl
    unfold w_X10_state_B22 at hw
    refine n_iconst hx hb dX10_state_22 ?_
    exact r_CM hx hb hr hlk hK hW hw dX10_state_23
  unfold w_X10_state at hw
  refine lv_aload_n hx hb dX10_state_0 rfl (lv_at hl 0 rfl) ?_
  refine fin_CV hW (run_V (k := 17) (As := []) (rest := []) S hK hE hW (c_X10_find l G κ tl ad σ _ hw s.heap.size) rfl rfl al_857 al_859 sl_X10_find al_11 al_860 hd_X10_find rfl rfl ⟨Nat.le_of_ble_eq_true rfl, Nat.le_of_ble_eq_true rfl⟩ rfl hl.1 rfl (Nat.le_of_ble_eq_true rfl) dX10_state_1 ⟨Nat.zero_le _, Nat.zero_le _⟩) ?_
  intro σ2 H locs hw hW
  refine lv_aload_n hx hb dX10_state_4 rfl (lv_at hl 0 rfl) ?_
  refine lv_iload_n hx hb dX10_state_5 rfl (lv_at hl 1 rfl) ?_
  refine lv_iload_n hx hb dX10_state_6 rfl (lv_at hl 2 rfl) ?_
  refine fin_CI hW (run_V (k := 17) (As := [.int (iN v1), .int (iN v2)]) (rest := []) S hK hE hW (c_X10_noState l G κ tl ad σ2 v1 v2 _ hw H.size) rfl rfl al_910 al_912 sl_X10_noState al_11 al_913 hd_X10_noState rfl rfl ⟨Nat.le_of_ble_eq_true rfl, Nat.le_of_ble_eq_true rfl⟩ rfl hl.1 rfl (Nat.le_of_ble_eq_true rfl) dX10_state_7 ⟨Nat.zero_le _, Nat.zero_le _⟩) ?_
  intro r3 H locs hw hW
  refine n_if_ne hx hb hw.1 hw.2.1 hw.2.2 (tgt := 22) dX10_state_10 (by decide) (fun hw => ?_) (fun hw => ?_)
  · exact hB22 σ2 H locs ls hw hW (lv_sub hl [] rfl)
  · refine lv_iload_n hx hb dX10_state_13 rfl (lv_at hl 3 rfl) ?_
    refine n_iconst hx hb dX10_state_14 ?_
    refine n_iconst hx hb dX10_state_15 ?_
    refine fin_CI hW (run_S (As := [.int (iN v3), .int (iN 0), .int (iN 2)]) (rest := []) S hK hE hW (c_X10_in l G κ tl ad σ2 v3 0 2 _ hw H.size) al_833 al_834 al_11 al_835 hd_X10_in.2 rfl rfl ⟨Nat.le_of_ble_eq_true rfl, Nat.le_of_ble_eq_true rfl⟩ rfl hl.1 rfl (Nat.le_of_ble_eq_true rfl) dX10_state_16 ⟨Nat.zero_le _, Nat.zero_le _⟩) ?_
    intro r5 H locs hw hW
    refine n_if_ne hx hb hw.1 hw.2.1 hw.2.2 (tgt := 24) dX10_state_19 (by decide) (fun hw => ?_) (fun hw => ?_)
    · refine n_bipush hx hb dX10_state_24 (by decide) ?_
      refine lv_iload_n hx hb dX10_state_26 rfl (lv_at hl 1 rfl) ?_
      refine n_imul hx hb dX10_state_27 ?_
      refine lv_iload_n hx hb dX10_state_28 rfl (lv_at hl 2 rfl) ?_
      refine n_iadd hx hb dX10_state_29 ?_
      refine lv_istore (lv' := [(4, .int (iN ((80 * v1) + v2))), (0, .ref (ad 17)), (1, .int (iN v1)), (2, .int (iN v2)), (3, .int (iN v3))]) hx hb dX10_state_30 hl (by decide) rfl (fun ls hl => ?_)
      refine lv_iload_n hx hb dX10_state_32 rfl (lv_at hl 4 rfl) ?_
      refine n_if_ne hx hb hw.1 hw.2.1 hw.2.2 (tgt := 46) dX10_state_33 (by decide) (fun hw => ?_) (fun hw => ?_)
      · refine lv_iload_n hx hb dX10_state_46 rfl (lv_at hl 4 rfl) ?_
        refine n_iconst hx hb dX10_state_47 ?_
        refine n_icmp_ne hx hb hw.1 (rg_c _ rfl) hw.2.1 hw.2.2 (tgt := 61) dX10_state_48 (by decide) (fun hw => ?_) (fun hw => ?_)
        · refine lv_aload_n hx hb dX10_state_61 rfl (lv_at hl 1 rfl) ?_
          refine g_getr hx hb hts hown hK hW 17 rfl (q := 27) rfl uw_X10 12 (by decide) rfl al_775 (fun _ h9 => h9) dX10_state_62 ?_
          refine lv_iload hx hb dX10_state_65 (lv_at hl 0 rfl) ?_
          refine g_ald hx hb hK hW 27 rfl hw.1 dX10_state_67 ?_
          replace hw := hw.2
          exact hB68 σ2 (σ2 27 (((80 * v1) + v2)).toNat) H locs ls hw hW (lv_sub hl [] rfl)
        · refine lv_aload_n hx hb dX10_state_51 rfl (lv_at hl 1 rfl) ?_
          refine g_getr hx hb hts hown hK hW 17 rfl (q := 26) rfl uw_X10 11 (by decide) rfl al_774 (fun _ h9 => h9) dX10_state_52 ?_
          refine lv_iload hx hb dX10_state_55 (lv_at hl 0 rfl) ?_
          refine g_ald hx hb hK hW 26 rfl hw.1 dX10_state_57 ?_
          replace hw := hw.2
          refine lv_goto (tgt := 68) hx hb dX10_state_58 (by decide) ?_
          exact hB68 σ2 (σ2 26 (((80 * v1) + v2)).toNat) H locs ls hw hW (lv_sub hl [] rfl)
      · refine lv_aload_n hx hb dX10_state_36 rfl (lv_at hl 1 rfl) ?_
        refine g_getr hx hb hts hown hK hW 17 rfl (q := 28) rfl uw_X10 13 (by decide) rfl al_776 (fun _ h9 => h9) dX10_state_37 ?_
        refine lv_iload hx hb dX10_state_40 (lv_at hl 0 rfl) ?_
        refine g_ald hx hb hK hW 28 rfl hw.1 dX10_state_42 ?_
        replace hw := hw.2
        refine lv_goto (tgt := 68) hx hb dX10_state_43 (by decide) ?_
        exact hB68 σ2 (σ2 28 (((80 * v1) + v2)).toNat) H locs ls hw hW (lv_sub hl [] rfl)
    · exact hB22 σ2 H locs ls hw hW (lv_sub hl [] rfl)
set_option maxHeartbeats 4000000 in
set_option maxRecDepth 100000 in
theorem c_X10_moved (l : Launch) (G : Gt) (κ : Nat)  (tl : Bool) (ad : Nat → Nat)  (σ : Mem) (v1 : Int) (v2 : Int) (v3 : Int) (post : Int → Prop) (hw : w_X10_moved  σ v1 v2 v3 post) : CI l yX10_moved (Cond.code yX10_moved cX10_moved 4 (some .int)) ({ frames := 0, cells := 0, slots := 0, locals := 0 } : Room) G (shW κ tl) ad σ [.ref (ad 17), .int (iN v1), .int (iN v2), .int (iN v3)] post := by
  refine s_all (y := yX10_moved) (code := cX10_moved) (maxL := 4) (ret := (some .int)) (rm := ({ frames := 0, cells := 0, slots := 0, locals := 0 } : Room)) (av := [.ref (ad 17), .int (iN v1), .int (iN v2), .int (iN v3)]) (Qc := fun sz => QI G (shW κ tl) ad σ post (sz)) (by decide) (Nat.le_of_ble_eq_true rfl) ?_
  intro p e s m below meth c S hr hlk _ hK hE hW ls hl
  obtain ⟨hx, hb, hml, hown, hts⟩ := id S
  replace hl : lv_has ls 4 [(0, .ref (ad 17)), (1, .int (iN v1)), (2, .int (iN v2)), (3, .int (iN v3))] := hl
  have hB18 : ∀  (s0_18 : Int) (H : Heap) (locs : List Loc) (ls : Array Slot), w_X10_moved_B18 σ s0_18 post → Wd G (shW κ tl) ad σ (Aw ad (shW κ tl).length s.heap.size) s.heap H locs → lv_has ls 4 [] → W p l e ({ frames := 0, cells := 0, slots := 0, locals := 0 } : Room) s m ([.ref (ad 17), .int (iN v1), .int (iN v2), .int (iN v3)] : List Value).toArray below meth c H locs 0 0 (MQ below (QI G (shW κ tl) ad σ post (s.heap.size)) ([.ref (ad 17), .int (iN v1), .int (iN v2), .int (iN v3)] : List Value).toArray s 0 0 (Aw ad (shW κ tl).length s.heap.size)) (F0 m 18 ls [.int (iN s0_18)]) := by
    intro s0_18 H locs ls hw hW hl
    unfold w_X10_moved_B18 at hw
    exact r_CI hx hb hr hlk hK hW hw dX10_moved_18
  unfold w_X10_moved at hw
  refine lv_iload_n hx hb dX10_moved_0 rfl (lv_at hl 1 rfl) ?_
  refine lv_aload_n hx hb dX10_moved_1 rfl (lv_at hl 0 rfl) ?_
  refine g_getr hx hb hts hown hK hW 17 rfl (q := 24) rfl uw_X10 8 (by decide) rfl al_771 (fun _ h9 => h9) dX10_moved_2 ?_
  refine n_iconst hx hb dX10_moved_5 ?_
  refine g_ald hx hb hK hW 24 rfl (inb_c _ _ rfl) dX10_moved_6 ?_
  refine n_imul hx hb dX10_moved_7 ?_
  refine lv_iload_n hx hb dX10_moved_8 rfl (lv_at hl 2 rfl) ?_
  refine n_icmp_le hx hb hw.1 hw.2.1 hw.2.2.1 hw.2.2.2 (tgt := 17) dX10_moved_9 (by decide) (fun hw => ?_) (fun hw => ?_)
  · refine lv_iload_n hx hb dX10_moved_17 rfl (lv_at hl 3 rfl) ?_
    exact hB18 v3 s.heap [] ls hw hW (lv_sub hl [] rfl)
  · refine n_bipush hx hb dX10_moved_12 (by decide) ?_
    refine lv_goto (tgt := 18) hx hb dX10_moved_14 (by decide) ?_
    exact hB18 (-2) s.heap [] ls hw hW (lv_sub hl [] rfl)
set_option maxHeartbeats 4000000 in
set_option maxRecDepth 100000 in
theorem c_X10_breathed (l : Launch) (G : Gt) (κ : Nat)  (tl : Bool) (ad : Nat → Nat)  (σ : Mem) (v1 : Int) (v2 : Int) (v3 : Int) (v4 : Int) (post : Int → Prop) (hw : w_X10_breathed  σ v1 v2 v3 v4 post) : CI l yX10_breathed (Cond.code yX10_breathed cX10_breathed 6 (some .int)) ({ frames := 0, cells := 0, slots := 0, locals := 0 } : Room) G (shW κ tl) ad σ [.ref (ad 17), .int (iN v1), .int (iN v2), .int (iN v3), .int (iN v4)] post := by
  refine s_all (y := yX10_breathed) (code := cX10_breathed) (maxL := 6) (ret := (some .int)) (rm := ({ frames := 0, cells := 0, slots := 0, locals := 0 } : Room)) (av := [.ref (ad 17), .int (iN v1), .int (iN v2), .int (iN v3), .int (iN v4)]) (Qc := fun sz => QI G (shW κ tl) ad σ post (sz)) (by decide) (Nat.le_of_ble_eq_true rfl) ?_
  intro p e s m below meth c S hr hlk _ hK hE hW ls hl
  obtain ⟨hx, hb, hml, hown, hts⟩ := id S
  replace hl : lv_has ls 6 [(0, .ref (ad 17)), (1, .int (iN v1)), (2, .int (iN v2)), (3, .int (iN v3)), (4, .int (iN v4))] := hl
  have hB71 : ∀  (s0_71 : Int) (s1_71 : Int) (H : Heap) (locs : List Loc) (ls : Array Slot), w_X10_breathed_B71 σ s0_71 s1_71 post → Wd G (shW κ tl) ad σ (Aw ad (shW κ tl).length s.heap.size) s.heap H locs → lv_has ls 6 [] → W p l e ({ frames := 0, cells := 0, slots := 0, locals := 0 } : Room) s m ([.ref (ad 17), .int (iN v1), .int (iN v2), .int (iN v3), .int (iN v4)] : List Value).toArray below meth c H locs 0 0 (MQ below (QI G (shW κ tl) ad σ post (s.heap.size)) ([.ref (ad 17), .int (iN v1), .int (iN v2), .int (iN v3), .int (iN v4)] : List Value).toArray s 0 0 (Aw ad (shW κ tl).length s.heap.size)) (F0 m 71 ls [.int (iN s0_71), .int (iN s1_71)]) := by
    intro s0_71 s1_71 H locs ls hw hW hl
    unfold w_X10_breathed_B71 at hw
    refine n_iadd hx hb dX10_breathed_71 ?_
    exact r_CI hx hb hr hlk hK hW hw dX10_breathed_72
  have hB54 : ∀   (H : Heap) (locs : List Loc) (ls : Array Slot), w_X10_breathed_B54 σ post → Wd G (shW κ tl) ad σ (Aw ad (shW κ tl).length s.heap.size) s.heap H locs → lv_has ls 6 [] → W p l e ({ frames := 0, cells := 0, slots := 0, locals := 0 } : Room) s m ([.ref (ad 17), .int (iN v1), .int (iN v2), .int (iN v3), .int (iN v4)] : List Value).toArray below meth c H locs 0 0 (MQ below (QI G (shW κ tl) ad σ post (s.heap.size)) ([.ref (ad 17), .int (iN v1), .int (iN v2), .int (iN v3), .int (iN v4)] : List Value).toArray s 0 0 (Aw ad (shW κ tl).length s.heap.size)) (F0 m 54 ls []) := by
    intro  H locs ls hw hW hl
    unfold w_X10_breathed_B54 at hw
    refine n_bipush hx hb dX10_breathed_54 (by decide) ?_
    exact r_CI hx hb hr hlk hK hW hw dX10_breathed_56
  unfold w_X10_breathed at hw
  refine lv_iload_n hx hb dX10_breathed_0 rfl (lv_at hl 2 rfl) ?_
  refine lv_iload hx hb dX10_breathed_1 (lv_at hl 4 rfl) ?_
  refine n_icmp_ne hx hb hw.1 hw.2.1 hw.2.2.1 hw.2.2.2 (tgt := 8) dX10_breathed_3 (by decide) (fun hw => ?_) (fun hw => ?_)
  · refine lv_aload_n hx hb dX10_breathed_8 rfl (lv_at hl 0 rfl) ?_
    refine g_getr hx hb hts hown hK hW 17 rfl (q := 24) rfl uw_X10 8 (by decide) rfl al_771 (fun _ h9 => h9) dX10_breathed_9 ?_
    refine n_iconst hx hb dX10_breathed_12 ?_
    refine g_ald hx hb hK hW 24 rfl (inb_c _ _ rfl) dX10_breathed_13 ?_
    refine lv_aload_n hx hb dX10_breathed_14 rfl (lv_at hl 0 rfl) ?_
    refine g_getr hx hb hts hown hK hW 17 rfl (q := 19) rfl uw_X10 3 (by decide) rfl al_766 (fun _ h9 => h9) dX10_breathed_15 ?_
    refine lv_iload_n hx hb dX10_breathed_18 rfl (lv_at hl 3 rfl) ?_
    refine g_ald hx hb hK hW 19 rfl hw.1 dX10_breathed_19 ?_
    replace hw := hw.2
    refine lv_aload_n hx hb dX10_breathed_20 rfl (lv_at hl 0 rfl) ?_
    refine g_getr hx hb hts hown hK hW 17 rfl (q := 19) rfl uw_X10 3 (by decide) rfl al_766 (fun _ h9 => h9) dX10_breathed_21 ?_
    refine lv_iload_n hx hb dX10_breathed_24 rfl (lv_at hl 1 rfl) ?_
    refine g_ald hx hb hK hW 19 rfl hw.1 dX10_breathed_25 ?_
    replace hw := hw.2
    refine n_isub hx hb dX10_breathed_26 ?_
    refine lv_aload_n hx hb dX10_breathed_27 rfl (lv_at hl 0 rfl) ?_
    refine g_getr hx hb hts hown hK hW 17 rfl (q := 20) rfl uw_X10 4 (by decide) rfl al_767 (fun _ h9 => h9) dX10_breathed_28 ?_
    refine lv_iload_n hx hb dX10_breathed_31 rfl (lv_at hl 1 rfl) ?_
    refine g_ald hx hb hK hW 20 rfl hw.1 dX10_breathed_32 ?_
    replace hw := hw.2
    refine n_isub hx hb dX10_breathed_33 ?_
    refine n_isub hx hb dX10_breathed_34 ?_
    refine lv_istore (lv' := [(5, .int (iN ((σ 24 (2 : Int).toNat) - (((σ 19 (v3).toNat) - (σ 19 (v1).toNat)) - (σ 20 (v1).toNat))))), (0, .ref (ad 17)), (1, .int (iN v1)), (2, .int (iN v2)), (3, .int (iN v3)), (4, .int (iN v4))]) hx hb dX10_breathed_35 hl (by decide) rfl (fun ls hl => ?_)
    refine lv_iload hx hb dX10_breathed_37 (lv_at hl 5 rfl) ?_
    refine lv_iload_n hx hb dX10_breathed_39 rfl (lv_at hl 4 rfl) ?_
    refine n_icmp_ne hx hb hw.1 hw.2.1 hw.2.2.1 hw.2.2.2 (tgt := 54) dX10_breathed_40 (by decide) (fun hw => ?_) (fun hw => ?_)
    · exact hB54  s.heap [] ls hw hW (lv_sub hl [] rfl)
    · refine lv_iload hx hb dX10_breathed_43 (lv_at hl 0 rfl) ?_
      refine lv_aload_n hx hb dX10_breathed_45 rfl (lv_at hl 1 rfl) ?_
      refine g_getr hx hb hts hown hK hW 17 rfl (q := 20) rfl uw_X10 4 (by decide) rfl al_767 (fun _ h9 => h9) dX10_breathed_46 ?_
      refine lv_iload_n hx hb dX10_breathed_49 rfl (lv_at hl 2 rfl) ?_
      refine g_ald hx hb hK hW 20 rfl hw.1 dX10_breathed_50 ?_
      replace hw := hw.2
      refine n_icmp_lt hx hb hw.1 hw.2.1 hw.2.2.1 hw.2.2.2 (tgt := 57) dX10_breathed_51 (by decide) (fun hw => ?_) (fun hw => ?_)
      · refine n_iconst hx hb dX10_breathed_57 ?_
        refine lv_iload hx hb dX10_breathed_58 (lv_at hl 0 rfl) ?_
        refine n_if_le hx hb hw.1 hw.2.1 hw.2.2 (tgt := 70) dX10_breathed_60 (by decide) (fun hw => ?_) (fun hw => ?_)
        · refine n_iconst hx hb dX10_breathed_70 ?_
          exact hB71 0 1 s.heap [] ls hw hW (lv_sub hl [] rfl)
        · refine n_iconst hx hb dX10_breathed_63 ?_
          refine lv_iload hx hb dX10_breathed_64 (lv_at hl 0 rfl) ?_
          refine n_imul hx hb dX10_breathed_66 ?_
          refine lv_goto (tgt := 71) hx hb dX10_breathed_67 (by decide) ?_
          exact hB71 (2 * ((σ 24 (2 : Int).toNat) - (((σ 19 (v3).toNat) - (σ 19 (v1).toNat)) - (σ 20 (v1).toNat)))) 1 s.heap [] ls hw hW (lv_sub hl [] rfl)
      · exact hB54  s.heap [] ls hw hW (lv_sub hl [] rfl)
  · refine n_iconst hx hb dX10_breathed_6 ?_
    exact r_CI hx hb hr hlk hK hW hw dX10_breathed_7
set_option maxHeartbeats 4000000 in
set_option maxRecDepth 100000 in
theorem c_X10_latest (l : Launch) (G : Gt) (κ : Nat)  (tl : Bool) (ad : Nat → Nat)  (σ : Mem) (v1 : Int) (v2 : Int) (v3 : Int) (post : Int → Prop) (hw : w_X10_latest  σ v1 v2 v3 post) : CI l yX10_latest (Cond.code yX10_latest cX10_latest 4 (some .int)) ({ frames := 0, cells := 0, slots := 0, locals := 0 } : Room) G (shW κ tl) ad σ [.ref (ad 17), .int (iN v1), .int (iN v2), .int (iN v3)] post := by
  refine s_all (y := yX10_latest) (code := cX10_latest) (maxL := 4) (ret := (some .int)) (rm := ({ frames := 0, cells := 0, slots := 0, locals := 0 } : Room)) (av := [.ref (ad 17), .int (iN v1), .int (iN v2), .int (iN v3)]) (Qc := fun sz => QI G (shW κ tl) ad σ post (sz)) (by decide) (Nat.le_of_ble_eq_true rfl) ?_
  intro p e s m below meth c S hr hlk _ hK hE hW ls hl
  obtain ⟨hx, hb, hml, hown, hts⟩ := id S
  replace hl : lv_has ls 4 [(0, .ref (ad 17)), (1, .int (iN v1)), (2, .int (iN v2)), (3, .int (iN v3))] := hl
  have hB30 : ∀  (s0_30 : Int) (H : Heap) (locs : List Loc) (ls : Array Slot), w_X10_latest_B30 σ s0_30 post → Wd G (shW κ tl) ad σ (Aw ad (shW κ tl).length s.heap.size) s.heap H locs → lv_has ls 4 [] → W p l e ({ frames := 0, cells := 0, slots := 0, locals := 0 } : Room) s m ([.ref (ad 17), .int (iN v1), .int (iN v2), .int (iN v3)] : List Value).toArray below meth c H locs 0 0 (MQ below (QI G (shW κ tl) ad σ post (s.heap.size)) ([.ref (ad 17), .int (iN v1), .int (iN v2), .int (iN v3)] : List Value).toArray s 0 0 (Aw ad (shW κ tl).length s.heap.size)) (F0 m 30 ls [.int (iN s0_30)]) := by
    intro s0_30 H locs ls hw hW hl
    unfold w_X10_latest_B30 at hw
    exact r_CI hx hb hr hlk hK hW hw dX10_latest_30
  have hB20 : ∀  (v1_20 : Int) (H : Heap) (locs : List Loc) (ls : Array Slot), w_X10_latest_B20 σ v1_20 post → Wd G (shW κ tl) ad σ (Aw ad (shW κ tl).length s.heap.size) s.heap H locs → lv_has ls 4 [(1, .int (iN v1_20))] → W p l e ({ frames := 0, cells := 0, slots := 0, locals := 0 } : Room) s m ([.ref (ad 17), .int (iN v1), .int (iN v2), .int (iN v3)] : List Value).toArray below meth c H locs 0 0 (MQ below (QI G (shW κ tl) ad σ post (s.heap.size)) ([.ref (ad 17), .int (iN v1), .int (iN v2), .int (iN v3)] : List Value).toArray s 0 0 (Aw ad (shW κ tl).length s.heap.size)) (F0 m 20 ls []) := by
    intro v1_20 H locs ls hw hW hl
    unfold w_X10_latest_B20 at hw
    refine lv_iload_n hx hb dX10_latest_20 rfl (lv_at hl 0 rfl) ?_
    refine lv_goto (tgt := 30) hx hb dX10_latest_21 (by decide) ?_
    exact hB30 v1_20 H locs ls hw hW (lv_sub hl [] rfl)
  unfold w_X10_latest at hw
  refine lv_aload_n hx hb dX10_latest_0 rfl (lv_at hl 0 rfl) ?_
  refine g_getr hx hb hts hown hK hW 17 rfl (q := 26) rfl uw_X10 11 (by decide) rfl al_774 (fun _ h9 => h9) dX10_latest_1 ?_
  refine lv_iload_n hx hb dX10_latest_4 rfl (lv_at hl 2 rfl) ?_
  refine g_ald hx hb hK hW 26 rfl hw.1 dX10_latest_5 ?_
  replace hw := hw.2
  refine n_iconst hx hb dX10_latest_6 ?_
  refine n_icmp_eq hx hb hw.1 (rg_c _ rfl) hw.2.1 hw.2.2 (tgt := 20) dX10_latest_7 (by decide) (fun hw => ?_) (fun hw => ?_)
  · exact hB20 v1 s.heap [] ls hw hW (lv_sub hl [1] rfl)
  · refine lv_aload_n hx hb dX10_latest_10 rfl (lv_at hl 0 rfl) ?_
    refine g_getr hx hb hts hown hK hW 17 rfl (q := 26) rfl uw_X10 11 (by decide) rfl al_774 (fun _ h9 => h9) dX10_latest_11 ?_
    refine lv_iload_n hx hb dX10_latest_14 rfl (lv_at hl 2 rfl) ?_
    refine g_ald hx hb hK hW 26 rfl hw.1 dX10_latest_15 ?_
    replace hw := hw.2
    refine lv_iload_n hx hb dX10_latest_16 rfl (lv_at hl 3 rfl) ?_
    refine n_icmp_ne hx hb hw.1 hw.2.1 hw.2.2.1 hw.2.2.2 (tgt := 24) dX10_latest_17 (by decide) (fun hw => ?_) (fun hw => ?_)
    · refine lv_aload_n hx hb dX10_latest_24 rfl (lv_at hl 0 rfl) ?_
      refine g_getr hx hb hts hown hK hW 17 rfl (q := 27) rfl uw_X10 12 (by decide) rfl al_775 (fun _ h9 => h9) dX10_latest_25 ?_
      refine lv_iload_n hx hb dX10_latest_28 rfl (lv_at hl 2 rfl) ?_
      refine g_ald hx hb hK hW 27 rfl hw.1 dX10_latest_29 ?_
      replace hw := hw.2
      exact hB30 (σ 27 (v2).toNat) s.heap [] ls hw hW (lv_sub hl [] rfl)
    · exact hB20 v1 s.heap [] ls hw hW (lv_sub hl [1] rfl)
set_option maxHeartbeats 4000000 in
set_option maxRecDepth 100000 in
theorem c_X10_struck (l : Launch) (G : Gt) (κ : Nat)  (tl : Bool) (ad : Nat → Nat)  (σ : Mem) (v1 : Int) (v2 : Int) (v3 : Int) (v4 : Int) (post : Int → Prop) (hw : w_X10_struck  σ v1 v2 v3 v4 post) : CI l yX10_struck (Cond.code yX10_struck cX10_struck 9 (some .int)) ({ frames := 1, cells := 0, slots := 0, locals := 23 } : Room) G (shW κ tl) ad σ [.ref (ad 17), .int (iN v1), .int (iN v2), .int (iN v3), .int (iN v4)] post := by
  refine s_all (y := yX10_struck) (code := cX10_struck) (maxL := 9) (ret := (some .int)) (rm := ({ frames := 1, cells := 0, slots := 0, locals := 23 } : Room)) (av := [.ref (ad 17), .int (iN v1), .int (iN v2), .int (iN v3), .int (iN v4)]) (Qc := fun sz => QI G (shW κ tl) ad σ post (sz)) (by decide) (Nat.le_of_ble_eq_true rfl) ?_
  intro p e s m below meth c S hr hlk _ hK hE hW ls hl
  obtain ⟨hx, hb, hml, hown, hts⟩ := id S
  replace hl : lv_has ls 9 [(0, .ref (ad 17)), (1, .int (iN v1)), (2, .int (iN v2)), (3, .int (iN v3)), (4, .int (iN v4))] := hl
  have hL6 : ∀ (v1_6 : Int) (v2_6 : Int) (v3_6 : Int) (v4_6 : Int) (n : Nat) (v5_6 : Int) (v6_6 : Int) (H : Heap) (locs : List Loc) (ls : Array Slot), w_X10_struck_L6 σ v1_6 v2_6 v3_6 v4_6 post n v5_6 v6_6 → Wd G (shW κ tl) ad σ (Aw ad (shW κ tl).length s.heap.size) s.heap H locs → lv_has ls 9 [(0, .ref (ad 17)), (1, .int (iN v1_6)), (2, .int (iN v2_6)), (3, .int (iN v3_6)), (4, .int (iN v4_6)), (5, .int (iN v5_6)), (6, .int (iN v6_6))] → W p l e ({ frames := 1, cells := 0, slots := 0, locals := 23 } : Room) s m ([.ref (ad 17), .int (iN v1), .int (iN v2), .int (iN v3), .int (iN v4)] : List Value).toArray below meth c H locs 0 0 (MQ below (QI G (shW κ tl) ad σ post (s.heap.size)) ([.ref (ad 17), .int (iN v1), .int (iN v2), .int (iN v3), .int (iN v4)] : List Value).toArray s 0 0 (Aw ad (shW κ tl).length s.heap.size)) (F0 m 6 ls []) := by
    intro v1_6 v2_6 v3_6 v4_6 n
    induction n with
    | zero =>
      intro v5_6 v6_6 H locs ls hw
      exact hw.elim
    | succ n6 ih6 =>
      intro v5_6 v6_6 H locs ls hw hW hl
      replace hw : w_X10_struck_L6_body σ v1_6 v2_6 v3_6 v4_6 post (w_X10_struck_L6 σ v1_6 v2_6 v3_6 v4_6 post n6) v5_6 v6_6 := hw
      have hB159 : ∀  (v5_159 : Int) (v6_159 : Int) (H : Heap) (locs : List Loc) (ls : Array Slot), w_X10_struck_B159 σ v1_6 v2_6 v3_6 v4_6 v5_159 v6_159 post (w_X10_struck_L6 σ v1_6 v2_6 v3_6 v4_6 post n6) → Wd G (shW κ tl) ad σ (Aw ad (shW κ tl).length s.heap.size) s.heap H locs → lv_has ls 9 [(0, .ref (ad 17)), (1, .int (iN v1_6)), (2, .int (iN v2_6)), (3, .int (iN v3_6)), (4, .int (iN v4_6)), (5, .int (iN v5_159)), (6, .int (iN v6_159))] → W p l e ({ frames := 1, cells := 0, slots := 0, locals := 23 } : Room) s m ([.ref (ad 17), .int (iN v1), .int (iN v2), .int (iN v3), .int (iN v4)] : List Value).toArray below meth c H locs 0 0 (MQ below (QI G (shW κ tl) ad σ post (s.heap.size)) ([.ref (ad 17), .int (iN v1), .int (iN v2), .int (iN v3), .int (iN v4)] : List Value).toArray s 0 0 (Aw ad (shW κ tl).length s.heap.size)) (F0 m 159 ls []) := by
        intro v5_159 v6_159 H locs ls hw hW hl
        unfold w_X10_struck_B159 at hw
        refine lv_iinc (v := iN (v6_159 + 1)) (lv' := [(6, .int (iN (v6_159 + 1))), (0, .ref (ad 17)), (1, .int (iN v1_6)), (2, .int (iN v2_6)), (3, .int (iN v3_6)), (4, .int (iN v4_6)), (5, .int (iN v5_159))]) hx hb dX10_struck_159 hl (k := 6) rfl (iN_add _ _) (by decide) rfl (fun ls hl => ?_)
        refine lv_goto (tgt := 6) hx hb dX10_struck_162 (by decide) ?_
        exact ih6 v5_159 (v6_159 + 1) H locs ls hw hW (lv_sub hl [1, 2, 3, 4, 5, 6, 0] rfl)
      have hB155 : ∀  (v6_155 : Int) (s0_155 : Int) (s1_155 : Int) (s2_155 : Int) (H : Heap) (locs : List Loc) (ls : Array Slot), w_X10_struck_B155 σ v1_6 v2_6 v3_6 v4_6 v6_155 s0_155 s1_155 s2_155 post (w_X10_struck_L6 σ v1_6 v2_6 v3_6 v4_6 post n6) → Wd G (shW κ tl) ad σ (Aw ad (shW κ tl).length s.heap.size) s.heap H locs → lv_has ls 9 [(0, .ref (ad 17)), (1, .int (iN v1_6)), (2, .int (iN v2_6)), (3, .int (iN v3_6)), (4, .int (iN v4_6)), (6, .int (iN v6_155))] → W p l e ({ frames := 1, cells := 0, slots := 0, locals := 23 } : Room) s m ([.ref (ad 17), .int (iN v1), .int (iN v2), .int (iN v3), .int (iN v4)] : List Value).toArray below meth c H locs 0 0 (MQ below (QI G (shW κ tl) ad σ post (s.heap.size)) ([.ref (ad 17), .int (iN v1), .int (iN v2), .int (iN v3), .int (iN v4)] : List Value).toArray s 0 0 (Aw ad (shW κ tl).length s.heap.size)) (F0 m 155 ls [.int (iN s0_155), .int (iN s1_155), .int (iN s2_155)]) := by
        intro v6_155 s0_155 s1_155 s2_155 H locs ls hw hW hl
        unfold w_X10_struck_B155 at hw
        refine n_iadd hx hb dX10_struck_155 ?_
        refine n_iadd hx hb dX10_struck_156 ?_
        refine lv_istore (lv' := [(5, .int (iN (s2_155 + (s1_155 + s0_155)))), (0, .ref (ad 17)), (1, .int (iN v1_6)), (2, .int (iN v2_6)), (3, .int (iN v3_6)), (4, .int (iN v4_6)), (6, .int (iN v6_155))]) hx hb dX10_struck_157 hl (by decide) rfl (fun ls hl => ?_)
        exact hB159 (s2_155 + (s1_155 + s0_155)) v6_155 H locs ls hw hW (lv_sub hl [1, 2, 3, 4, 5, 0, 6] rfl)
      have hB154 : ∀  (v6_154 : Int) (s0_154 : Int) (s1_154 : Int) (H : Heap) (locs : List Loc) (ls : Array Slot), w_X10_struck_B154 σ v1_6 v2_6 v3_6 v4_6 v6_154 s0_154 s1_154 post (w_X10_struck_L6 σ v1_6 v2_6 v3_6 v4_6 post n6) → Wd G (shW κ tl) ad σ (Aw ad (shW κ tl).length s.heap.size) s.heap H locs → lv_has ls 9 [(0, .ref (ad 17)), (1, .int (iN v1_6)), (2, .int (iN v2_6)), (3, .int (iN v3_6)), (4, .int (iN v4_6)), (6, .int (iN v6_154))] → W p l e ({ frames := 1, cells := 0, slots := 0, locals := 23 } : Room) s m ([.ref (ad 17), .int (iN v1), .int (iN v2), .int (iN v3), .int (iN v4)] : List Value).toArray below meth c H locs 0 0 (MQ below (QI G (shW κ tl) ad σ post (s.heap.size)) ([.ref (ad 17), .int (iN v1), .int (iN v2), .int (iN v3), .int (iN v4)] : List Value).toArray s 0 0 (Aw ad (shW κ tl).length s.heap.size)) (F0 m 154 ls [.int (iN s0_154), .int (iN s1_154)]) := by
        intro v6_154 s0_154 s1_154 H locs ls hw hW hl
        unfold w_X10_struck_B154 at hw
        refine n_iconst hx hb dX10_struck_154 ?_
        exact hB155 v6_154 0 s0_154 s1_154 H locs ls hw hW (lv_sub hl [0, 1, 2, 3, 4, 5] rfl)
      have hB123 : ∀  (v5_123 : Int) (v6_123 : Int) (v8_123 : Int) (H : Heap) (locs : List Loc) (ls : Array Slot), w_X10_struck_B123 σ v1_6 v2_6 v3_6 v4_6 v5_123 v6_123 v8_123 post (w_X10_struck_L6 σ v1_6 v2_6 v3_6 v4_6 post n6) → Wd G (shW κ tl) ad σ (Aw ad (shW κ tl).length s.heap.size) s.heap H locs → lv_has ls 9 [(0, .ref (ad 17)), (1, .int (iN v1_6)), (2, .int (iN v2_6)), (3, .int (iN v3_6)), (4, .int (iN v4_6)), (5, .int (iN v5_123)), (6, .int (iN v6_123)), (8, .int (iN v8_123))] → W p l e ({ frames := 1, cells := 0, slots := 0, locals := 23 } : Room) s m ([.ref (ad 17), .int (iN v1), .int (iN v2), .int (iN v3), .int (iN v4)] : List Value).toArray below meth c H locs 0 0 (MQ below (QI G (shW κ tl) ad σ post (s.heap.size)) ([.ref (ad 17), .int (iN v1), .int (iN v2), .int (iN v3), .int (iN v4)] : List Value).toArray s 0 0 (Aw ad (shW κ tl).length s.heap.size)) (F0 m 123 ls []) := by
        intro v5_123 v6_123 v8_123 H locs ls hw hW hl
        unfold w_X10_struck_B123 at hw
        refine lv_iload hx hb dX10_struck_123 (lv_at hl 5 rfl) ?_
        refine lv_iload hx hb dX10_struck_125 (lv_at hl 7 rfl) ?_
        refine lv_aload_n hx hb dX10_struck_127 rfl (lv_at hl 0 rfl) ?_
        refine g_getr hx hb hts hown hK hW 17 rfl (q := 26) rfl uw_X10 11 (by decide) rfl al_774 (fun _ h9 => h9) dX10_struck_128 ?_
        refine lv_iload_n hx hb dX10_struck_131 rfl (lv_at hl 2 rfl) ?_
        refine g_ald hx hb hK hW 26 rfl hw.1 dX10_struck_132 ?_
        replace hw := hw.2
        refine lv_iload hx hb dX10_struck_133 (lv_at hl 6 rfl) ?_
        refine n_icmp_ne hx hb hw.1 hw.2.1 hw.2.2.1 hw.2.2.2 (tgt := 154) dX10_struck_135 (by decide) (fun hw => ?_) (fun hw => ?_)
        · exact hB154 v6_123 v8_123 v5_123 H locs ls hw hW (lv_sub hl [0, 1, 2, 3, 4, 6] rfl)
        · refine lv_aload_n hx hb dX10_struck_138 rfl (lv_at hl 0 rfl) ?_
          refine g_getr hx hb hts hown hK hW 17 rfl (q := 26) rfl uw_X10 11 (by decide) rfl al_774 (fun _ h9 => h9) dX10_struck_139 ?_
          refine lv_iload hx hb dX10_struck_142 (lv_at hl 4 rfl) ?_
          refine g_ald hx hb hK hW 26 rfl hw.1 dX10_struck_144 ?_
          replace hw := hw.2
          refine lv_iload hx hb dX10_struck_145 (lv_at hl 6 rfl) ?_
          refine n_icmp_ne hx hb hw.1 hw.2.1 hw.2.2.1 hw.2.2.2 (tgt := 154) dX10_struck_147 (by decide) (fun hw => ?_) (fun hw => ?_)
          · exact hB154 v6_123 v8_123 v5_123 H locs ls hw hW (lv_sub hl [0, 1, 2, 3, 4, 6] rfl)
          · refine n_iconst hx hb dX10_struck_150 ?_
            refine lv_goto (tgt := 155) hx hb dX10_struck_151 (by decide) ?_
            exact hB155 v6_123 2 v8_123 v5_123 H locs ls hw hW (lv_sub hl [0, 1, 2, 3, 4, 6] rfl)
      have hB87 : ∀  (v5_87 : Int) (v6_87 : Int) (v7_87 : Int) (s0_87 : Int) (H : Heap) (locs : List Loc) (ls : Array Slot), w_X10_struck_B87 σ v1_6 v2_6 v3_6 v4_6 v5_87 v6_87 v7_87 s0_87 post (w_X10_struck_L6 σ v1_6 v2_6 v3_6 v4_6 post n6) → Wd G (shW κ tl) ad σ (Aw ad (shW κ tl).length s.heap.size) s.heap H locs → lv_has ls 9 [(0, .ref (ad 17)), (1, .int (iN v1_6)), (2, .int (iN v2_6)), (3, .int (iN v3_6)), (4, .int (iN v4_6)), (5, .int (iN v5_87)), (6, .int (iN v6_87)), (7, .int (iN v7_87))] → W p l e ({ frames := 1, cells := 0, slots := 0, locals := 23 } : Room) s m ([.ref (ad 17), .int (iN v1), .int (iN v2), .int (iN v3), .int (iN v4)] : List Value).toArray below meth c H locs 0 0 (MQ below (QI G (shW κ tl) ad σ post (s.heap.size)) ([.ref (ad 17), .int (iN v1), .int (iN v2), .int (iN v3), .int (iN v4)] : List Value).toArray s 0 0 (Aw ad (shW κ tl).length s.heap.size)) (F0 m 87 ls [.int (iN s0_87)]) := by
        intro v5_87 v6_87 v7_87 s0_87 H locs ls hw hW hl
        unfold w_X10_struck_B87 at hw
        refine lv_istore (lv' := [(8, .int (iN s0_87)), (0, .ref (ad 17)), (1, .int (iN v1_6)), (2, .int (iN v2_6)), (3, .int (iN v3_6)), (4, .int (iN v4_6)), (5, .int (iN v5_87)), (6, .int (iN v6_87)), (7, .int (iN v7_87))]) hx hb dX10_struck_87 hl (by decide) rfl (fun ls hl => ?_)
        refine lv_iload hx hb dX10_struck_89 (lv_at hl 8 rfl) ?_
        refine n_if_lt hx hb hw.1 hw.2.1 hw.2.2 (tgt := 123) dX10_struck_91 (by decide) (fun hw => ?_) (fun hw => ?_)
        · exact hB123 v5_87 v6_87 s0_87 H locs ls hw hW (lv_sub hl [1, 2, 3, 4, 5, 6, 7, 0] rfl)
        · refine lv_iload hx hb dX10_struck_94 (lv_at hl 0 rfl) ?_
          refine lv_aload_n hx hb dX10_struck_96 rfl (lv_at hl 1 rfl) ?_
          refine g_getr hx hb hts hown hK hW 17 rfl (q := 24) rfl uw_X10 8 (by decide) rfl al_771 (fun _ h9 => h9) dX10_struck_97 ?_
          refine n_iconst hx hb dX10_struck_100 ?_
          refine g_ald hx hb hK hW 24 rfl (inb_c _ _ rfl) dX10_struck_101 ?_
          refine n_imul hx hb dX10_struck_102 ?_
          refine lv_aload_n hx hb dX10_struck_103 rfl (lv_at hl 1 rfl) ?_
          refine g_getr hx hb hts hown hK hW 17 rfl (q := 19) rfl uw_X10 3 (by decide) rfl al_766 (fun _ h9 => h9) dX10_struck_104 ?_
          refine lv_iload_n hx hb dX10_struck_107 rfl (lv_at hl 4 rfl) ?_
          refine g_ald hx hb hK hW 19 rfl hw.1 dX10_struck_108 ?_
          replace hw := hw.2
          refine lv_aload_n hx hb dX10_struck_109 rfl (lv_at hl 1 rfl) ?_
          refine g_getr hx hb hts hown hK hW 17 rfl (q := 19) rfl uw_X10 3 (by decide) rfl al_766 (fun _ h9 => h9) dX10_struck_110 ?_
          refine lv_iload hx hb dX10_struck_113 (lv_at hl 8 rfl) ?_
          refine g_ald hx hb hK hW 19 rfl hw.1 dX10_struck_115 ?_
          replace hw := hw.2
          refine n_isub hx hb dX10_struck_116 ?_
          refine n_icmp_le hx hb hw.1 hw.2.1 hw.2.2.1 hw.2.2.2 (tgt := 123) dX10_struck_117 (by decide) (fun hw => ?_) (fun hw => ?_)
          · exact hB123 v5_87 v6_87 s0_87 H locs ls hw hW (lv_sub hl [1, 2, 3, 4, 5, 6, 7, 0] rfl)
          · refine n_bipush hx hb dX10_struck_120 (by decide) ?_
            exact r_CI hx hb hr hlk hK hW hw dX10_struck_122
      have hB60 : ∀  (v5_60 : Int) (v6_60 : Int) (v7_60 : Int) (H : Heap) (locs : List Loc) (ls : Array Slot), w_X10_struck_B60 σ v1_6 v2_6 v3_6 v4_6 v5_60 v6_60 v7_60 post (w_X10_struck_L6 σ v1_6 v2_6 v3_6 v4_6 post n6) → Wd G (shW κ tl) ad σ (Aw ad (shW κ tl).length s.heap.size) s.heap H locs → lv_has ls 9 [(0, .ref (ad 17)), (1, .int (iN v1_6)), (2, .int (iN v2_6)), (3, .int (iN v3_6)), (4, .int (iN v4_6)), (5, .int (iN v5_60)), (6, .int (iN v6_60)), (7, .int (iN v7_60))] → W p l e ({ frames := 1, cells := 0, slots := 0, locals := 23 } : Room) s m ([.ref (ad 17), .int (iN v1), .int (iN v2), .int (iN v3), .int (iN v4)] : List Value).toArray below meth c H locs 0 0 (MQ below (QI G (shW κ tl) ad σ post (s.heap.size)) ([.ref (ad 17), .int (iN v1), .int (iN v2), .int (iN v3), .int (iN v4)] : List Value).toArray s 0 0 (Aw ad (shW κ tl).length s.heap.size)) (F0 m 60 ls []) := by
        intro v5_60 v6_60 v7_60 H locs ls hw hW hl
        unfold w_X10_struck_B60 at hw
        refine lv_iload hx hb dX10_struck_60 (lv_at hl 7 rfl) ?_
        refine n_if_ge hx hb hw.1 hw.2.1 hw.2.2 (tgt := 69) dX10_struck_62 (by decide) (fun hw => ?_) (fun hw => ?_)
        · refine lv_aload_n hx hb dX10_struck_69 rfl (lv_at hl 0 rfl) ?_
          refine lv_iload hx hb dX10_struck_70 (lv_at hl 7 rfl) ?_
          refine lv_iload hx hb dX10_struck_72 (lv_at hl 6 rfl) ?_
          refine fin_CI hW (run_V (k := 17) (As := [.int (iN v7_60), .int (iN v6_60)]) (rest := []) S hK hE hW (c_X10_played l G κ tl ad σ v7_60 v6_60 _ hw H.size) rfl rfl al_902 al_904 sl_X10_played al_11 al_905 hd_X10_played rfl rfl ⟨Nat.le_of_ble_eq_true rfl, Nat.le_of_ble_eq_true rfl⟩ rfl hl.1 rfl (Nat.le_of_ble_eq_true rfl) dX10_struck_74 ⟨Nat.zero_le _, Nat.zero_le _⟩) ?_
          intro r9 H locs hw hW
          refine lv_aload_n hx hb dX10_struck_77 rfl (lv_at hl 0 rfl) ?_
          refine lv_iload_n hx hb dX10_struck_78 rfl (lv_at hl 3 rfl) ?_
          refine lv_iload hx hb dX10_struck_79 (lv_at hl 6 rfl) ?_
          refine fin_CI hW (run_V (k := 17) (As := [.int (iN v3_6), .int (iN v6_60)]) (rest := [.int (iN r9)]) S hK hE hW (c_X10_played l G κ tl ad σ v3_6 v6_60 _ hw H.size) rfl rfl al_902 al_904 sl_X10_played al_11 al_905 hd_X10_played rfl rfl ⟨Nat.le_of_ble_eq_true rfl, Nat.le_of_ble_eq_true rfl⟩ rfl hl.1 rfl (Nat.le_of_ble_eq_true rfl) dX10_struck_81 ⟨Nat.zero_le _, Nat.zero_le _⟩) ?_
          intro r11 H locs hw hW
          refine fin_CI hW (run_S (As := [.int (iN r9), .int (iN r11)]) (rest := []) S hK hE hW (c_X10_far l G κ tl ad σ r9 r11 _ hw H.size) al_876 al_877 al_11 al_878 hd_X10_far.2 rfl rfl ⟨Nat.le_of_ble_eq_true rfl, Nat.le_of_ble_eq_true rfl⟩ rfl hl.1 rfl (Nat.le_of_ble_eq_true rfl) dX10_struck_84 ⟨Nat.zero_le _, Nat.zero_le _⟩) ?_
          intro r13 H locs hw hW
          exact hB87 v5_60 v6_60 v7_60 r13 H locs ls hw hW (lv_sub hl [0, 1, 2, 3, 4, 5, 6, 7] rfl)
        · refine n_iconst hx hb dX10_struck_65 ?_
          refine lv_goto (tgt := 87) hx hb dX10_struck_66 (by decide) ?_
          exact hB87 v5_60 v6_60 v7_60 0 H locs ls hw hW (lv_sub hl [0, 1, 2, 3, 4, 5, 6, 7] rfl)
      unfold w_X10_struck_L6_body at hw
      refine lv_iload hx hb dX10_struck_6 (lv_at hl 6 rfl) ?_
      refine n_iconst hx hb dX10_struck_8 ?_
      refine n_icmp_ge hx hb hw.1 (rg_c _ rfl) hw.2.1 hw.2.2 (tgt := 165) dX10_struck_9 (by decide) (fun hw => ?_) (fun hw => ?_)
      · refine lv_iload hx hb dX10_struck_165 (lv_at hl 5 rfl) ?_
        exact r_CI hx hb hr hlk hK hW hw dX10_struck_167
      · refine lv_aload_n hx hb dX10_struck_12 rfl (lv_at hl 0 rfl) ?_
        refine lv_iload_n hx hb dX10_struck_13 rfl (lv_at hl 1 rfl) ?_
        refine lv_iload_n hx hb dX10_struck_14 rfl (lv_at hl 2 rfl) ?_
        refine lv_iload hx hb dX10_struck_15 (lv_at hl 6 rfl) ?_
        refine fin_CI hW (run_V (k := 17) (As := [.int (iN v1_6), .int (iN v2_6), .int (iN v6_6)]) (rest := []) S hK hE hW (c_X10_latest l G κ tl ad σ v1_6 v2_6 v6_6 _ hw H.size) rfl rfl al_938 al_940 sl_X10_latest al_11 al_941 hd_X10_latest rfl rfl ⟨Nat.le_of_ble_eq_true rfl, Nat.le_of_ble_eq_true rfl⟩ rfl hl.1 rfl (Nat.le_of_ble_eq_true rfl) dX10_struck_17 ⟨Nat.zero_le _, Nat.zero_le _⟩) ?_
        intro r15 H locs hw hW
        refine lv_istore (lv' := [(7, .int (iN r15)), (0, .ref (ad 17)), (1, .int (iN v1_6)), (2, .int (iN v2_6)), (3, .int (iN v3_6)), (4, .int (iN v4_6)), (5, .int (iN v5_6)), (6, .int (iN v6_6))]) hx hb dX10_struck_20 hl (by decide) rfl (fun ls hl => ?_)
        refine lv_aload_n hx hb dX10_struck_22 rfl (lv_at hl 1 rfl) ?_
        refine g_getr hx hb hts hown hK hW 17 rfl (q := 26) rfl uw_X10 11 (by decide) rfl al_774 (fun _ h9 => h9) dX10_struck_23 ?_
        refine lv_iload hx hb dX10_struck_26 (lv_at hl 5 rfl) ?_
        refine g_ald hx hb hK hW 26 rfl hw.1 dX10_struck_28 ?_
        replace hw := hw.2
        refine n_iconst hx hb dX10_struck_29 ?_
        refine n_icmp_eq hx hb hw.1 (rg_c _ rfl) hw.2.1 hw.2.2 (tgt := 60) dX10_struck_30 (by decide) (fun hw => ?_) (fun hw => ?_)
        · exact hB60 v5_6 v6_6 r15 H locs ls hw hW (lv_sub hl [1, 2, 3, 4, 5, 6, 7, 0] rfl)
        · refine lv_aload_n hx hb dX10_struck_33 rfl (lv_at hl 1 rfl) ?_
          refine g_getr hx hb hts hown hK hW 17 rfl (q := 26) rfl uw_X10 11 (by decide) rfl al_774 (fun _ h9 => h9) dX10_struck_34 ?_
          refine lv_iload hx hb dX10_struck_37 (lv_at hl 5 rfl) ?_
          refine g_ald hx hb hK hW 26 rfl hw.1 dX10_struck_39 ?_
          replace hw := hw.2
          refine lv_iload hx hb dX10_struck_40 (lv_at hl 7 rfl) ?_
          refine n_icmp_eq hx hb hw.1 hw.2.1 hw.2.2.1 hw.2.2.2 (tgt := 60) dX10_struck_42 (by decide) (fun hw => ?_) (fun hw => ?_)
          · exact hB60 v5_6 v6_6 r15 H locs ls hw hW (lv_sub hl [1, 2, 3, 4, 5, 6, 7, 0] rfl)
          · refine lv_aload_n hx hb dX10_struck_45 rfl (lv_at hl 1 rfl) ?_
            refine g_getr hx hb hts hown hK hW 17 rfl (q := 27) rfl uw_X10 12 (by decide) rfl al_775 (fun _ h9 => h9) dX10_struck_46 ?_
            refine lv_iload hx hb dX10_struck_49 (lv_at hl 5 rfl) ?_
            refine g_ald hx hb hK hW 27 rfl hw.1 dX10_struck_51 ?_
            replace hw := hw.2
            refine lv_iload hx hb dX10_struck_52 (lv_at hl 0 rfl) ?_
            refine n_icmp_eq hx hb hw.1 hw.2.1 hw.2.2.1 hw.2.2.2 (tgt := 159) dX10_struck_54 (by decide) (fun hw => ?_) (fun hw => ?_)
            · exact hB159 v5_6 v6_6 H locs ls hw hW (lv_sub hl [1, 2, 3, 4, 5, 6, 7] rfl)
            · refine n_bipush hx hb dX10_struck_57 (by decide) ?_
              exact r_CI hx hb hr hlk hK hW hw dX10_struck_59
  unfold w_X10_struck at hw
  refine n_iconst hx hb dX10_struck_0 ?_
  refine lv_istore (lv' := [(5, .int (iN 0)), (0, .ref (ad 17)), (1, .int (iN v1)), (2, .int (iN v2)), (3, .int (iN v3)), (4, .int (iN v4))]) hx hb dX10_struck_1 hl (by decide) rfl (fun ls hl => ?_)
  refine n_iconst hx hb dX10_struck_3 ?_
  refine lv_istore (lv' := [(6, .int (iN 0)), (5, .int (iN 0)), (0, .ref (ad 17)), (1, .int (iN v1)), (2, .int (iN v2)), (3, .int (iN v3)), (4, .int (iN v4))]) hx hb dX10_struck_4 hl (by decide) rfl (fun ls hl => ?_)
  obtain ⟨n, hw⟩ := hw
  exact hL6 v1 v2 v3 v4 n 0 0 s.heap [] ls hw hW (lv_sub hl [2, 3, 4, 5, 6, 1, 0] rfl)
set_option maxHeartbeats 4000000 in
set_option maxRecDepth 100000 in
theorem c_X10_stepOf (l : Launch) (G : Gt) (κ : Nat)  (tl : Bool) (ad : Nat → Nat)  (σ : Mem) (v1 : Int) (v2 : Int) (v3 : Int) (v4 : Int) (post : Int → Prop) (hw : w_X10_stepOf  σ v1 v2 v3 v4 post) : CI l yX10_stepOf (Cond.code yX10_stepOf cX10_stepOf 12 (some .int)) ({ frames := 2, cells := 0, slots := 0, locals := 51 } : Room) G (shW κ tl) ad σ [.ref (ad 17), .int (iN v1), .int (iN v2), .int (iN v3), .int (iN v4)] post := by
  refine s_all (y := yX10_stepOf) (code := cX10_stepOf) (maxL := 12) (ret := (some .int)) (rm := ({ frames := 2, cells := 0, slots := 0, locals := 51 } : Room)) (av := [.ref (ad 17), .int (iN v1), .int (iN v2), .int (iN v3), .int (iN v4)]) (Qc := fun sz => QI G (shW κ tl) ad σ post (sz)) (by decide) (Nat.le_of_ble_eq_true rfl) ?_
  intro p e s m below meth c S hr hlk _ hK hE hW ls hl
  obtain ⟨hx, hb, hml, hown, hts⟩ := id S
  replace hl : lv_has ls 12 [(0, .ref (ad 17)), (1, .int (iN v1)), (2, .int (iN v2)), (3, .int (iN v3)), (4, .int (iN v4))] := hl
  have hB167 : ∀  (s0_167 : Int) (s1_167 : Int) (s2_167 : Int) (s3_167 : Int) (H : Heap) (locs : List Loc) (ls : Array Slot), w_X10_stepOf_B167 σ s0_167 s1_167 s2_167 s3_167 post → Wd G (shW κ tl) ad σ (Aw ad (shW κ tl).length s.heap.size) s.heap H locs → lv_has ls 12 [] → W p l e ({ frames := 2, cells := 0, slots := 0, locals := 51 } : Room) s m ([.ref (ad 17), .int (iN v1), .int (iN v2), .int (iN v3), .int (iN v4)] : List Value).toArray below meth c H locs 0 0 (MQ below (QI G (shW κ tl) ad σ post (s.heap.size)) ([.ref (ad 17), .int (iN v1), .int (iN v2), .int (iN v3), .int (iN v4)] : List Value).toArray s 0 0 (Aw ad (shW κ tl).length s.heap.size)) (F0 m 167 ls [.int (iN s0_167), .int (iN s1_167), .int (iN s2_167), .int (iN s3_167), .ref (ad 17)]) := by
    intro s0_167 s1_167 s2_167 s3_167 H locs ls hw hW hl
    unfold w_X10_stepOf_B167 at hw
    refine n_iadd hx hb dX10_stepOf_167 ?_
    refine fin_CI hW (run_V (k := 17) (As := [.int (iN s3_167), .int (iN s2_167), .int (iN (s1_167 + s0_167))]) (rest := []) S hK hE hW (c_X10_moved l G κ tl ad σ s3_167 s2_167 (s1_167 + s0_167) _ hw H.size) rfl rfl al_926 al_928 sl_X10_moved al_11 al_929 hd_X10_moved rfl rfl ⟨Nat.le_of_ble_eq_true rfl, Nat.le_of_ble_eq_true rfl⟩ rfl hl.1 rfl (Nat.le_of_ble_eq_true rfl) dX10_stepOf_168 ⟨Nat.zero_le _, Nat.zero_le _⟩) ?_
    intro r19 H locs hw hW
    exact r_CI hx hb hr hlk hK hW hw dX10_stepOf_171
  have hB129 : ∀  (v5_129 : Int) (v6_129 : Int) (v7_129 : Int) (s0_129 : Int) (H : Heap) (locs : List Loc) (ls : Array Slot), w_X10_stepOf_B129 σ v5_129 v6_129 v7_129 s0_129 post → Wd G (shW κ tl) ad σ (Aw ad (shW κ tl).length s.heap.size) s.heap H locs → lv_has ls 12 [(0, .ref (ad 17)), (5, .int (iN v5_129)), (6, .int (iN v6_129)), (7, .int (iN v7_129))] → W p l e ({ frames := 2, cells := 0, slots := 0, locals := 51 } : Room) s m ([.ref (ad 17), .int (iN v1), .int (iN v2), .int (iN v3), .int (iN v4)] : List Value).toArray below meth c H locs 0 0 (MQ below (QI G (shW κ tl) ad σ post (s.heap.size)) ([.ref (ad 17), .int (iN v1), .int (iN v2), .int (iN v3), .int (iN v4)] : List Value).toArray s 0 0 (Aw ad (shW κ tl).length s.heap.size)) (F0 m 129 ls [.int (iN s0_129)]) := by
    intro v5_129 v6_129 v7_129 s0_129 H locs ls hw hW hl
    unfold w_X10_stepOf_B129 at hw
    refine lv_istore (lv' := [(8, .int (iN s0_129)), (0, .ref (ad 17)), (5, .int (iN v5_129)), (6, .int (iN v6_129)), (7, .int (iN v7_129))]) hx hb dX10_stepOf_129 hl (by decide) rfl (fun ls hl => ?_)
    refine lv_aload_n hx hb dX10_stepOf_131 rfl (lv_at hl 1 rfl) ?_
    refine g_getr hx hb hts hown hK hW 17 rfl (q := 27) rfl uw_X10 12 (by decide) rfl al_775 (fun _ h9 => h9) dX10_stepOf_132 ?_
    refine lv_iload hx hb dX10_stepOf_135 (lv_at hl 2 rfl) ?_
    refine g_ald hx hb hK hW 27 rfl hw.1 dX10_stepOf_137 ?_
    replace hw := hw.2
    refine lv_aload_n hx hb dX10_stepOf_138 rfl (lv_at hl 1 rfl) ?_
    refine g_getr hx hb hts hown hK hW 17 rfl (q := 27) rfl uw_X10 12 (by decide) rfl al_775 (fun _ h9 => h9) dX10_stepOf_139 ?_
    refine lv_iload hx hb dX10_stepOf_142 (lv_at hl 3 rfl) ?_
    refine g_ald hx hb hK hW 27 rfl hw.1 dX10_stepOf_144 ?_
    replace hw := hw.2
    refine fin_CI hW (run_S (As := [.int (iN (σ 27 (v5_129).toNat)), .int (iN (σ 27 (v6_129).toNat))]) (rest := []) S hK hE hW (c_X10_far l G κ tl ad σ (σ 27 (v5_129).toNat) (σ 27 (v6_129).toNat) _ hw H.size) al_876 al_877 al_11 al_878 hd_X10_far.2 rfl rfl ⟨Nat.le_of_ble_eq_true rfl, Nat.le_of_ble_eq_true rfl⟩ rfl hl.1 rfl (Nat.le_of_ble_eq_true rfl) dX10_stepOf_145 ⟨Nat.zero_le _, Nat.zero_le _⟩) ?_
    intro r21 H locs hw hW
    refine lv_istore (lv' := [(9, .int (iN r21)), (8, .int (iN s0_129)), (0, .ref (ad 17)), (5, .int (iN v5_129)), (6, .int (iN v6_129)), (7, .int (iN v7_129))]) hx hb dX10_stepOf_148 hl (by decide) rfl (fun ls hl => ?_)
    refine lv_aload_n hx hb dX10_stepOf_150 rfl (lv_at hl 2 rfl) ?_
    refine lv_iload hx hb dX10_stepOf_151 (lv_at hl 0 rfl) ?_
    refine lv_iload hx hb dX10_stepOf_153 (lv_at hl 5 rfl) ?_
    refine lv_iload hx hb dX10_stepOf_155 (lv_at hl 0 rfl) ?_
    refine lv_iload hx hb dX10_stepOf_157 (lv_at hl 1 rfl) ?_
    refine n_if_eq hx hb hw.1 hw.2.1 hw.2.2 (tgt := 166) dX10_stepOf_159 (by decide) (fun hw => ?_) (fun hw => ?_)
    · refine n_iconst hx hb dX10_stepOf_166 ?_
      exact hB167 0 r21 v7_129 r21 H locs ls hw hW (lv_sub hl [] rfl)
    · refine n_iconst hx hb dX10_stepOf_162 ?_
      refine lv_goto (tgt := 167) hx hb dX10_stepOf_163 (by decide) ?_
      exact hB167 3 r21 v7_129 r21 H locs ls hw hW (lv_sub hl [] rfl)
  have hB128 : ∀  (v5_128 : Int) (v6_128 : Int) (v7_128 : Int) (H : Heap) (locs : List Loc) (ls : Array Slot), w_X10_stepOf_B128 σ v5_128 v6_128 v7_128 post → Wd G (shW κ tl) ad σ (Aw ad (shW κ tl).length s.heap.size) s.heap H locs → lv_has ls 12 [(0, .ref (ad 17)), (5, .int (iN v5_128)), (6, .int (iN v6_128)), (7, .int (iN v7_128))] → W p l e ({ frames := 2, cells := 0, slots := 0, locals := 51 } : Room) s m ([.ref (ad 17), .int (iN v1), .int (iN v2), .int (iN v3), .int (iN v4)] : List Value).toArray below meth c H locs 0 0 (MQ below (QI G (shW κ tl) ad σ post (s.heap.size)) ([.ref (ad 17), .int (iN v1), .int (iN v2), .int (iN v3), .int (iN v4)] : List Value).toArray s 0 0 (Aw ad (shW κ tl).length s.heap.size)) (F0 m 128 ls []) := by
    intro v5_128 v6_128 v7_128 H locs ls hw hW hl
    unfold w_X10_stepOf_B128 at hw
    refine n_iconst hx hb dX10_stepOf_128 ?_
    exact hB129 v5_128 v6_128 v7_128 0 H locs ls hw hW (lv_sub hl [0, 1, 2, 3] rfl)
  unfold w_X10_stepOf at hw
  refine n_bipush hx hb dX10_stepOf_0 (by decide) ?_
  refine lv_iload_n hx hb dX10_stepOf_2 rfl (lv_at hl 1 rfl) ?_
  refine n_imul hx hb dX10_stepOf_3 ?_
  refine lv_iload_n hx hb dX10_stepOf_4 rfl (lv_at hl 2 rfl) ?_
  refine n_iadd hx hb dX10_stepOf_5 ?_
  refine lv_istore (lv' := [(5, .int (iN ((80 * v1) + v2))), (0, .ref (ad 17)), (1, .int (iN v1)), (2, .int (iN v2)), (3, .int (iN v3)), (4, .int (iN v4))]) hx hb dX10_stepOf_6 hl (by decide) rfl (fun ls hl => ?_)
  refine n_bipush hx hb dX10_stepOf_8 (by decide) ?_
  refine lv_iload_n hx hb dX10_stepOf_10 rfl (lv_at hl 4 rfl) ?_
  refine n_imul hx hb dX10_stepOf_11 ?_
  refine lv_iload hx hb dX10_stepOf_12 (lv_at hl 5 rfl) ?_
  refine n_iadd hx hb dX10_stepOf_14 ?_
  refine lv_istore (lv' := [(6, .int (iN ((80 * v3) + v4))), (5, .int (iN ((80 * v1) + v2))), (0, .ref (ad 17)), (1, .int (iN v1)), (2, .int (iN v2)), (3, .int (iN v3)), (4, .int (iN v4))]) hx hb dX10_stepOf_15 hl (by decide) rfl (fun ls hl => ?_)
  refine lv_aload_n hx hb dX10_stepOf_17 rfl (lv_at hl 2 rfl) ?_
  refine g_getr hx hb hts hown hK hW 17 rfl (q := 19) rfl uw_X10 3 (by decide) rfl al_766 (fun _ h9 => h9) dX10_stepOf_18 ?_
  refine lv_iload_n hx hb dX10_stepOf_21 rfl (lv_at hl 5 rfl) ?_
  refine g_ald hx hb hK hW 19 rfl hw.1 dX10_stepOf_22 ?_
  replace hw := hw.2
  refine lv_aload_n hx hb dX10_stepOf_23 rfl (lv_at hl 2 rfl) ?_
  refine g_getr hx hb hts hown hK hW 17 rfl (q := 19) rfl uw_X10 3 (by decide) rfl al_766 (fun _ h9 => h9) dX10_stepOf_24 ?_
  refine lv_iload_n hx hb dX10_stepOf_27 rfl (lv_at hl 3 rfl) ?_
  refine g_ald hx hb hK hW 19 rfl hw.1 dX10_stepOf_28 ?_
  replace hw := hw.2
  refine n_isub hx hb dX10_stepOf_29 ?_
  refine lv_istore (lv' := [(7, .int (iN ((σ 19 (v3).toNat) - (σ 19 (v1).toNat)))), (6, .int (iN ((80 * v3) + v4))), (5, .int (iN ((80 * v1) + v2))), (0, .ref (ad 17)), (1, .int (iN v1)), (2, .int (iN v2)), (3, .int (iN v3)), (4, .int (iN v4))]) hx hb dX10_stepOf_30 hl (by decide) rfl (fun ls hl => ?_)
  refine lv_aload_n hx hb dX10_stepOf_32 rfl (lv_at hl 3 rfl) ?_
  refine g_get hx hb hts hown hK hW 17 rfl rfl uw_X10 0 (by decide) rfl al_763 (fun _ h9 => h9) dX10_stepOf_33 ?_
  rcases (show ((σ 17 0) < 0 ∨ 3 < (σ 17 0)) ∨ (σ 17 0) = 0 ∨ (σ 17 0) = 1 ∨ (σ 17 0) = 2 ∨ (σ 17 0) = 3 by omega) with hc | hc | hc | hc | hc
  · refine n_tableOut (tgt := 273) hx hb hw.1 hc dX10_stepOf_36 (by decide) ?_
    replace hw := hw.2.1 hc
    refine lv_aload_n hx hb dX10_stepOf_273 rfl (lv_at hl 3 rfl) ?_
    refine lv_iload_n hx hb dX10_stepOf_274 rfl (lv_at hl 4 rfl) ?_
    refine lv_iload hx hb dX10_stepOf_275 (lv_at hl 2 rfl) ?_
    refine lv_iload_n hx hb dX10_stepOf_277 rfl (lv_at hl 6 rfl) ?_
    refine lv_iload hx hb dX10_stepOf_278 (lv_at hl 1 rfl) ?_
    refine fin_CI hW (run_V (k := 17) (As := [.int (iN v1), .int (iN ((80 * v1) + v2)), .int (iN v3), .int (iN ((80 * v3) + v4))]) (rest := []) S hK hE hW (c_X10_struck l G κ tl ad σ v1 ((80 * v1) + v2) v3 ((80 * v3) + v4) _ hw s.heap.size) rfl rfl al_934 al_936 sl_X10_struck al_11 al_937 hd_X10_struck rfl rfl ⟨Nat.le_of_ble_eq_true rfl, Nat.le_of_ble_eq_true rfl⟩ rfl hl.1 rfl (Nat.le_of_ble_eq_true rfl) dX10_stepOf_280 ⟨Nat.zero_le _, Nat.zero_le _⟩) ?_
    intro r1 H locs hw hW
    exact r_CI hx hb hr hlk hK hW hw dX10_stepOf_283
  · refine n_tableIn (v := 0) (tgt := 68) hx hb hw.1 hc dX10_stepOf_36 (by decide) (by decide) rfl (by decide) ?_
    replace hw := hw.2.2.1 hc
    refine lv_aload_n hx hb dX10_stepOf_68 rfl (lv_at hl 3 rfl) ?_
    refine g_getr hx hb hts hown hK hW 17 rfl (q := 21) rfl uw_X10 5 (by decide) rfl al_768 (fun _ h9 => h9) dX10_stepOf_69 ?_
    refine lv_iload_n hx hb dX10_stepOf_72 rfl (lv_at hl 4 rfl) ?_
    refine g_ald hx hb hK hW 21 rfl hw.1 dX10_stepOf_73 ?_
    replace hw := hw.2
    refine n_iconst hx hb dX10_stepOf_74 ?_
    refine n_icmp_ne hx hb hw.1 (rg_c _ rfl) hw.2.1 hw.2.2 (tgt := 128) dX10_stepOf_75 (by decide) (fun hw => ?_) (fun hw => ?_)
    · exact hB128 ((80 * v1) + v2) ((80 * v3) + v4) ((σ 19 (v3).toNat) - (σ 19 (v1).toNat)) s.heap [] ls hw hW (lv_sub hl [3, 2, 1, 0] rfl)
    · refine lv_aload_n hx hb dX10_stepOf_78 rfl (lv_at hl 3 rfl) ?_
      refine g_getr hx hb hts hown hK hW 17 rfl (q := 21) rfl uw_X10 5 (by decide) rfl al_768 (fun _ h9 => h9) dX10_stepOf_79 ?_
      refine lv_iload_n hx hb dX10_stepOf_82 rfl (lv_at hl 6 rfl) ?_
      refine g_ald hx hb hK hW 21 rfl hw.1 dX10_stepOf_83 ?_
      replace hw := hw.2
      refine n_iconst hx hb dX10_stepOf_84 ?_
      refine n_icmp_ne hx hb hw.1 (rg_c _ rfl) hw.2.1 hw.2.2 (tgt := 128) dX10_stepOf_85 (by decide) (fun hw => ?_) (fun hw => ?_)
      · exact hB128 ((80 * v1) + v2) ((80 * v3) + v4) ((σ 19 (v3).toNat) - (σ 19 (v1).toNat)) s.heap [] ls hw hW (lv_sub hl [3, 2, 1, 0] rfl)
      · refine lv_aload_n hx hb dX10_stepOf_88 rfl (lv_at hl 3 rfl) ?_
        refine g_getr hx hb hts hown hK hW 17 rfl (q := 22) rfl uw_X10 6 (by decide) rfl al_769 (fun _ h9 => h9) dX10_stepOf_89 ?_
        refine n_iconst hx hb dX10_stepOf_92 ?_
        refine lv_iload_n hx hb dX10_stepOf_93 rfl (lv_at hl 4 rfl) ?_
        refine n_imul hx hb dX10_stepOf_94 ?_
        refine g_ald hx hb hK hW 22 rfl hw.1 dX10_stepOf_95 ?_
        replace hw := hw.2
        refine lv_aload_n hx hb dX10_stepOf_96 rfl (lv_at hl 3 rfl) ?_
        refine g_getr hx hb hts hown hK hW 17 rfl (q := 22) rfl uw_X10 6 (by decide) rfl al_769 (fun _ h9 => h9) dX10_stepOf_97 ?_
        refine n_iconst hx hb dX10_stepOf_100 ?_
        refine lv_iload_n hx hb dX10_stepOf_101 rfl (lv_at hl 6 rfl) ?_
        refine n_imul hx hb dX10_stepOf_102 ?_
        refine g_ald hx hb hK hW 22 rfl hw.1 dX10_stepOf_103 ?_
        replace hw := hw.2
        refine n_icmp_eq hx hb hw.1 hw.2.1 hw.2.2.1 hw.2.2.2 (tgt := 128) dX10_stepOf_104 (by decide) (fun hw => ?_) (fun hw => ?_)
        · exact hB128 ((80 * v1) + v2) ((80 * v3) + v4) ((σ 19 (v3).toNat) - (σ 19 (v1).toNat)) s.heap [] ls hw hW (lv_sub hl [3, 2, 1, 0] rfl)
        · refine lv_aload_n hx hb dX10_stepOf_107 rfl (lv_at hl 3 rfl) ?_
          refine g_getr hx hb hts hown hK hW 17 rfl (q := 26) rfl uw_X10 11 (by decide) rfl al_774 (fun _ h9 => h9) dX10_stepOf_108 ?_
          refine lv_iload hx hb dX10_stepOf_111 (lv_at hl 2 rfl) ?_
          refine g_ald hx hb hK hW 26 rfl hw.1 dX10_stepOf_113 ?_
          replace hw := hw.2
          refine lv_aload_n hx hb dX10_stepOf_114 rfl (lv_at hl 3 rfl) ?_
          refine g_getr hx hb hts hown hK hW 17 rfl (q := 26) rfl uw_X10 11 (by decide) rfl al_774 (fun _ h9 => h9) dX10_stepOf_115 ?_
          refine lv_iload hx hb dX10_stepOf_118 (lv_at hl 1 rfl) ?_
          refine g_ald hx hb hK hW 26 rfl hw.1 dX10_stepOf_120 ?_
          replace hw := hw.2
          refine n_icmp_ne hx hb hw.1 hw.2.1 hw.2.2.1 hw.2.2.2 (tgt := 128) dX10_stepOf_121 (by decide) (fun hw => ?_) (fun hw => ?_)
          · exact hB128 ((80 * v1) + v2) ((80 * v3) + v4) ((σ 19 (v3).toNat) - (σ 19 (v1).toNat)) s.heap [] ls hw hW (lv_sub hl [3, 2, 1, 0] rfl)
          · refine n_iconst hx hb dX10_stepOf_124 ?_
            refine lv_goto (tgt := 129) hx hb dX10_stepOf_125 (by decide) ?_
            exact hB129 ((80 * v1) + v2) ((80 * v3) + v4) ((σ 19 (v3).toNat) - (σ 19 (v1).toNat)) 1 s.heap [] ls hw hW (lv_sub hl [3, 2, 1, 0] rfl)
  · refine n_tableIn (v := 1) (tgt := 172) hx hb hw.1 hc dX10_stepOf_36 (by decide) (by decide) rfl (by decide) ?_
    replace hw := hw.2.2.2.1 hc
    refine lv_aload_n hx hb dX10_stepOf_172 rfl (lv_at hl 3 rfl) ?_
    refine g_getr hx hb hts hown hK hW 17 rfl (q := 26) rfl uw_X10 11 (by decide) rfl al_774 (fun _ h9 => h9) dX10_stepOf_173 ?_
    refine lv_iload hx hb dX10_stepOf_176 (lv_at hl 2 rfl) ?_
    refine g_ald hx hb hK hW 26 rfl hw.1 dX10_stepOf_178 ?_
    replace hw := hw.2
    refine lv_aload_n hx hb dX10_stepOf_179 rfl (lv_at hl 3 rfl) ?_
    refine g_getr hx hb hts hown hK hW 17 rfl (q := 26) rfl uw_X10 11 (by decide) rfl al_774 (fun _ h9 => h9) dX10_stepOf_180 ?_
    refine lv_iload hx hb dX10_stepOf_183 (lv_at hl 1 rfl) ?_
    refine g_ald hx hb hK hW 26 rfl hw.1 dX10_stepOf_185 ?_
    replace hw := hw.2
    refine fin_CI hW (run_S (As := [.int (iN (σ 26 (((80 * v1) + v2)).toNat)), .int (iN (σ 26 (((80 * v3) + v4)).toNat))]) (rest := []) S hK hE hW (c_X10_far l G κ tl ad σ (σ 26 (((80 * v1) + v2)).toNat) (σ 26 (((80 * v3) + v4)).toNat) _ hw s.heap.size) al_876 al_877 al_11 al_878 hd_X10_far.2 rfl rfl ⟨Nat.le_of_ble_eq_true rfl, Nat.le_of_ble_eq_true rfl⟩ rfl hl.1 rfl (Nat.le_of_ble_eq_true rfl) dX10_stepOf_186 ⟨Nat.zero_le _, Nat.zero_le _⟩) ?_
    intro r7 H locs hw hW
    refine lv_istore (lv' := [(10, .int (iN r7)), (7, .int (iN ((σ 19 (v3).toNat) - (σ 19 (v1).toNat)))), (6, .int (iN ((80 * v3) + v4))), (5, .int (iN ((80 * v1) + v2))), (0, .ref (ad 17)), (1, .int (iN v1)), (2, .int (iN v2)), (3, .int (iN v3)), (4, .int (iN v4))]) hx hb dX10_stepOf_189 hl (by decide) rfl (fun ls hl => ?_)
    refine lv_aload_n hx hb dX10_stepOf_191 rfl (lv_at hl 4 rfl) ?_
    refine lv_iload hx hb dX10_stepOf_192 (lv_at hl 0 rfl) ?_
    refine lv_iload hx hb dX10_stepOf_194 (lv_at hl 1 rfl) ?_
    refine n_iconst hx hb dX10_stepOf_196 ?_
    refine lv_iload hx hb dX10_stepOf_197 (lv_at hl 0 rfl) ?_
    refine n_imul hx hb dX10_stepOf_199 ?_
    refine lv_aload_n hx hb dX10_stepOf_200 rfl (lv_at hl 4 rfl) ?_
    refine g_getr hx hb hts hown hK hW 17 rfl (q := 27) rfl uw_X10 12 (by decide) rfl al_775 (fun _ h9 => h9) dX10_stepOf_201 ?_
    refine lv_iload hx hb dX10_stepOf_204 (lv_at hl 3 rfl) ?_
    refine g_ald hx hb hK hW 27 rfl hw.1 dX10_stepOf_206 ?_
    replace hw := hw.2
    refine lv_aload_n hx hb dX10_stepOf_207 rfl (lv_at hl 4 rfl) ?_
    refine g_getr hx hb hts hown hK hW 17 rfl (q := 27) rfl uw_X10 12 (by decide) rfl al_775 (fun _ h9 => h9) dX10_stepOf_208 ?_
    refine lv_iload hx hb dX10_stepOf_211 (lv_at hl 2 rfl) ?_
    refine g_ald hx hb hK hW 27 rfl hw.1 dX10_stepOf_213 ?_
    replace hw := hw.2
    refine fin_CI hW (run_S (As := [.int (iN (σ 27 (((80 * v1) + v2)).toNat)), .int (iN (σ 27 (((80 * v3) + v4)).toNat))]) (rest := [.int (iN (2 * r7)), .int (iN ((σ 19 (v3).toNat) - (σ 19 (v1).toNat))), .int (iN r7), .ref (ad 17)]) S hK hE hW (c_X10_far l G κ tl ad σ (σ 27 (((80 * v1) + v2)).toNat) (σ 27 (((80 * v3) + v4)).toNat) _ hw H.size) al_876 al_877 al_11 al_878 hd_X10_far.2 rfl rfl ⟨Nat.le_of_ble_eq_true rfl, Nat.le_of_ble_eq_true rfl⟩ rfl hl.1 rfl (Nat.le_of_ble_eq_true rfl) dX10_stepOf_214 ⟨Nat.zero_le _, Nat.zero_le _⟩) ?_
    intro r9 H locs hw hW
    refine n_iadd hx hb dX10_stepOf_217 ?_
    refine fin_CI hW (run_V (k := 17) (As := [.int (iN r7), .int (iN ((σ 19 (v3).toNat) - (σ 19 (v1).toNat))), .int (iN ((2 * r7) + r9))]) (rest := []) S hK hE hW (c_X10_moved l G κ tl ad σ r7 ((σ 19 (v3).toNat) - (σ 19 (v1).toNat)) ((2 * r7) + r9) _ hw H.size) rfl rfl al_926 al_928 sl_X10_moved al_11 al_929 hd_X10_moved rfl rfl ⟨Nat.le_of_ble_eq_true rfl, Nat.le_of_ble_eq_true rfl⟩ rfl hl.1 rfl (Nat.le_of_ble_eq_true rfl) dX10_stepOf_218 ⟨Nat.zero_le _, Nat.zero_le _⟩) ?_
    intro r11 H locs hw hW
    exact r_CI hx hb hr hlk hK hW hw dX10_stepOf_221
  · refine n_tableIn (v := 2) (tgt := 222) hx hb hw.1 hc dX10_stepOf_36 (by decide) (by decide) rfl (by decide) ?_
    replace hw := hw.2.2.2.2.1 hc
    refine lv_aload_n hx hb dX10_stepOf_222 rfl (lv_at hl 3 rfl) ?_
    refine lv_iload_n hx hb dX10_stepOf_223 rfl (lv_at hl 4 rfl) ?_
    refine lv_aload_n hx hb dX10_stepOf_224 rfl (lv_at hl 3 rfl) ?_
    refine g_getr hx hb hts hown hK hW 17 rfl (q := 26) rfl uw_X10 11 (by decide) rfl al_774 (fun _ h9 => h9) dX10_stepOf_225 ?_
    refine lv_iload hx hb dX10_stepOf_228 (lv_at hl 2 rfl) ?_
    refine g_ald hx hb hK hW 26 rfl hw.1 dX10_stepOf_230 ?_
    replace hw := hw.2
    refine lv_iload_n hx hb dX10_stepOf_231 rfl (lv_at hl 6 rfl) ?_
    refine lv_aload_n hx hb dX10_stepOf_232 rfl (lv_at hl 3 rfl) ?_
    refine g_getr hx hb hts hown hK hW 17 rfl (q := 26) rfl uw_X10 11 (by decide) rfl al_774 (fun _ h9 => h9) dX10_stepOf_233 ?_
    refine lv_iload hx hb dX10_stepOf_236 (lv_at hl 1 rfl) ?_
    refine g_ald hx hb hK hW 26 rfl hw.1 dX10_stepOf_238 ?_
    replace hw := hw.2
    refine fin_CI hW (run_V (k := 17) (As := [.int (iN v1), .int (iN (σ 26 (((80 * v1) + v2)).toNat)), .int (iN v3), .int (iN (σ 26 (((80 * v3) + v4)).toNat))]) (rest := []) S hK hE hW (c_X10_breathed l G κ tl ad σ v1 (σ 26 (((80 * v1) + v2)).toNat) v3 (σ 26 (((80 * v3) + v4)).toNat) _ hw s.heap.size) rfl rfl al_930 al_932 sl_X10_breathed al_11 al_933 hd_X10_breathed rfl rfl ⟨Nat.le_of_ble_eq_true rfl, Nat.le_of_ble_eq_true rfl⟩ rfl hl.1 rfl (Nat.le_of_ble_eq_true rfl) dX10_stepOf_239 ⟨Nat.zero_le _, Nat.zero_le _⟩) ?_
    intro r13 H locs hw hW
    exact r_CI hx hb hr hlk hK hW hw dX10_stepOf_242
  · refine n_tableIn (v := 3) (tgt := 243) hx hb hw.1 hc dX10_stepOf_36 (by decide) (by decide) rfl (by decide) ?_
    replace hw := hw.2.2.2.2.2 hc
    refine lv_aload_n hx hb dX10_stepOf_243 rfl (lv_at hl 3 rfl) ?_
    refine g_getr hx hb hts hown hK hW 17 rfl (q := 26) rfl uw_X10 11 (by decide) rfl al_774 (fun _ h9 => h9) dX10_stepOf_244 ?_
    refine lv_iload hx hb dX10_stepOf_247 (lv_at hl 2 rfl) ?_
    refine g_ald hx hb hK hW 26 rfl hw.1 dX10_stepOf_249 ?_
    replace hw := hw.2
    refine lv_aload_n hx hb dX10_stepOf_250 rfl (lv_at hl 3 rfl) ?_
    refine g_getr hx hb hts hown hK hW 17 rfl (q := 26) rfl uw_X10 11 (by decide) rfl al_774 (fun _ h9 => h9) dX10_stepOf_251 ?_
    refine lv_iload hx hb dX10_stepOf_254 (lv_at hl 1 rfl) ?_
    refine g_ald hx hb hK hW 26 rfl hw.1 dX10_stepOf_256 ?_
    replace hw := hw.2
    refine fin_CI hW (run_S (As := [.int (iN (σ 26 (((80 * v1) + v2)).toNat)), .int (iN (σ 26 (((80 * v3) + v4)).toNat))]) (rest := []) S hK hE hW (c_X10_far l G κ tl ad σ (σ 26 (((80 * v1) + v2)).toNat) (σ 26 (((80 * v3) + v4)).toNat) _ hw s.heap.size) al_876 al_877 al_11 al_878 hd_X10_far.2 rfl rfl ⟨Nat.le_of_ble_eq_true rfl, Nat.le_of_ble_eq_true rfl⟩ rfl hl.1 rfl (Nat.le_of_ble_eq_true rfl) dX10_stepOf_257 ⟨Nat.zero_le _, Nat.zero_le _⟩) ?_
    intro r15 H locs hw hW
    refine lv_istore (lv' := [(11, .int (iN r15)), (7, .int (iN ((σ 19 (v3).toNat) - (σ 19 (v1).toNat)))), (6, .int (iN ((80 * v3) + v4))), (5, .int (iN ((80 * v1) + v2))), (0, .ref (ad 17)), (1, .int (iN v1)), (2, .int (iN v2)), (3, .int (iN v3)), (4, .int (iN v4))]) hx hb dX10_stepOf_260 hl (by decide) rfl (fun ls hl => ?_)
    refine lv_aload_n hx hb dX10_stepOf_262 rfl (lv_at hl 4 rfl) ?_
    refine lv_iload hx hb dX10_stepOf_263 (lv_at hl 0 rfl) ?_
    refine lv_iload hx hb dX10_stepOf_265 (lv_at hl 1 rfl) ?_
    refine lv_iload hx hb dX10_stepOf_267 (lv_at hl 0 rfl) ?_
    refine fin_CI hW (run_V (k := 17) (As := [.int (iN r15), .int (iN ((σ 19 (v3).toNat) - (σ 19 (v1).toNat))), .int (iN r15)]) (rest := []) S hK hE hW (c_X10_moved l G κ tl ad σ r15 ((σ 19 (v3).toNat) - (σ 19 (v1).toNat)) r15 _ hw H.size) rfl rfl al_926 al_928 sl_X10_moved al_11 al_929 hd_X10_moved rfl rfl ⟨Nat.le_of_ble_eq_true rfl, Nat.le_of_ble_eq_true rfl⟩ rfl hl.1 rfl (Nat.le_of_ble_eq_true rfl) dX10_stepOf_269 ⟨Nat.zero_le _, Nat.zero_le _⟩) ?_
    intro r17 H locs hw hW
    exact r_CI hx hb hr hlk hK hW hw dX10_stepOf_272
set_option maxHeartbeats 4000000 in
set_option maxRecDepth 100000 in
theorem c_X10_step (l : Launch) (G : Gt) (κ : Nat)  (tl : Bool) (ad : Nat → Nat)  (σ : Mem) (v1 : Int) (v2 : Int) (v3 : Int) (post : Int → Mem → Prop) (hw : w_X10_step  σ v1 v2 v3 post) : CM l yX10_step (Cond.code yX10_step cX10_step 4 (some .int)) ({ frames := 4, cells := 0, slots := 0, locals := 100 } : Room) G (shW κ tl) ad σ [.ref (ad 17), .int (iN v1), .int (iN v2), .int (iN v3)] post := by
  refine s_all (y := yX10_step) (code := cX10_step) (maxL := 4) (ret := (some .int)) (rm := ({ frames := 4, cells := 0, slots := 0, locals := 100 } : Room)) (av := [.ref (ad 17), .int (iN v1), .int (iN v2), .int (iN v3)]) (Qc := fun sz => QM G (shW κ tl) ad post (sz)) (by decide) (Nat.le_of_ble_eq_true rfl) ?_
  intro p e s m below meth c S hr hlk _ hK hE hW ls hl
  obtain ⟨hx, hb, hml, hown, hts⟩ := id S
  replace hl : lv_has ls 4 [(0, .ref (ad 17)), (1, .int (iN v1)), (2, .int (iN v2)), (3, .int (iN v3))] := hl
  have hB34 : ∀ (σ_34 : Mem)  (H : Heap) (locs : List Loc) (ls : Array Slot), w_X10_step_B34 σ_34 post → Wd G (shW κ tl) ad σ_34 (Aw ad (shW κ tl).length s.heap.size) s.heap H locs → lv_has ls 4 [] → W p l e ({ frames := 4, cells := 0, slots := 0, locals := 100 } : Room) s m ([.ref (ad 17), .int (iN v1), .int (iN v2), .int (iN v3)] : List Value).toArray below meth c H locs 0 0 (MQ below (QM G (shW κ tl) ad post (s.heap.size)) ([.ref (ad 17), .int (iN v1), .int (iN v2), .int (iN v3)] : List Value).toArray s 0 0 (Aw ad (shW κ tl).length s.heap.size)) (F0 m 34 ls []) := by
    intro σ_34 H locs ls hw hW hl
    unfold w_X10_step_B34 at hw
    refine n_iconst hx hb dX10_step_34 ?_
    exact r_CM hx hb hr hlk hK hW hw dX10_step_35
  unfold w_X10_step at hw
  refine lv_aload_n hx hb dX10_step_0 rfl (lv_at hl 0 rfl) ?_
  refine fin_CV hW (run_V (k := 17) (As := []) (rest := []) S hK hE hW (c_X10_find l G κ tl ad σ _ hw s.heap.size) rfl rfl al_857 al_859 sl_X10_find al_11 al_860 hd_X10_find rfl rfl ⟨Nat.le_of_ble_eq_true rfl, Nat.le_of_ble_eq_true rfl⟩ rfl hl.1 rfl (Nat.le_of_ble_eq_true rfl) dX10_step_1 ⟨Nat.zero_le _, Nat.zero_le _⟩) ?_
  intro σ2 H locs hw hW
  refine lv_aload_n hx hb dX10_step_4 rfl (lv_at hl 0 rfl) ?_
  refine lv_iload_n hx hb dX10_step_5 rfl (lv_at hl 1 rfl) ?_
  refine lv_iload_n hx hb dX10_step_6 rfl (lv_at hl 2 rfl) ?_
  refine fin_CI hW (run_V (k := 17) (As := [.int (iN v1), .int (iN v2)]) (rest := []) S hK hE hW (c_X10_noState l G κ tl ad σ2 v1 v2 _ hw H.size) rfl rfl al_910 al_912 sl_X10_noState al_11 al_913 hd_X10_noState rfl rfl ⟨Nat.le_of_ble_eq_true rfl, Nat.le_of_ble_eq_true rfl⟩ rfl hl.1 rfl (Nat.le_of_ble_eq_true rfl) dX10_step_7 ⟨Nat.zero_le _, Nat.zero_le _⟩) ?_
  intro r3 H locs hw hW
  refine n_if_ne hx hb hw.1 hw.2.1 hw.2.2 (tgt := 34) dX10_step_10 (by decide) (fun hw => ?_) (fun hw => ?_)
  · exact hB34 σ2 H locs ls hw hW (lv_sub hl [] rfl)
  · refine lv_aload_n hx hb dX10_step_13 rfl (lv_at hl 0 rfl) ?_
    refine lv_iload_n hx hb dX10_step_14 rfl (lv_at hl 1 rfl) ?_
    refine fin_CI hW (run_V (k := 17) (As := [.int (iN v1)]) (rest := []) S hK hE hW (c_X10_after l G κ tl ad σ2 v1 _ hw H.size) rfl rfl al_918 al_920 sl_X10_after al_11 al_921 hd_X10_after rfl rfl ⟨Nat.le_of_ble_eq_true rfl, Nat.le_of_ble_eq_true rfl⟩ rfl hl.1 rfl (Nat.le_of_ble_eq_true rfl) dX10_step_15 ⟨Nat.zero_le _, Nat.zero_le _⟩) ?_
    intro r5 H locs hw hW
    refine n_if_lt hx hb hw.1 hw.2.1 hw.2.2 (tgt := 34) dX10_step_18 (by decide) (fun hw => ?_) (fun hw => ?_)
    · exact hB34 σ2 H locs ls hw hW (lv_sub hl [] rfl)
    · refine lv_aload_n hx hb dX10_step_21 rfl (lv_at hl 0 rfl) ?_
      refine lv_aload_n hx hb dX10_step_22 rfl (lv_at hl 0 rfl) ?_
      refine lv_iload_n hx hb dX10_step_23 rfl (lv_at hl 1 rfl) ?_
      refine fin_CI hW (run_V (k := 17) (As := [.int (iN v1)]) (rest := [.ref (ad 17)]) S hK hE hW (c_X10_after l G κ tl ad σ2 v1 _ hw H.size) rfl rfl al_918 al_920 sl_X10_after al_11 al_921 hd_X10_after rfl rfl ⟨Nat.le_of_ble_eq_true rfl, Nat.le_of_ble_eq_true rfl⟩ rfl hl.1 rfl (Nat.le_of_ble_eq_true rfl) dX10_step_24 ⟨Nat.zero_le _, Nat.zero_le _⟩) ?_
      intro r7 H locs hw hW
      refine lv_iload_n hx hb dX10_step_27 rfl (lv_at hl 3 rfl) ?_
      refine fin_CI hW (run_V (k := 17) (As := [.int (iN r7), .int (iN v3)]) (rest := []) S hK hE hW (c_X10_noState l G κ tl ad σ2 r7 v3 _ hw H.size) rfl rfl al_910 al_912 sl_X10_noState al_11 al_913 hd_X10_noState rfl rfl ⟨Nat.le_of_ble_eq_true rfl, Nat.le_of_ble_eq_true rfl⟩ rfl hl.1 rfl (Nat.le_of_ble_eq_true rfl) dX10_step_28 ⟨Nat.zero_le _, Nat.zero_le _⟩) ?_
      intro r9 H locs hw hW
      refine n_if_eq hx hb hw.1 hw.2.1 hw.2.2 (tgt := 36) dX10_step_31 (by decide) (fun hw => ?_) (fun hw => ?_)
      · refine lv_aload_n hx hb dX10_step_36 rfl (lv_at hl 0 rfl) ?_
        refine lv_iload_n hx hb dX10_step_37 rfl (lv_at hl 1 rfl) ?_
        refine lv_iload_n hx hb dX10_step_38 rfl (lv_at hl 2 rfl) ?_
        refine lv_aload_n hx hb dX10_step_39 rfl (lv_at hl 0 rfl) ?_
        refine lv_iload_n hx hb dX10_step_40 rfl (lv_at hl 1 rfl) ?_
        refine fin_CI hW (run_V (k := 17) (As := [.int (iN v1)]) (rest := [.int (iN v2), .int (iN v1), .ref (ad 17)]) S hK hE hW (c_X10_after l G κ tl ad σ2 v1 _ hw H.size) rfl rfl al_918 al_920 sl_X10_after al_11 al_921 hd_X10_after rfl rfl ⟨Nat.le_of_ble_eq_true rfl, Nat.le_of_ble_eq_true rfl⟩ rfl hl.1 rfl (Nat.le_of_ble_eq_true rfl) dX10_step_41 ⟨Nat.zero_le _, Nat.zero_le _⟩) ?_
        intro r11 H locs hw hW
        refine lv_iload_n hx hb dX10_step_44 rfl (lv_at hl 3 rfl) ?_
        refine fin_CI hW (run_V (k := 17) (As := [.int (iN v1), .int (iN v2), .int (iN r11), .int (iN v3)]) (rest := []) S hK hE hW (c_X10_stepOf l G κ tl ad σ2 v1 v2 r11 v3 _ hw H.size) rfl rfl al_922 al_924 sl_X10_stepOf al_11 al_925 hd_X10_stepOf rfl rfl ⟨Nat.le_of_ble_eq_true rfl, Nat.le_of_ble_eq_true rfl⟩ rfl hl.1 rfl (Nat.le_of_ble_eq_true rfl) dX10_step_45 ⟨Nat.zero_le _, Nat.zero_le _⟩) ?_
        intro r13 H locs hw hW
        exact r_CM hx hb hr hlk hK hW hw dX10_step_48
      · exact hB34 σ2 H locs ls hw hW (lv_sub hl [] rfl)
set_option maxHeartbeats 4000000 in
set_option maxRecDepth 100000 in
theorem c_X10_isLet (l : Launch) (G : Gt) (κ : Nat)  (tl : Bool) (ad : Nat → Nat)  (σ : Mem) (v1 : Int) (v2 : Int) (post : Int → Prop) (hw : w_X10_isLet  σ v1 v2 post) : CI l yX10_isLet (Cond.code yX10_isLet cX10_isLet 3 (some .boolean)) ({ frames := 0, cells := 0, slots := 0, locals := 0 } : Room) G (shW κ tl) ad σ [.ref (ad 17), .int (iN v1), .int (iN v2)] post := by
  refine s_all (y := yX10_isLet) (code := cX10_isLet) (maxL := 3) (ret := (some .boolean)) (rm := ({ frames := 0, cells := 0, slots := 0, locals := 0 } : Room)) (av := [.ref (ad 17), .int (iN v1), .int (iN v2)]) (Qc := fun sz => QI G (shW κ tl) ad σ post (sz)) (by decide) (Nat.le_of_ble_eq_true rfl) ?_
  intro p e s m below meth c S hr hlk _ hK hE hW ls hl
  obtain ⟨hx, hb, hml, hown, hts⟩ := id S
  replace hl : lv_has ls 3 [(0, .ref (ad 17)), (1, .int (iN v1)), (2, .int (iN v2))] := hl
  have hB24 : ∀  (s0_24 : Int) (H : Heap) (locs : List Loc) (ls : Array Slot), w_X10_isLet_B24 σ s0_24 post → Wd G (shW κ tl) ad σ (Aw ad (shW κ tl).length s.heap.size) s.heap H locs → lv_has ls 3 [] → W p l e ({ frames := 0, cells := 0, slots := 0, locals := 0 } : Room) s m ([.ref (ad 17), .int (iN v1), .int (iN v2)] : List Value).toArray below meth c H locs 0 0 (MQ below (QI G (shW κ tl) ad σ post (s.heap.size)) ([.ref (ad 17), .int (iN v1), .int (iN v2)] : List Value).toArray s 0 0 (Aw ad (shW κ tl).length s.heap.size)) (F0 m 24 ls [.int (iN s0_24)]) := by
    intro s0_24 H locs ls hw hW hl
    unfold w_X10_isLet_B24 at hw
    exact rz_CI hx hb hr hlk hK hW hw.1 hw.2 dX10_isLet_24
  have hB19 : ∀   (H : Heap) (locs : List Loc) (ls : Array Slot), w_X10_isLet_B19 σ post → Wd G (shW κ tl) ad σ (Aw ad (shW κ tl).length s.heap.size) s.heap H locs → lv_has ls 3 [] → W p l e ({ frames := 0, cells := 0, slots := 0, locals := 0 } : Room) s m ([.ref (ad 17), .int (iN v1), .int (iN v2)] : List Value).toArray below meth c H locs 0 0 (MQ below (QI G (shW κ tl) ad σ post (s.heap.size)) ([.ref (ad 17), .int (iN v1), .int (iN v2)] : List Value).toArray s 0 0 (Aw ad (shW κ tl).length s.heap.size)) (F0 m 19 ls []) := by
    intro  H locs ls hw hW hl
    unfold w_X10_isLet_B19 at hw
    refine n_iconst hx hb dX10_isLet_19 ?_
    refine lv_goto (tgt := 24) hx hb dX10_isLet_20 (by decide) ?_
    exact hB24 1 H locs ls hw hW (lv_sub hl [] rfl)
  unfold w_X10_isLet at hw
  refine lv_aload_n hx hb dX10_isLet_0 rfl (lv_at hl 0 rfl) ?_
  refine g_getr hx hb hts hown hK hW 17 rfl (q := 23) rfl uw_X10 7 (by decide) rfl al_770 (fun _ h9 => h9) dX10_isLet_1 ?_
  refine lv_iload_n hx hb dX10_isLet_4 rfl (lv_at hl 1 rfl) ?_
  refine g_ald hx hb hK hW 23 rfl hw.1 dX10_isLet_5 ?_
  replace hw := hw.2
  refine n_if_lt hx hb hw.1 hw.2.1 hw.2.2 (tgt := 19) dX10_isLet_6 (by decide) (fun hw => ?_) (fun hw => ?_)
  · exact hB19  s.heap [] ls hw hW (lv_sub hl [] rfl)
  · refine lv_aload_n hx hb dX10_isLet_9 rfl (lv_at hl 0 rfl) ?_
    refine g_getr hx hb hts hown hK hW 17 rfl (q := 23) rfl uw_X10 7 (by decide) rfl al_770 (fun _ h9 => h9) dX10_isLet_10 ?_
    refine lv_iload_n hx hb dX10_isLet_13 rfl (lv_at hl 1 rfl) ?_
    refine g_ald hx hb hK hW 23 rfl hw.1 dX10_isLet_14 ?_
    replace hw := hw.2
    refine lv_iload_n hx hb dX10_isLet_15 rfl (lv_at hl 2 rfl) ?_
    refine n_icmp_ne hx hb hw.1 hw.2.1 hw.2.2.1 hw.2.2.2 (tgt := 23) dX10_isLet_16 (by decide) (fun hw => ?_) (fun hw => ?_)
    · refine n_iconst hx hb dX10_isLet_23 ?_
      exact hB24 0 s.heap [] ls hw hW (lv_sub hl [] rfl)
    · exact hB19  s.heap [] ls hw hW (lv_sub hl [] rfl)
set_option maxHeartbeats 4000000 in
set_option maxRecDepth 100000 in
theorem c_X10_reckon (l : Launch) (G : Gt) (κ : Nat)  (tl : Bool) (ad : Nat → Nat)  (σ : Mem)  (post : Mem → Prop) (hw : w_X10_reckon  σ  post) : CV l yX10_reckon (Cond.code yX10_reckon cX10_reckon 7 none) ({ frames := 4, cells := 0, slots := 0, locals := 100 } : Room) G (shW κ tl) ad σ [.ref (ad 17)] post := by
  refine s_all (y := yX10_reckon) (code := cX10_reckon) (maxL := 7) (ret := none) (rm := ({ frames := 4, cells := 0, slots := 0, locals := 100 } : Room)) (av := [.ref (ad 17)]) (Qc := fun sz => QV G (shW κ tl) ad post (sz)) (by decide) (Nat.le_of_ble_eq_true rfl) ?_
  intro p e s m below meth c S hr hlk _ hK hE hW ls hl
  obtain ⟨hx, hb, hml, hown, hts⟩ := id S
  replace hl : lv_has ls 7 [(0, .ref (ad 17))] := hl
  have hL11 : ∀  (n : Nat) (v1_11 : Int) (σ_11 : Mem) (H : Heap) (locs : List Loc) (ls : Array Slot), w_X10_reckon_L11 post n v1_11 σ_11 → Wd G (shW κ tl) ad σ_11 (Aw ad (shW κ tl).length s.heap.size) s.heap H locs → lv_has ls 7 [(0, .ref (ad 17)), (1, .int (iN v1_11))] → W p l e ({ frames := 4, cells := 0, slots := 0, locals := 100 } : Room) s m ([.ref (ad 17)] : List Value).toArray below meth c H locs 0 0 (MQ below (QV G (shW κ tl) ad post (s.heap.size)) ([.ref (ad 17)] : List Value).toArray s 0 0 (Aw ad (shW κ tl).length s.heap.size)) (F0 m 11 ls []) := by
    intro  n
    induction n with
    | zero =>
      intro v1_11 σ_11 H locs ls hw
      exact hw.elim
    | succ n11 ih11 =>
      intro v1_11 σ_11 H locs ls hw hW hl
      replace hw : w_X10_reckon_L11_body post (w_X10_reckon_L11 post n11) v1_11 σ_11 := hw
      have hL23 : ∀ (v1_23 : Int) (v2_23 : Int) (n : Nat) (v3_23 : Int) (σ_23 : Mem) (H : Heap) (locs : List Loc) (ls : Array Slot), w_X10_reckon_L23 v1_23 v2_23 post (w_X10_reckon_L11 post n11) n v3_23 σ_23 → Wd G (shW κ tl) ad σ_23 (Aw ad (shW κ tl).length s.heap.size) s.heap H locs → lv_has ls 7 [(0, .ref (ad 17)), (1, .int (iN v1_23)), (2, .int (iN v2_23)), (3, .int (iN v3_23))] → W p l e ({ frames := 4, cells := 0, slots := 0, locals := 100 } : Room) s m ([.ref (ad 17)] : List Value).toArray below meth c H locs 0 0 (MQ below (QV G (shW κ tl) ad post (s.heap.size)) ([.ref (ad 17)] : List Value).toArray s 0 0 (Aw ad (shW κ tl).length s.heap.size)) (F0 m 23 ls []) := by
        intro v1_23 v2_23 n
        induction n with
        | zero =>
          intro v3_23 σ_23 H locs ls hw
          exact hw.elim
        | succ n23 ih23 =>
          intro v3_23 σ_23 H locs ls hw hW hl
          replace hw : w_X10_reckon_L23_body v1_23 v2_23 post (w_X10_reckon_L11 post n11) (w_X10_reckon_L23 v1_23 v2_23 post (w_X10_reckon_L11 post n11) n23) v3_23 σ_23 := hw
          have hB189 : ∀ (σ_189 : Mem) (v3_189 : Int) (s0_189 : Int) (s1_189 : Int) (H : Heap) (locs : List Loc) (ls : Array Slot), w_X10_reckon_B189 σ_189 v1_23 v2_23 v3_189 s0_189 s1_189 post (w_X10_reckon_L11 post n11) (w_X10_reckon_L23 v1_23 v2_23 post (w_X10_reckon_L11 post n11) n23) → Wd G (shW κ tl) ad σ_189 (Aw ad (shW κ tl).length s.heap.size) s.heap H locs → lv_has ls 7 [(0, .ref (ad 17)), (1, .int (iN v1_23)), (2, .int (iN v2_23)), (3, .int (iN v3_189))] → W p l e ({ frames := 4, cells := 0, slots := 0, locals := 100 } : Room) s m ([.ref (ad 17)] : List Value).toArray below meth c H locs 0 0 (MQ below (QV G (shW κ tl) ad post (s.heap.size)) ([.ref (ad 17)] : List Value).toArray s 0 0 (Aw ad (shW κ tl).length s.heap.size)) (F0 m 189 ls [.int (iN s0_189), .int (iN s1_189), .ref (ad 29)]) := by
            intro σ_189 v3_189 s0_189 s1_189 H locs ls hw hW hl
            unfold w_X10_reckon_B189 at hw
            refine g_ast hx hb hK hW 29 rfl hw.1 dX10_reckon_189 (fun σ10 H locs hτ hW => ?_)
            replace hw := hw.2 σ10 hτ
            refine lv_iinc (v := iN (v3_189 + 1)) (lv' := [(3, .int (iN (v3_189 + 1))), (0, .ref (ad 17)), (1, .int (iN v1_23)), (2, .int (iN v2_23))]) hx hb dX10_reckon_190 hl (k := 3) rfl (iN_add _ _) (by decide) rfl (fun ls hl => ?_)
            refine lv_goto (tgt := 23) hx hb dX10_reckon_193 (by decide) ?_
            exact ih23 (v3_189 + 1) σ10 H locs ls hw hW (lv_sub hl [1, 2, 3, 0] rfl)
          have hB170 : ∀ (σ_170 : Mem) (v3_170 : Int) (s0_170 : Int) (H : Heap) (locs : List Loc) (ls : Array Slot), w_X10_reckon_B170 σ_170 v1_23 v2_23 v3_170 s0_170 post (w_X10_reckon_L11 post n11) (w_X10_reckon_L23 v1_23 v2_23 post (w_X10_reckon_L11 post n11) n23) → Wd G (shW κ tl) ad σ_170 (Aw ad (shW κ tl).length s.heap.size) s.heap H locs → lv_has ls 7 [(0, .ref (ad 17)), (1, .int (iN v1_23)), (2, .int (iN v2_23)), (3, .int (iN v3_170))] → W p l e ({ frames := 4, cells := 0, slots := 0, locals := 100 } : Room) s m ([.ref (ad 17)] : List Value).toArray below meth c H locs 0 0 (MQ below (QV G (shW κ tl) ad post (s.heap.size)) ([.ref (ad 17)] : List Value).toArray s 0 0 (Aw ad (shW κ tl).length s.heap.size)) (F0 m 170 ls [.int (iN s0_170), .ref (ad 29)]) := by
            intro σ_170 v3_170 s0_170 H locs ls hw hW hl
            unfold w_X10_reckon_B170 at hw
            refine n_ldc (n := 1000000000) hx hb hown (hts _ (List.mem_cons_of_mem _ al_950)) (by decide) dX10_reckon_170 ?_
            refine lv_goto (tgt := 189) hx hb dX10_reckon_172 (by decide) ?_
            exact hB189 σ_170 v3_170 1000000000 s0_170 H locs ls hw hW (lv_sub hl [0, 1, 2, 3] rfl)
          have hB144 : ∀ (σ_144 : Mem) (v3_144 : Int) (v4_144 : Int) (H : Heap) (locs : List Loc) (ls : Array Slot), w_X10_reckon_B144 σ_144 v1_23 v2_23 v3_144 v4_144 post (w_X10_reckon_L11 post n11) (w_X10_reckon_L23 v1_23 v2_23 post (w_X10_reckon_L11 post n11) n23) → Wd G (shW κ tl) ad σ_144 (Aw ad (shW κ tl).length s.heap.size) s.heap H locs → lv_has ls 7 [(0, .ref (ad 17)), (1, .int (iN v1_23)), (2, .int (iN v2_23)), (3, .int (iN v3_144)), (4, .int (iN v4_144))] → W p l e ({ frames := 4, cells := 0, slots := 0, locals := 100 } : Room) s m ([.ref (ad 17)] : List Value).toArray below meth c H locs 0 0 (MQ below (QV G (shW κ tl) ad post (s.heap.size)) ([.ref (ad 17)] : List Value).toArray s 0 0 (Aw ad (shW κ tl).length s.heap.size)) (F0 m 144 ls []) := by
            intro σ_144 v3_144 v4_144 H locs ls hw hW hl
            unfold w_X10_reckon_B144 at hw
            refine lv_aload_n hx hb dX10_reckon_144 rfl (lv_at hl 0 rfl) ?_
            refine g_getr hx hb hts hown hK hW 17 rfl (q := 29) rfl uw_X10 14 (by decide) rfl al_777 (fun _ h9 => h9) dX10_reckon_145 ?_
            refine n_bipush hx hb dX10_reckon_148 (by decide) ?_
            refine lv_iload_n hx hb dX10_reckon_150 rfl (lv_at hl 1 rfl) ?_
            refine n_imul hx hb dX10_reckon_151 ?_
            refine lv_iload_n hx hb dX10_reckon_152 rfl (lv_at hl 3 rfl) ?_
            refine n_iadd hx hb dX10_reckon_153 ?_
            refine lv_iload hx hb dX10_reckon_154 (lv_at hl 4 rfl) ?_
            refine n_ldc (n := 1000000000) hx hb hown (hts _ (List.mem_cons_of_mem _ al_950)) (by decide) dX10_reckon_156 ?_
            refine n_icmp_ge hx hb hw.1 (rg_c _ rfl) hw.2.1 hw.2.2 (tgt := 170) dX10_reckon_158 (by decide) (fun hw => ?_) (fun hw => ?_)
            · exact hB170 σ_144 v3_144 ((80 * v1_23) + v3_144) H locs ls hw hW (lv_sub hl [0, 1, 2, 3] rfl)
            · refine lv_aload_n hx hb dX10_reckon_161 rfl (lv_at hl 0 rfl) ?_
              refine lv_iload_n hx hb dX10_reckon_162 rfl (lv_at hl 1 rfl) ?_
              refine lv_iload_n hx hb dX10_reckon_163 rfl (lv_at hl 3 rfl) ?_
              refine fin_CI hW (run_V (k := 17) (As := [.int (iN v1_23), .int (iN v3_144)]) (rest := [.int (iN ((80 * v1_23) + v3_144)), .ref (ad 29)]) S hK hE hW (c_X10_isLet l G κ tl ad σ_144 v1_23 v3_144 _ hw H.size) rfl rfl al_951 al_953 sl_X10_isLet al_11 al_954 hd_X10_isLet rfl rfl ⟨Nat.le_of_ble_eq_true rfl, Nat.le_of_ble_eq_true rfl⟩ rfl hl.1 rfl (Nat.le_of_ble_eq_true rfl) dX10_reckon_164 ⟨Nat.zero_le _, Nat.zero_le _⟩) ?_
              intro r11 H locs hw hW
              refine n_if_ne hx hb hw.1 hw.2.1 hw.2.2 (tgt := 175) dX10_reckon_167 (by decide) (fun hw => ?_) (fun hw => ?_)
              · refine lv_iload hx hb dX10_reckon_175 (lv_at hl 4 rfl) ?_
                refine lv_aload_n hx hb dX10_reckon_177 rfl (lv_at hl 0 rfl) ?_
                refine g_getr hx hb hts hown hK hW 17 rfl (q := 28) rfl uw_X10 13 (by decide) rfl al_776 (fun _ h9 => h9) dX10_reckon_178 ?_
                refine n_bipush hx hb dX10_reckon_181 (by decide) ?_
                refine lv_iload_n hx hb dX10_reckon_183 rfl (lv_at hl 1 rfl) ?_
                refine n_imul hx hb dX10_reckon_184 ?_
                refine lv_iload_n hx hb dX10_reckon_185 rfl (lv_at hl 3 rfl) ?_
                refine n_iadd hx hb dX10_reckon_186 ?_
                refine g_ald hx hb hK hW 28 rfl hw.1 dX10_reckon_187 ?_
                replace hw := hw.2
                refine n_iadd hx hb dX10_reckon_188 ?_
                exact hB189 σ_144 v3_144 (v4_144 + (σ_144 28 (((80 * v1_23) + v3_144)).toNat)) ((80 * v1_23) + v3_144) H locs ls hw hW (lv_sub hl [0, 1, 2, 3] rfl)
              · exact hB170 σ_144 v3_144 ((80 * v1_23) + v3_144) H locs ls hw hW (lv_sub hl [0, 1, 2, 3] rfl)
          have hL48 : ∀ (σ_48 : Mem) (v3_48 : Int) (n : Nat) (v4_48 : Int) (v5_48 : Int) (H : Heap) (locs : List Loc) (ls : Array Slot), w_X10_reckon_L48 σ_48 v1_23 v2_23 v3_48 post (w_X10_reckon_L11 post n11) (w_X10_reckon_L23 v1_23 v2_23 post (w_X10_reckon_L11 post n11) n23) n v4_48 v5_48 → Wd G (shW κ tl) ad σ_48 (Aw ad (shW κ tl).length s.heap.size) s.heap H locs → lv_has ls 7 [(0, .ref (ad 17)), (1, .int (iN v1_23)), (2, .int (iN v2_23)), (3, .int (iN v3_48)), (4, .int (iN v4_48)), (5, .int (iN v5_48))] → W p l e ({ frames := 4, cells := 0, slots := 0, locals := 100 } : Room) s m ([.ref (ad 17)] : List Value).toArray below meth c H locs 0 0 (MQ below (QV G (shW κ tl) ad post (s.heap.size)) ([.ref (ad 17)] : List Value).toArray s 0 0 (Aw ad (shW κ tl).length s.heap.size)) (F0 m 48 ls []) := by
            intro σ_48 v3_48 n
            induction n with
            | zero =>
              intro v4_48 v5_48 H locs ls hw
              exact hw.elim
            | succ n48 ih48 =>
              intro v4_48 v5_48 H locs ls hw hW hl
              replace hw : w_X10_reckon_L48_body σ_48 v1_23 v2_23 v3_48 post (w_X10_reckon_L11 post n11) (w_X10_reckon_L23 v1_23 v2_23 post (w_X10_reckon_L11 post n11) n23) (w_X10_reckon_L48 σ_48 v1_23 v2_23 v3_48 post (w_X10_reckon_L11 post n11) (w_X10_reckon_L23 v1_23 v2_23 post (w_X10_reckon_L11 post n11) n23) n48) v4_48 v5_48 := hw
              have hB138 : ∀  (v4_138 : Int) (v5_138 : Int) (H : Heap) (locs : List Loc) (ls : Array Slot), w_X10_reckon_B138 σ_48 v1_23 v2_23 v3_48 v4_138 v5_138 post (w_X10_reckon_L11 post n11) (w_X10_reckon_L23 v1_23 v2_23 post (w_X10_reckon_L11 post n11) n23) (w_X10_reckon_L48 σ_48 v1_23 v2_23 v3_48 post (w_X10_reckon_L11 post n11) (w_X10_reckon_L23 v1_23 v2_23 post (w_X10_reckon_L11 post n11) n23) n48) → Wd G (shW κ tl) ad σ_48 (Aw ad (shW κ tl).length s.heap.size) s.heap H locs → lv_has ls 7 [(0, .ref (ad 17)), (1, .int (iN v1_23)), (2, .int (iN v2_23)), (3, .int (iN v3_48)), (4, .int (iN v4_138)), (5, .int (iN v5_138))] → W p l e ({ frames := 4, cells := 0, slots := 0, locals := 100 } : Room) s m ([.ref (ad 17)] : List Value).toArray below meth c H locs 0 0 (MQ below (QV G (shW κ tl) ad post (s.heap.size)) ([.ref (ad 17)] : List Value).toArray s 0 0 (Aw ad (shW κ tl).length s.heap.size)) (F0 m 138 ls []) := by
                intro v4_138 v5_138 H locs ls hw hW hl
                unfold w_X10_reckon_B138 at hw
                refine lv_iinc (v := iN (v5_138 + 1)) (lv' := [(5, .int (iN (v5_138 + 1))), (0, .ref (ad 17)), (1, .int (iN v1_23)), (2, .int (iN v2_23)), (3, .int (iN v3_48)), (4, .int (iN v4_138))]) hx hb dX10_reckon_138 hl (k := 5) rfl (iN_add _ _) (by decide) rfl (fun ls hl => ?_)
                refine lv_goto (tgt := 48) hx hb dX10_reckon_141 (by decide) ?_
                exact ih48 v4_138 (v5_138 + 1) H locs ls hw hW (lv_sub hl [1, 2, 3, 4, 5, 0] rfl)
              have hB94 : ∀  (v4_94 : Int) (v5_94 : Int) (s0_94 : Int) (H : Heap) (locs : List Loc) (ls : Array Slot), w_X10_reckon_B94 σ_48 v1_23 v2_23 v3_48 v4_94 v5_94 s0_94 post (w_X10_reckon_L11 post n11) (w_X10_reckon_L23 v1_23 v2_23 post (w_X10_reckon_L11 post n11) n23) (w_X10_reckon_L48 σ_48 v1_23 v2_23 v3_48 post (w_X10_reckon_L11 post n11) (w_X10_reckon_L23 v1_23 v2_23 post (w_X10_reckon_L11 post n11) n23) n48) → Wd G (shW κ tl) ad σ_48 (Aw ad (shW κ tl).length s.heap.size) s.heap H locs → lv_has ls 7 [(0, .ref (ad 17)), (1, .int (iN v1_23)), (2, .int (iN v2_23)), (3, .int (iN v3_48)), (4, .int (iN v4_94)), (5, .int (iN v5_94))] → W p l e ({ frames := 4, cells := 0, slots := 0, locals := 100 } : Room) s m ([.ref (ad 17)] : List Value).toArray below meth c H locs 0 0 (MQ below (QV G (shW κ tl) ad post (s.heap.size)) ([.ref (ad 17)] : List Value).toArray s 0 0 (Aw ad (shW κ tl).length s.heap.size)) (F0 m 94 ls [.int (iN s0_94)]) := by
                intro v4_94 v5_94 s0_94 H locs ls hw hW hl
                unfold w_X10_reckon_B94 at hw
                refine lv_istore (lv' := [(6, .int (iN s0_94)), (0, .ref (ad 17)), (1, .int (iN v1_23)), (2, .int (iN v2_23)), (3, .int (iN v3_48)), (4, .int (iN v4_94)), (5, .int (iN v5_94))]) hx hb dX10_reckon_94 hl (by decide) rfl (fun ls hl => ?_)
                refine lv_iload hx hb dX10_reckon_96 (lv_at hl 0 rfl) ?_
                refine n_if_lt hx hb hw.1 hw.2.1 hw.2.2 (tgt := 138) dX10_reckon_98 (by decide) (fun hw => ?_) (fun hw => ?_)
                · exact hB138 v4_94 v5_94 H locs ls hw hW (lv_sub hl [1, 2, 3, 4, 5, 6] rfl)
                · refine lv_iload hx hb dX10_reckon_101 (lv_at hl 0 rfl) ?_
                  refine lv_aload_n hx hb dX10_reckon_103 rfl (lv_at hl 1 rfl) ?_
                  refine g_getr hx hb hts hown hK hW 17 rfl (q := 29) rfl uw_X10 14 (by decide) rfl al_777 (fun _ h9 => h9) dX10_reckon_104 ?_
                  refine n_bipush hx hb dX10_reckon_107 (by decide) ?_
                  refine lv_iload_n hx hb dX10_reckon_109 rfl (lv_at hl 3 rfl) ?_
                  refine n_imul hx hb dX10_reckon_110 ?_
                  refine lv_iload hx hb dX10_reckon_111 (lv_at hl 6 rfl) ?_
                  refine n_iadd hx hb dX10_reckon_113 ?_
                  refine g_ald hx hb hK hW 29 rfl hw.1 dX10_reckon_114 ?_
                  replace hw := hw.2
                  refine n_iadd hx hb dX10_reckon_115 ?_
                  refine lv_iload hx hb dX10_reckon_116 (lv_at hl 5 rfl) ?_
                  refine n_icmp_ge hx hb hw.1 hw.2.1 hw.2.2.1 hw.2.2.2 (tgt := 138) dX10_reckon_118 (by decide) (fun hw => ?_) (fun hw => ?_)
                  · exact hB138 v4_94 v5_94 H locs ls hw hW (lv_sub hl [1, 2, 3, 4, 5, 6] rfl)
                  · refine lv_iload hx hb dX10_reckon_121 (lv_at hl 0 rfl) ?_
                    refine lv_aload_n hx hb dX10_reckon_123 rfl (lv_at hl 1 rfl) ?_
                    refine g_getr hx hb hts hown hK hW 17 rfl (q := 29) rfl uw_X10 14 (by decide) rfl al_777 (fun _ h9 => h9) dX10_reckon_124 ?_
                    refine n_bipush hx hb dX10_reckon_127 (by decide) ?_
                    refine lv_iload_n hx hb dX10_reckon_129 rfl (lv_at hl 3 rfl) ?_
                    refine n_imul hx hb dX10_reckon_130 ?_
                    refine lv_iload hx hb dX10_reckon_131 (lv_at hl 6 rfl) ?_
                    refine n_iadd hx hb dX10_reckon_133 ?_
                    refine g_ald hx hb hK hW 29 rfl hw.1 dX10_reckon_134 ?_
                    replace hw := hw.2
                    refine n_iadd hx hb dX10_reckon_135 ?_
                    refine lv_istore (lv' := [(4, .int (iN (s0_94 + (σ_48 29 (((80 * v2_23) + v5_94)).toNat)))), (6, .int (iN s0_94)), (0, .ref (ad 17)), (1, .int (iN v1_23)), (2, .int (iN v2_23)), (3, .int (iN v3_48)), (5, .int (iN v5_94))]) hx hb dX10_reckon_136 hl (by decide) rfl (fun ls hl => ?_)
                    exact hB138 (s0_94 + (σ_48 29 (((80 * v2_23) + v5_94)).toNat)) v5_94 H locs ls hw hW (lv_sub hl [2, 3, 4, 5, 0, 6] rfl)
              unfold w_X10_reckon_L48_body at hw
              refine lv_iload_n hx hb dX10_reckon_48 rfl (lv_at hl 2 rfl) ?_
              refine n_if_lt hx hb hw.1 hw.2.1 hw.2.2 (tgt := 144) dX10_reckon_49 (by decide) (fun hw => ?_) (fun hw => ?_)
              · exact hB144 σ_48 v3_48 v4_48 H locs ls hw hW (lv_sub hl [0, 1, 2, 3, 4] rfl)
              · refine lv_iload hx hb dX10_reckon_52 (lv_at hl 5 rfl) ?_
                refine lv_aload_n hx hb dX10_reckon_54 rfl (lv_at hl 0 rfl) ?_
                refine g_getr hx hb hts hown hK hW 17 rfl (q := 25) rfl uw_X10 10 (by decide) rfl al_773 (fun _ h9 => h9) dX10_reckon_55 ?_
                refine lv_iload_n hx hb dX10_reckon_58 rfl (lv_at hl 2 rfl) ?_
                refine g_ald hx hb hK hW 25 rfl hw.1 dX10_reckon_59 ?_
                replace hw := hw.2
                refine n_icmp_ge hx hb hw.1 hw.2.1 hw.2.2.1 hw.2.2.2 (tgt := 144) dX10_reckon_60 (by decide) (fun hw => ?_) (fun hw => ?_)
                · exact hB144 σ_48 v3_48 v4_48 H locs ls hw hW (lv_sub hl [0, 1, 2, 3, 4] rfl)
                · refine lv_aload_n hx hb dX10_reckon_63 rfl (lv_at hl 0 rfl) ?_
                  refine g_getr hx hb hts hown hK hW 17 rfl (q := 29) rfl uw_X10 14 (by decide) rfl al_777 (fun _ h9 => h9) dX10_reckon_64 ?_
                  refine n_bipush hx hb dX10_reckon_67 (by decide) ?_
                  refine lv_iload_n hx hb dX10_reckon_69 rfl (lv_at hl 2 rfl) ?_
                  refine n_imul hx hb dX10_reckon_70 ?_
                  refine lv_iload hx hb dX10_reckon_71 (lv_at hl 5 rfl) ?_
                  refine n_iadd hx hb dX10_reckon_73 ?_
                  refine g_ald hx hb hK hW 29 rfl hw.1 dX10_reckon_74 ?_
                  replace hw := hw.2
                  refine n_ldc (n := 1000000000) hx hb hown (hts _ (List.mem_cons_of_mem _ al_950)) (by decide) dX10_reckon_75 ?_
                  refine n_icmp_ge hx hb hw.1 (rg_c _ rfl) hw.2.1 hw.2.2 (tgt := 92) dX10_reckon_77 (by decide) (fun hw => ?_) (fun hw => ?_)
                  · refine n_bipush hx hb dX10_reckon_92 (by decide) ?_
                    exact hB94 v4_48 v5_48 (-2) H locs ls hw hW (lv_sub hl [0, 1, 2, 3, 4, 5] rfl)
                  · refine lv_aload_n hx hb dX10_reckon_80 rfl (lv_at hl 0 rfl) ?_
                    refine lv_iload_n hx hb dX10_reckon_81 rfl (lv_at hl 1 rfl) ?_
                    refine lv_iload_n hx hb dX10_reckon_82 rfl (lv_at hl 3 rfl) ?_
                    refine lv_iload_n hx hb dX10_reckon_83 rfl (lv_at hl 2 rfl) ?_
                    refine lv_iload hx hb dX10_reckon_84 (lv_at hl 5 rfl) ?_
                    refine fin_CI hW (run_V (k := 17) (As := [.int (iN v1_23), .int (iN v3_48), .int (iN v2_23), .int (iN v5_48)]) (rest := []) S hK hE hW (c_X10_stepOf l G κ tl ad σ_48 v1_23 v3_48 v2_23 v5_48 _ hw H.size) rfl rfl al_922 al_924 sl_X10_stepOf al_11 al_925 hd_X10_stepOf rfl rfl ⟨Nat.le_of_ble_eq_true rfl, Nat.le_of_ble_eq_true rfl⟩ rfl hl.1 rfl (Nat.le_of_ble_eq_true rfl) dX10_reckon_86 ⟨Nat.zero_le _, Nat.zero_le _⟩) ?_
                    intro r13 H locs hw hW
                    refine lv_goto (tgt := 94) hx hb dX10_reckon_89 (by decide) ?_
                    exact hB94 v4_48 v5_48 r13 H locs ls hw hW (lv_sub hl [0, 1, 2, 3, 4, 5] rfl)
          have hB43 : ∀ (σ_43 : Mem) (v3_43 : Int) (s0_43 : Int) (H : Heap) (locs : List Loc) (ls : Array Slot), w_X10_reckon_B43 σ_43 v1_23 v2_23 v3_43 s0_43 post (w_X10_reckon_L11 post n11) (w_X10_reckon_L23 v1_23 v2_23 post (w_X10_reckon_L11 post n11) n23) → Wd G (shW κ tl) ad σ_43 (Aw ad (shW κ tl).length s.heap.size) s.heap H locs → lv_has ls 7 [(0, .ref (ad 17)), (1, .int (iN v1_23)), (2, .int (iN v2_23)), (3, .int (iN v3_43))] → W p l e ({ frames := 4, cells := 0, slots := 0, locals := 100 } : Room) s m ([.ref (ad 17)] : List Value).toArray below meth c H locs 0 0 (MQ below (QV G (shW κ tl) ad post (s.heap.size)) ([.ref (ad 17)] : List Value).toArray s 0 0 (Aw ad (shW κ tl).length s.heap.size)) (F0 m 43 ls [.int (iN s0_43)]) := by
            intro σ_43 v3_43 s0_43 H locs ls hw hW hl
            unfold w_X10_reckon_B43 at hw
            refine lv_istore (lv' := [(4, .int (iN s0_43)), (0, .ref (ad 17)), (1, .int (iN v1_23)), (2, .int (iN v2_23)), (3, .int (iN v3_43))]) hx hb dX10_reckon_43 hl (by decide) rfl (fun ls hl => ?_)
            refine n_iconst hx hb dX10_reckon_45 ?_
            refine lv_istore (lv' := [(5, .int (iN 0)), (4, .int (iN s0_43)), (0, .ref (ad 17)), (1, .int (iN v1_23)), (2, .int (iN v2_23)), (3, .int (iN v3_43))]) hx hb dX10_reckon_46 hl (by decide) rfl (fun ls hl => ?_)
            obtain ⟨n, hw⟩ := hw
            exact hL48 σ_43 v3_43 n s0_43 0 H locs ls hw hW (lv_sub hl [2, 3, 4, 5, 1, 0] rfl)
          unfold w_X10_reckon_L23_body at hw
          refine lv_iload_n hx hb dX10_reckon_23 rfl (lv_at hl 3 rfl) ?_
          refine lv_aload_n hx hb dX10_reckon_24 rfl (lv_at hl 0 rfl) ?_
          refine g_getr hx hb hts hown hK hW 17 rfl (q := 25) rfl uw_X10 10 (by decide) rfl al_773 (fun _ h9 => h9) dX10_reckon_25 ?_
          refine lv_iload_n hx hb dX10_reckon_28 rfl (lv_at hl 1 rfl) ?_
          refine g_ald hx hb hK hW 25 rfl hw.1 dX10_reckon_29 ?_
          replace hw := hw.2
          refine n_icmp_ge hx hb hw.1 hw.2.1 hw.2.2.1 hw.2.2.2 (tgt := 196) dX10_reckon_30 (by decide) (fun hw => ?_) (fun hw => ?_)
          · refine lv_iinc (v := iN (v1_23 + (-1))) (lv' := [(1, .int (iN (v1_23 + (-1)))), (0, .ref (ad 17)), (2, .int (iN v2_23)), (3, .int (iN v3_23))]) hx hb dX10_reckon_196 hl (k := 1) rfl (iN_add _ _) (by decide) rfl (fun ls hl => ?_)
            refine lv_goto (tgt := 11) hx hb dX10_reckon_199 (by decide) ?_
            exact ih11 (v1_23 + (-1)) σ_23 H locs ls hw hW (lv_sub hl [1, 0] rfl)
          · refine lv_iload_n hx hb dX10_reckon_33 rfl (lv_at hl 2 rfl) ?_
            refine n_if_ge hx hb hw.1 hw.2.1 hw.2.2 (tgt := 41) dX10_reckon_34 (by decide) (fun hw => ?_) (fun hw => ?_)
            · refine n_ldc (n := 1000000000) hx hb hown (hts _ (List.mem_cons_of_mem _ al_950)) (by decide) dX10_reckon_41 ?_
              exact hB43 σ_23 v3_23 1000000000 H locs ls hw hW (lv_sub hl [0, 1, 2, 3] rfl)
            · refine n_iconst hx hb dX10_reckon_37 ?_
              refine lv_goto (tgt := 43) hx hb dX10_reckon_38 (by decide) ?_
              exact hB43 σ_23 v3_23 0 H locs ls hw hW (lv_sub hl [0, 1, 2, 3] rfl)
      unfold w_X10_reckon_L11_body at hw
      refine lv_iload_n hx hb dX10_reckon_11 rfl (lv_at hl 1 rfl) ?_
      refine n_if_lt hx hb hw.1 hw.2.1 hw.2.2 (tgt := 202) dX10_reckon_12 (by decide) (fun hw => ?_) (fun hw => ?_)
      · exact r_CV hx hb hr hlk hK hW hw dX10_reckon_202
      · refine lv_aload_n hx hb dX10_reckon_15 rfl (lv_at hl 0 rfl) ?_
        refine lv_iload_n hx hb dX10_reckon_16 rfl (lv_at hl 1 rfl) ?_
        refine fin_CI hW (run_V (k := 17) (As := [.int (iN v1_11)]) (rest := []) S hK hE hW (c_X10_after l G κ tl ad σ_11 v1_11 _ hw H.size) rfl rfl al_918 al_920 sl_X10_after al_11 al_921 hd_X10_after rfl rfl ⟨Nat.le_of_ble_eq_true rfl, Nat.le_of_ble_eq_true rfl⟩ rfl hl.1 rfl (Nat.le_of_ble_eq_true rfl) dX10_reckon_17 ⟨Nat.zero_le _, Nat.zero_le _⟩) ?_
        intro r15 H locs hw hW
        refine lv_istore_n (lv' := [(2, .int (iN r15)), (0, .ref (ad 17)), (1, .int (iN v1_11))]) hx hb dX10_reckon_20 rfl hl (by decide) rfl (fun ls hl => ?_)
        refine n_iconst hx hb dX10_reckon_21 ?_
        refine lv_istore_n (lv' := [(3, .int (iN 0)), (2, .int (iN r15)), (0, .ref (ad 17)), (1, .int (iN v1_11))]) hx hb dX10_reckon_22 rfl hl (by decide) rfl (fun ls hl => ?_)
        obtain ⟨n, hw⟩ := hw
        exact hL23 v1_11 r15 n 0 σ_11 H locs ls hw hW (lv_sub hl [2, 3, 1, 0] rfl)
  unfold w_X10_reckon at hw
  refine lv_aload_n hx hb dX10_reckon_0 rfl (lv_at hl 0 rfl) ?_
  refine fin_CV hW (run_V (k := 17) (As := []) (rest := []) S hK hE hW (c_X10_find l G κ tl ad σ _ hw s.heap.size) rfl rfl al_857 al_859 sl_X10_find al_11 al_860 hd_X10_find rfl rfl ⟨Nat.le_of_ble_eq_true rfl, Nat.le_of_ble_eq_true rfl⟩ rfl hl.1 rfl (Nat.le_of_ble_eq_true rfl) dX10_reckon_1 ⟨Nat.zero_le _, Nat.zero_le _⟩) ?_
  intro σ2 H locs hw hW
  refine lv_aload_n hx hb dX10_reckon_4 rfl (lv_at hl 0 rfl) ?_
  refine g_get hx hb hts hown hK hW 17 rfl rfl uw_X10 1 (by decide) rfl al_764 (fun _ h9 => h9) dX10_reckon_5 ?_
  refine n_iconst hx hb dX10_reckon_8 ?_
  refine n_isub hx hb dX10_reckon_9 ?_
  refine lv_istore_n (lv' := [(1, .int (iN ((σ2 17 1) - 1))), (0, .ref (ad 17))]) hx hb dX10_reckon_10 rfl hl (by decide) rfl (fun ls hl => ?_)
  obtain ⟨n, hw⟩ := hw
  exact hL11 n ((σ2 17 1) - 1) σ2 H locs ls hw hW (lv_sub hl [1, 0] rfl)
set_option maxHeartbeats 4000000 in
set_option maxRecDepth 100000 in
theorem c_X10_first (l : Launch) (G : Gt) (κ : Nat)  (tl : Bool) (ad : Nat → Nat)  (σ : Mem) (v1 : Int) (post : Int → Prop) (hw : w_X10_first  σ v1 post) : CI l yX10_first (Cond.code yX10_first cX10_first 3 (some .int)) ({ frames := 0, cells := 0, slots := 0, locals := 0 } : Room) G (shW κ tl) ad σ [.ref (ad 17), .int (iN v1)] post := by
  refine s_all (y := yX10_first) (code := cX10_first) (maxL := 3) (ret := (some .int)) (rm := ({ frames := 0, cells := 0, slots := 0, locals := 0 } : Room)) (av := [.ref (ad 17), .int (iN v1)]) (Qc := fun sz => QI G (shW κ tl) ad σ post (sz)) (by decide) (Nat.le_of_ble_eq_true rfl) ?_
  intro p e s m below meth c S hr hlk _ hK hE hW ls hl
  obtain ⟨hx, hb, hml, hown, hts⟩ := id S
  replace hl : lv_has ls 3 [(0, .ref (ad 17)), (1, .int (iN v1))] := hl
  have hB40 : ∀  (s0_40 : Int) (H : Heap) (locs : List Loc) (ls : Array Slot), w_X10_first_B40 σ s0_40 post → Wd G (shW κ tl) ad σ (Aw ad (shW κ tl).length s.heap.size) s.heap H locs → lv_has ls 3 [] → W p l e ({ frames := 0, cells := 0, slots := 0, locals := 0 } : Room) s m ([.ref (ad 17), .int (iN v1)] : List Value).toArray below meth c H locs 0 0 (MQ below (QI G (shW κ tl) ad σ post (s.heap.size)) ([.ref (ad 17), .int (iN v1)] : List Value).toArray s 0 0 (Aw ad (shW κ tl).length s.heap.size)) (F0 m 40 ls [.int (iN s0_40)]) := by
    intro s0_40 H locs ls hw hW hl
    unfold w_X10_first_B40 at hw
    exact r_CI hx hb hr hlk hK hW hw dX10_first_40
  have hB26 : ∀  (v2_26 : Int) (H : Heap) (locs : List Loc) (ls : Array Slot), w_X10_first_B26 σ v2_26 post → Wd G (shW κ tl) ad σ (Aw ad (shW κ tl).length s.heap.size) s.heap H locs → lv_has ls 3 [(0, .ref (ad 17)), (2, .int (iN v2_26))] → W p l e ({ frames := 0, cells := 0, slots := 0, locals := 0 } : Room) s m ([.ref (ad 17), .int (iN v1)] : List Value).toArray below meth c H locs 0 0 (MQ below (QI G (shW κ tl) ad σ post (s.heap.size)) ([.ref (ad 17), .int (iN v1)] : List Value).toArray s 0 0 (Aw ad (shW κ tl).length s.heap.size)) (F0 m 26 ls []) := by
    intro v2_26 H locs ls hw hW hl
    unfold w_X10_first_B26 at hw
    refine lv_iload_n hx hb dX10_first_26 rfl (lv_at hl 1 rfl) ?_
    refine lv_aload_n hx hb dX10_first_27 rfl (lv_at hl 0 rfl) ?_
    refine g_get hx hb hts hown hK hW 17 rfl rfl uw_X10 1 (by decide) rfl al_764 (fun _ h9 => h9) dX10_first_28 ?_
    refine n_icmp_ge hx hb hw.1 hw.2.1 hw.2.2.1 hw.2.2.2 (tgt := 38) dX10_first_31 (by decide) (fun hw => ?_) (fun hw => ?_)
    · refine n_bipush hx hb dX10_first_38 (by decide) ?_
      exact hB40 (-2) H locs ls hw hW (lv_sub hl [] rfl)
    · refine lv_iload_n hx hb dX10_first_34 rfl (lv_at hl 1 rfl) ?_
      refine lv_goto (tgt := 40) hx hb dX10_first_35 (by decide) ?_
      exact hB40 v2_26 H locs ls hw hW (lv_sub hl [] rfl)
  have hL2 : ∀ (v1_2 : Int) (n : Nat) (v2_2 : Int) (H : Heap) (locs : List Loc) (ls : Array Slot), w_X10_first_L2 σ v1_2 post n v2_2 → Wd G (shW κ tl) ad σ (Aw ad (shW κ tl).length s.heap.size) s.heap H locs → lv_has ls 3 [(0, .ref (ad 17)), (1, .int (iN v1_2)), (2, .int (iN v2_2))] → W p l e ({ frames := 0, cells := 0, slots := 0, locals := 0 } : Room) s m ([.ref (ad 17), .int (iN v1)] : List Value).toArray below meth c H locs 0 0 (MQ below (QI G (shW κ tl) ad σ post (s.heap.size)) ([.ref (ad 17), .int (iN v1)] : List Value).toArray s 0 0 (Aw ad (shW κ tl).length s.heap.size)) (F0 m 2 ls []) := by
    intro v1_2 n
    induction n with
    | zero =>
      intro v2_2 H locs ls hw
      exact hw.elim
    | succ n2 ih2 =>
      intro v2_2 H locs ls hw hW hl
      replace hw : w_X10_first_L2_body σ v1_2 post (w_X10_first_L2 σ v1_2 post n2) v2_2 := hw
      unfold w_X10_first_L2_body at hw
      refine lv_iload_n hx hb dX10_first_2 rfl (lv_at hl 2 rfl) ?_
      refine lv_aload_n hx hb dX10_first_3 rfl (lv_at hl 0 rfl) ?_
      refine g_get hx hb hts hown hK hW 17 rfl rfl uw_X10 1 (by decide) rfl al_764 (fun _ h9 => h9) dX10_first_4 ?_
      refine n_icmp_ge hx hb hw.1 hw.2.1 hw.2.2.1 hw.2.2.2 (tgt := 26) dX10_first_7 (by decide) (fun hw => ?_) (fun hw => ?_)
      · exact hB26 v2_2 H locs ls hw hW (lv_sub hl [0, 2] rfl)
      · refine lv_aload_n hx hb dX10_first_10 rfl (lv_at hl 0 rfl) ?_
        refine g_getr hx hb hts hown hK hW 17 rfl (q := 18) rfl uw_X10 2 (by decide) rfl al_765 (fun _ h9 => h9) dX10_first_11 ?_
        refine lv_iload_n hx hb dX10_first_14 rfl (lv_at hl 2 rfl) ?_
        refine g_ald hx hb hK hW 18 rfl hw.1 dX10_first_15 ?_
        replace hw := hw.2
        refine lv_iload_n hx hb dX10_first_16 rfl (lv_at hl 1 rfl) ?_
        refine n_icmp_eq hx hb hw.1 hw.2.1 hw.2.2.1 hw.2.2.2 (tgt := 26) dX10_first_17 (by decide) (fun hw => ?_) (fun hw => ?_)
        · exact hB26 v2_2 H locs ls hw hW (lv_sub hl [0, 2] rfl)
        · refine lv_iinc (v := iN (v2_2 + 1)) (lv' := [(2, .int (iN (v2_2 + 1))), (0, .ref (ad 17)), (1, .int (iN v1_2))]) hx hb dX10_first_20 hl (k := 2) rfl (iN_add _ _) (by decide) rfl (fun ls hl => ?_)
          refine lv_goto (tgt := 2) hx hb dX10_first_23 (by decide) ?_
          exact ih2 (v2_2 + 1) H locs ls hw hW (lv_sub hl [1, 2, 0] rfl)
  unfold w_X10_first at hw
  refine n_iconst hx hb dX10_first_0 ?_
  refine lv_istore_n (lv' := [(2, .int (iN 0)), (0, .ref (ad 17)), (1, .int (iN v1))]) hx hb dX10_first_1 rfl hl (by decide) rfl (fun ls hl => ?_)
  obtain ⟨n, hw⟩ := hw
  exact hL2 v1 n 0 s.heap [] ls hw hW (lv_sub hl [1, 2, 0] rfl)
set_option maxHeartbeats 4000000 in
set_option maxRecDepth 100000 in
theorem c_X10_chain (l : Launch) (G : Gt) (κ : Nat)  (tl : Bool) (ad : Nat → Nat)  (σ : Mem) (v1 : Int) (post : Int → Prop) (hw : w_X10_chain  σ v1 post) : CI l yX10_chain (Cond.code yX10_chain cX10_chain 5 (some .int)) ({ frames := 1, cells := 0, slots := 0, locals := 22 } : Room) G (shW κ tl) ad σ [.ref (ad 17), .int (iN v1)] post := by
  refine s_all (y := yX10_chain) (code := cX10_chain) (maxL := 5) (ret := (some .int)) (rm := ({ frames := 1, cells := 0, slots := 0, locals := 22 } : Room)) (av := [.ref (ad 17), .int (iN v1)]) (Qc := fun sz => QI G (shW κ tl) ad σ post (sz)) (by decide) (Nat.le_of_ble_eq_true rfl) ?_
  intro p e s m below meth c S hr hlk _ hK hE hW ls hl
  obtain ⟨hx, hb, hml, hown, hts⟩ := id S
  replace hl : lv_has ls 5 [(0, .ref (ad 17)), (1, .int (iN v1))] := hl
  have hL18 : ∀ (v2_18 : Int) (n : Nat) (v3_18 : Int) (v4_18 : Int) (H : Heap) (locs : List Loc) (ls : Array Slot), w_X10_chain_L18 σ v2_18 post n v3_18 v4_18 → Wd G (shW κ tl) ad σ (Aw ad (shW κ tl).length s.heap.size) s.heap H locs → lv_has ls 5 [(0, .ref (ad 17)), (2, .int (iN v2_18)), (3, .int (iN v3_18)), (4, .int (iN v4_18))] → W p l e ({ frames := 1, cells := 0, slots := 0, locals := 22 } : Room) s m ([.ref (ad 17), .int (iN v1)] : List Value).toArray below meth c H locs 0 0 (MQ below (QI G (shW κ tl) ad σ post (s.heap.size)) ([.ref (ad 17), .int (iN v1)] : List Value).toArray s 0 0 (Aw ad (shW κ tl).length s.heap.size)) (F0 m 18 ls []) := by
    intro v2_18 n
    induction n with
    | zero =>
      intro v3_18 v4_18 H locs ls hw
      exact hw.elim
    | succ n18 ih18 =>
      intro v3_18 v4_18 H locs ls hw hW hl
      replace hw : w_X10_chain_L18_body σ v2_18 post (w_X10_chain_L18 σ v2_18 post n18) v3_18 v4_18 := hw
      have hB61 : ∀  (v4_61 : Int) (s0_61 : Int) (H : Heap) (locs : List Loc) (ls : Array Slot), w_X10_chain_B61 σ v2_18 v4_61 s0_61 post (w_X10_chain_L18 σ v2_18 post n18) → Wd G (shW κ tl) ad σ (Aw ad (shW κ tl).length s.heap.size) s.heap H locs → lv_has ls 5 [(0, .ref (ad 17)), (2, .int (iN v2_18)), (4, .int (iN v4_61))] → W p l e ({ frames := 1, cells := 0, slots := 0, locals := 22 } : Room) s m ([.ref (ad 17), .int (iN v1)] : List Value).toArray below meth c H locs 0 0 (MQ below (QI G (shW κ tl) ad σ post (s.heap.size)) ([.ref (ad 17), .int (iN v1)] : List Value).toArray s 0 0 (Aw ad (shW κ tl).length s.heap.size)) (F0 m 61 ls [.int (iN s0_61)]) := by
        intro v4_61 s0_61 H locs ls hw hW hl
        unfold w_X10_chain_B61 at hw
        refine lv_istore_n (lv' := [(3, .int (iN s0_61)), (0, .ref (ad 17)), (2, .int (iN v2_18)), (4, .int (iN v4_61))]) hx hb dX10_chain_61 rfl hl (by decide) rfl (fun ls hl => ?_)
        refine lv_iinc (v := iN (v4_61 + 1)) (lv' := [(4, .int (iN (v4_61 + 1))), (3, .int (iN s0_61)), (0, .ref (ad 17)), (2, .int (iN v2_18))]) hx hb dX10_chain_62 hl (k := 3) rfl (iN_add _ _) (by decide) rfl (fun ls hl => ?_)
        refine lv_goto (tgt := 18) hx hb dX10_chain_65 (by decide) ?_
        exact ih18 s0_61 (v4_61 + 1) H locs ls hw hW (lv_sub hl [2, 3, 1, 0] rfl)
      unfold w_X10_chain_L18_body at hw
      refine lv_iload hx hb dX10_chain_18 (lv_at hl 3 rfl) ?_
      refine lv_aload_n hx hb dX10_chain_20 rfl (lv_at hl 0 rfl) ?_
      refine g_getr hx hb hts hown hK hW 17 rfl (q := 25) rfl uw_X10 10 (by decide) rfl al_773 (fun _ h9 => h9) dX10_chain_21 ?_
      refine lv_iload_n hx hb dX10_chain_24 rfl (lv_at hl 1 rfl) ?_
      refine g_ald hx hb hK hW 25 rfl hw.1 dX10_chain_25 ?_
      replace hw := hw.2
      refine n_icmp_ge hx hb hw.1 hw.2.1 hw.2.2.1 hw.2.2.2 (tgt := 68) dX10_chain_26 (by decide) (fun hw => ?_) (fun hw => ?_)
      · refine lv_iload_n hx hb dX10_chain_68 rfl (lv_at hl 2 rfl) ?_
        exact r_CI hx hb hr hlk hK hW hw dX10_chain_69
      · refine lv_aload_n hx hb dX10_chain_29 rfl (lv_at hl 0 rfl) ?_
        refine g_getr hx hb hts hown hK hW 17 rfl (q := 29) rfl uw_X10 14 (by decide) rfl al_777 (fun _ h9 => h9) dX10_chain_30 ?_
        refine n_bipush hx hb dX10_chain_33 (by decide) ?_
        refine lv_iload_n hx hb dX10_chain_35 rfl (lv_at hl 1 rfl) ?_
        refine n_imul hx hb dX10_chain_36 ?_
        refine lv_iload hx hb dX10_chain_37 (lv_at hl 3 rfl) ?_
        refine n_iadd hx hb dX10_chain_39 ?_
        refine g_ald hx hb hK hW 29 rfl hw.1 dX10_chain_40 ?_
        replace hw := hw.2
        refine lv_iload_n hx hb dX10_chain_41 rfl (lv_at hl 2 rfl) ?_
        refine n_icmp_ge hx hb hw.1 hw.2.1 hw.2.2.1 hw.2.2.2 (tgt := 60) dX10_chain_42 (by decide) (fun hw => ?_) (fun hw => ?_)
        · refine lv_iload_n hx hb dX10_chain_60 rfl (lv_at hl 2 rfl) ?_
          exact hB61 v4_18 v3_18 H locs ls hw hW (lv_sub hl [0, 1, 3] rfl)
        · refine lv_aload_n hx hb dX10_chain_45 rfl (lv_at hl 0 rfl) ?_
          refine g_getr hx hb hts hown hK hW 17 rfl (q := 29) rfl uw_X10 14 (by decide) rfl al_777 (fun _ h9 => h9) dX10_chain_46 ?_
          refine n_bipush hx hb dX10_chain_49 (by decide) ?_
          refine lv_iload_n hx hb dX10_chain_51 rfl (lv_at hl 1 rfl) ?_
          refine n_imul hx hb dX10_chain_52 ?_
          refine lv_iload hx hb dX10_chain_53 (lv_at hl 3 rfl) ?_
          refine n_iadd hx hb dX10_chain_55 ?_
          refine g_ald hx hb hK hW 29 rfl hw.1 dX10_chain_56 ?_
          replace hw := hw.2
          refine lv_goto (tgt := 61) hx hb dX10_chain_57 (by decide) ?_
          exact hB61 v4_18 (σ 29 (((80 * v2_18) + v4_18)).toNat) H locs ls hw hW (lv_sub hl [0, 1, 3] rfl)
  unfold w_X10_chain at hw
  refine lv_aload_n hx hb dX10_chain_0 rfl (lv_at hl 0 rfl) ?_
  refine lv_iload_n hx hb dX10_chain_1 rfl (lv_at hl 1 rfl) ?_
  refine fin_CI hW (run_V (k := 17) (As := [.int (iN v1)]) (rest := []) S hK hE hW (c_X10_first l G κ tl ad σ v1 _ hw s.heap.size) rfl rfl al_959 al_961 sl_X10_first al_11 al_962 hd_X10_first rfl rfl ⟨Nat.le_of_ble_eq_true rfl, Nat.le_of_ble_eq_true rfl⟩ rfl hl.1 rfl (Nat.le_of_ble_eq_true rfl) dX10_chain_2 ⟨Nat.zero_le _, Nat.zero_le _⟩) ?_
  intro r1 H locs hw hW
  refine lv_istore_n (lv' := [(2, .int (iN r1)), (0, .ref (ad 17)), (1, .int (iN v1))]) hx hb dX10_chain_5 rfl hl (by decide) rfl (fun ls hl => ?_)
  refine lv_iload_n hx hb dX10_chain_6 rfl (lv_at hl 0 rfl) ?_
  refine n_if_ge hx hb hw.1 hw.2.1 hw.2.2 (tgt := 12) dX10_chain_7 (by decide) (fun hw => ?_) (fun hw => ?_)
  · refine n_ldc (n := 1000000000) hx hb hown (hts _ (List.mem_cons_of_mem _ al_950)) (by decide) dX10_chain_12 ?_
    refine lv_istore_n (lv' := [(3, .int (iN 1000000000)), (2, .int (iN r1)), (0, .ref (ad 17)), (1, .int (iN v1))]) hx hb dX10_chain_14 rfl hl (by decide) rfl (fun ls hl => ?_)
    refine n_iconst hx hb dX10_chain_15 ?_
    refine lv_istore (lv' := [(4, .int (iN 0)), (3, .int (iN 1000000000)), (2, .int (iN r1)), (0, .ref (ad 17)), (1, .int (iN v1))]) hx hb dX10_chain_16 hl (by decide) rfl (fun ls hl => ?_)
    obtain ⟨n, hw⟩ := hw
    exact hL18 r1 n 1000000000 0 H locs ls hw hW (lv_sub hl [3, 2, 1, 0] rfl)
  · refine n_iconst hx hb dX10_chain_10 ?_
    exact r_CI hx hb hr hlk hK hW hw dX10_chain_11
set_option maxHeartbeats 4000000 in
set_option maxRecDepth 100000 in
theorem c_X10_price (l : Launch) (G : Gt) (κ : Nat)  (tl : Bool) (ad : Nat → Nat)  (σ : Mem)  (post : Int → Mem → Prop) (hw : w_X10_price  σ  post) : CM l yX10_price (Cond.code yX10_price cX10_price 2 (some .int)) ({ frames := 5, cells := 0, slots := 0, locals := 126 } : Room) G (shW κ tl) ad σ [.ref (ad 17)] post := by
  refine s_all (y := yX10_price) (code := cX10_price) (maxL := 2) (ret := (some .int)) (rm := ({ frames := 5, cells := 0, slots := 0, locals := 126 } : Room)) (av := [.ref (ad 17)]) (Qc := fun sz => QM G (shW κ tl) ad post (sz)) (by decide) (Nat.le_of_ble_eq_true rfl) ?_
  intro p e s m below meth c S hr hlk _ hK hE hW ls hl
  obtain ⟨hx, hb, hml, hown, hts⟩ := id S
  replace hl : lv_has ls 2 [(0, .ref (ad 17))] := hl
  have hB53 : ∀ (σ_53 : Mem) (s0_53 : Int) (H : Heap) (locs : List Loc) (ls : Array Slot), w_X10_price_B53 σ_53 s0_53 post → Wd G (shW κ tl) ad σ_53 (Aw ad (shW κ tl).length s.heap.size) s.heap H locs → lv_has ls 2 [] → W p l e ({ frames := 5, cells := 0, slots := 0, locals := 126 } : Room) s m ([.ref (ad 17)] : List Value).toArray below meth c H locs 0 0 (MQ below (QM G (shW κ tl) ad post (s.heap.size)) ([.ref (ad 17)] : List Value).toArray s 0 0 (Aw ad (shW κ tl).length s.heap.size)) (F0 m 53 ls [.int (iN s0_53)]) := by
    intro σ_53 s0_53 H locs ls hw hW hl
    unfold w_X10_price_B53 at hw
    exact r_CM hx hb hr hlk hK hW hw dX10_price_53
  have hB40 : ∀ (σ_40 : Mem) (s0_40 : Int) (H : Heap) (locs : List Loc) (ls : Array Slot), w_X10_price_B40 σ_40 s0_40 post → Wd G (shW κ tl) ad σ_40 (Aw ad (shW κ tl).length s.heap.size) s.heap H locs → lv_has ls 2 [] → W p l e ({ frames := 5, cells := 0, slots := 0, locals := 126 } : Room) s m ([.ref (ad 17)] : List Value).toArray below meth c H locs 0 0 (MQ below (QM G (shW κ tl) ad post (s.heap.size)) ([.ref (ad 17)] : List Value).toArray s 0 0 (Aw ad (shW κ tl).length s.heap.size)) (F0 m 40 ls [.int (iN s0_40)]) := by
    intro σ_40 s0_40 H locs ls hw hW hl
    unfold w_X10_price_B40 at hw
    refine lv_istore_n (lv' := [(1, .int (iN s0_40))]) hx hb dX10_price_40 rfl hl (by decide) rfl (fun ls hl => ?_)
    refine lv_iload_n hx hb dX10_price_41 rfl (lv_at hl 0 rfl) ?_
    refine n_ldc (n := 1000000000) hx hb hown (hts _ (List.mem_cons_of_mem _ al_950)) (by decide) dX10_price_42 ?_
    refine n_icmp_lt hx hb hw.1 (rg_c _ rfl) hw.2.1 hw.2.2 (tgt := 52) dX10_price_44 (by decide) (fun hw => ?_) (fun hw => ?_)
    · refine lv_iload_n hx hb dX10_price_52 rfl (lv_at hl 0 rfl) ?_
      exact hB53 σ_40 s0_40 H locs ls hw hW (lv_sub hl [] rfl)
    · refine n_bipush hx hb dX10_price_47 (by decide) ?_
      refine lv_goto (tgt := 53) hx hb dX10_price_49 (by decide) ?_
      exact hB53 σ_40 (-2) H locs ls hw hW (lv_sub hl [] rfl)
  have hB24 : ∀ (σ_24 : Mem)  (H : Heap) (locs : List Loc) (ls : Array Slot), w_X10_price_B24 σ_24 post → Wd G (shW κ tl) ad σ_24 (Aw ad (shW κ tl).length s.heap.size) s.heap H locs → lv_has ls 2 [] → W p l e ({ frames := 5, cells := 0, slots := 0, locals := 126 } : Room) s m ([.ref (ad 17)] : List Value).toArray below meth c H locs 0 0 (MQ below (QM G (shW κ tl) ad post (s.heap.size)) ([.ref (ad 17)] : List Value).toArray s 0 0 (Aw ad (shW κ tl).length s.heap.size)) (F0 m 24 ls []) := by
    intro σ_24 H locs ls hw hW hl
    unfold w_X10_price_B24 at hw
    refine n_ldc (n := 1000000000) hx hb hown (hts _ (List.mem_cons_of_mem _ al_950)) (by decide) dX10_price_24 ?_
    refine lv_goto (tgt := 40) hx hb dX10_price_26 (by decide) ?_
    exact hB40 σ_24 1000000000 H locs ls hw hW (lv_sub hl [] rfl)
  unfold w_X10_price at hw
  refine lv_aload_n hx hb dX10_price_0 rfl (lv_at hl 0 rfl) ?_
  refine fin_CV hW (run_V (k := 17) (As := []) (rest := []) S hK hE hW (c_X10_reckon l G κ tl ad σ _ hw s.heap.size) rfl rfl al_946 al_948 sl_X10_reckon al_11 al_949 hd_X10_reckon rfl rfl ⟨Nat.le_of_ble_eq_true rfl, Nat.le_of_ble_eq_true rfl⟩ rfl hl.1 rfl (Nat.le_of_ble_eq_true rfl) dX10_price_1 ⟨Nat.zero_le _, Nat.zero_le _⟩) ?_
  intro σ2 H locs hw hW
  refine lv_aload_n hx hb dX10_price_4 rfl (lv_at hl 0 rfl) ?_
  refine n_iconst hx hb dX10_price_5 ?_
  refine fin_CI hW (run_V (k := 17) (As := [.int (iN 0)]) (rest := []) S hK hE hW (c_X10_chain l G κ tl ad σ2 0 _ hw H.size) rfl rfl al_955 al_957 sl_X10_chain al_11 al_958 hd_X10_chain rfl rfl ⟨Nat.le_of_ble_eq_true rfl, Nat.le_of_ble_eq_true rfl⟩ rfl hl.1 rfl (Nat.le_of_ble_eq_true rfl) dX10_price_6 ⟨Nat.zero_le _, Nat.zero_le _⟩) ?_
  intro r3 H locs hw hW
  refine n_ldc (n := 1000000000) hx hb hown (hts _ (List.mem_cons_of_mem _ al_950)) (by decide) dX10_price_9 ?_
  refine n_icmp_ge hx hb hw.1 (rg_c _ rfl) hw.2.1 hw.2.2 (tgt := 24) dX10_price_11 (by decide) (fun hw => ?_) (fun hw => ?_)
  · exact hB24 σ2 H locs ls hw hW (lv_sub hl [] rfl)
  · refine lv_aload_n hx hb dX10_price_14 rfl (lv_at hl 0 rfl) ?_
    refine n_iconst hx hb dX10_price_15 ?_
    refine fin_CI hW (run_V (k := 17) (As := [.int (iN 1)]) (rest := []) S hK hE hW (c_X10_chain l G κ tl ad σ2 1 _ hw H.size) rfl rfl al_955 al_957 sl_X10_chain al_11 al_958 hd_X10_chain rfl rfl ⟨Nat.le_of_ble_eq_true rfl, Nat.le_of_ble_eq_true rfl⟩ rfl hl.1 rfl (Nat.le_of_ble_eq_true rfl) dX10_price_16 ⟨Nat.zero_le _, Nat.zero_le _⟩) ?_
    intro r5 H locs hw hW
    refine n_ldc (n := 1000000000) hx hb hown (hts _ (List.mem_cons_of_mem _ al_950)) (by decide) dX10_price_19 ?_
    refine n_icmp_lt hx hb hw.1 (rg_c _ rfl) hw.2.1 hw.2.2 (tgt := 29) dX10_price_21 (by decide) (fun hw => ?_) (fun hw => ?_)
    · refine lv_aload_n hx hb dX10_price_29 rfl (lv_at hl 0 rfl) ?_
      refine n_iconst hx hb dX10_price_30 ?_
      refine fin_CI hW (run_V (k := 17) (As := [.int (iN 0)]) (rest := []) S hK hE hW (c_X10_chain l G κ tl ad σ2 0 _ hw H.size) rfl rfl al_955 al_957 sl_X10_chain al_11 al_958 hd_X10_chain rfl rfl ⟨Nat.le_of_ble_eq_true rfl, Nat.le_of_ble_eq_true rfl⟩ rfl hl.1 rfl (Nat.le_of_ble_eq_true rfl) dX10_price_31 ⟨Nat.zero_le _, Nat.zero_le _⟩) ?_
      intro r7 H locs hw hW
      refine lv_aload_n hx hb dX10_price_34 rfl (lv_at hl 0 rfl) ?_
      refine n_iconst hx hb dX10_price_35 ?_
      refine fin_CI hW (run_V (k := 17) (As := [.int (iN 1)]) (rest := [.int (iN r7)]) S hK hE hW (c_X10_chain l G κ tl ad σ2 1 _ hw H.size) rfl rfl al_955 al_957 sl_X10_chain al_11 al_958 hd_X10_chain rfl rfl ⟨Nat.le_of_ble_eq_true rfl, Nat.le_of_ble_eq_true rfl⟩ rfl hl.1 rfl (Nat.le_of_ble_eq_true rfl) dX10_price_36 ⟨Nat.zero_le _, Nat.zero_le _⟩) ?_
      intro r9 H locs hw hW
      refine n_iadd hx hb dX10_price_39 ?_
      exact hB40 σ2 (r7 + r9) H locs ls hw hW (lv_sub hl [] rfl)
    · exact hB24 σ2 H locs ls hw hW (lv_sub hl [] rfl)
set_option maxHeartbeats 4000000 in
set_option maxRecDepth 100000 in
theorem c_X10_isOn (l : Launch) (G : Gt) (κ : Nat)  (tl : Bool) (ad : Nat → Nat)  (σ : Mem) (v1 : Int) (v2 : Int) (v3 : Int) (v4 : Int) (post : Int → Prop) (hw : w_X10_isOn  σ v1 v2 v3 v4 post) : CI l yX10_isOn (Cond.code yX10_isOn cX10_isOn 6 (some .boolean)) ({ frames := 3, cells := 0, slots := 0, locals := 82 } : Room) G (shW κ tl) ad σ [.ref (ad 17), .int (iN v1), .int (iN v2), .int (iN v3), .int (iN v4)] post := by
  refine s_all (y := yX10_isOn) (code := cX10_isOn) (maxL := 6) (ret := (some .boolean)) (rm := ({ frames := 3, cells := 0, slots := 0, locals := 82 } : Room)) (av := [.ref (ad 17), .int (iN v1), .int (iN v2), .int (iN v3), .int (iN v4)]) (Qc := fun sz => QI G (shW κ tl) ad σ post (sz)) (by decide) (Nat.le_of_ble_eq_true rfl) ?_
  intro p e s m below meth c S hr hlk _ hK hE hW ls hl
  obtain ⟨hx, hb, hml, hown, hts⟩ := id S
  replace hl : lv_has ls 6 [(0, .ref (ad 17)), (1, .int (iN v1)), (2, .int (iN v2)), (3, .int (iN v3)), (4, .int (iN v4))] := hl
  have hB70 : ∀  (s0_70 : Int) (H : Heap) (locs : List Loc) (ls : Array Slot), w_X10_isOn_B70 σ s0_70 post → Wd G (shW κ tl) ad σ (Aw ad (shW κ tl).length s.heap.size) s.heap H locs → lv_has ls 6 [] → W p l e ({ frames := 3, cells := 0, slots := 0, locals := 82 } : Room) s m ([.ref (ad 17), .int (iN v1), .int (iN v2), .int (iN v3), .int (iN v4)] : List Value).toArray below meth c H locs 0 0 (MQ below (QI G (shW κ tl) ad σ post (s.heap.size)) ([.ref (ad 17), .int (iN v1), .int (iN v2), .int (iN v3), .int (iN v4)] : List Value).toArray s 0 0 (Aw ad (shW κ tl).length s.heap.size)) (F0 m 70 ls [.int (iN s0_70)]) := by
    intro s0_70 H locs ls hw hW hl
    unfold w_X10_isOn_B70 at hw
    exact rz_CI hx hb hr hlk hK hW hw.1 hw.2 dX10_isOn_70
  have hB69 : ∀   (H : Heap) (locs : List Loc) (ls : Array Slot), w_X10_isOn_B69 σ post → Wd G (shW κ tl) ad σ (Aw ad (shW κ tl).length s.heap.size) s.heap H locs → lv_has ls 6 [] → W p l e ({ frames := 3, cells := 0, slots := 0, locals := 82 } : Room) s m ([.ref (ad 17), .int (iN v1), .int (iN v2), .int (iN v3), .int (iN v4)] : List Value).toArray below meth c H locs 0 0 (MQ below (QI G (shW κ tl) ad σ post (s.heap.size)) ([.ref (ad 17), .int (iN v1), .int (iN v2), .int (iN v3), .int (iN v4)] : List Value).toArray s 0 0 (Aw ad (shW κ tl).length s.heap.size)) (F0 m 69 ls []) := by
    intro  H locs ls hw hW hl
    unfold w_X10_isOn_B69 at hw
    refine n_iconst hx hb dX10_isOn_69 ?_
    exact hB70 0 H locs ls hw hW (lv_sub hl [] rfl)
  have hB39 : ∀  (v2_39 : Int) (v3_39 : Int) (v4_39 : Int) (s0_39 : Int) (H : Heap) (locs : List Loc) (ls : Array Slot), w_X10_isOn_B39 σ v2_39 v3_39 v4_39 s0_39 post → Wd G (shW κ tl) ad σ (Aw ad (shW κ tl).length s.heap.size) s.heap H locs → lv_has ls 6 [(0, .ref (ad 17)), (2, .int (iN v2_39)), (3, .int (iN v3_39)), (4, .int (iN v4_39))] → W p l e ({ frames := 3, cells := 0, slots := 0, locals := 82 } : Room) s m ([.ref (ad 17), .int (iN v1), .int (iN v2), .int (iN v3), .int (iN v4)] : List Value).toArray below meth c H locs 0 0 (MQ below (QI G (shW κ tl) ad σ post (s.heap.size)) ([.ref (ad 17), .int (iN v1), .int (iN v2), .int (iN v3), .int (iN v4)] : List Value).toArray s 0 0 (Aw ad (shW κ tl).length s.heap.size)) (F0 m 39 ls [.int (iN s0_39)]) := by
    intro v2_39 v3_39 v4_39 s0_39 H locs ls hw hW hl
    unfold w_X10_isOn_B39 at hw
    refine lv_istore (lv' := [(5, .int (iN s0_39)), (0, .ref (ad 17)), (2, .int (iN v2_39)), (3, .int (iN v3_39)), (4, .int (iN v4_39))]) hx hb dX10_isOn_39 hl (by decide) rfl (fun ls hl => ?_)
    refine lv_iload hx hb dX10_isOn_41 (lv_at hl 0 rfl) ?_
    refine n_if_lt hx hb hw.1 hw.2.1 hw.2.2 (tgt := 69) dX10_isOn_43 (by decide) (fun hw => ?_) (fun hw => ?_)
    · exact hB69  H locs ls hw hW (lv_sub hl [] rfl)
    · refine lv_iload hx hb dX10_isOn_46 (lv_at hl 0 rfl) ?_
      refine lv_aload_n hx hb dX10_isOn_48 rfl (lv_at hl 1 rfl) ?_
      refine g_getr hx hb hts hown hK hW 17 rfl (q := 29) rfl uw_X10 14 (by decide) rfl al_777 (fun _ h9 => h9) dX10_isOn_49 ?_
      refine n_bipush hx hb dX10_isOn_52 (by decide) ?_
      refine lv_iload_n hx hb dX10_isOn_54 rfl (lv_at hl 2 rfl) ?_
      refine n_imul hx hb dX10_isOn_55 ?_
      refine lv_iload_n hx hb dX10_isOn_56 rfl (lv_at hl 3 rfl) ?_
      refine n_iadd hx hb dX10_isOn_57 ?_
      refine g_ald hx hb hK hW 29 rfl hw.1 dX10_isOn_58 ?_
      replace hw := hw.2
      refine n_iadd hx hb dX10_isOn_59 ?_
      refine lv_iload hx hb dX10_isOn_60 (lv_at hl 4 rfl) ?_
      refine n_icmp_ne hx hb hw.1 hw.2.1 hw.2.2.1 hw.2.2.2 (tgt := 69) dX10_isOn_62 (by decide) (fun hw => ?_) (fun hw => ?_)
      · exact hB69  H locs ls hw hW (lv_sub hl [] rfl)
      · refine n_iconst hx hb dX10_isOn_65 ?_
        refine lv_goto (tgt := 70) hx hb dX10_isOn_66 (by decide) ?_
        exact hB70 1 H locs ls hw hW (lv_sub hl [] rfl)
  unfold w_X10_isOn at hw
  refine lv_aload_n hx hb dX10_isOn_0 rfl (lv_at hl 0 rfl) ?_
  refine g_getr hx hb hts hown hK hW 17 rfl (q := 29) rfl uw_X10 14 (by decide) rfl al_777 (fun _ h9 => h9) dX10_isOn_1 ?_
  refine n_bipush hx hb dX10_isOn_4 (by decide) ?_
  refine lv_iload_n hx hb dX10_isOn_6 rfl (lv_at hl 2 rfl) ?_
  refine n_imul hx hb dX10_isOn_7 ?_
  refine lv_iload_n hx hb dX10_isOn_8 rfl (lv_at hl 3 rfl) ?_
  refine n_iadd hx hb dX10_isOn_9 ?_
  refine g_ald hx hb hK hW 29 rfl hw.1 dX10_isOn_10 ?_
  replace hw := hw.2
  refine n_ldc (n := 1000000000) hx hb hown (hts _ (List.mem_cons_of_mem _ al_950)) (by decide) dX10_isOn_11 ?_
  refine n_icmp_lt hx hb hw.1 (rg_c _ rfl) hw.2.1 hw.2.2 (tgt := 18) dX10_isOn_13 (by decide) (fun hw => ?_) (fun hw => ?_)
  · refine lv_iload_n hx hb dX10_isOn_18 rfl (lv_at hl 1 rfl) ?_
    refine n_if_ge hx hb hw.1 hw.2.1 hw.2.2 (tgt := 26) dX10_isOn_19 (by decide) (fun hw => ?_) (fun hw => ?_)
    · refine lv_aload_n hx hb dX10_isOn_26 rfl (lv_at hl 0 rfl) ?_
      refine lv_iload_n hx hb dX10_isOn_27 rfl (lv_at hl 1 rfl) ?_
      refine lv_aload_n hx hb dX10_isOn_28 rfl (lv_at hl 0 rfl) ?_
      refine g_getr hx hb hts hown hK hW 17 rfl (q := 30) rfl uw_X10 15 (by decide) rfl al_778 (fun _ h9 => h9) dX10_isOn_29 ?_
      refine lv_iload_n hx hb dX10_isOn_32 rfl (lv_at hl 1 rfl) ?_
      refine g_ald hx hb hK hW 30 rfl hw.1 dX10_isOn_33 ?_
      replace hw := hw.2
      refine lv_iload_n hx hb dX10_isOn_34 rfl (lv_at hl 2 rfl) ?_
      refine lv_iload_n hx hb dX10_isOn_35 rfl (lv_at hl 3 rfl) ?_
      refine fin_CI hW (run_V (k := 17) (As := [.int (iN v1), .int (iN (σ 30 (v1).toNat)), .int (iN v2), .int (iN v3)]) (rest := []) S hK hE hW (c_X10_stepOf l G κ tl ad σ v1 (σ 30 (v1).toNat) v2 v3 _ hw s.heap.size) rfl rfl al_922 al_924 sl_X10_stepOf al_11 al_925 hd_X10_stepOf rfl rfl ⟨Nat.le_of_ble_eq_true rfl, Nat.le_of_ble_eq_true rfl⟩ rfl hl.1 rfl (Nat.le_of_ble_eq_true rfl) dX10_isOn_36 ⟨Nat.zero_le _, Nat.zero_le _⟩) ?_
      intro r1 H locs hw hW
      exact hB39 v2 v3 v4 r1 H locs ls hw hW (lv_sub hl [0, 2, 3, 4] rfl)
    · refine n_iconst hx hb dX10_isOn_22 ?_
      refine lv_goto (tgt := 39) hx hb dX10_isOn_23 (by decide) ?_
      exact hB39 v2 v3 v4 0 s.heap [] ls hw hW (lv_sub hl [0, 2, 3, 4] rfl)
  · refine n_iconst hx hb dX10_isOn_16 ?_
    exact rz_CI hx hb hr hlk hK hW (Or.inl rfl) hw dX10_isOn_17
set_option maxHeartbeats 4000000 in
set_option maxRecDepth 100000 in
theorem c_X10_way (l : Launch) (G : Gt) (κ : Nat)  (tl : Bool) (ad : Nat → Nat)  (σ : Mem) (v1 : Int) (post : Int → Mem → Prop) (hw : w_X10_way  σ v1 post) : CM l yX10_way (Cond.code yX10_way cX10_way 6 (some .int)) ({ frames := 6, cells := 0, slots := 0, locals := 147 } : Room) G (shW κ tl) ad σ [.ref (ad 17), .int (iN v1)] post := by
  refine s_all (y := yX10_way) (code := cX10_way) (maxL := 6) (ret := (some .int)) (rm := ({ frames := 6, cells := 0, slots := 0, locals := 147 } : Room)) (av := [.ref (ad 17), .int (iN v1)]) (Qc := fun sz => QM G (shW κ tl) ad post (sz)) (by decide) (Nat.le_of_ble_eq_true rfl) ?_
  intro p e s m below meth c S hr hlk _ hK hE hW ls hl
  obtain ⟨hx, hb, hml, hown, hts⟩ := id S
  replace hl : lv_has ls 6 [(0, .ref (ad 17)), (1, .int (iN v1))] := hl
  have hB148 : ∀ (σ_148 : Mem) (v1_148 : Int) (H : Heap) (locs : List Loc) (ls : Array Slot), w_X10_way_B148 σ_148 v1_148 post → Wd G (shW κ tl) ad σ_148 (Aw ad (shW κ tl).length s.heap.size) s.heap H locs → lv_has ls 6 [(0, .ref (ad 17)), (1, .int (iN v1_148))] → W p l e ({ frames := 6, cells := 0, slots := 0, locals := 147 } : Room) s m ([.ref (ad 17), .int (iN v1)] : List Value).toArray below meth c H locs 0 0 (MQ below (QM G (shW κ tl) ad post (s.heap.size)) ([.ref (ad 17), .int (iN v1)] : List Value).toArray s 0 0 (Aw ad (shW κ tl).length s.heap.size)) (F0 m 148 ls []) := by
    intro σ_148 v1_148 H locs ls hw hW hl
    unfold w_X10_way_B148 at hw
    refine lv_aload_n hx hb dX10_way_148 rfl (lv_at hl 0 rfl) ?_
    refine g_getr hx hb hts hown hK hW 17 rfl (q := 30) rfl uw_X10 15 (by decide) rfl al_778 (fun _ h9 => h9) dX10_way_149 ?_
    refine lv_iload_n hx hb dX10_way_152 rfl (lv_at hl 1 rfl) ?_
    refine g_ald hx hb hK hW 30 rfl hw.1 dX10_way_153 ?_
    replace hw := hw.2
    exact r_CM hx hb hr hlk hK hW hw dX10_way_154
  have hL52 : ∀ (v1_52 : Int) (n : Nat) (v2_52 : Int) (v3_52 : Int) (v4_52 : Int) (σ_52 : Mem) (H : Heap) (locs : List Loc) (ls : Array Slot), w_X10_way_L52 v1_52 post n v2_52 v3_52 v4_52 σ_52 → Wd G (shW κ tl) ad σ_52 (Aw ad (shW κ tl).length s.heap.size) s.heap H locs → lv_has ls 6 [(0, .ref (ad 17)), (1, .int (iN v1_52)), (2, .int (iN v2_52)), (3, .int (iN v3_52)), (4, .int (iN v4_52))] → W p l e ({ frames := 6, cells := 0, slots := 0, locals := 147 } : Room) s m ([.ref (ad 17), .int (iN v1)] : List Value).toArray below meth c H locs 0 0 (MQ below (QM G (shW κ tl) ad post (s.heap.size)) ([.ref (ad 17), .int (iN v1)] : List Value).toArray s 0 0 (Aw ad (shW κ tl).length s.heap.size)) (F0 m 52 ls []) := by
    intro v1_52 n
    induction n with
    | zero =>
      intro v2_52 v3_52 v4_52 σ_52 H locs ls hw
      exact hw.elim
    | succ n52 ih52 =>
      intro v2_52 v3_52 v4_52 σ_52 H locs ls hw hW hl
      replace hw : w_X10_way_L52_body v1_52 post (w_X10_way_L52 v1_52 post n52) v2_52 v3_52 v4_52 σ_52 := hw
      have hB122 : ∀ (σ_122 : Mem) (v4_122 : Int) (v5_122 : Int) (s0_122 : Int) (s1_122 : Int) (s2_122 : Int) (H : Heap) (locs : List Loc) (ls : Array Slot), w_X10_way_B122 σ_122 v1_52 v4_122 v5_122 s0_122 s1_122 s2_122 post (w_X10_way_L52 v1_52 post n52) → Wd G (shW κ tl) ad σ_122 (Aw ad (shW κ tl).length s.heap.size) s.heap H locs → lv_has ls 6 [(0, .ref (ad 17)), (1, .int (iN v1_52)), (4, .int (iN v4_122)), (5, .int (iN v5_122))] → W p l e ({ frames := 6, cells := 0, slots := 0, locals := 147 } : Room) s m ([.ref (ad 17), .int (iN v1)] : List Value).toArray below meth c H locs 0 0 (MQ below (QM G (shW κ tl) ad post (s.heap.size)) ([.ref (ad 17), .int (iN v1)] : List Value).toArray s 0 0 (Aw ad (shW κ tl).length s.heap.size)) (F0 m 122 ls [.int (iN s0_122), .int (iN s1_122), .int (iN s2_122)]) := by
        intro σ_122 v4_122 v5_122 s0_122 s1_122 s2_122 H locs ls hw hW hl
        unfold w_X10_way_B122 at hw
        refine n_iadd hx hb dX10_way_122 ?_
        refine n_isub hx hb dX10_way_123 ?_
        refine lv_istore_n (lv' := [(2, .int (iN (s2_122 - (s1_122 + s0_122)))), (0, .ref (ad 17)), (1, .int (iN v1_52)), (4, .int (iN v4_122)), (5, .int (iN v5_122))]) hx hb dX10_way_124 rfl hl (by decide) rfl (fun ls hl => ?_)
        refine lv_aload_n hx hb dX10_way_125 rfl (lv_at hl 1 rfl) ?_
        refine g_getr hx hb hts hown hK hW 17 rfl (q := 30) rfl uw_X10 15 (by decide) rfl al_778 (fun _ h9 => h9) dX10_way_126 ?_
        refine lv_iload hx hb dX10_way_129 (lv_at hl 3 rfl) ?_
        refine lv_iload hx hb dX10_way_131 (lv_at hl 4 rfl) ?_
        refine g_ast hx hb hK hW 30 rfl hw.1 dX10_way_133 (fun σ16 H locs hτ hW => ?_)
        replace hw := hw.2 σ16 hτ
        refine lv_iload hx hb dX10_way_134 (lv_at hl 3 rfl) ?_
        refine lv_istore_n (lv' := [(3, .int (iN v4_122)), (2, .int (iN (s2_122 - (s1_122 + s0_122)))), (0, .ref (ad 17)), (1, .int (iN v1_52)), (4, .int (iN v4_122)), (5, .int (iN v5_122))]) hx hb dX10_way_136 rfl hl (by decide) rfl (fun ls hl => ?_)
        refine lv_aload_n hx hb dX10_way_137 rfl (lv_at hl 2 rfl) ?_
        refine lv_iload hx hb dX10_way_138 (lv_at hl 4 rfl) ?_
        refine fin_CI hW (run_V (k := 17) (As := [.int (iN v4_122)]) (rest := []) S hK hE hW (c_X10_after l G κ tl ad σ16 v4_122 _ hw H.size) rfl rfl al_918 al_920 sl_X10_after al_11 al_921 hd_X10_after rfl rfl ⟨Nat.le_of_ble_eq_true rfl, Nat.le_of_ble_eq_true rfl⟩ rfl hl.1 rfl (Nat.le_of_ble_eq_true rfl) dX10_way_140 ⟨Nat.zero_le _, Nat.zero_le _⟩) ?_
        intro r17 H locs hw hW
        refine lv_istore (lv' := [(4, .int (iN r17)), (3, .int (iN v4_122)), (2, .int (iN (s2_122 - (s1_122 + s0_122)))), (0, .ref (ad 17)), (1, .int (iN v1_52)), (5, .int (iN v5_122))]) hx hb dX10_way_143 hl (by decide) rfl (fun ls hl => ?_)
        refine lv_goto (tgt := 52) hx hb dX10_way_145 (by decide) ?_
        exact ih52 (s2_122 - (s1_122 + s0_122)) v4_122 r17 σ16 H locs ls hw hW (lv_sub hl [3, 4, 2, 1, 0] rfl)
      have hL66 : ∀ (σ_66 : Mem) (v2_66 : Int) (v3_66 : Int) (v4_66 : Int) (n : Nat) (v5_66 : Int) (H : Heap) (locs : List Loc) (ls : Array Slot), w_X10_way_L66 σ_66 v1_52 v2_66 v3_66 v4_66 post (w_X10_way_L52 v1_52 post n52) n v5_66 → Wd G (shW κ tl) ad σ_66 (Aw ad (shW κ tl).length s.heap.size) s.heap H locs → lv_has ls 6 [(0, .ref (ad 17)), (1, .int (iN v1_52)), (2, .int (iN v2_66)), (3, .int (iN v3_66)), (4, .int (iN v4_66)), (5, .int (iN v5_66))] → W p l e ({ frames := 6, cells := 0, slots := 0, locals := 147 } : Room) s m ([.ref (ad 17), .int (iN v1)] : List Value).toArray below meth c H locs 0 0 (MQ below (QM G (shW κ tl) ad post (s.heap.size)) ([.ref (ad 17), .int (iN v1)] : List Value).toArray s 0 0 (Aw ad (shW κ tl).length s.heap.size)) (F0 m 66 ls []) := by
        intro σ_66 v2_66 v3_66 v4_66 n
        induction n with
        | zero =>
          intro v5_66 H locs ls hw
          exact hw.elim
        | succ n66 ih66 =>
          intro v5_66 H locs ls hw hW hl
          replace hw : w_X10_way_L66_body σ_66 v1_52 v2_66 v3_66 v4_66 post (w_X10_way_L52 v1_52 post n52) (w_X10_way_L66 σ_66 v1_52 v2_66 v3_66 v4_66 post (w_X10_way_L52 v1_52 post n52) n66) v5_66 := hw
          unfold w_X10_way_L66_body at hw
          refine lv_aload_n hx hb dX10_way_66 rfl (lv_at hl 0 rfl) ?_
          refine lv_iload_n hx hb dX10_way_67 rfl (lv_at hl 3 rfl) ?_
          refine lv_iload hx hb dX10_way_68 (lv_at hl 4 rfl) ?_
          refine lv_iload hx hb dX10_way_70 (lv_at hl 5 rfl) ?_
          refine lv_iload_n hx hb dX10_way_72 rfl (lv_at hl 2 rfl) ?_
          refine fin_CI hW (run_V (k := 17) (As := [.int (iN v3_66), .int (iN v4_66), .int (iN v5_66), .int (iN v2_66)]) (rest := []) S hK hE hW (c_X10_isOn l G κ tl ad σ_66 v3_66 v4_66 v5_66 v2_66 _ hw H.size) rfl rfl al_968 al_970 sl_X10_isOn al_11 al_971 hd_X10_isOn rfl rfl ⟨Nat.le_of_ble_eq_true rfl, Nat.le_of_ble_eq_true rfl⟩ rfl hl.1 rfl (Nat.le_of_ble_eq_true rfl) dX10_way_73 ⟨Nat.zero_le _, Nat.zero_le _⟩) ?_
          intro r19 H locs hw hW
          refine n_if_ne hx hb hw.1 hw.2.1 hw.2.2 (tgt := 85) dX10_way_76 (by decide) (fun hw => ?_) (fun hw => ?_)
          · refine lv_iload_n hx hb dX10_way_85 rfl (lv_at hl 2 rfl) ?_
            refine lv_aload_n hx hb dX10_way_86 rfl (lv_at hl 0 rfl) ?_
            refine g_getr hx hb hts hown hK hW 17 rfl (q := 28) rfl uw_X10 13 (by decide) rfl al_776 (fun _ h9 => h9) dX10_way_87 ?_
            refine n_bipush hx hb dX10_way_90 (by decide) ?_
            refine lv_iload hx hb dX10_way_92 (lv_at hl 4 rfl) ?_
            refine n_imul hx hb dX10_way_94 ?_
            refine lv_iload hx hb dX10_way_95 (lv_at hl 5 rfl) ?_
            refine n_iadd hx hb dX10_way_97 ?_
            refine g_ald hx hb hK hW 28 rfl hw.1 dX10_way_98 ?_
            replace hw := hw.2
            refine lv_iload_n hx hb dX10_way_99 rfl (lv_at hl 3 rfl) ?_
            refine n_if_ge hx hb hw.1 hw.2.1 hw.2.2 (tgt := 107) dX10_way_100 (by decide) (fun hw => ?_) (fun hw => ?_)
            · refine lv_aload_n hx hb dX10_way_107 rfl (lv_at hl 0 rfl) ?_
              refine lv_iload_n hx hb dX10_way_108 rfl (lv_at hl 3 rfl) ?_
              refine lv_aload_n hx hb dX10_way_109 rfl (lv_at hl 0 rfl) ?_
              refine g_getr hx hb hts hown hK hW 17 rfl (q := 30) rfl uw_X10 15 (by decide) rfl al_778 (fun _ h9 => h9) dX10_way_110 ?_
              refine lv_iload_n hx hb dX10_way_113 rfl (lv_at hl 3 rfl) ?_
              refine g_ald hx hb hK hW 30 rfl hw.1 dX10_way_114 ?_
              replace hw := hw.2
              refine lv_iload hx hb dX10_way_115 (lv_at hl 4 rfl) ?_
              refine lv_iload hx hb dX10_way_117 (lv_at hl 5 rfl) ?_
              refine fin_CI hW (run_V (k := 17) (As := [.int (iN v3_66), .int (iN (σ_66 30 (v3_66).toNat)), .int (iN v4_66), .int (iN v5_66)]) (rest := [.int (iN (σ_66 28 (((80 * v4_66) + v5_66)).toNat)), .int (iN v2_66)]) S hK hE hW (c_X10_stepOf l G κ tl ad σ_66 v3_66 (σ_66 30 (v3_66).toNat) v4_66 v5_66 _ hw H.size) rfl rfl al_922 al_924 sl_X10_stepOf al_11 al_925 hd_X10_stepOf rfl rfl ⟨Nat.le_of_ble_eq_true rfl, Nat.le_of_ble_eq_true rfl⟩ rfl hl.1 rfl (Nat.le_of_ble_eq_true rfl) dX10_way_119 ⟨Nat.zero_le _, Nat.zero_le _⟩) ?_
              intro r21 H locs hw hW
              exact hB122 σ_66 v4_66 v5_66 r21 (σ_66 28 (((80 * v4_66) + v5_66)).toNat) v2_66 H locs ls hw hW (lv_sub hl [0, 1, 4, 5] rfl)
            · refine n_iconst hx hb dX10_way_103 ?_
              refine lv_goto (tgt := 122) hx hb dX10_way_104 (by decide) ?_
              exact hB122 σ_66 v4_66 v5_66 0 (σ_66 28 (((80 * v4_66) + v5_66)).toNat) v2_66 H locs ls hw hW (lv_sub hl [0, 1, 4, 5] rfl)
          · refine lv_iinc (v := iN (v5_66 + 1)) (lv' := [(5, .int (iN (v5_66 + 1))), (0, .ref (ad 17)), (1, .int (iN v1_52)), (2, .int (iN v2_66)), (3, .int (iN v3_66)), (4, .int (iN v4_66))]) hx hb dX10_way_79 hl (k := 5) rfl (iN_add _ _) (by decide) rfl (fun ls hl => ?_)
            refine lv_goto (tgt := 66) hx hb dX10_way_82 (by decide) ?_
            exact ih66 (v5_66 + 1) H locs ls hw hW (lv_sub hl [1, 2, 3, 4, 5, 0] rfl)
      unfold w_X10_way_L52_body at hw
      refine lv_iload hx hb dX10_way_52 (lv_at hl 4 rfl) ?_
      refine n_if_lt hx hb hw.1 hw.2.1 hw.2.2 (tgt := 148) dX10_way_54 (by decide) (fun hw => ?_) (fun hw => ?_)
      · exact hB148 σ_52 v1_52 H locs ls hw hW (lv_sub hl [0, 1] rfl)
      · refine lv_iload hx hb dX10_way_57 (lv_at hl 4 rfl) ?_
        refine lv_iload_n hx hb dX10_way_59 rfl (lv_at hl 1 rfl) ?_
        refine n_icmp_gt hx hb hw.1 hw.2.1 hw.2.2.1 hw.2.2.2 (tgt := 148) dX10_way_60 (by decide) (fun hw => ?_) (fun hw => ?_)
        · exact hB148 σ_52 v1_52 H locs ls hw hW (lv_sub hl [0, 1] rfl)
        · refine n_iconst hx hb dX10_way_63 ?_
          refine lv_istore (lv' := [(5, .int (iN 0)), (0, .ref (ad 17)), (1, .int (iN v1_52)), (2, .int (iN v2_52)), (3, .int (iN v3_52)), (4, .int (iN v4_52))]) hx hb dX10_way_64 hl (by decide) rfl (fun ls hl => ?_)
          obtain ⟨n, hw⟩ := hw
          exact hL66 σ_52 v2_52 v3_52 v4_52 n 0 H locs ls hw hW (lv_sub hl [1, 2, 3, 4, 5, 0] rfl)
  unfold w_X10_way at hw
  refine lv_iload_n hx hb dX10_way_0 rfl (lv_at hl 1 rfl) ?_
  refine n_iconst hx hb dX10_way_1 ?_
  refine lv_aload_n hx hb dX10_way_2 rfl (lv_at hl 0 rfl) ?_
  refine g_get hx hb hts hown hK hW 17 rfl rfl uw_X10 1 (by decide) rfl al_764 (fun _ h9 => h9) dX10_way_3 ?_
  refine n_iconst hx hb dX10_way_6 ?_
  refine n_isub hx hb dX10_way_7 ?_
  refine fin_CI hW (run_S (As := [.int (iN v1), .int (iN 0), .int (iN ((σ 17 1) - 1))]) (rest := []) S hK hE hW (c_X10_in l G κ tl ad σ v1 0 ((σ 17 1) - 1) _ hw s.heap.size) al_833 al_834 al_11 al_835 hd_X10_in.2 rfl rfl ⟨Nat.le_of_ble_eq_true rfl, Nat.le_of_ble_eq_true rfl⟩ rfl hl.1 rfl (Nat.le_of_ble_eq_true rfl) dX10_way_8 ⟨Nat.zero_le _, Nat.zero_le _⟩) ?_
  intro r1 H locs hw hW
  refine n_if_ne hx hb hw.1 hw.2.1 hw.2.2 (tgt := 16) dX10_way_11 (by decide) (fun hw => ?_) (fun hw => ?_)
  · refine lv_aload_n hx hb dX10_way_16 rfl (lv_at hl 0 rfl) ?_
    refine fin_CM hW (run_V (k := 17) (As := []) (rest := []) S hK hE hW (c_X10_price l G κ tl ad σ _ hw H.size) rfl rfl al_967 al_943 al_944 al_11 al_945 hd_X10_price rfl rfl ⟨Nat.le_of_ble_eq_true rfl, Nat.le_of_ble_eq_true rfl⟩ rfl hl.1 rfl (Nat.le_of_ble_eq_true rfl) dX10_way_17 ⟨Nat.zero_le _, Nat.zero_le _⟩) ?_
    intro r3 σ4 H locs hw hW; dsimp only at hw
    refine n_if_ge hx hb hw.1 hw.2.1 hw.2.2 (tgt := 26) dX10_way_20 (by decide) (fun hw => ?_) (fun hw => ?_)
    · refine lv_aload_n hx hb dX10_way_26 rfl (lv_at hl 0 rfl) ?_
      refine lv_aload_n hx hb dX10_way_27 rfl (lv_at hl 0 rfl) ?_
      refine g_getr hx hb hts hown hK hW 17 rfl (q := 18) rfl uw_X10 2 (by decide) rfl al_765 (fun _ h9 => h9) dX10_way_28 ?_
      refine lv_iload_n hx hb dX10_way_31 rfl (lv_at hl 1 rfl) ?_
      refine g_ald hx hb hK hW 18 rfl hw.1 dX10_way_32 ?_
      replace hw := hw.2
      refine fin_CI hW (run_V (k := 17) (As := [.int (iN (σ4 18 (v1).toNat))]) (rest := []) S hK hE hW (c_X10_chain l G κ tl ad σ4 (σ4 18 (v1).toNat) _ hw H.size) rfl rfl al_955 al_957 sl_X10_chain al_11 al_958 hd_X10_chain rfl rfl ⟨Nat.le_of_ble_eq_true rfl, Nat.le_of_ble_eq_true rfl⟩ rfl hl.1 rfl (Nat.le_of_ble_eq_true rfl) dX10_way_33 ⟨Nat.zero_le _, Nat.zero_le _⟩) ?_
      intro r5 H locs hw hW
      refine lv_istore_n (lv' := [(2, .int (iN r5)), (0, .ref (ad 17)), (1, .int (iN v1))]) hx hb dX10_way_36 rfl hl (by decide) rfl (fun ls hl => ?_)
      refine n_bipush hx hb dX10_way_37 (by decide) ?_
      refine lv_istore_n (lv' := [(3, .int (iN (-2))), (2, .int (iN r5)), (0, .ref (ad 17)), (1, .int (iN v1))]) hx hb dX10_way_39 rfl hl (by decide) rfl (fun ls hl => ?_)
      refine lv_aload_n hx hb dX10_way_40 rfl (lv_at hl 2 rfl) ?_
      refine lv_aload_n hx hb dX10_way_41 rfl (lv_at hl 2 rfl) ?_
      refine g_getr hx hb hts hown hK hW 17 rfl (q := 18) rfl uw_X10 2 (by decide) rfl al_765 (fun _ h9 => h9) dX10_way_42 ?_
      refine lv_iload_n hx hb dX10_way_45 rfl (lv_at hl 3 rfl) ?_
      refine g_ald hx hb hK hW 18 rfl hw.1 dX10_way_46 ?_
      replace hw := hw.2
      refine fin_CI hW (run_V (k := 17) (As := [.int (iN (σ4 18 (v1).toNat))]) (rest := []) S hK hE hW (c_X10_first l G κ tl ad σ4 (σ4 18 (v1).toNat) _ hw H.size) rfl rfl al_959 al_961 sl_X10_first al_11 al_962 hd_X10_first rfl rfl ⟨Nat.le_of_ble_eq_true rfl, Nat.le_of_ble_eq_true rfl⟩ rfl hl.1 rfl (Nat.le_of_ble_eq_true rfl) dX10_way_47 ⟨Nat.zero_le _, Nat.zero_le _⟩) ?_
      intro r7 H locs hw hW
      refine lv_istore (lv' := [(4, .int (iN r7)), (3, .int (iN (-2))), (2, .int (iN r5)), (0, .ref (ad 17)), (1, .int (iN v1))]) hx hb dX10_way_50 hl (by decide) rfl (fun ls hl => ?_)
      obtain ⟨n, hw⟩ := hw
      exact hL52 v1 n r5 (-2) r7 σ4 H locs ls hw hW (lv_sub hl [3, 4, 2, 1, 0] rfl)
    · refine n_bipush hx hb dX10_way_23 (by decide) ?_
      exact r_CM hx hb hr hlk hK hW hw dX10_way_25
  · refine n_iconst hx hb dX10_way_14 ?_
    exact r_CM hx hb hr hlk hK hW hw dX10_way_15
set_option maxHeartbeats 4000000 in
set_option maxRecDepth 100000 in
theorem c_X10_stuck (l : Launch) (G : Gt) (κ : Nat)  (tl : Bool) (ad : Nat → Nat)  (σ : Mem)  (post : Int → Mem → Prop) (hw : w_X10_stuck  σ  post) : CM l yX10_stuck (Cond.code yX10_stuck cX10_stuck 7 (some .int)) ({ frames := 4, cells := 0, slots := 0, locals := 100 } : Room) G (shW κ tl) ad σ [.ref (ad 17)] post := by
  refine s_all (y := yX10_stuck) (code := cX10_stuck) (maxL := 7) (ret := (some .int)) (rm := ({ frames := 4, cells := 0, slots := 0, locals := 100 } : Room)) (av := [.ref (ad 17)]) (Qc := fun sz => QM G (shW κ tl) ad post (sz)) (by decide) (Nat.le_of_ble_eq_true rfl) ?_
  intro p e s m below meth c S hr hlk _ hK hE hW ls hl
  obtain ⟨hx, hb, hml, hown, hts⟩ := id S
  replace hl : lv_has ls 7 [(0, .ref (ad 17))] := hl
  have hL6 : ∀  (n : Nat) (v1_6 : Int) (σ_6 : Mem) (H : Heap) (locs : List Loc) (ls : Array Slot), w_X10_stuck_L6 post n v1_6 σ_6 → Wd G (shW κ tl) ad σ_6 (Aw ad (shW κ tl).length s.heap.size) s.heap H locs → lv_has ls 7 [(0, .ref (ad 17)), (1, .int (iN v1_6))] → W p l e ({ frames := 4, cells := 0, slots := 0, locals := 100 } : Room) s m ([.ref (ad 17)] : List Value).toArray below meth c H locs 0 0 (MQ below (QM G (shW κ tl) ad post (s.heap.size)) ([.ref (ad 17)] : List Value).toArray s 0 0 (Aw ad (shW κ tl).length s.heap.size)) (F0 m 6 ls []) := by
    intro  n
    induction n with
    | zero =>
      intro v1_6 σ_6 H locs ls hw
      exact hw.elim
    | succ n6 ih6 =>
      intro v1_6 σ_6 H locs ls hw hW hl
      replace hw : w_X10_stuck_L6_body post (w_X10_stuck_L6 post n6) v1_6 σ_6 := hw
      have hL31 : ∀ (v1_31 : Int) (v2_31 : Int) (n : Nat) (v3_31 : Int) (v4_31 : Int) (σ_31 : Mem) (H : Heap) (locs : List Loc) (ls : Array Slot), w_X10_stuck_L31 v1_31 v2_31 post (w_X10_stuck_L6 post n6) n v3_31 v4_31 σ_31 → Wd G (shW κ tl) ad σ_31 (Aw ad (shW κ tl).length s.heap.size) s.heap H locs → lv_has ls 7 [(0, .ref (ad 17)), (1, .int (iN v1_31)), (2, .int (iN v2_31)), (3, .int (iN v3_31)), (4, .int (iN v4_31))] → W p l e ({ frames := 4, cells := 0, slots := 0, locals := 100 } : Room) s m ([.ref (ad 17)] : List Value).toArray below meth c H locs 0 0 (MQ below (QM G (shW κ tl) ad post (s.heap.size)) ([.ref (ad 17)] : List Value).toArray s 0 0 (Aw ad (shW κ tl).length s.heap.size)) (F0 m 31 ls []) := by
        intro v1_31 v2_31 n
        induction n with
        | zero =>
          intro v3_31 v4_31 σ_31 H locs ls hw
          exact hw.elim
        | succ n31 ih31 =>
          intro v3_31 v4_31 σ_31 H locs ls hw hW hl
          replace hw : w_X10_stuck_L31_body v1_31 v2_31 post (w_X10_stuck_L6 post n6) (w_X10_stuck_L31 v1_31 v2_31 post (w_X10_stuck_L6 post n6) n31) v3_31 v4_31 σ_31 := hw
          have hB148 : ∀ (σ_148 : Mem) (v3_148 : Int) (v4_148 : Int) (s0_148 : Int) (s1_148 : Int) (H : Heap) (locs : List Loc) (ls : Array Slot), w_X10_stuck_B148 σ_148 v1_31 v2_31 v3_148 v4_148 s0_148 s1_148 post (w_X10_stuck_L6 post n6) (w_X10_stuck_L31 v1_31 v2_31 post (w_X10_stuck_L6 post n6) n31) → Wd G (shW κ tl) ad σ_148 (Aw ad (shW κ tl).length s.heap.size) s.heap H locs → lv_has ls 7 [(0, .ref (ad 17)), (1, .int (iN v1_31)), (2, .int (iN v2_31)), (3, .int (iN v3_148)), (4, .int (iN v4_148))] → W p l e ({ frames := 4, cells := 0, slots := 0, locals := 100 } : Room) s m ([.ref (ad 17)] : List Value).toArray below meth c H locs 0 0 (MQ below (QM G (shW κ tl) ad post (s.heap.size)) ([.ref (ad 17)] : List Value).toArray s 0 0 (Aw ad (shW κ tl).length s.heap.size)) (F0 m 148 ls [.int (iN s0_148), .int (iN s1_148), .ref (ad 31)]) := by
            intro σ_148 v3_148 v4_148 s0_148 s1_148 H locs ls hw hW hl
            unfold w_X10_stuck_B148 at hw
            refine g_zast hx hb hK hW 31 rfl hw.1 hw.2.1 dX10_stuck_148 (fun σ10 H locs hτ hW => ?_)
            replace hw := hw.2.2 σ10 hτ
            refine lv_iload_n hx hb dX10_stuck_149 rfl (lv_at hl 3 rfl) ?_
            refine lv_aload_n hx hb dX10_stuck_150 rfl (lv_at hl 0 rfl) ?_
            refine g_getr hx hb hts hown hK hW 17 rfl (q := 31) rfl uw_X10 16 (by decide) rfl al_779 (fun _ h9 => h9) dX10_stuck_151 ?_
            refine n_bipush hx hb dX10_stuck_154 (by decide) ?_
            refine lv_iload_n hx hb dX10_stuck_156 rfl (lv_at hl 1 rfl) ?_
            refine n_imul hx hb dX10_stuck_157 ?_
            refine lv_iload hx hb dX10_stuck_158 (lv_at hl 4 rfl) ?_
            refine n_iadd hx hb dX10_stuck_160 ?_
            refine g_zald hx hb hK hW 31 rfl hw.1 dX10_stuck_161 ?_
            replace hw := hw.2
            refine n_ior hx hb dX10_stuck_162 ?_
            refine lv_istore_n (lv' := [(3, .int (iN (orI v3_148 (σ10 31 (((80 * v1_31) + v4_148)).toNat)))), (0, .ref (ad 17)), (1, .int (iN v1_31)), (2, .int (iN v2_31)), (4, .int (iN v4_148))]) hx hb dX10_stuck_163 rfl hl (by decide) rfl (fun ls hl => ?_)
            refine lv_iinc (v := iN (v4_148 + 1)) (lv' := [(4, .int (iN (v4_148 + 1))), (3, .int (iN (orI v3_148 (σ10 31 (((80 * v1_31) + v4_148)).toNat)))), (0, .ref (ad 17)), (1, .int (iN v1_31)), (2, .int (iN v2_31))]) hx hb dX10_stuck_164 hl (k := 4) rfl (iN_add _ _) (by decide) rfl (fun ls hl => ?_)
            refine lv_goto (tgt := 31) hx hb dX10_stuck_167 (by decide) ?_
            exact ih31 (orI v3_148 (σ10 31 (((80 * v1_31) + v4_148)).toNat)) (v4_148 + 1) σ10 H locs ls hw hW (lv_sub hl [2, 3, 4, 1, 0] rfl)
          have hB147 : ∀ (σ_147 : Mem) (v3_147 : Int) (v4_147 : Int) (s0_147 : Int) (H : Heap) (locs : List Loc) (ls : Array Slot), w_X10_stuck_B147 σ_147 v1_31 v2_31 v3_147 v4_147 s0_147 post (w_X10_stuck_L6 post n6) (w_X10_stuck_L31 v1_31 v2_31 post (w_X10_stuck_L6 post n6) n31) → Wd G (shW κ tl) ad σ_147 (Aw ad (shW κ tl).length s.heap.size) s.heap H locs → lv_has ls 7 [(0, .ref (ad 17)), (1, .int (iN v1_31)), (2, .int (iN v2_31)), (3, .int (iN v3_147)), (4, .int (iN v4_147))] → W p l e ({ frames := 4, cells := 0, slots := 0, locals := 100 } : Room) s m ([.ref (ad 17)] : List Value).toArray below meth c H locs 0 0 (MQ below (QM G (shW κ tl) ad post (s.heap.size)) ([.ref (ad 17)] : List Value).toArray s 0 0 (Aw ad (shW κ tl).length s.heap.size)) (F0 m 147 ls [.int (iN s0_147), .ref (ad 31)]) := by
            intro σ_147 v3_147 v4_147 s0_147 H locs ls hw hW hl
            unfold w_X10_stuck_B147 at hw
            refine n_iconst hx hb dX10_stuck_147 ?_
            exact hB148 σ_147 v3_147 v4_147 0 s0_147 H locs ls hw hW (lv_sub hl [0, 1, 2, 3, 4] rfl)
          have hB117 : ∀ (σ_117 : Mem) (v3_117 : Int) (v4_117 : Int) (v5_117 : Int) (H : Heap) (locs : List Loc) (ls : Array Slot), w_X10_stuck_B117 σ_117 v1_31 v2_31 v3_117 v4_117 v5_117 post (w_X10_stuck_L6 post n6) (w_X10_stuck_L31 v1_31 v2_31 post (w_X10_stuck_L6 post n6) n31) → Wd G (shW κ tl) ad σ_117 (Aw ad (shW κ tl).length s.heap.size) s.heap H locs → lv_has ls 7 [(0, .ref (ad 17)), (1, .int (iN v1_31)), (2, .int (iN v2_31)), (3, .int (iN v3_117)), (4, .int (iN v4_117)), (5, .int (iN v5_117))] → W p l e ({ frames := 4, cells := 0, slots := 0, locals := 100 } : Room) s m ([.ref (ad 17)] : List Value).toArray below meth c H locs 0 0 (MQ below (QM G (shW κ tl) ad post (s.heap.size)) ([.ref (ad 17)] : List Value).toArray s 0 0 (Aw ad (shW κ tl).length s.heap.size)) (F0 m 117 ls []) := by
            intro σ_117 v3_117 v4_117 v5_117 H locs ls hw hW hl
            unfold w_X10_stuck_B117 at hw
            refine lv_aload_n hx hb dX10_stuck_117 rfl (lv_at hl 0 rfl) ?_
            refine g_getr hx hb hts hown hK hW 17 rfl (q := 31) rfl uw_X10 16 (by decide) rfl al_779 (fun _ h9 => h9) dX10_stuck_118 ?_
            refine n_bipush hx hb dX10_stuck_121 (by decide) ?_
            refine lv_iload_n hx hb dX10_stuck_123 rfl (lv_at hl 1 rfl) ?_
            refine n_imul hx hb dX10_stuck_124 ?_
            refine lv_iload hx hb dX10_stuck_125 (lv_at hl 4 rfl) ?_
            refine n_iadd hx hb dX10_stuck_127 ?_
            refine lv_iload hx hb dX10_stuck_128 (lv_at hl 5 rfl) ?_
            refine n_if_eq hx hb hw.1 hw.2.1 hw.2.2 (tgt := 147) dX10_stuck_130 (by decide) (fun hw => ?_) (fun hw => ?_)
            · exact hB147 σ_117 v3_117 v4_117 ((80 * v1_31) + v4_117) H locs ls hw hW (lv_sub hl [0, 1, 2, 3, 4] rfl)
            · refine lv_aload_n hx hb dX10_stuck_133 rfl (lv_at hl 0 rfl) ?_
              refine lv_iload_n hx hb dX10_stuck_134 rfl (lv_at hl 1 rfl) ?_
              refine lv_iload hx hb dX10_stuck_135 (lv_at hl 4 rfl) ?_
              refine fin_CI hW (run_V (k := 17) (As := [.int (iN v1_31), .int (iN v4_117)]) (rest := [.int (iN ((80 * v1_31) + v4_117)), .ref (ad 31)]) S hK hE hW (c_X10_isLet l G κ tl ad σ_117 v1_31 v4_117 _ hw H.size) rfl rfl al_951 al_953 sl_X10_isLet al_11 al_954 hd_X10_isLet rfl rfl ⟨Nat.le_of_ble_eq_true rfl, Nat.le_of_ble_eq_true rfl⟩ rfl hl.1 rfl (Nat.le_of_ble_eq_true rfl) dX10_stuck_137 ⟨Nat.zero_le _, Nat.zero_le _⟩) ?_
              intro r11 H locs hw hW
              refine n_if_eq hx hb hw.1 hw.2.1 hw.2.2 (tgt := 147) dX10_stuck_140 (by decide) (fun hw => ?_) (fun hw => ?_)
              · exact hB147 σ_117 v3_117 v4_117 ((80 * v1_31) + v4_117) H locs ls hw hW (lv_sub hl [0, 1, 2, 3, 4] rfl)
              · refine n_iconst hx hb dX10_stuck_143 ?_
                refine lv_goto (tgt := 148) hx hb dX10_stuck_144 (by decide) ?_
                exact hB148 σ_117 v3_117 v4_117 1 ((80 * v1_31) + v4_117) H locs ls hw hW (lv_sub hl [0, 1, 2, 3, 4] rfl)
          have hL56 : ∀ (σ_56 : Mem) (v3_56 : Int) (v4_56 : Int) (n : Nat) (v5_56 : Int) (v6_56 : Int) (H : Heap) (locs : List Loc) (ls : Array Slot), w_X10_stuck_L56 σ_56 v1_31 v2_31 v3_56 v4_56 post (w_X10_stuck_L6 post n6) (w_X10_stuck_L31 v1_31 v2_31 post (w_X10_stuck_L6 post n6) n31) n v5_56 v6_56 → Wd G (shW κ tl) ad σ_56 (Aw ad (shW κ tl).length s.heap.size) s.heap H locs → lv_has ls 7 [(0, .ref (ad 17)), (1, .int (iN v1_31)), (2, .int (iN v2_31)), (3, .int (iN v3_56)), (4, .int (iN v4_56)), (5, .int (iN v5_56)), (6, .int (iN v6_56))] → W p l e ({ frames := 4, cells := 0, slots := 0, locals := 100 } : Room) s m ([.ref (ad 17)] : List Value).toArray below meth c H locs 0 0 (MQ below (QM G (shW κ tl) ad post (s.heap.size)) ([.ref (ad 17)] : List Value).toArray s 0 0 (Aw ad (shW κ tl).length s.heap.size)) (F0 m 56 ls []) := by
            intro σ_56 v3_56 v4_56 n
            induction n with
            | zero =>
              intro v5_56 v6_56 H locs ls hw
              exact hw.elim
            | succ n56 ih56 =>
              intro v5_56 v6_56 H locs ls hw hW hl
              replace hw : w_X10_stuck_L56_body σ_56 v1_31 v2_31 v3_56 v4_56 post (w_X10_stuck_L6 post n6) (w_X10_stuck_L31 v1_31 v2_31 post (w_X10_stuck_L6 post n6) n31) (w_X10_stuck_L56 σ_56 v1_31 v2_31 v3_56 v4_56 post (w_X10_stuck_L6 post n6) (w_X10_stuck_L31 v1_31 v2_31 post (w_X10_stuck_L6 post n6) n31) n56) v5_56 v6_56 := hw
              have hB109 : ∀  (v6_109 : Int) (s0_109 : Int) (H : Heap) (locs : List Loc) (ls : Array Slot), w_X10_stuck_B109 σ_56 v1_31 v2_31 v3_56 v4_56 v6_109 s0_109 post (w_X10_stuck_L6 post n6) (w_X10_stuck_L31 v1_31 v2_31 post (w_X10_stuck_L6 post n6) n31) (w_X10_stuck_L56 σ_56 v1_31 v2_31 v3_56 v4_56 post (w_X10_stuck_L6 post n6) (w_X10_stuck_L31 v1_31 v2_31 post (w_X10_stuck_L6 post n6) n31) n56) → Wd G (shW κ tl) ad σ_56 (Aw ad (shW κ tl).length s.heap.size) s.heap H locs → lv_has ls 7 [(0, .ref (ad 17)), (1, .int (iN v1_31)), (2, .int (iN v2_31)), (3, .int (iN v3_56)), (4, .int (iN v4_56)), (6, .int (iN v6_109))] → W p l e ({ frames := 4, cells := 0, slots := 0, locals := 100 } : Room) s m ([.ref (ad 17)] : List Value).toArray below meth c H locs 0 0 (MQ below (QM G (shW κ tl) ad post (s.heap.size)) ([.ref (ad 17)] : List Value).toArray s 0 0 (Aw ad (shW κ tl).length s.heap.size)) (F0 m 109 ls [.int (iN s0_109)]) := by
                intro v6_109 s0_109 H locs ls hw hW hl
                unfold w_X10_stuck_B109 at hw
                refine lv_istore (lv' := [(5, .int (iN s0_109)), (0, .ref (ad 17)), (1, .int (iN v1_31)), (2, .int (iN v2_31)), (3, .int (iN v3_56)), (4, .int (iN v4_56)), (6, .int (iN v6_109))]) hx hb dX10_stuck_109 hl (by decide) rfl (fun ls hl => ?_)
                refine lv_iinc (v := iN (v6_109 + 1)) (lv' := [(6, .int (iN (v6_109 + 1))), (5, .int (iN s0_109)), (0, .ref (ad 17)), (1, .int (iN v1_31)), (2, .int (iN v2_31)), (3, .int (iN v3_56)), (4, .int (iN v4_56))]) hx hb dX10_stuck_111 hl (k := 6) rfl (iN_add _ _) (by decide) rfl (fun ls hl => ?_)
                refine lv_goto (tgt := 56) hx hb dX10_stuck_114 (by decide) ?_
                exact ih56 s0_109 (v6_109 + 1) H locs ls hw hW (lv_sub hl [2, 3, 4, 5, 6, 1, 0] rfl)
              have hB108 : ∀  (v6_108 : Int) (H : Heap) (locs : List Loc) (ls : Array Slot), w_X10_stuck_B108 σ_56 v1_31 v2_31 v3_56 v4_56 v6_108 post (w_X10_stuck_L6 post n6) (w_X10_stuck_L31 v1_31 v2_31 post (w_X10_stuck_L6 post n6) n31) (w_X10_stuck_L56 σ_56 v1_31 v2_31 v3_56 v4_56 post (w_X10_stuck_L6 post n6) (w_X10_stuck_L31 v1_31 v2_31 post (w_X10_stuck_L6 post n6) n31) n56) → Wd G (shW κ tl) ad σ_56 (Aw ad (shW κ tl).length s.heap.size) s.heap H locs → lv_has ls 7 [(0, .ref (ad 17)), (1, .int (iN v1_31)), (2, .int (iN v2_31)), (3, .int (iN v3_56)), (4, .int (iN v4_56)), (6, .int (iN v6_108))] → W p l e ({ frames := 4, cells := 0, slots := 0, locals := 100 } : Room) s m ([.ref (ad 17)] : List Value).toArray below meth c H locs 0 0 (MQ below (QM G (shW κ tl) ad post (s.heap.size)) ([.ref (ad 17)] : List Value).toArray s 0 0 (Aw ad (shW κ tl).length s.heap.size)) (F0 m 108 ls []) := by
                intro v6_108 H locs ls hw hW hl
                unfold w_X10_stuck_B108 at hw
                refine n_iconst hx hb dX10_stuck_108 ?_
                exact hB109 v6_108 0 H locs ls hw hW (lv_sub hl [0, 1, 2, 3, 4, 5] rfl)
              unfold w_X10_stuck_L56_body at hw
              refine lv_iload_n hx hb dX10_stuck_56 rfl (lv_at hl 2 rfl) ?_
              refine n_if_lt hx hb hw.1 hw.2.1 hw.2.2 (tgt := 117) dX10_stuck_57 (by decide) (fun hw => ?_) (fun hw => ?_)
              · exact hB117 σ_56 v3_56 v4_56 v5_56 H locs ls hw hW (lv_sub hl [0, 1, 2, 3, 4, 5] rfl)
              · refine lv_iload hx hb dX10_stuck_60 (lv_at hl 6 rfl) ?_
                refine lv_aload_n hx hb dX10_stuck_62 rfl (lv_at hl 0 rfl) ?_
                refine g_getr hx hb hts hown hK hW 17 rfl (q := 25) rfl uw_X10 10 (by decide) rfl al_773 (fun _ h9 => h9) dX10_stuck_63 ?_
                refine lv_iload_n hx hb dX10_stuck_66 rfl (lv_at hl 2 rfl) ?_
                refine g_ald hx hb hK hW 25 rfl hw.1 dX10_stuck_67 ?_
                replace hw := hw.2
                refine n_icmp_ge hx hb hw.1 hw.2.1 hw.2.2.1 hw.2.2.2 (tgt := 117) dX10_stuck_68 (by decide) (fun hw => ?_) (fun hw => ?_)
                · exact hB117 σ_56 v3_56 v4_56 v5_56 H locs ls hw hW (lv_sub hl [0, 1, 2, 3, 4, 5] rfl)
                · refine lv_iload hx hb dX10_stuck_71 (lv_at hl 5 rfl) ?_
                  refine n_if_ne hx hb hw.1 hw.2.1 hw.2.2 (tgt := 117) dX10_stuck_73 (by decide) (fun hw => ?_) (fun hw => ?_)
                  · exact hB117 σ_56 v3_56 v4_56 v5_56 H locs ls hw hW (lv_sub hl [0, 1, 2, 3, 4, 5] rfl)
                  · refine lv_aload_n hx hb dX10_stuck_76 rfl (lv_at hl 0 rfl) ?_
                    refine g_getr hx hb hts hown hK hW 17 rfl (q := 31) rfl uw_X10 16 (by decide) rfl al_779 (fun _ h9 => h9) dX10_stuck_77 ?_
                    refine n_bipush hx hb dX10_stuck_80 (by decide) ?_
                    refine lv_iload_n hx hb dX10_stuck_82 rfl (lv_at hl 2 rfl) ?_
                    refine n_imul hx hb dX10_stuck_83 ?_
                    refine lv_iload hx hb dX10_stuck_84 (lv_at hl 6 rfl) ?_
                    refine n_iadd hx hb dX10_stuck_86 ?_
                    refine g_zald hx hb hK hW 31 rfl hw.1 dX10_stuck_87 ?_
                    replace hw := hw.2
                    refine n_if_eq hx hb hw.1 hw.2.1 hw.2.2 (tgt := 108) dX10_stuck_88 (by decide) (fun hw => ?_) (fun hw => ?_)
                    · exact hB108 v6_56 H locs ls hw hW (lv_sub hl [0, 1, 2, 3, 4, 6] rfl)
                    · refine lv_aload_n hx hb dX10_stuck_91 rfl (lv_at hl 0 rfl) ?_
                      refine lv_iload_n hx hb dX10_stuck_92 rfl (lv_at hl 2 rfl) ?_
                      refine lv_iload hx hb dX10_stuck_93 (lv_at hl 6 rfl) ?_
                      refine lv_iload_n hx hb dX10_stuck_95 rfl (lv_at hl 1 rfl) ?_
                      refine lv_iload hx hb dX10_stuck_96 (lv_at hl 4 rfl) ?_
                      refine fin_CI hW (run_V (k := 17) (As := [.int (iN v2_31), .int (iN v6_56), .int (iN v1_31), .int (iN v4_56)]) (rest := []) S hK hE hW (c_X10_stepOf l G κ tl ad σ_56 v2_31 v6_56 v1_31 v4_56 _ hw H.size) rfl rfl al_922 al_924 sl_X10_stepOf al_11 al_925 hd_X10_stepOf rfl rfl ⟨Nat.le_of_ble_eq_true rfl, Nat.le_of_ble_eq_true rfl⟩ rfl hl.1 rfl (Nat.le_of_ble_eq_true rfl) dX10_stuck_98 ⟨Nat.zero_le _, Nat.zero_le _⟩) ?_
                      intro r13 H locs hw hW
                      refine n_if_lt hx hb hw.1 hw.2.1 hw.2.2 (tgt := 108) dX10_stuck_101 (by decide) (fun hw => ?_) (fun hw => ?_)
                      · exact hB108 v6_56 H locs ls hw hW (lv_sub hl [0, 1, 2, 3, 4, 6] rfl)
                      · refine n_iconst hx hb dX10_stuck_104 ?_
                        refine lv_goto (tgt := 109) hx hb dX10_stuck_105 (by decide) ?_
                        exact hB109 v6_56 1 H locs ls hw hW (lv_sub hl [0, 1, 2, 3, 4, 6] rfl)
          have hB51 : ∀ (σ_51 : Mem) (v3_51 : Int) (v4_51 : Int) (s0_51 : Int) (H : Heap) (locs : List Loc) (ls : Array Slot), w_X10_stuck_B51 σ_51 v1_31 v2_31 v3_51 v4_51 s0_51 post (w_X10_stuck_L6 post n6) (w_X10_stuck_L31 v1_31 v2_31 post (w_X10_stuck_L6 post n6) n31) → Wd G (shW κ tl) ad σ_51 (Aw ad (shW κ tl).length s.heap.size) s.heap H locs → lv_has ls 7 [(0, .ref (ad 17)), (1, .int (iN v1_31)), (2, .int (iN v2_31)), (3, .int (iN v3_51)), (4, .int (iN v4_51))] → W p l e ({ frames := 4, cells := 0, slots := 0, locals := 100 } : Room) s m ([.ref (ad 17)] : List Value).toArray below meth c H locs 0 0 (MQ below (QM G (shW κ tl) ad post (s.heap.size)) ([.ref (ad 17)] : List Value).toArray s 0 0 (Aw ad (shW κ tl).length s.heap.size)) (F0 m 51 ls [.int (iN s0_51)]) := by
            intro σ_51 v3_51 v4_51 s0_51 H locs ls hw hW hl
            unfold w_X10_stuck_B51 at hw
            refine lv_istore (lv' := [(5, .int (iN s0_51)), (0, .ref (ad 17)), (1, .int (iN v1_31)), (2, .int (iN v2_31)), (3, .int (iN v3_51)), (4, .int (iN v4_51))]) hx hb dX10_stuck_51 hl (by decide) rfl (fun ls hl => ?_)
            refine n_iconst hx hb dX10_stuck_53 ?_
            refine lv_istore (lv' := [(6, .int (iN 0)), (5, .int (iN s0_51)), (0, .ref (ad 17)), (1, .int (iN v1_31)), (2, .int (iN v2_31)), (3, .int (iN v3_51)), (4, .int (iN v4_51))]) hx hb dX10_stuck_54 hl (by decide) rfl (fun ls hl => ?_)
            obtain ⟨n, hw⟩ := hw
            exact hL56 σ_51 v3_51 v4_51 n s0_51 0 H locs ls hw hW (lv_sub hl [2, 3, 4, 5, 6, 1, 0] rfl)
          unfold w_X10_stuck_L31_body at hw
          refine lv_iload hx hb dX10_stuck_31 (lv_at hl 4 rfl) ?_
          refine lv_aload_n hx hb dX10_stuck_33 rfl (lv_at hl 0 rfl) ?_
          refine g_getr hx hb hts hown hK hW 17 rfl (q := 25) rfl uw_X10 10 (by decide) rfl al_773 (fun _ h9 => h9) dX10_stuck_34 ?_
          refine lv_iload_n hx hb dX10_stuck_37 rfl (lv_at hl 1 rfl) ?_
          refine g_ald hx hb hK hW 25 rfl hw.1 dX10_stuck_38 ?_
          replace hw := hw.2
          refine n_icmp_ge hx hb hw.1 hw.2.1 hw.2.2.1 hw.2.2.2 (tgt := 170) dX10_stuck_39 (by decide) (fun hw => ?_) (fun hw => ?_)
          · refine lv_iload_n hx hb dX10_stuck_170 rfl (lv_at hl 3 rfl) ?_
            refine n_if_ne hx hb hw.1 hw.2.1 hw.2.2 (tgt := 176) dX10_stuck_171 (by decide) (fun hw => ?_) (fun hw => ?_)
            · refine lv_iinc (v := iN (v1_31 + 1)) (lv' := [(1, .int (iN (v1_31 + 1))), (0, .ref (ad 17)), (2, .int (iN v2_31)), (3, .int (iN v3_31)), (4, .int (iN v4_31))]) hx hb dX10_stuck_176 hl (k := 1) rfl (iN_add _ _) (by decide) rfl (fun ls hl => ?_)
              refine lv_goto (tgt := 6) hx hb dX10_stuck_179 (by decide) ?_
              exact ih6 (v1_31 + 1) σ_31 H locs ls hw hW (lv_sub hl [1, 0] rfl)
            · refine lv_iload_n hx hb dX10_stuck_174 rfl (lv_at hl 1 rfl) ?_
              exact r_CM hx hb hr hlk hK hW hw dX10_stuck_175
          · refine lv_iload_n hx hb dX10_stuck_42 rfl (lv_at hl 2 rfl) ?_
            refine n_if_ge hx hb hw.1 hw.2.1 hw.2.2 (tgt := 50) dX10_stuck_43 (by decide) (fun hw => ?_) (fun hw => ?_)
            · refine n_iconst hx hb dX10_stuck_50 ?_
              exact hB51 σ_31 v3_31 v4_31 0 H locs ls hw hW (lv_sub hl [0, 1, 2, 3, 4] rfl)
            · refine n_iconst hx hb dX10_stuck_46 ?_
              refine lv_goto (tgt := 51) hx hb dX10_stuck_47 (by decide) ?_
              exact hB51 σ_31 v3_31 v4_31 1 H locs ls hw hW (lv_sub hl [0, 1, 2, 3, 4] rfl)
      unfold w_X10_stuck_L6_body at hw
      refine lv_iload_n hx hb dX10_stuck_6 rfl (lv_at hl 1 rfl) ?_
      refine lv_aload_n hx hb dX10_stuck_7 rfl (lv_at hl 0 rfl) ?_
      refine g_get hx hb hts hown hK hW 17 rfl rfl uw_X10 1 (by decide) rfl al_764 (fun _ h9 => h9) dX10_stuck_8 ?_
      refine n_icmp_ge hx hb hw.1 hw.2.1 hw.2.2.1 hw.2.2.2 (tgt := 182) dX10_stuck_11 (by decide) (fun hw => ?_) (fun hw => ?_)
      · refine n_bipush hx hb dX10_stuck_182 (by decide) ?_
        exact r_CM hx hb hr hlk hK hW hw dX10_stuck_184
      · refine lv_aload_n hx hb dX10_stuck_14 rfl (lv_at hl 0 rfl) ?_
        refine lv_iload_n hx hb dX10_stuck_15 rfl (lv_at hl 1 rfl) ?_
        refine lv_aload_n hx hb dX10_stuck_16 rfl (lv_at hl 0 rfl) ?_
        refine g_getr hx hb hts hown hK hW 17 rfl (q := 18) rfl uw_X10 2 (by decide) rfl al_765 (fun _ h9 => h9) dX10_stuck_17 ?_
        refine lv_iload_n hx hb dX10_stuck_20 rfl (lv_at hl 1 rfl) ?_
        refine g_ald hx hb hK hW 18 rfl hw.1 dX10_stuck_21 ?_
        replace hw := hw.2
        refine fin_CI hW (run_V (k := 17) (As := [.int (iN v1_6), .int (iN (σ_6 18 (v1_6).toNat))]) (rest := []) S hK hE hW (c_X10_before l G κ tl ad σ_6 v1_6 (σ_6 18 (v1_6).toNat) _ hw H.size) rfl rfl al_837 al_839 sl_X10_before al_11 al_840 hd_X10_before rfl rfl ⟨Nat.le_of_ble_eq_true rfl, Nat.le_of_ble_eq_true rfl⟩ rfl hl.1 rfl (Nat.le_of_ble_eq_true rfl) dX10_stuck_22 ⟨Nat.zero_le _, Nat.zero_le _⟩) ?_
        intro r15 H locs hw hW
        refine lv_istore_n (lv' := [(2, .int (iN r15)), (0, .ref (ad 17)), (1, .int (iN v1_6))]) hx hb dX10_stuck_25 rfl hl (by decide) rfl (fun ls hl => ?_)
        refine n_iconst hx hb dX10_stuck_26 ?_
        refine lv_istore_n (lv' := [(3, .int (iN 0)), (2, .int (iN r15)), (0, .ref (ad 17)), (1, .int (iN v1_6))]) hx hb dX10_stuck_27 rfl hl (by decide) rfl (fun ls hl => ?_)
        refine n_iconst hx hb dX10_stuck_28 ?_
        refine lv_istore (lv' := [(4, .int (iN 0)), (3, .int (iN 0)), (2, .int (iN r15)), (0, .ref (ad 17)), (1, .int (iN v1_6))]) hx hb dX10_stuck_29 hl (by decide) rfl (fun ls hl => ?_)
        obtain ⟨n, hw⟩ := hw
        exact hL31 v1_6 r15 n 0 0 σ_6 H locs ls hw hW (lv_sub hl [3, 4, 2, 1, 0] rfl)
  unfold w_X10_stuck at hw
  refine lv_aload_n hx hb dX10_stuck_0 rfl (lv_at hl 0 rfl) ?_
  refine fin_CV hW (run_V (k := 17) (As := []) (rest := []) S hK hE hW (c_X10_find l G κ tl ad σ _ hw s.heap.size) rfl rfl al_857 al_859 sl_X10_find al_11 al_860 hd_X10_find rfl rfl ⟨Nat.le_of_ble_eq_true rfl, Nat.le_of_ble_eq_true rfl⟩ rfl hl.1 rfl (Nat.le_of_ble_eq_true rfl) dX10_stuck_1 ⟨Nat.zero_le _, Nat.zero_le _⟩) ?_
  intro σ2 H locs hw hW
  refine n_iconst hx hb dX10_stuck_4 ?_
  refine lv_istore_n (lv' := [(1, .int (iN 0)), (0, .ref (ad 17))]) hx hb dX10_stuck_5 rfl hl (by decide) rfl (fun ls hl => ?_)
  obtain ⟨n, hw⟩ := hw
  exact hL6 n 0 σ2 H locs ls hw hW (lv_sub hl [1, 0] rfl)
set_option maxHeartbeats 4000000 in
set_option maxRecDepth 100000 in
theorem c_X10_more (l : Launch) (G : Gt) (κ : Nat)  (tl : Bool) (ad : Nat → Nat)  (σ : Mem) (v0 : Int) (v1 : Int) (post : Int → Prop) (hw : w_X10_more  σ v0 v1 post) : CI l yX10_more (Cond.code yX10_more cX10_more 2 (some .int)) ({ frames := 0, cells := 0, slots := 0, locals := 0 } : Room) G (shW κ tl) ad σ [.int (iN v0), .int (iN v1)] post := by
  refine s_all (y := yX10_more) (code := cX10_more) (maxL := 2) (ret := (some .int)) (rm := ({ frames := 0, cells := 0, slots := 0, locals := 0 } : Room)) (av := [.int (iN v0), .int (iN v1)]) (Qc := fun sz => QI G (shW κ tl) ad σ post (sz)) (by decide) (Nat.le_of_ble_eq_true rfl) ?_
  intro p e s m below meth c S hr hlk _ hK hE hW ls hl
  obtain ⟨hx, hb, hml, hown, hts⟩ := id S
  replace hl : lv_has ls 2 [(0, .int (iN v0)), (1, .int (iN v1))] := hl
  have hB16 : ∀  (s0_16 : Int) (H : Heap) (locs : List Loc) (ls : Array Slot), w_X10_more_B16 σ s0_16 post → Wd G (shW κ tl) ad σ (Aw ad (shW κ tl).length s.heap.size) s.heap H locs → lv_has ls 2 [] → W p l e ({ frames := 0, cells := 0, slots := 0, locals := 0 } : Room) s m ([.int (iN v0), .int (iN v1)] : List Value).toArray below meth c H locs 0 0 (MQ below (QI G (shW κ tl) ad σ post (s.heap.size)) ([.int (iN v0), .int (iN v1)] : List Value).toArray s 0 0 (Aw ad (shW κ tl).length s.heap.size)) (F0 m 16 ls [.int (iN s0_16)]) := by
    intro s0_16 H locs ls hw hW hl
    unfold w_X10_more_B16 at hw
    exact r_CI hx hb hr hlk hK hW hw dX10_more_16
  unfold w_X10_more at hw
  refine lv_iload_n hx hb dX10_more_0 rfl (lv_at hl 0 rfl) ?_
  refine lv_iload_n hx hb dX10_more_1 rfl (lv_at hl 1 rfl) ?_
  refine n_iadd hx hb dX10_more_2 ?_
  refine n_ldc (n := 1000000000) hx hb hown (hts _ (List.mem_cons_of_mem _ al_950)) (by decide) dX10_more_3 ?_
  refine n_icmp_le hx hb hw.1 (rg_c _ rfl) hw.2.1 hw.2.2 (tgt := 13) dX10_more_5 (by decide) (fun hw => ?_) (fun hw => ?_)
  · refine lv_iload_n hx hb dX10_more_13 rfl (lv_at hl 0 rfl) ?_
    refine lv_iload_n hx hb dX10_more_14 rfl (lv_at hl 1 rfl) ?_
    refine n_iadd hx hb dX10_more_15 ?_
    exact hB16 (v0 + v1) s.heap [] ls hw hW (lv_sub hl [] rfl)
  · refine n_ldc (n := 1000000000) hx hb hown (hts _ (List.mem_cons_of_mem _ al_950)) (by decide) dX10_more_8 ?_
    refine lv_goto (tgt := 16) hx hb dX10_more_10 (by decide) ?_
    exact hB16 1000000000 s.heap [] ls hw hW (lv_sub hl [] rfl)
set_option maxHeartbeats 4000000 in
set_option maxRecDepth 100000 in
theorem c_X10_beginCounts (l : Launch) (G : Gt) (κ : Nat)  (tl : Bool) (ad : Nat → Nat)  (σ : Mem) (v1 : Int) (post : Mem → Prop) (hw : w_X10_beginCounts  σ v1 post) : CV l yX10_beginCounts (Cond.code yX10_beginCounts cX10_beginCounts 4 none) ({ frames := 1, cells := 0, slots := 0, locals := 22 } : Room) G (shW κ tl) ad σ [.ref (ad 17), .int (iN v1)] post := by
  refine s_all (y := yX10_beginCounts) (code := cX10_beginCounts) (maxL := 4) (ret := none) (rm := ({ frames := 1, cells := 0, slots := 0, locals := 22 } : Room)) (av := [.ref (ad 17), .int (iN v1)]) (Qc := fun sz => QV G (shW κ tl) ad post (sz)) (by decide) (Nat.le_of_ble_eq_true rfl) ?_
  intro p e s m below meth c S hr hlk _ hK hE hW ls hl
  obtain ⟨hx, hb, hml, hown, hts⟩ := id S
  replace hl : lv_has ls 4 [(0, .ref (ad 17)), (1, .int (iN v1))] := hl
  have hL2 : ∀ (v1_2 : Int) (n : Nat) (v2_2 : Int) (σ_2 : Mem) (H : Heap) (locs : List Loc) (ls : Array Slot), w_X10_beginCounts_L2 v1_2 post n v2_2 σ_2 → Wd G (shW κ tl) ad σ_2 (Aw ad (shW κ tl).length s.heap.size) s.heap H locs → lv_has ls 4 [(0, .ref (ad 17)), (1, .int (iN v1_2)), (2, .int (iN v2_2))] → W p l e ({ frames := 1, cells := 0, slots := 0, locals := 22 } : Room) s m ([.ref (ad 17), .int (iN v1)] : List Value).toArray below meth c H locs 0 0 (MQ below (QV G (shW κ tl) ad post (s.heap.size)) ([.ref (ad 17), .int (iN v1)] : List Value).toArray s 0 0 (Aw ad (shW κ tl).length s.heap.size)) (F0 m 2 ls []) := by
    intro v1_2 n
    induction n with
    | zero =>
      intro v2_2 σ_2 H locs ls hw
      exact hw.elim
    | succ n2 ih2 =>
      intro v2_2 σ_2 H locs ls hw hW hl
      replace hw : w_X10_beginCounts_L2_body v1_2 post (w_X10_beginCounts_L2 v1_2 post n2) v2_2 σ_2 := hw
      have hL14 : ∀ (v2_14 : Int) (n : Nat) (v3_14 : Int) (σ_14 : Mem) (H : Heap) (locs : List Loc) (ls : Array Slot), w_X10_beginCounts_L14 v1_2 v2_14 post (w_X10_beginCounts_L2 v1_2 post n2) n v3_14 σ_14 → Wd G (shW κ tl) ad σ_14 (Aw ad (shW κ tl).length s.heap.size) s.heap H locs → lv_has ls 4 [(0, .ref (ad 17)), (1, .int (iN v1_2)), (2, .int (iN v2_14)), (3, .int (iN v3_14))] → W p l e ({ frames := 1, cells := 0, slots := 0, locals := 22 } : Room) s m ([.ref (ad 17), .int (iN v1)] : List Value).toArray below meth c H locs 0 0 (MQ below (QV G (shW κ tl) ad post (s.heap.size)) ([.ref (ad 17), .int (iN v1)] : List Value).toArray s 0 0 (Aw ad (shW κ tl).length s.heap.size)) (F0 m 14 ls []) := by
        intro v2_14 n
        induction n with
        | zero =>
          intro v3_14 σ_14 H locs ls hw
          exact hw.elim
        | succ n14 ih14 =>
          intro v3_14 σ_14 H locs ls hw hW hl
          replace hw : w_X10_beginCounts_L14_body v1_2 v2_14 post (w_X10_beginCounts_L2 v1_2 post n2) (w_X10_beginCounts_L14 v1_2 v2_14 post (w_X10_beginCounts_L2 v1_2 post n2) n14) v3_14 σ_14 := hw
          have hB61 : ∀ (σ_61 : Mem) (v3_61 : Int) (s0_61 : Int) (s1_61 : Int) (H : Heap) (locs : List Loc) (ls : Array Slot), w_X10_beginCounts_B61 σ_61 v1_2 v2_14 v3_61 s0_61 s1_61 post (w_X10_beginCounts_L2 v1_2 post n2) (w_X10_beginCounts_L14 v1_2 v2_14 post (w_X10_beginCounts_L2 v1_2 post n2) n14) → Wd G (shW κ tl) ad σ_61 (Aw ad (shW κ tl).length s.heap.size) s.heap H locs → lv_has ls 4 [(0, .ref (ad 17)), (1, .int (iN v1_2)), (2, .int (iN v2_14)), (3, .int (iN v3_61))] → W p l e ({ frames := 1, cells := 0, slots := 0, locals := 22 } : Room) s m ([.ref (ad 17), .int (iN v1)] : List Value).toArray below meth c H locs 0 0 (MQ below (QV G (shW κ tl) ad post (s.heap.size)) ([.ref (ad 17), .int (iN v1)] : List Value).toArray s 0 0 (Aw ad (shW κ tl).length s.heap.size)) (F0 m 61 ls [.int (iN s0_61), .int (iN s1_61), .ref (ad 32)]) := by
            intro σ_61 v3_61 s0_61 s1_61 H locs ls hw hW hl
            unfold w_X10_beginCounts_B61 at hw
            refine g_ast hx hb hK hW 32 rfl hw.1 dX10_beginCounts_61 (fun σ4 H locs hτ hW => ?_)
            replace hw := hw.2 σ4 hτ
            refine lv_iinc (v := iN (v3_61 + 1)) (lv' := [(3, .int (iN (v3_61 + 1))), (0, .ref (ad 17)), (1, .int (iN v1_2)), (2, .int (iN v2_14))]) hx hb dX10_beginCounts_62 hl (k := 3) rfl (iN_add _ _) (by decide) rfl (fun ls hl => ?_)
            refine lv_goto (tgt := 14) hx hb dX10_beginCounts_65 (by decide) ?_
            exact ih14 (v3_61 + 1) σ4 H locs ls hw hW (lv_sub hl [1, 2, 3, 0] rfl)
          have hB60 : ∀ (σ_60 : Mem) (v3_60 : Int) (s0_60 : Int) (H : Heap) (locs : List Loc) (ls : Array Slot), w_X10_beginCounts_B60 σ_60 v1_2 v2_14 v3_60 s0_60 post (w_X10_beginCounts_L2 v1_2 post n2) (w_X10_beginCounts_L14 v1_2 v2_14 post (w_X10_beginCounts_L2 v1_2 post n2) n14) → Wd G (shW κ tl) ad σ_60 (Aw ad (shW κ tl).length s.heap.size) s.heap H locs → lv_has ls 4 [(0, .ref (ad 17)), (1, .int (iN v1_2)), (2, .int (iN v2_14)), (3, .int (iN v3_60))] → W p l e ({ frames := 1, cells := 0, slots := 0, locals := 22 } : Room) s m ([.ref (ad 17), .int (iN v1)] : List Value).toArray below meth c H locs 0 0 (MQ below (QV G (shW κ tl) ad post (s.heap.size)) ([.ref (ad 17), .int (iN v1)] : List Value).toArray s 0 0 (Aw ad (shW κ tl).length s.heap.size)) (F0 m 60 ls [.int (iN s0_60), .ref (ad 32)]) := by
            intro σ_60 v3_60 s0_60 H locs ls hw hW hl
            unfold w_X10_beginCounts_B60 at hw
            refine n_iconst hx hb dX10_beginCounts_60 ?_
            exact hB61 σ_60 v3_60 0 s0_60 H locs ls hw hW (lv_sub hl [0, 1, 2, 3] rfl)
          unfold w_X10_beginCounts_L14_body at hw
          refine lv_iload_n hx hb dX10_beginCounts_14 rfl (lv_at hl 3 rfl) ?_
          refine n_sipush hx hb dX10_beginCounts_15 (by decide) ?_
          refine n_icmp_ge hx hb hw.1 (rg_c _ rfl) hw.2.1 hw.2.2 (tgt := 68) dX10_beginCounts_18 (by decide) (fun hw => ?_) (fun hw => ?_)
          · refine lv_iinc (v := iN (v2_14 + 1)) (lv' := [(2, .int (iN (v2_14 + 1))), (0, .ref (ad 17)), (1, .int (iN v1_2)), (3, .int (iN v3_14))]) hx hb dX10_beginCounts_68 hl (k := 2) rfl (iN_add _ _) (by decide) rfl (fun ls hl => ?_)
            refine lv_goto (tgt := 2) hx hb dX10_beginCounts_71 (by decide) ?_
            exact ih2 (v2_14 + 1) σ_14 H locs ls hw hW (lv_sub hl [1, 2, 0] rfl)
          · refine lv_aload_n hx hb dX10_beginCounts_21 rfl (lv_at hl 0 rfl) ?_
            refine g_getr hx hb hts hown hK hW 17 rfl (q := 32) rfl uw_X10 17 (by decide) rfl al_780 (fun _ h9 => h9) dX10_beginCounts_22 ?_
            refine n_sipush hx hb dX10_beginCounts_25 (by decide) ?_
            refine lv_iload_n hx hb dX10_beginCounts_28 rfl (lv_at hl 2 rfl) ?_
            refine n_imul hx hb dX10_beginCounts_29 ?_
            refine lv_iload_n hx hb dX10_beginCounts_30 rfl (lv_at hl 3 rfl) ?_
            refine n_iadd hx hb dX10_beginCounts_31 ?_
            refine lv_aload_n hx hb dX10_beginCounts_32 rfl (lv_at hl 0 rfl) ?_
            refine lv_iload_n hx hb dX10_beginCounts_33 rfl (lv_at hl 1 rfl) ?_
            refine lv_iload_n hx hb dX10_beginCounts_34 rfl (lv_at hl 2 rfl) ?_
            refine fin_CI hW (run_V (k := 17) (As := [.int (iN v1_2), .int (iN v2_14)]) (rest := [.int (iN ((301 * v2_14) + v3_14)), .ref (ad 32)]) S hK hE hW (c_X10_isLet l G κ tl ad σ_14 v1_2 v2_14 _ hw H.size) rfl rfl al_951 al_953 sl_X10_isLet al_11 al_954 hd_X10_isLet rfl rfl ⟨Nat.le_of_ble_eq_true rfl, Nat.le_of_ble_eq_true rfl⟩ rfl hl.1 rfl (Nat.le_of_ble_eq_true rfl) dX10_beginCounts_35 ⟨Nat.zero_le _, Nat.zero_le _⟩) ?_
            intro r5 H locs hw hW
            refine n_if_eq hx hb hw.1 hw.2.1 hw.2.2 (tgt := 60) dX10_beginCounts_38 (by decide) (fun hw => ?_) (fun hw => ?_)
            · exact hB60 σ_14 v3_14 ((301 * v2_14) + v3_14) H locs ls hw hW (lv_sub hl [0, 1, 2, 3] rfl)
            · refine lv_aload_n hx hb dX10_beginCounts_41 rfl (lv_at hl 0 rfl) ?_
              refine g_getr hx hb hts hown hK hW 17 rfl (q := 28) rfl uw_X10 13 (by decide) rfl al_776 (fun _ h9 => h9) dX10_beginCounts_42 ?_
              refine n_bipush hx hb dX10_beginCounts_45 (by decide) ?_
              refine lv_iload_n hx hb dX10_beginCounts_47 rfl (lv_at hl 1 rfl) ?_
              refine n_imul hx hb dX10_beginCounts_48 ?_
              refine lv_iload_n hx hb dX10_beginCounts_49 rfl (lv_at hl 2 rfl) ?_
              refine n_iadd hx hb dX10_beginCounts_50 ?_
              refine g_ald hx hb hK hW 28 rfl hw.1 dX10_beginCounts_51 ?_
              replace hw := hw.2
              refine lv_iload_n hx hb dX10_beginCounts_52 rfl (lv_at hl 3 rfl) ?_
              refine n_icmp_ne hx hb hw.1 hw.2.1 hw.2.2.1 hw.2.2.2 (tgt := 60) dX10_beginCounts_53 (by decide) (fun hw => ?_) (fun hw => ?_)
              · exact hB60 σ_14 v3_14 ((301 * v2_14) + v3_14) H locs ls hw hW (lv_sub hl [0, 1, 2, 3] rfl)
              · refine n_iconst hx hb dX10_beginCounts_56 ?_
                refine lv_goto (tgt := 61) hx hb dX10_beginCounts_57 (by decide) ?_
                exact hB61 σ_14 v3_14 1 ((301 * v2_14) + v3_14) H locs ls hw hW (lv_sub hl [0, 1, 2, 3] rfl)
      unfold w_X10_beginCounts_L2_body at hw
      refine lv_iload_n hx hb dX10_beginCounts_2 rfl (lv_at hl 2 rfl) ?_
      refine lv_aload_n hx hb dX10_beginCounts_3 rfl (lv_at hl 0 rfl) ?_
      refine g_getr hx hb hts hown hK hW 17 rfl (q := 25) rfl uw_X10 10 (by decide) rfl al_773 (fun _ h9 => h9) dX10_beginCounts_4 ?_
      refine lv_iload_n hx hb dX10_beginCounts_7 rfl (lv_at hl 1 rfl) ?_
      refine g_ald hx hb hK hW 25 rfl hw.1 dX10_beginCounts_8 ?_
      replace hw := hw.2
      refine n_icmp_ge hx hb hw.1 hw.2.1 hw.2.2.1 hw.2.2.2 (tgt := 74) dX10_beginCounts_9 (by decide) (fun hw => ?_) (fun hw => ?_)
      · exact r_CV hx hb hr hlk hK hW hw dX10_beginCounts_74
      · refine n_iconst hx hb dX10_beginCounts_12 ?_
        refine lv_istore_n (lv' := [(3, .int (iN 0)), (0, .ref (ad 17)), (1, .int (iN v1_2)), (2, .int (iN v2_2))]) hx hb dX10_beginCounts_13 rfl hl (by decide) rfl (fun ls hl => ?_)
        obtain ⟨n, hw⟩ := hw
        exact hL14 v2_2 n 0 σ_2 H locs ls hw hW (lv_sub hl [1, 2, 3, 0] rfl)
  unfold w_X10_beginCounts at hw
  refine n_iconst hx hb dX10_beginCounts_0 ?_
  refine lv_istore_n (lv' := [(2, .int (iN 0)), (0, .ref (ad 17)), (1, .int (iN v1))]) hx hb dX10_beginCounts_1 rfl hl (by decide) rfl (fun ls hl => ?_)
  obtain ⟨n, hw⟩ := hw
  exact hL2 v1 n 0 σ s.heap [] ls hw hW (lv_sub hl [1, 2, 0] rfl)
set_option maxHeartbeats 4000000 in
set_option maxRecDepth 100000 in
theorem c_X10_goOn (l : Launch) (G : Gt) (κ : Nat)  (tl : Bool) (ad : Nat → Nat)  (σ : Mem) (v1 : Int) (v2 : Int) (v3 : Int) (post : Mem → Prop) (hw : w_X10_goOn  σ v1 v2 v3 post) : CV l yX10_goOn (Cond.code yX10_goOn cX10_goOn 11 none) ({ frames := 3, cells := 0, slots := 0, locals := 82 } : Room) G (shW κ tl) ad σ [.ref (ad 17), .int (iN v1), .int (iN v2), .int (iN v3)] post := by
  refine s_all (y := yX10_goOn) (code := cX10_goOn) (maxL := 11) (ret := none) (rm := ({ frames := 3, cells := 0, slots := 0, locals := 82 } : Room)) (av := [.ref (ad 17), .int (iN v1), .int (iN v2), .int (iN v3)]) (Qc := fun sz => QV G (shW κ tl) ad post (sz)) (by decide) (Nat.le_of_ble_eq_true rfl) ?_
  intro p e s m below meth c S hr hlk _ hK hE hW ls hl
  obtain ⟨hx, hb, hml, hown, hts⟩ := id S
  replace hl : lv_has ls 11 [(0, .ref (ad 17)), (1, .int (iN v1)), (2, .int (iN v2)), (3, .int (iN v3))] := hl
  have hL19 : ∀ (v1_19 : Int) (v2_19 : Int) (v4_19 : Int) (v5_19 : Int) (n : Nat) (v6_19 : Int) (σ_19 : Mem) (H : Heap) (locs : List Loc) (ls : Array Slot), w_X10_goOn_L19 v1_19 v2_19 v4_19 v5_19 post n v6_19 σ_19 → Wd G (shW κ tl) ad σ_19 (Aw ad (shW κ tl).length s.heap.size) s.heap H locs → lv_has ls 11 [(0, .ref (ad 17)), (1, .int (iN v1_19)), (2, .int (iN v2_19)), (4, .int (iN v4_19)), (5, .int (iN v5_19)), (6, .int (iN v6_19))] → W p l e ({ frames := 3, cells := 0, slots := 0, locals := 82 } : Room) s m ([.ref (ad 17), .int (iN v1), .int (iN v2), .int (iN v3)] : List Value).toArray below meth c H locs 0 0 (MQ below (QV G (shW κ tl) ad post (s.heap.size)) ([.ref (ad 17), .int (iN v1), .int (iN v2), .int (iN v3)] : List Value).toArray s 0 0 (Aw ad (shW κ tl).length s.heap.size)) (F0 m 19 ls []) := by
    intro v1_19 v2_19 v4_19 v5_19 n
    induction n with
    | zero =>
      intro v6_19 σ_19 H locs ls hw
      exact hw.elim
    | succ n19 ih19 =>
      intro v6_19 σ_19 H locs ls hw hW hl
      replace hw : w_X10_goOn_L19_body v1_19 v2_19 v4_19 v5_19 post (w_X10_goOn_L19 v1_19 v2_19 v4_19 v5_19 post n19) v6_19 σ_19 := hw
      have hB209 : ∀ (σ_209 : Mem) (v6_209 : Int) (H : Heap) (locs : List Loc) (ls : Array Slot), w_X10_goOn_B209 σ_209 v1_19 v2_19 v4_19 v5_19 v6_209 post (w_X10_goOn_L19 v1_19 v2_19 v4_19 v5_19 post n19) → Wd G (shW κ tl) ad σ_209 (Aw ad (shW κ tl).length s.heap.size) s.heap H locs → lv_has ls 11 [(0, .ref (ad 17)), (1, .int (iN v1_19)), (2, .int (iN v2_19)), (4, .int (iN v4_19)), (5, .int (iN v5_19)), (6, .int (iN v6_209))] → W p l e ({ frames := 3, cells := 0, slots := 0, locals := 82 } : Room) s m ([.ref (ad 17), .int (iN v1), .int (iN v2), .int (iN v3)] : List Value).toArray below meth c H locs 0 0 (MQ below (QV G (shW κ tl) ad post (s.heap.size)) ([.ref (ad 17), .int (iN v1), .int (iN v2), .int (iN v3)] : List Value).toArray s 0 0 (Aw ad (shW κ tl).length s.heap.size)) (F0 m 209 ls []) := by
        intro σ_209 v6_209 H locs ls hw hW hl
        unfold w_X10_goOn_B209 at hw
        refine lv_iinc (v := iN (v6_209 + 1)) (lv' := [(6, .int (iN (v6_209 + 1))), (0, .ref (ad 17)), (1, .int (iN v1_19)), (2, .int (iN v2_19)), (4, .int (iN v4_19)), (5, .int (iN v5_19))]) hx hb dX10_goOn_209 hl (k := 5) rfl (iN_add _ _) (by decide) rfl (fun ls hl => ?_)
        refine lv_goto (tgt := 19) hx hb dX10_goOn_212 (by decide) ?_
        exact ih19 (v6_209 + 1) σ_209 H locs ls hw hW (lv_sub hl [1, 2, 3, 4, 5, 0] rfl)
      have hL68 : ∀ (v6_68 : Int) (n : Nat) (v7_68 : Int) (σ_68 : Mem) (H : Heap) (locs : List Loc) (ls : Array Slot), w_X10_goOn_L68 v1_19 v2_19 v4_19 v5_19 v6_68 post (w_X10_goOn_L19 v1_19 v2_19 v4_19 v5_19 post n19) n v7_68 σ_68 → Wd G (shW κ tl) ad σ_68 (Aw ad (shW κ tl).length s.heap.size) s.heap H locs → lv_has ls 11 [(0, .ref (ad 17)), (1, .int (iN v1_19)), (2, .int (iN v2_19)), (4, .int (iN v4_19)), (5, .int (iN v5_19)), (6, .int (iN v6_68)), (7, .int (iN v7_68))] → W p l e ({ frames := 3, cells := 0, slots := 0, locals := 82 } : Room) s m ([.ref (ad 17), .int (iN v1), .int (iN v2), .int (iN v3)] : List Value).toArray below meth c H locs 0 0 (MQ below (QV G (shW κ tl) ad post (s.heap.size)) ([.ref (ad 17), .int (iN v1), .int (iN v2), .int (iN v3)] : List Value).toArray s 0 0 (Aw ad (shW κ tl).length s.heap.size)) (F0 m 68 ls []) := by
        intro v6_68 n
        induction n with
        | zero =>
          intro v7_68 σ_68 H locs ls hw
          exact hw.elim
        | succ n68 ih68 =>
          intro v7_68 σ_68 H locs ls hw hW hl
          replace hw : w_X10_goOn_L68_body v1_19 v2_19 v4_19 v5_19 v6_68 post (w_X10_goOn_L19 v1_19 v2_19 v4_19 v5_19 post n19) (w_X10_goOn_L68 v1_19 v2_19 v4_19 v5_19 v6_68 post (w_X10_goOn_L19 v1_19 v2_19 v4_19 v5_19 post n19) n68) v7_68 σ_68 := hw
          have hB203 : ∀ (σ_203 : Mem) (v7_203 : Int) (H : Heap) (locs : List Loc) (ls : Array Slot), w_X10_goOn_B203 σ_203 v1_19 v2_19 v4_19 v5_19 v6_68 v7_203 post (w_X10_goOn_L19 v1_19 v2_19 v4_19 v5_19 post n19) (w_X10_goOn_L68 v1_19 v2_19 v4_19 v5_19 v6_68 post (w_X10_goOn_L19 v1_19 v2_19 v4_19 v5_19 post n19) n68) → Wd G (shW κ tl) ad σ_203 (Aw ad (shW κ tl).length s.heap.size) s.heap H locs → lv_has ls 11 [(0, .ref (ad 17)), (1, .int (iN v1_19)), (2, .int (iN v2_19)), (4, .int (iN v4_19)), (5, .int (iN v5_19)), (6, .int (iN v6_68)), (7, .int (iN v7_203))] → W p l e ({ frames := 3, cells := 0, slots := 0, locals := 82 } : Room) s m ([.ref (ad 17), .int (iN v1), .int (iN v2), .int (iN v3)] : List Value).toArray below meth c H locs 0 0 (MQ below (QV G (shW κ tl) ad post (s.heap.size)) ([.ref (ad 17), .int (iN v1), .int (iN v2), .int (iN v3)] : List Value).toArray s 0 0 (Aw ad (shW κ tl).length s.heap.size)) (F0 m 203 ls []) := by
            intro σ_203 v7_203 H locs ls hw hW hl
            unfold w_X10_goOn_B203 at hw
            refine lv_iinc (v := iN (v7_203 + 1)) (lv' := [(7, .int (iN (v7_203 + 1))), (0, .ref (ad 17)), (1, .int (iN v1_19)), (2, .int (iN v2_19)), (4, .int (iN v4_19)), (5, .int (iN v5_19)), (6, .int (iN v6_68))]) hx hb dX10_goOn_203 hl (k := 6) rfl (iN_add _ _) (by decide) rfl (fun ls hl => ?_)
            refine lv_goto (tgt := 68) hx hb dX10_goOn_206 (by decide) ?_
            exact ih68 (v7_203 + 1) σ_203 H locs ls hw hW (lv_sub hl [1, 2, 3, 4, 5, 6, 0] rfl)
          have hL121 : ∀ (v7_121 : Int) (v8_121 : Int) (v9_121 : Int) (n : Nat) (v10_121 : Int) (σ_121 : Mem) (H : Heap) (locs : List Loc) (ls : Array Slot), w_X10_goOn_L121 v1_19 v2_19 v4_19 v5_19 v6_68 v7_121 v8_121 v9_121 post (w_X10_goOn_L19 v1_19 v2_19 v4_19 v5_19 post n19) (w_X10_goOn_L68 v1_19 v2_19 v4_19 v5_19 v6_68 post (w_X10_goOn_L19 v1_19 v2_19 v4_19 v5_19 post n19) n68) n v10_121 σ_121 → Wd G (shW κ tl) ad σ_121 (Aw ad (shW κ tl).length s.heap.size) s.heap H locs → lv_has ls 11 [(0, .ref (ad 17)), (1, .int (iN v1_19)), (2, .int (iN v2_19)), (4, .int (iN v4_19)), (5, .int (iN v5_19)), (6, .int (iN v6_68)), (7, .int (iN v7_121)), (8, .int (iN v8_121)), (9, .int (iN v9_121)), (10, .int (iN v10_121))] → W p l e ({ frames := 3, cells := 0, slots := 0, locals := 82 } : Room) s m ([.ref (ad 17), .int (iN v1), .int (iN v2), .int (iN v3)] : List Value).toArray below meth c H locs 0 0 (MQ below (QV G (shW κ tl) ad post (s.heap.size)) ([.ref (ad 17), .int (iN v1), .int (iN v2), .int (iN v3)] : List Value).toArray s 0 0 (Aw ad (shW κ tl).length s.heap.size)) (F0 m 121 ls []) := by
            intro v7_121 v8_121 v9_121 n
            induction n with
            | zero =>
              intro v10_121 σ_121 H locs ls hw
              exact hw.elim
            | succ n121 ih121 =>
              intro v10_121 σ_121 H locs ls hw hW hl
              replace hw : w_X10_goOn_L121_body v1_19 v2_19 v4_19 v5_19 v6_68 v7_121 v8_121 v9_121 post (w_X10_goOn_L19 v1_19 v2_19 v4_19 v5_19 post n19) (w_X10_goOn_L68 v1_19 v2_19 v4_19 v5_19 v6_68 post (w_X10_goOn_L19 v1_19 v2_19 v4_19 v5_19 post n19) n68) (w_X10_goOn_L121 v1_19 v2_19 v4_19 v5_19 v6_68 v7_121 v8_121 v9_121 post (w_X10_goOn_L19 v1_19 v2_19 v4_19 v5_19 post n19) (w_X10_goOn_L68 v1_19 v2_19 v4_19 v5_19 v6_68 post (w_X10_goOn_L19 v1_19 v2_19 v4_19 v5_19 post n19) n68) n121) v10_121 σ_121 := hw
              unfold w_X10_goOn_L121_body at hw
              refine lv_iload hx hb dX10_goOn_121 (lv_at hl 7 rfl) ?_
              refine n_if_lt hx hb hw.1 hw.2.1 hw.2.2 (tgt := 203) dX10_goOn_123 (by decide) (fun hw => ?_) (fun hw => ?_)
              · exact hB203 σ_121 v7_121 H locs ls hw hW (lv_sub hl [0, 1, 2, 3, 4, 5, 6] rfl)
              · refine lv_iload hx hb dX10_goOn_126 (lv_at hl 9 rfl) ?_
                refine lv_iload hx hb dX10_goOn_128 (lv_at hl 8 rfl) ?_
                refine n_iadd hx hb dX10_goOn_130 ?_
                refine n_sipush hx hb dX10_goOn_131 (by decide) ?_
                refine n_icmp_ge hx hb hw.1 (rg_c _ rfl) hw.2.1 hw.2.2 (tgt := 203) dX10_goOn_134 (by decide) (fun hw => ?_) (fun hw => ?_)
                · exact hB203 σ_121 v7_121 H locs ls hw hW (lv_sub hl [0, 1, 2, 3, 4, 5, 6] rfl)
                · refine lv_aload_n hx hb dX10_goOn_137 rfl (lv_at hl 0 rfl) ?_
                  refine g_getr hx hb hts hown hK hW 17 rfl (q := 32) rfl uw_X10 17 (by decide) rfl al_780 (fun _ h9 => h9) dX10_goOn_138 ?_
                  refine lv_iload hx hb dX10_goOn_141 (lv_at hl 4 rfl) ?_
                  refine n_sipush hx hb dX10_goOn_143 (by decide) ?_
                  refine lv_iload hx hb dX10_goOn_146 (lv_at hl 5 rfl) ?_
                  refine n_imul hx hb dX10_goOn_148 ?_
                  refine n_iadd hx hb dX10_goOn_149 ?_
                  refine lv_iload hx hb dX10_goOn_150 (lv_at hl 9 rfl) ?_
                  refine n_iadd hx hb dX10_goOn_152 ?_
                  refine lv_iload hx hb dX10_goOn_153 (lv_at hl 8 rfl) ?_
                  refine n_iadd hx hb dX10_goOn_155 ?_
                  refine lv_aload_n hx hb dX10_goOn_156 rfl (lv_at hl 0 rfl) ?_
                  refine g_getr hx hb hts hown hK hW 17 rfl (q := 32) rfl uw_X10 17 (by decide) rfl al_780 (fun _ h9 => h9) dX10_goOn_157 ?_
                  refine lv_iload hx hb dX10_goOn_160 (lv_at hl 4 rfl) ?_
                  refine n_sipush hx hb dX10_goOn_162 (by decide) ?_
                  refine lv_iload hx hb dX10_goOn_165 (lv_at hl 5 rfl) ?_
                  refine n_imul hx hb dX10_goOn_167 ?_
                  refine n_iadd hx hb dX10_goOn_168 ?_
                  refine lv_iload hx hb dX10_goOn_169 (lv_at hl 9 rfl) ?_
                  refine n_iadd hx hb dX10_goOn_171 ?_
                  refine lv_iload hx hb dX10_goOn_172 (lv_at hl 8 rfl) ?_
                  refine n_iadd hx hb dX10_goOn_174 ?_
                  refine g_ald hx hb hK hW 32 rfl hw.1 dX10_goOn_175 ?_
                  replace hw := hw.2
                  refine lv_aload_n hx hb dX10_goOn_176 rfl (lv_at hl 0 rfl) ?_
                  refine g_getr hx hb hts hown hK hW 17 rfl (q := 32) rfl uw_X10 17 (by decide) rfl al_780 (fun _ h9 => h9) dX10_goOn_177 ?_
                  refine lv_iload hx hb dX10_goOn_180 (lv_at hl 3 rfl) ?_
                  refine n_sipush hx hb dX10_goOn_182 (by decide) ?_
                  refine lv_iload hx hb dX10_goOn_185 (lv_at hl 6 rfl) ?_
                  refine n_imul hx hb dX10_goOn_187 ?_
                  refine n_iadd hx hb dX10_goOn_188 ?_
                  refine lv_iload hx hb dX10_goOn_189 (lv_at hl 9 rfl) ?_
                  refine n_iadd hx hb dX10_goOn_191 ?_
                  refine g_ald hx hb hK hW 32 rfl hw.1 dX10_goOn_192 ?_
                  replace hw := hw.2
                  refine fin_CI hW (run_S (As := [.int (iN (σ_121 32 ((((v5_19 + (301 * v6_68)) + v10_121) + v9_121)).toNat)), .int (iN (σ_121 32 (((v4_19 + (301 * v7_121)) + v10_121)).toNat))]) (rest := [.int (iN (((v5_19 + (301 * v6_68)) + v10_121) + v9_121)), .ref (ad 32)]) S hK hE hW (c_X10_more l G κ tl ad σ_121 (σ_121 32 ((((v5_19 + (301 * v6_68)) + v10_121) + v9_121)).toNat) (σ_121 32 (((v4_19 + (301 * v7_121)) + v10_121)).toNat) _ hw H.size) al_992 al_993 al_11 al_994 hd_X10_more.2 rfl rfl ⟨Nat.le_of_ble_eq_true rfl, Nat.le_of_ble_eq_true rfl⟩ rfl hl.1 rfl (Nat.le_of_ble_eq_true rfl) dX10_goOn_193 ⟨Nat.zero_le _, Nat.zero_le _⟩) ?_
                  intro r9 H locs hw hW
                  refine g_ast hx hb hK hW 32 rfl hw.1 dX10_goOn_196 (fun σ11 H locs hτ hW => ?_)
                  replace hw := hw.2 σ11 hτ
                  refine lv_iinc (v := iN (v10_121 + 1)) (lv' := [(10, .int (iN (v10_121 + 1))), (0, .ref (ad 17)), (1, .int (iN v1_19)), (2, .int (iN v2_19)), (4, .int (iN v4_19)), (5, .int (iN v5_19)), (6, .int (iN v6_68)), (7, .int (iN v7_121)), (8, .int (iN v8_121)), (9, .int (iN v9_121))]) hx hb dX10_goOn_197 hl (k := 9) rfl (iN_add _ _) (by decide) rfl (fun ls hl => ?_)
                  refine lv_goto (tgt := 121) hx hb dX10_goOn_200 (by decide) ?_
                  exact ih121 (v10_121 + 1) σ11 H locs ls hw hW (lv_sub hl [1, 2, 3, 4, 5, 6, 7, 8, 9, 0] rfl)
          unfold w_X10_goOn_L68_body at hw
          refine lv_iload hx hb dX10_goOn_68 (lv_at hl 6 rfl) ?_
          refine lv_aload_n hx hb dX10_goOn_70 rfl (lv_at hl 0 rfl) ?_
          refine g_getr hx hb hts hown hK hW 17 rfl (q := 25) rfl uw_X10 10 (by decide) rfl al_773 (fun _ h9 => h9) dX10_goOn_71 ?_
          refine lv_iload_n hx hb dX10_goOn_74 rfl (lv_at hl 1 rfl) ?_
          refine g_ald hx hb hK hW 25 rfl hw.1 dX10_goOn_75 ?_
          replace hw := hw.2
          refine n_icmp_ge hx hb hw.1 hw.2.1 hw.2.2.1 hw.2.2.2 (tgt := 209) dX10_goOn_76 (by decide) (fun hw => ?_) (fun hw => ?_)
          · exact hB209 σ_68 v6_68 H locs ls hw hW (lv_sub hl [0, 1, 2, 3, 4, 5] rfl)
          · refine lv_aload_n hx hb dX10_goOn_79 rfl (lv_at hl 0 rfl) ?_
            refine lv_iload_n hx hb dX10_goOn_80 rfl (lv_at hl 2 rfl) ?_
            refine lv_iload hx hb dX10_goOn_81 (lv_at hl 5 rfl) ?_
            refine fin_CI hW (run_V (k := 17) (As := [.int (iN v2_19), .int (iN v6_68)]) (rest := []) S hK hE hW (c_X10_isLet l G κ tl ad σ_68 v2_19 v6_68 _ hw H.size) rfl rfl al_951 al_953 sl_X10_isLet al_11 al_954 hd_X10_isLet rfl rfl ⟨Nat.le_of_ble_eq_true rfl, Nat.le_of_ble_eq_true rfl⟩ rfl hl.1 rfl (Nat.le_of_ble_eq_true rfl) dX10_goOn_83 ⟨Nat.zero_le _, Nat.zero_le _⟩) ?_
            intro r12 H locs hw hW
            refine n_if_eq hx hb hw.1 hw.2.1 hw.2.2 (tgt := 209) dX10_goOn_86 (by decide) (fun hw => ?_) (fun hw => ?_)
            · exact hB209 σ_68 v6_68 H locs ls hw hW (lv_sub hl [0, 1, 2, 3, 4, 5] rfl)
            · refine lv_aload_n hx hb dX10_goOn_89 rfl (lv_at hl 0 rfl) ?_
              refine lv_iload_n hx hb dX10_goOn_90 rfl (lv_at hl 1 rfl) ?_
              refine lv_iload hx hb dX10_goOn_91 (lv_at hl 6 rfl) ?_
              refine lv_iload_n hx hb dX10_goOn_93 rfl (lv_at hl 2 rfl) ?_
              refine lv_iload hx hb dX10_goOn_94 (lv_at hl 5 rfl) ?_
              refine fin_CI hW (run_V (k := 17) (As := [.int (iN v1_19), .int (iN v7_68), .int (iN v2_19), .int (iN v6_68)]) (rest := []) S hK hE hW (c_X10_stepOf l G κ tl ad σ_68 v1_19 v7_68 v2_19 v6_68 _ hw H.size) rfl rfl al_922 al_924 sl_X10_stepOf al_11 al_925 hd_X10_stepOf rfl rfl ⟨Nat.le_of_ble_eq_true rfl, Nat.le_of_ble_eq_true rfl⟩ rfl hl.1 rfl (Nat.le_of_ble_eq_true rfl) dX10_goOn_96 ⟨Nat.zero_le _, Nat.zero_le _⟩) ?_
              intro r14 H locs hw hW
              refine lv_istore (lv' := [(8, .int (iN r14)), (0, .ref (ad 17)), (1, .int (iN v1_19)), (2, .int (iN v2_19)), (4, .int (iN v4_19)), (5, .int (iN v5_19)), (6, .int (iN v6_68)), (7, .int (iN v7_68))]) hx hb dX10_goOn_99 hl (by decide) rfl (fun ls hl => ?_)
              refine lv_iload hx hb dX10_goOn_101 (lv_at hl 0 rfl) ?_
              refine lv_aload_n hx hb dX10_goOn_103 rfl (lv_at hl 1 rfl) ?_
              refine g_getr hx hb hts hown hK hW 17 rfl (q := 28) rfl uw_X10 13 (by decide) rfl al_776 (fun _ h9 => h9) dX10_goOn_104 ?_
              refine n_bipush hx hb dX10_goOn_107 (by decide) ?_
              refine lv_iload_n hx hb dX10_goOn_109 rfl (lv_at hl 3 rfl) ?_
              refine n_imul hx hb dX10_goOn_110 ?_
              refine lv_iload hx hb dX10_goOn_111 (lv_at hl 6 rfl) ?_
              refine n_iadd hx hb dX10_goOn_113 ?_
              refine g_ald hx hb hK hW 28 rfl hw.1 dX10_goOn_114 ?_
              replace hw := hw.2
              refine n_iadd hx hb dX10_goOn_115 ?_
              refine lv_istore (lv' := [(9, .int (iN (r14 + (σ_68 28 (((80 * v2_19) + v6_68)).toNat)))), (8, .int (iN r14)), (0, .ref (ad 17)), (1, .int (iN v1_19)), (2, .int (iN v2_19)), (4, .int (iN v4_19)), (5, .int (iN v5_19)), (6, .int (iN v6_68)), (7, .int (iN v7_68))]) hx hb dX10_goOn_116 hl (by decide) rfl (fun ls hl => ?_)
              refine n_iconst hx hb dX10_goOn_118 ?_
              refine lv_istore (lv' := [(10, .int (iN 0)), (9, .int (iN (r14 + (σ_68 28 (((80 * v2_19) + v6_68)).toNat)))), (8, .int (iN r14)), (0, .ref (ad 17)), (1, .int (iN v1_19)), (2, .int (iN v2_19)), (4, .int (iN v4_19)), (5, .int (iN v5_19)), (6, .int (iN v6_68)), (7, .int (iN v7_68))]) hx hb dX10_goOn_119 hl (by decide) rfl (fun ls hl => ?_)
              obtain ⟨n, hw⟩ := hw
              exact hL121 v7_68 r14 (r14 + (σ_68 28 (((80 * v2_19) + v6_68)).toNat)) n 0 σ_68 H locs ls hw hW (lv_sub hl [3, 4, 5, 6, 7, 8, 9, 2, 1, 0] rfl)
      have hL33 : ∀ (v6_33 : Int) (n : Nat) (v7_33 : Int) (σ_33 : Mem) (H : Heap) (locs : List Loc) (ls : Array Slot), w_X10_goOn_L33 v1_19 v2_19 v4_19 v5_19 v6_33 post (w_X10_goOn_L19 v1_19 v2_19 v4_19 v5_19 post n19) n v7_33 σ_33 → Wd G (shW κ tl) ad σ_33 (Aw ad (shW κ tl).length s.heap.size) s.heap H locs → lv_has ls 11 [(0, .ref (ad 17)), (1, .int (iN v1_19)), (2, .int (iN v2_19)), (4, .int (iN v4_19)), (5, .int (iN v5_19)), (6, .int (iN v6_33)), (7, .int (iN v7_33))] → W p l e ({ frames := 3, cells := 0, slots := 0, locals := 82 } : Room) s m ([.ref (ad 17), .int (iN v1), .int (iN v2), .int (iN v3)] : List Value).toArray below meth c H locs 0 0 (MQ below (QV G (shW κ tl) ad post (s.heap.size)) ([.ref (ad 17), .int (iN v1), .int (iN v2), .int (iN v3)] : List Value).toArray s 0 0 (Aw ad (shW κ tl).length s.heap.size)) (F0 m 33 ls []) := by
        intro v6_33 n
        induction n with
        | zero =>
          intro v7_33 σ_33 H locs ls hw
          exact hw.elim
        | succ n33 ih33 =>
          intro v7_33 σ_33 H locs ls hw hW hl
          replace hw : w_X10_goOn_L33_body v1_19 v2_19 v4_19 v5_19 v6_33 post (w_X10_goOn_L19 v1_19 v2_19 v4_19 v5_19 post n19) (w_X10_goOn_L33 v1_19 v2_19 v4_19 v5_19 v6_33 post (w_X10_goOn_L19 v1_19 v2_19 v4_19 v5_19 post n19) n33) v7_33 σ_33 := hw
          unfold w_X10_goOn_L33_body at hw
          refine lv_iload hx hb dX10_goOn_33 (lv_at hl 6 rfl) ?_
          refine n_sipush hx hb dX10_goOn_35 (by decide) ?_
          refine n_icmp_ge hx hb hw.1 (rg_c _ rfl) hw.2.1 hw.2.2 (tgt := 65) dX10_goOn_38 (by decide) (fun hw => ?_) (fun hw => ?_)
          · refine n_iconst hx hb dX10_goOn_65 ?_
            refine lv_istore (lv' := [(7, .int (iN 0)), (0, .ref (ad 17)), (1, .int (iN v1_19)), (2, .int (iN v2_19)), (4, .int (iN v4_19)), (5, .int (iN v5_19)), (6, .int (iN v6_33))]) hx hb dX10_goOn_66 hl (by decide) rfl (fun ls hl => ?_)
            obtain ⟨n, hw⟩ := hw
            exact hL68 v6_33 n 0 σ_33 H locs ls hw hW (lv_sub hl [1, 2, 3, 4, 5, 6, 0] rfl)
          · refine lv_aload_n hx hb dX10_goOn_41 rfl (lv_at hl 0 rfl) ?_
            refine g_getr hx hb hts hown hK hW 17 rfl (q := 32) rfl uw_X10 17 (by decide) rfl al_780 (fun _ h9 => h9) dX10_goOn_42 ?_
            refine lv_iload hx hb dX10_goOn_45 (lv_at hl 4 rfl) ?_
            refine n_sipush hx hb dX10_goOn_47 (by decide) ?_
            refine lv_iload hx hb dX10_goOn_50 (lv_at hl 5 rfl) ?_
            refine n_imul hx hb dX10_goOn_52 ?_
            refine n_iadd hx hb dX10_goOn_53 ?_
            refine lv_iload hx hb dX10_goOn_54 (lv_at hl 6 rfl) ?_
            refine n_iadd hx hb dX10_goOn_56 ?_
            refine n_iconst hx hb dX10_goOn_57 ?_
            refine g_ast hx hb hK hW 32 rfl hw.1 dX10_goOn_58 (fun σ16 H locs hτ hW => ?_)
            replace hw := hw.2 σ16 hτ
            refine lv_iinc (v := iN (v7_33 + 1)) (lv' := [(7, .int (iN (v7_33 + 1))), (0, .ref (ad 17)), (1, .int (iN v1_19)), (2, .int (iN v2_19)), (4, .int (iN v4_19)), (5, .int (iN v5_19)), (6, .int (iN v6_33))]) hx hb dX10_goOn_59 hl (k := 6) rfl (iN_add _ _) (by decide) rfl (fun ls hl => ?_)
            refine lv_goto (tgt := 33) hx hb dX10_goOn_62 (by decide) ?_
            exact ih33 (v7_33 + 1) σ16 H locs ls hw hW (lv_sub hl [1, 2, 3, 4, 5, 6, 0] rfl)
      unfold w_X10_goOn_L19_body at hw
      refine lv_iload hx hb dX10_goOn_19 (lv_at hl 5 rfl) ?_
      refine lv_aload_n hx hb dX10_goOn_21 rfl (lv_at hl 0 rfl) ?_
      refine g_getr hx hb hts hown hK hW 17 rfl (q := 25) rfl uw_X10 10 (by decide) rfl al_773 (fun _ h9 => h9) dX10_goOn_22 ?_
      refine lv_iload_n hx hb dX10_goOn_25 rfl (lv_at hl 2 rfl) ?_
      refine g_ald hx hb hK hW 25 rfl hw.1 dX10_goOn_26 ?_
      replace hw := hw.2
      refine n_icmp_ge hx hb hw.1 hw.2.1 hw.2.2.1 hw.2.2.2 (tgt := 215) dX10_goOn_27 (by decide) (fun hw => ?_) (fun hw => ?_)
      · exact r_CV hx hb hr hlk hK hW hw dX10_goOn_215
      · refine n_iconst hx hb dX10_goOn_30 ?_
        refine lv_istore (lv' := [(7, .int (iN 0)), (0, .ref (ad 17)), (1, .int (iN v1_19)), (2, .int (iN v2_19)), (4, .int (iN v4_19)), (5, .int (iN v5_19)), (6, .int (iN v6_19))]) hx hb dX10_goOn_31 hl (by decide) rfl (fun ls hl => ?_)
        obtain ⟨n, hw⟩ := hw
        exact hL33 v6_19 n 0 σ_19 H locs ls hw hW (lv_sub hl [1, 2, 3, 4, 5, 6, 0] rfl)
  unfold w_X10_goOn at hw
  refine n_sipush hx hb dX10_goOn_0 (by decide) ?_
  refine lv_iload_n hx hb dX10_goOn_3 rfl (lv_at hl 3 rfl) ?_
  refine n_imul hx hb dX10_goOn_4 ?_
  refine lv_istore (lv' := [(4, .int (iN (24080 * v3))), (0, .ref (ad 17)), (1, .int (iN v1)), (2, .int (iN v2)), (3, .int (iN v3))]) hx hb dX10_goOn_5 hl (by decide) rfl (fun ls hl => ?_)
  refine n_sipush hx hb dX10_goOn_7 (by decide) ?_
  refine n_iconst hx hb dX10_goOn_10 ?_
  refine lv_iload_n hx hb dX10_goOn_11 rfl (lv_at hl 4 rfl) ?_
  refine n_isub hx hb dX10_goOn_12 ?_
  refine n_imul hx hb dX10_goOn_13 ?_
  refine lv_istore (lv' := [(5, .int (iN (24080 * (1 - v3)))), (4, .int (iN (24080 * v3))), (0, .ref (ad 17)), (1, .int (iN v1)), (2, .int (iN v2)), (3, .int (iN v3))]) hx hb dX10_goOn_14 hl (by decide) rfl (fun ls hl => ?_)
  refine n_iconst hx hb dX10_goOn_16 ?_
  refine lv_istore (lv' := [(6, .int (iN 0)), (5, .int (iN (24080 * (1 - v3)))), (4, .int (iN (24080 * v3))), (0, .ref (ad 17)), (1, .int (iN v1)), (2, .int (iN v2)), (3, .int (iN v3))]) hx hb dX10_goOn_17 hl (by decide) rfl (fun ls hl => ?_)
  obtain ⟨n, hw⟩ := hw
  exact hL19 v1 v2 (24080 * v3) (24080 * (1 - v3)) n 0 σ s.heap [] ls hw hW (lv_sub hl [3, 4, 5, 2, 1, 0] rfl)
set_option maxHeartbeats 4000000 in
set_option maxRecDepth 100000 in
theorem c_X10_countChain (l : Launch) (G : Gt) (κ : Nat)  (tl : Bool) (ad : Nat → Nat)  (σ : Mem) (v1 : Int) (post : Mem → Prop) (hw : w_X10_countChain  σ v1 post) : CV l yX10_countChain (Cond.code yX10_countChain cX10_countChain 6 none) ({ frames := 4, cells := 0, slots := 0, locals := 112 } : Room) G (shW κ tl) ad σ [.ref (ad 17), .int (iN v1)] post := by
  refine s_all (y := yX10_countChain) (code := cX10_countChain) (maxL := 6) (ret := none) (rm := ({ frames := 4, cells := 0, slots := 0, locals := 112 } : Room)) (av := [.ref (ad 17), .int (iN v1)]) (Qc := fun sz => QV G (shW κ tl) ad post (sz)) (by decide) (Nat.le_of_ble_eq_true rfl) ?_
  intro p e s m below meth c S hr hlk _ hK hE hW ls hl
  obtain ⟨hx, hb, hml, hown, hts⟩ := id S
  replace hl : lv_has ls 6 [(0, .ref (ad 17)), (1, .int (iN v1))] := hl
  have hL88 : ∀ (v2_88 : Int) (v3_88 : Int) (n : Nat) (v4_88 : Int) (σ_88 : Mem) (H : Heap) (locs : List Loc) (ls : Array Slot), w_X10_countChain_L88 v2_88 v3_88 post n v4_88 σ_88 → Wd G (shW κ tl) ad σ_88 (Aw ad (shW κ tl).length s.heap.size) s.heap H locs → lv_has ls 6 [(0, .ref (ad 17)), (2, .int (iN v2_88)), (3, .int (iN v3_88)), (4, .int (iN v4_88))] → W p l e ({ frames := 4, cells := 0, slots := 0, locals := 112 } : Room) s m ([.ref (ad 17), .int (iN v1)] : List Value).toArray below meth c H locs 0 0 (MQ below (QV G (shW κ tl) ad post (s.heap.size)) ([.ref (ad 17), .int (iN v1)] : List Value).toArray s 0 0 (Aw ad (shW κ tl).length s.heap.size)) (F0 m 88 ls []) := by
    intro v2_88 v3_88 n
    induction n with
    | zero =>
      intro v4_88 σ_88 H locs ls hw
      exact hw.elim
    | succ n88 ih88 =>
      intro v4_88 σ_88 H locs ls hw hW hl
      replace hw : w_X10_countChain_L88_body v2_88 v3_88 post (w_X10_countChain_L88 v2_88 v3_88 post n88) v4_88 σ_88 := hw
      have hL102 : ∀ (v4_102 : Int) (n : Nat) (v5_102 : Int) (σ_102 : Mem) (H : Heap) (locs : List Loc) (ls : Array Slot), w_X10_countChain_L102 v2_88 v3_88 v4_102 post (w_X10_countChain_L88 v2_88 v3_88 post n88) n v5_102 σ_102 → Wd G (shW κ tl) ad σ_102 (Aw ad (shW κ tl).length s.heap.size) s.heap H locs → lv_has ls 6 [(0, .ref (ad 17)), (2, .int (iN v2_88)), (3, .int (iN v3_88)), (4, .int (iN v4_102)), (5, .int (iN v5_102))] → W p l e ({ frames := 4, cells := 0, slots := 0, locals := 112 } : Room) s m ([.ref (ad 17), .int (iN v1)] : List Value).toArray below meth c H locs 0 0 (MQ below (QV G (shW κ tl) ad post (s.heap.size)) ([.ref (ad 17), .int (iN v1)] : List Value).toArray s 0 0 (Aw ad (shW κ tl).length s.heap.size)) (F0 m 102 ls []) := by
        intro v4_102 n
        induction n with
        | zero =>
          intro v5_102 σ_102 H locs ls hw
          exact hw.elim
        | succ n102 ih102 =>
          intro v5_102 σ_102 H locs ls hw hW hl
          replace hw : w_X10_countChain_L102_body v2_88 v3_88 v4_102 post (w_X10_countChain_L88 v2_88 v3_88 post n88) (w_X10_countChain_L102 v2_88 v3_88 v4_102 post (w_X10_countChain_L88 v2_88 v3_88 post n88) n102) v5_102 σ_102 := hw
          unfold w_X10_countChain_L102_body at hw
          refine lv_iload hx hb dX10_countChain_102 (lv_at hl 4 rfl) ?_
          refine n_sipush hx hb dX10_countChain_104 (by decide) ?_
          refine n_icmp_ge hx hb hw.1 (rg_c _ rfl) hw.2.1 hw.2.2 (tgt := 153) dX10_countChain_107 (by decide) (fun hw => ?_) (fun hw => ?_)
          · refine lv_iinc (v := iN (v4_102 + 1)) (lv' := [(4, .int (iN (v4_102 + 1))), (0, .ref (ad 17)), (2, .int (iN v2_88)), (3, .int (iN v3_88)), (5, .int (iN v5_102))]) hx hb dX10_countChain_153 hl (k := 3) rfl (iN_add _ _) (by decide) rfl (fun ls hl => ?_)
            refine lv_goto (tgt := 88) hx hb dX10_countChain_156 (by decide) ?_
            exact ih88 (v4_102 + 1) σ_102 H locs ls hw hW (lv_sub hl [1, 2, 3, 0] rfl)
          · refine lv_aload_n hx hb dX10_countChain_110 rfl (lv_at hl 0 rfl) ?_
            refine g_getr hx hb hts hown hK hW 17 rfl (q := 33) rfl uw_X10 18 (by decide) rfl al_781 (fun _ h9 => h9) dX10_countChain_111 ?_
            refine lv_iload hx hb dX10_countChain_114 (lv_at hl 4 rfl) ?_
            refine lv_aload_n hx hb dX10_countChain_116 rfl (lv_at hl 0 rfl) ?_
            refine g_getr hx hb hts hown hK hW 17 rfl (q := 33) rfl uw_X10 18 (by decide) rfl al_781 (fun _ h9 => h9) dX10_countChain_117 ?_
            refine lv_iload hx hb dX10_countChain_120 (lv_at hl 4 rfl) ?_
            refine g_ald hx hb hK hW 33 rfl hw.1 dX10_countChain_122 ?_
            replace hw := hw.2
            refine lv_aload_n hx hb dX10_countChain_123 rfl (lv_at hl 0 rfl) ?_
            refine g_getr hx hb hts hown hK hW 17 rfl (q := 32) rfl uw_X10 17 (by decide) rfl al_780 (fun _ h9 => h9) dX10_countChain_124 ?_
            refine n_sipush hx hb dX10_countChain_127 (by decide) ?_
            refine lv_iload_n hx hb dX10_countChain_130 rfl (lv_at hl 2 rfl) ?_
            refine n_imul hx hb dX10_countChain_131 ?_
            refine n_sipush hx hb dX10_countChain_132 (by decide) ?_
            refine lv_iload hx hb dX10_countChain_135 (lv_at hl 3 rfl) ?_
            refine n_imul hx hb dX10_countChain_137 ?_
            refine n_iadd hx hb dX10_countChain_138 ?_
            refine lv_iload hx hb dX10_countChain_139 (lv_at hl 4 rfl) ?_
            refine n_iadd hx hb dX10_countChain_141 ?_
            refine g_ald hx hb hK hW 32 rfl hw.1 dX10_countChain_142 ?_
            replace hw := hw.2
            refine fin_CI hW (run_S (As := [.int (iN (σ_102 33 (v5_102).toNat)), .int (iN (σ_102 32 ((((24080 * v3_88) + (301 * v4_102)) + v5_102)).toNat))]) (rest := [.int (iN v5_102), .ref (ad 33)]) S hK hE hW (c_X10_more l G κ tl ad σ_102 (σ_102 33 (v5_102).toNat) (σ_102 32 ((((24080 * v3_88) + (301 * v4_102)) + v5_102)).toNat) _ hw H.size) al_992 al_993 al_11 al_994 hd_X10_more.2 rfl rfl ⟨Nat.le_of_ble_eq_true rfl, Nat.le_of_ble_eq_true rfl⟩ rfl hl.1 rfl (Nat.le_of_ble_eq_true rfl) dX10_countChain_143 ⟨Nat.zero_le _, Nat.zero_le _⟩) ?_
            intro r16 H locs hw hW
            refine g_ast hx hb hK hW 33 rfl hw.1 dX10_countChain_146 (fun σ18 H locs hτ hW => ?_)
            replace hw := hw.2 σ18 hτ
            refine lv_iinc (v := iN (v5_102 + 1)) (lv' := [(5, .int (iN (v5_102 + 1))), (0, .ref (ad 17)), (2, .int (iN v2_88)), (3, .int (iN v3_88)), (4, .int (iN v4_102))]) hx hb dX10_countChain_147 hl (k := 4) rfl (iN_add _ _) (by decide) rfl (fun ls hl => ?_)
            refine lv_goto (tgt := 102) hx hb dX10_countChain_150 (by decide) ?_
            exact ih102 (v5_102 + 1) σ18 H locs ls hw hW (lv_sub hl [1, 2, 3, 4, 0] rfl)
      unfold w_X10_countChain_L88_body at hw
      refine lv_iload hx hb dX10_countChain_88 (lv_at hl 3 rfl) ?_
      refine lv_aload_n hx hb dX10_countChain_90 rfl (lv_at hl 0 rfl) ?_
      refine g_getr hx hb hts hown hK hW 17 rfl (q := 25) rfl uw_X10 10 (by decide) rfl al_773 (fun _ h9 => h9) dX10_countChain_91 ?_
      refine lv_iload_n hx hb dX10_countChain_94 rfl (lv_at hl 1 rfl) ?_
      refine g_ald hx hb hK hW 25 rfl hw.1 dX10_countChain_95 ?_
      replace hw := hw.2
      refine n_icmp_ge hx hb hw.1 hw.2.1 hw.2.2.1 hw.2.2.2 (tgt := 159) dX10_countChain_96 (by decide) (fun hw => ?_) (fun hw => ?_)
      · exact r_CV hx hb hr hlk hK hW hw dX10_countChain_159
      · refine n_iconst hx hb dX10_countChain_99 ?_
        refine lv_istore (lv' := [(5, .int (iN 0)), (0, .ref (ad 17)), (2, .int (iN v2_88)), (3, .int (iN v3_88)), (4, .int (iN v4_88))]) hx hb dX10_countChain_100 hl (by decide) rfl (fun ls hl => ?_)
        obtain ⟨n, hw⟩ := hw
        exact hL102 v4_88 n 0 σ_88 H locs ls hw hW (lv_sub hl [1, 2, 3, 4, 0] rfl)
  have hL54 : ∀  (n : Nat) (v2_54 : Int) (v3_54 : Int) (v4_54 : Int) (σ_54 : Mem) (H : Heap) (locs : List Loc) (ls : Array Slot), w_X10_countChain_L54 post n v2_54 v3_54 v4_54 σ_54 → Wd G (shW κ tl) ad σ_54 (Aw ad (shW κ tl).length s.heap.size) s.heap H locs → lv_has ls 6 [(0, .ref (ad 17)), (2, .int (iN v2_54)), (3, .int (iN v3_54)), (4, .int (iN v4_54))] → W p l e ({ frames := 4, cells := 0, slots := 0, locals := 112 } : Room) s m ([.ref (ad 17), .int (iN v1)] : List Value).toArray below meth c H locs 0 0 (MQ below (QV G (shW κ tl) ad post (s.heap.size)) ([.ref (ad 17), .int (iN v1)] : List Value).toArray s 0 0 (Aw ad (shW κ tl).length s.heap.size)) (F0 m 54 ls []) := by
    intro  n
    induction n with
    | zero =>
      intro v2_54 v3_54 v4_54 σ_54 H locs ls hw
      exact hw.elim
    | succ n54 ih54 =>
      intro v2_54 v3_54 v4_54 σ_54 H locs ls hw hW hl
      replace hw : w_X10_countChain_L54_body post (w_X10_countChain_L54 post n54) v2_54 v3_54 v4_54 σ_54 := hw
      unfold w_X10_countChain_L54_body at hw
      refine lv_iload hx hb dX10_countChain_54 (lv_at hl 3 rfl) ?_
      refine n_if_lt hx hb hw.1 hw.2.1 hw.2.2 (tgt := 85) dX10_countChain_56 (by decide) (fun hw => ?_) (fun hw => ?_)
      · refine n_iconst hx hb dX10_countChain_85 ?_
        refine lv_istore (lv' := [(4, .int (iN 0)), (0, .ref (ad 17)), (2, .int (iN v2_54)), (3, .int (iN v3_54))]) hx hb dX10_countChain_86 hl (by decide) rfl (fun ls hl => ?_)
        obtain ⟨n, hw⟩ := hw
        exact hL88 v2_54 v3_54 n 0 σ_54 H locs ls hw hW (lv_sub hl [1, 2, 3, 0] rfl)
      · refine lv_aload_n hx hb dX10_countChain_59 rfl (lv_at hl 0 rfl) ?_
        refine lv_iload_n hx hb dX10_countChain_60 rfl (lv_at hl 1 rfl) ?_
        refine lv_iload hx hb dX10_countChain_61 (lv_at hl 3 rfl) ?_
        refine lv_iload_n hx hb dX10_countChain_63 rfl (lv_at hl 2 rfl) ?_
        refine fin_CV hW (run_V (k := 17) (As := [.int (iN v2_54), .int (iN v4_54), .int (iN v3_54)]) (rest := []) S hK hE hW (c_X10_goOn l G κ tl ad σ_54 v2_54 v4_54 v3_54 _ hw H.size) rfl rfl al_988 al_990 sl_X10_goOn al_11 al_991 hd_X10_goOn rfl rfl ⟨Nat.le_of_ble_eq_true rfl, Nat.le_of_ble_eq_true rfl⟩ rfl hl.1 rfl (Nat.le_of_ble_eq_true rfl) dX10_countChain_64 ⟨Nat.zero_le _, Nat.zero_le _⟩) ?_
        intro σ20 H locs hw hW
        refine n_iconst hx hb dX10_countChain_67 ?_
        refine lv_iload_n hx hb dX10_countChain_68 rfl (lv_at hl 2 rfl) ?_
        refine n_isub hx hb dX10_countChain_69 ?_
        refine lv_istore_n (lv' := [(3, .int (iN (1 - v3_54))), (0, .ref (ad 17)), (2, .int (iN v2_54)), (4, .int (iN v4_54))]) hx hb dX10_countChain_70 rfl hl (by decide) rfl (fun ls hl => ?_)
        refine lv_iload hx hb dX10_countChain_71 (lv_at hl 3 rfl) ?_
        refine lv_istore_n (lv' := [(2, .int (iN v4_54)), (3, .int (iN (1 - v3_54))), (0, .ref (ad 17)), (4, .int (iN v4_54))]) hx hb dX10_countChain_73 rfl hl (by decide) rfl (fun ls hl => ?_)
        refine lv_aload_n hx hb dX10_countChain_74 rfl (lv_at hl 2 rfl) ?_
        refine lv_iload hx hb dX10_countChain_75 (lv_at hl 3 rfl) ?_
        refine fin_CI hW (run_V (k := 17) (As := [.int (iN v4_54)]) (rest := []) S hK hE hW (c_X10_after l G κ tl ad σ20 v4_54 _ hw H.size) rfl rfl al_918 al_920 sl_X10_after al_11 al_921 hd_X10_after rfl rfl ⟨Nat.le_of_ble_eq_true rfl, Nat.le_of_ble_eq_true rfl⟩ rfl hl.1 rfl (Nat.le_of_ble_eq_true rfl) dX10_countChain_77 ⟨Nat.zero_le _, Nat.zero_le _⟩) ?_
        intro r21 H locs hw hW
        refine lv_istore (lv' := [(4, .int (iN r21)), (2, .int (iN v4_54)), (3, .int (iN (1 - v3_54))), (0, .ref (ad 17))]) hx hb dX10_countChain_80 hl (by decide) rfl (fun ls hl => ?_)
        refine lv_goto (tgt := 54) hx hb dX10_countChain_82 (by decide) ?_
        exact ih54 v4_54 (1 - v3_54) r21 σ20 H locs ls hw hW (lv_sub hl [3, 1, 2, 0] rfl)
  have hL2 : ∀ (v1_2 : Int) (n : Nat) (v2_2 : Int) (σ_2 : Mem) (H : Heap) (locs : List Loc) (ls : Array Slot), w_X10_countChain_L2 v1_2 post n v2_2 σ_2 → Wd G (shW κ tl) ad σ_2 (Aw ad (shW κ tl).length s.heap.size) s.heap H locs → lv_has ls 6 [(0, .ref (ad 17)), (1, .int (iN v1_2)), (2, .int (iN v2_2))] → W p l e ({ frames := 4, cells := 0, slots := 0, locals := 112 } : Room) s m ([.ref (ad 17), .int (iN v1)] : List Value).toArray below meth c H locs 0 0 (MQ below (QV G (shW κ tl) ad post (s.heap.size)) ([.ref (ad 17), .int (iN v1)] : List Value).toArray s 0 0 (Aw ad (shW κ tl).length s.heap.size)) (F0 m 2 ls []) := by
    intro v1_2 n
    induction n with
    | zero =>
      intro v2_2 σ_2 H locs ls hw
      exact hw.elim
    | succ n2 ih2 =>
      intro v2_2 σ_2 H locs ls hw hW hl
      replace hw : w_X10_countChain_L2_body v1_2 post (w_X10_countChain_L2 v1_2 post n2) v2_2 σ_2 := hw
      unfold w_X10_countChain_L2_body at hw
      refine lv_iload_n hx hb dX10_countChain_2 rfl (lv_at hl 2 rfl) ?_
      refine n_sipush hx hb dX10_countChain_3 (by decide) ?_
      refine n_icmp_ge hx hb hw.1 (rg_c _ rfl) hw.2.1 hw.2.2 (tgt := 22) dX10_countChain_6 (by decide) (fun hw => ?_) (fun hw => ?_)
      · refine lv_aload_n hx hb dX10_countChain_22 rfl (lv_at hl 0 rfl) ?_
        refine lv_iload_n hx hb dX10_countChain_23 rfl (lv_at hl 1 rfl) ?_
        refine fin_CI hW (run_V (k := 17) (As := [.int (iN v1_2)]) (rest := []) S hK hE hW (c_X10_first l G κ tl ad σ_2 v1_2 _ hw H.size) rfl rfl al_959 al_961 sl_X10_first al_11 al_962 hd_X10_first rfl rfl ⟨Nat.le_of_ble_eq_true rfl, Nat.le_of_ble_eq_true rfl⟩ rfl hl.1 rfl (Nat.le_of_ble_eq_true rfl) dX10_countChain_24 ⟨Nat.zero_le _, Nat.zero_le _⟩) ?_
        intro r23 H locs hw hW
        refine lv_istore_n (lv' := [(2, .int (iN r23)), (0, .ref (ad 17)), (1, .int (iN v1_2))]) hx hb dX10_countChain_27 rfl hl (by decide) rfl (fun ls hl => ?_)
        refine lv_iload_n hx hb dX10_countChain_28 rfl (lv_at hl 0 rfl) ?_
        refine n_if_ge hx hb hw.1 hw.2.1 hw.2.2 (tgt := 40) dX10_countChain_29 (by decide) (fun hw => ?_) (fun hw => ?_)
        · refine n_iconst hx hb dX10_countChain_40 ?_
          refine lv_istore_n (lv' := [(3, .int (iN 0)), (2, .int (iN r23)), (0, .ref (ad 17)), (1, .int (iN v1_2))]) hx hb dX10_countChain_41 rfl hl (by decide) rfl (fun ls hl => ?_)
          refine lv_aload_n hx hb dX10_countChain_42 rfl (lv_at hl 2 rfl) ?_
          refine lv_iload_n hx hb dX10_countChain_43 rfl (lv_at hl 1 rfl) ?_
          refine fin_CV hW (run_V (k := 17) (As := [.int (iN r23)]) (rest := []) S hK hE hW (c_X10_beginCounts l G κ tl ad σ_2 r23 _ hw H.size) rfl rfl al_984 al_986 sl_X10_beginCounts al_11 al_987 hd_X10_beginCounts rfl rfl ⟨Nat.le_of_ble_eq_true rfl, Nat.le_of_ble_eq_true rfl⟩ rfl hl.1 rfl (Nat.le_of_ble_eq_true rfl) dX10_countChain_44 ⟨Nat.zero_le _, Nat.zero_le _⟩) ?_
          intro σ26 H locs hw hW
          refine lv_aload_n hx hb dX10_countChain_47 rfl (lv_at hl 2 rfl) ?_
          refine lv_iload_n hx hb dX10_countChain_48 rfl (lv_at hl 1 rfl) ?_
          refine fin_CI hW (run_V (k := 17) (As := [.int (iN r23)]) (rest := []) S hK hE hW (c_X10_after l G κ tl ad σ26 r23 _ hw H.size) rfl rfl al_918 al_920 sl_X10_after al_11 al_921 hd_X10_after rfl rfl ⟨Nat.le_of_ble_eq_true rfl, Nat.le_of_ble_eq_true rfl⟩ rfl hl.1 rfl (Nat.le_of_ble_eq_true rfl) dX10_countChain_49 ⟨Nat.zero_le _, Nat.zero_le _⟩) ?_
          intro r27 H locs hw hW
          refine lv_istore (lv' := [(4, .int (iN r27)), (3, .int (iN 0)), (2, .int (iN r23)), (0, .ref (ad 17)), (1, .int (iN v1_2))]) hx hb dX10_countChain_52 hl (by decide) rfl (fun ls hl => ?_)
          obtain ⟨n, hw⟩ := hw
          exact hL54 n r23 0 r27 σ26 H locs ls hw hW (lv_sub hl [3, 2, 1, 0] rfl)
        · refine lv_aload_n hx hb dX10_countChain_32 rfl (lv_at hl 1 rfl) ?_
          refine g_getr hx hb hts hown hK hW 17 rfl (q := 33) rfl uw_X10 18 (by decide) rfl al_781 (fun _ h9 => h9) dX10_countChain_33 ?_
          refine n_iconst hx hb dX10_countChain_36 ?_
          refine n_iconst hx hb dX10_countChain_37 ?_
          refine g_ast hx hb hK hW 33 rfl (inb_c _ _ rfl) dX10_countChain_38 (fun σ29 H locs hτ hW => ?_)
          replace hw := hw σ29 hτ
          exact r_CV hx hb hr hlk hK hW hw dX10_countChain_39
      · refine lv_aload_n hx hb dX10_countChain_9 rfl (lv_at hl 0 rfl) ?_
        refine g_getr hx hb hts hown hK hW 17 rfl (q := 33) rfl uw_X10 18 (by decide) rfl al_781 (fun _ h9 => h9) dX10_countChain_10 ?_
        refine lv_iload_n hx hb dX10_countChain_13 rfl (lv_at hl 2 rfl) ?_
        refine n_iconst hx hb dX10_countChain_14 ?_
        refine g_ast hx hb hK hW 33 rfl hw.1 dX10_countChain_15 (fun σ30 H locs hτ hW => ?_)
        replace hw := hw.2 σ30 hτ
        refine lv_iinc (v := iN (v2_2 + 1)) (lv' := [(2, .int (iN (v2_2 + 1))), (0, .ref (ad 17)), (1, .int (iN v1_2))]) hx hb dX10_countChain_16 hl (k := 2) rfl (iN_add _ _) (by decide) rfl (fun ls hl => ?_)
        refine lv_goto (tgt := 2) hx hb dX10_countChain_19 (by decide) ?_
        exact ih2 (v2_2 + 1) σ30 H locs ls hw hW (lv_sub hl [1, 2, 0] rfl)
  unfold w_X10_countChain at hw
  refine n_iconst hx hb dX10_countChain_0 ?_
  refine lv_istore_n (lv' := [(2, .int (iN 0)), (0, .ref (ad 17)), (1, .int (iN v1))]) hx hb dX10_countChain_1 rfl hl (by decide) rfl (fun ls hl => ?_)
  obtain ⟨n, hw⟩ := hw
  exact hL2 v1 n 0 σ s.heap [] ls hw hW (lv_sub hl [1, 2, 0] rfl)
set_option maxHeartbeats 4000000 in
set_option maxRecDepth 100000 in
theorem c_X10_ways (l : Launch) (G : Gt) (κ : Nat)  (tl : Bool) (ad : Nat → Nat)  (σ : Mem) (v1 : Int) (post : Int → Mem → Prop) (hw : w_X10_ways  σ v1 post) : CM l yX10_ways (Cond.code yX10_ways cX10_ways 6 (some .int)) ({ frames := 5, cells := 0, slots := 0, locals := 137 } : Room) G (shW κ tl) ad σ [.ref (ad 17), .int (iN v1)] post := by
  refine s_all (y := yX10_ways) (code := cX10_ways) (maxL := 6) (ret := (some .int)) (rm := ({ frames := 5, cells := 0, slots := 0, locals := 137 } : Room)) (av := [.ref (ad 17), .int (iN v1)]) (Qc := fun sz => QM G (shW κ tl) ad post (sz)) (by decide) (Nat.le_of_ble_eq_true rfl) ?_
  intro p e s m below meth c S hr hlk _ hK hE hW ls hl
  obtain ⟨hx, hb, hml, hown, hts⟩ := id S
  replace hl : lv_has ls 6 [(0, .ref (ad 17)), (1, .int (iN v1))] := hl
  have hL59 : ∀ (σ_59 : Mem) (v1_59 : Int) (n : Nat) (v2_59 : Int) (v4_59 : Int) (H : Heap) (locs : List Loc) (ls : Array Slot), w_X10_ways_L59 σ_59 v1_59 post n v2_59 v4_59 → Wd G (shW κ tl) ad σ_59 (Aw ad (shW κ tl).length s.heap.size) s.heap H locs → lv_has ls 6 [(0, .ref (ad 17)), (1, .int (iN v1_59)), (2, .long (jN v2_59)), (4, .int (iN v4_59))] → W p l e ({ frames := 5, cells := 0, slots := 0, locals := 137 } : Room) s m ([.ref (ad 17), .int (iN v1)] : List Value).toArray below meth c H locs 0 0 (MQ below (QM G (shW κ tl) ad post (s.heap.size)) ([.ref (ad 17), .int (iN v1)] : List Value).toArray s 0 0 (Aw ad (shW κ tl).length s.heap.size)) (F0 m 59 ls []) := by
    intro σ_59 v1_59 n
    induction n with
    | zero =>
      intro v2_59 v4_59 H locs ls hw
      exact hw.elim
    | succ n59 ih59 =>
      intro v2_59 v4_59 H locs ls hw hW hl
      replace hw : w_X10_ways_L59_body σ_59 v1_59 post (w_X10_ways_L59 σ_59 v1_59 post n59) v2_59 v4_59 := hw
      have hL68 : ∀ (v4_68 : Int) (n : Nat) (v2_68 : Int) (v5_68 : Int) (H : Heap) (locs : List Loc) (ls : Array Slot), w_X10_ways_L68 σ_59 v1_59 v4_68 post (w_X10_ways_L59 σ_59 v1_59 post n59) n v2_68 v5_68 → Wd G (shW κ tl) ad σ_59 (Aw ad (shW κ tl).length s.heap.size) s.heap H locs → lv_has ls 6 [(0, .ref (ad 17)), (1, .int (iN v1_59)), (2, .long (jN v2_68)), (4, .int (iN v4_68)), (5, .int (iN v5_68))] → W p l e ({ frames := 5, cells := 0, slots := 0, locals := 137 } : Room) s m ([.ref (ad 17), .int (iN v1)] : List Value).toArray below meth c H locs 0 0 (MQ below (QM G (shW κ tl) ad post (s.heap.size)) ([.ref (ad 17), .int (iN v1)] : List Value).toArray s 0 0 (Aw ad (shW κ tl).length s.heap.size)) (F0 m 68 ls []) := by
        intro v4_68 n
        induction n with
        | zero =>
          intro v2_68 v5_68 H locs ls hw
          exact hw.elim
        | succ n68 ih68 =>
          intro v2_68 v5_68 H locs ls hw hW hl
          replace hw : w_X10_ways_L68_body σ_59 v1_59 v4_68 post (w_X10_ways_L59 σ_59 v1_59 post n59) (w_X10_ways_L68 σ_59 v1_59 v4_68 post (w_X10_ways_L59 σ_59 v1_59 post n59) n68) v2_68 v5_68 := hw
          have hB113 : ∀  (v5_113 : Int) (s0_113 : Int) (H : Heap) (locs : List Loc) (ls : Array Slot), w_X10_ways_B113 σ_59 v1_59 v4_68 v5_113 s0_113 post (w_X10_ways_L59 σ_59 v1_59 post n59) (w_X10_ways_L68 σ_59 v1_59 v4_68 post (w_X10_ways_L59 σ_59 v1_59 post n59) n68) → Wd G (shW κ tl) ad σ_59 (Aw ad (shW κ tl).length s.heap.size) s.heap H locs → lv_has ls 6 [(0, .ref (ad 17)), (1, .int (iN v1_59)), (4, .int (iN v4_68)), (5, .int (iN v5_113))] → W p l e ({ frames := 5, cells := 0, slots := 0, locals := 137 } : Room) s m ([.ref (ad 17), .int (iN v1)] : List Value).toArray below meth c H locs 0 0 (MQ below (QM G (shW κ tl) ad post (s.heap.size)) ([.ref (ad 17), .int (iN v1)] : List Value).toArray s 0 0 (Aw ad (shW κ tl).length s.heap.size)) (F0 m 113 ls [.long (jN s0_113)]) := by
            intro v5_113 s0_113 H locs ls hw hW hl
            unfold w_X10_ways_B113 at hw
            refine lv_lstore_n (lv' := [(2, .long (jN s0_113)), (0, .ref (ad 17)), (1, .int (iN v1_59)), (4, .int (iN v4_68)), (5, .int (iN v5_113))]) hx hb dX10_ways_113 rfl hl (by decide) rfl (fun ls hl => ?_)
            refine lv_iinc (v := iN (v5_113 + 1)) (lv' := [(5, .int (iN (v5_113 + 1))), (2, .long (jN s0_113)), (0, .ref (ad 17)), (1, .int (iN v1_59)), (4, .int (iN v4_68))]) hx hb dX10_ways_114 hl (k := 4) rfl (iN_add _ _) (by decide) rfl (fun ls hl => ?_)
            refine lv_goto (tgt := 68) hx hb dX10_ways_117 (by decide) ?_
            exact ih68 s0_113 (v5_113 + 1) H locs ls hw hW (lv_sub hl [2, 3, 1, 4, 0] rfl)
          unfold w_X10_ways_L68_body at hw
          refine lv_iload hx hb dX10_ways_68 (lv_at hl 4 rfl) ?_
          refine lv_iload hx hb dX10_ways_70 (lv_at hl 3 rfl) ?_
          refine n_icmp_gt hx hb hw.1 hw.2.1 hw.2.2.1 hw.2.2.2 (tgt := 120) dX10_ways_72 (by decide) (fun hw => ?_) (fun hw => ?_)
          · refine lv_iinc (v := iN (v4_68 + 1)) (lv' := [(4, .int (iN (v4_68 + 1))), (0, .ref (ad 17)), (1, .int (iN v1_59)), (2, .long (jN v2_68)), (5, .int (iN v5_68))]) hx hb dX10_ways_120 hl (k := 3) rfl (iN_add _ _) (by decide) rfl (fun ls hl => ?_)
            refine lv_goto (tgt := 59) hx hb dX10_ways_123 (by decide) ?_
            exact ih59 v2_68 (v4_68 + 1) H locs ls hw hW (lv_sub hl [1, 2, 3, 0] rfl)
          · refine lv_lload_n hx hb dX10_ways_75 rfl (lv_at hl 2 rfl) ?_
            refine lv_aload_n hx hb dX10_ways_76 rfl (lv_at hl 0 rfl) ?_
            refine g_getr hx hb hts hown hK hW 17 rfl (q := 34) rfl uw_X10 19 (by decide) rfl al_782 (fun _ h9 => h9) dX10_ways_77 ?_
            refine lv_iload hx hb dX10_ways_80 (lv_at hl 4 rfl) ?_
            refine g_ald hx hb hK hW 34 rfl hw.1 dX10_ways_82 ?_
            replace hw := hw.2
            refine n_i2l hx hb hw.1 dX10_ways_83 ?_
            replace hw := hw.2
            refine lv_aload_n hx hb dX10_ways_84 rfl (lv_at hl 0 rfl) ?_
            refine g_getr hx hb hts hown hK hW 17 rfl (q := 33) rfl uw_X10 18 (by decide) rfl al_781 (fun _ h9 => h9) dX10_ways_85 ?_
            refine lv_iload hx hb dX10_ways_88 (lv_at hl 3 rfl) ?_
            refine lv_iload hx hb dX10_ways_90 (lv_at hl 4 rfl) ?_
            refine n_isub hx hb dX10_ways_92 ?_
            refine g_ald hx hb hK hW 33 rfl hw.1 dX10_ways_93 ?_
            replace hw := hw.2
            refine n_i2l hx hb hw.1 dX10_ways_94 ?_
            replace hw := hw.2
            refine n_lmul hx hb dX10_ways_95 ?_
            refine n_ladd hx hb dX10_ways_96 ?_
            refine lv_lstore_n (lv' := [(2, .long (jN (v2_68 + ((σ_59 34 (v5_68).toNat) * (σ_59 33 ((v4_68 - v5_68)).toNat))))), (0, .ref (ad 17)), (1, .int (iN v1_59)), (4, .int (iN v4_68)), (5, .int (iN v5_68))]) hx hb dX10_ways_97 rfl hl (by decide) rfl (fun ls hl => ?_)
            refine lv_lload_n hx hb dX10_ways_98 rfl (lv_at hl 0 rfl) ?_
            refine n_ldc2 (n := 1000000000) hx hb hown (hts _ (List.mem_cons_of_mem _ al_995)) (by decide) dX10_ways_99 ?_
            refine n_lcmp_le hx hb hw.1 hw.2.1 hw.2.2.1 hw.2.2.2 (tgt := 112) dX10_ways_102 dX10_ways_103 (by decide) (fun hw => ?_) (fun hw => ?_)
            · refine lv_lload_n hx hb dX10_ways_112 rfl (lv_at hl 0 rfl) ?_
              exact hB113 v5_68 (v2_68 + ((σ_59 34 (v5_68).toNat) * (σ_59 33 ((v4_68 - v5_68)).toNat))) H locs ls hw hW (lv_sub hl [1, 2, 3, 4] rfl)
            · refine n_ldc2 (n := 1000000000) hx hb hown (hts _ (List.mem_cons_of_mem _ al_995)) (by decide) dX10_ways_106 ?_
              refine lv_goto (tgt := 113) hx hb dX10_ways_109 (by decide) ?_
              exact hB113 v5_68 1000000000 H locs ls hw hW (lv_sub hl [1, 2, 3, 4] rfl)
      unfold w_X10_ways_L59_body at hw
      refine lv_iload hx hb dX10_ways_59 (lv_at hl 3 rfl) ?_
      refine lv_iload_n hx hb dX10_ways_61 rfl (lv_at hl 1 rfl) ?_
      refine n_icmp_gt hx hb hw.1 hw.2.1 hw.2.2.1 hw.2.2.2 (tgt := 126) dX10_ways_62 (by decide) (fun hw => ?_) (fun hw => ?_)
      · refine lv_lload_n hx hb dX10_ways_126 rfl (lv_at hl 2 rfl) ?_
        refine n_l2i hx hb dX10_ways_127 ?_
        exact r_CM hx hb hr hlk hK hW hw dX10_ways_128
      · refine n_iconst hx hb dX10_ways_65 ?_
        refine lv_istore (lv' := [(5, .int (iN 0)), (0, .ref (ad 17)), (1, .int (iN v1_59)), (2, .long (jN v2_59)), (4, .int (iN v4_59))]) hx hb dX10_ways_66 hl (by decide) rfl (fun ls hl => ?_)
        obtain ⟨n, hw⟩ := hw
        exact hL68 v4_59 n v2_59 0 H locs ls hw hW (lv_sub hl [1, 2, 3, 4, 0] rfl)
  have hL24 : ∀ (v1_24 : Int) (n : Nat) (v2_24 : Int) (σ_24 : Mem) (H : Heap) (locs : List Loc) (ls : Array Slot), w_X10_ways_L24 v1_24 post n v2_24 σ_24 → Wd G (shW κ tl) ad σ_24 (Aw ad (shW κ tl).length s.heap.size) s.heap H locs → lv_has ls 6 [(0, .ref (ad 17)), (1, .int (iN v1_24)), (2, .int (iN v2_24))] → W p l e ({ frames := 5, cells := 0, slots := 0, locals := 137 } : Room) s m ([.ref (ad 17), .int (iN v1)] : List Value).toArray below meth c H locs 0 0 (MQ below (QM G (shW κ tl) ad post (s.heap.size)) ([.ref (ad 17), .int (iN v1)] : List Value).toArray s 0 0 (Aw ad (shW κ tl).length s.heap.size)) (F0 m 24 ls []) := by
    intro v1_24 n
    induction n with
    | zero =>
      intro v2_24 σ_24 H locs ls hw
      exact hw.elim
    | succ n24 ih24 =>
      intro v2_24 σ_24 H locs ls hw hW hl
      replace hw : w_X10_ways_L24_body v1_24 post (w_X10_ways_L24 v1_24 post n24) v2_24 σ_24 := hw
      unfold w_X10_ways_L24_body at hw
      refine lv_iload_n hx hb dX10_ways_24 rfl (lv_at hl 2 rfl) ?_
      refine n_sipush hx hb dX10_ways_25 (by decide) ?_
      refine n_icmp_ge hx hb hw.1 (rg_c _ rfl) hw.2.1 hw.2.2 (tgt := 49) dX10_ways_28 (by decide) (fun hw => ?_) (fun hw => ?_)
      · refine lv_aload_n hx hb dX10_ways_49 rfl (lv_at hl 0 rfl) ?_
        refine n_iconst hx hb dX10_ways_50 ?_
        refine fin_CV hW (run_V (k := 17) (As := [.int (iN 1)]) (rest := []) S hK hE hW (c_X10_countChain l G κ tl ad σ_24 1 _ hw H.size) rfl rfl al_980 al_982 sl_X10_countChain al_11 al_983 hd_X10_countChain rfl rfl ⟨Nat.le_of_ble_eq_true rfl, Nat.le_of_ble_eq_true rfl⟩ rfl hl.1 rfl (Nat.le_of_ble_eq_true rfl) dX10_ways_51 ⟨Nat.zero_le _, Nat.zero_le _⟩) ?_
        intro σ11 H locs hw hW
        refine lv_lconst (v := jN 0) hx hb dX10_ways_54 rfl ?_
        refine lv_lstore_n (lv' := [(2, .long (jN 0)), (0, .ref (ad 17)), (1, .int (iN v1_24))]) hx hb dX10_ways_55 rfl hl (by decide) rfl (fun ls hl => ?_)
        refine n_iconst hx hb dX10_ways_56 ?_
        refine lv_istore (lv' := [(4, .int (iN 0)), (2, .long (jN 0)), (0, .ref (ad 17)), (1, .int (iN v1_24))]) hx hb dX10_ways_57 hl (by decide) rfl (fun ls hl => ?_)
        obtain ⟨n, hw⟩ := hw
        exact hL59 σ11 v1_24 n 0 0 H locs ls hw hW (lv_sub hl [2, 3, 1, 0] rfl)
      · refine lv_aload_n hx hb dX10_ways_31 rfl (lv_at hl 0 rfl) ?_
        refine g_getr hx hb hts hown hK hW 17 rfl (q := 34) rfl uw_X10 19 (by decide) rfl al_782 (fun _ h9 => h9) dX10_ways_32 ?_
        refine lv_iload_n hx hb dX10_ways_35 rfl (lv_at hl 2 rfl) ?_
        refine lv_aload_n hx hb dX10_ways_36 rfl (lv_at hl 0 rfl) ?_
        refine g_getr hx hb hts hown hK hW 17 rfl (q := 33) rfl uw_X10 18 (by decide) rfl al_781 (fun _ h9 => h9) dX10_ways_37 ?_
        refine lv_iload_n hx hb dX10_ways_40 rfl (lv_at hl 2 rfl) ?_
        refine g_ald hx hb hK hW 33 rfl hw.1 dX10_ways_41 ?_
        replace hw := hw.2
        refine g_ast hx hb hK hW 34 rfl hw.1 dX10_ways_42 (fun σ12 H locs hτ hW => ?_)
        replace hw := hw.2 σ12 hτ
        refine lv_iinc (v := iN (v2_24 + 1)) (lv' := [(2, .int (iN (v2_24 + 1))), (0, .ref (ad 17)), (1, .int (iN v1_24))]) hx hb dX10_ways_43 hl (k := 2) rfl (iN_add _ _) (by decide) rfl (fun ls hl => ?_)
        refine lv_goto (tgt := 24) hx hb dX10_ways_46 (by decide) ?_
        exact ih24 (v2_24 + 1) σ12 H locs ls hw hW (lv_sub hl [1, 2, 0] rfl)
  unfold w_X10_ways at hw
  refine lv_iload_n hx hb dX10_ways_0 rfl (lv_at hl 1 rfl) ?_
  refine n_iconst hx hb dX10_ways_1 ?_
  refine n_sipush hx hb dX10_ways_2 (by decide) ?_
  refine fin_CI hW (run_S (As := [.int (iN v1), .int (iN 0), .int (iN 300)]) (rest := []) S hK hE hW (c_X10_in l G κ tl ad σ v1 0 300 _ hw s.heap.size) al_833 al_834 al_11 al_835 hd_X10_in.2 rfl rfl ⟨Nat.le_of_ble_eq_true rfl, Nat.le_of_ble_eq_true rfl⟩ rfl hl.1 rfl (Nat.le_of_ble_eq_true rfl) dX10_ways_5 ⟨Nat.zero_le _, Nat.zero_le _⟩) ?_
  intro r1 H locs hw hW
  refine n_if_ne hx hb hw.1 hw.2.1 hw.2.2 (tgt := 13) dX10_ways_8 (by decide) (fun hw => ?_) (fun hw => ?_)
  · refine lv_aload_n hx hb dX10_ways_13 rfl (lv_at hl 0 rfl) ?_
    refine fin_CV hW (run_V (k := 17) (As := []) (rest := []) S hK hE hW (c_X10_find l G κ tl ad σ _ hw H.size) rfl rfl al_857 al_859 sl_X10_find al_11 al_860 hd_X10_find rfl rfl ⟨Nat.le_of_ble_eq_true rfl, Nat.le_of_ble_eq_true rfl⟩ rfl hl.1 rfl (Nat.le_of_ble_eq_true rfl) dX10_ways_14 ⟨Nat.zero_le _, Nat.zero_le _⟩) ?_
    intro σ4 H locs hw hW
    refine lv_aload_n hx hb dX10_ways_17 rfl (lv_at hl 0 rfl) ?_
    refine n_iconst hx hb dX10_ways_18 ?_
    refine fin_CV hW (run_V (k := 17) (As := [.int (iN 0)]) (rest := []) S hK hE hW (c_X10_countChain l G κ tl ad σ4 0 _ hw H.size) rfl rfl al_980 al_982 sl_X10_countChain al_11 al_983 hd_X10_countChain rfl rfl ⟨Nat.le_of_ble_eq_true rfl, Nat.le_of_ble_eq_true rfl⟩ rfl hl.1 rfl (Nat.le_of_ble_eq_true rfl) dX10_ways_19 ⟨Nat.zero_le _, Nat.zero_le _⟩) ?_
    intro σ6 H locs hw hW
    refine n_iconst hx hb dX10_ways_22 ?_
    refine lv_istore_n (lv' := [(2, .int (iN 0)), (0, .ref (ad 17)), (1, .int (iN v1))]) hx hb dX10_ways_23 rfl hl (by decide) rfl (fun ls hl => ?_)
    obtain ⟨n, hw⟩ := hw
    exact hL24 v1 n 0 σ6 H locs ls hw hW (lv_sub hl [1, 2, 0] rfl)
  · refine n_iconst hx hb dX10_ways_11 ?_
    exact r_CM hx hb hr hlk hK hW hw dX10_ways_12
set_option maxHeartbeats 4000000 in
set_option maxRecDepth 100000 in
theorem c_X10_told (l : Launch) (G : Gt) (κ : Nat)  (tl : Bool) (ad : Nat → Nat)  (σ : Mem) (v1 : Int) (post : Int → Prop) (hw : w_X10_told  σ v1 post) : CI l yX10_told (Cond.code yX10_told cX10_told 4 (some .int)) ({ frames := 1, cells := 0, slots := 0, locals := 22 } : Room) G (shW κ tl) ad σ [.ref (ad 17), .int (iN v1)] post := by
  refine s_all (y := yX10_told) (code := cX10_told) (maxL := 4) (ret := (some .int)) (rm := ({ frames := 1, cells := 0, slots := 0, locals := 22 } : Room)) (av := [.ref (ad 17), .int (iN v1)]) (Qc := fun sz => QI G (shW κ tl) ad σ post (sz)) (by decide) (Nat.le_of_ble_eq_true rfl) ?_
  intro p e s m below meth c S hr hlk _ hK hE hW ls hl
  obtain ⟨hx, hb, hml, hown, hts⟩ := id S
  replace hl : lv_has ls 4 [(0, .ref (ad 17)), (1, .int (iN v1))] := hl
  have hB85 : ∀  (s0_85 : Int) (H : Heap) (locs : List Loc) (ls : Array Slot), w_X10_told_B85 σ s0_85 post → Wd G (shW κ tl) ad σ (Aw ad (shW κ tl).length s.heap.size) s.heap H locs → lv_has ls 4 [] → W p l e ({ frames := 1, cells := 0, slots := 0, locals := 22 } : Room) s m ([.ref (ad 17), .int (iN v1)] : List Value).toArray below meth c H locs 0 0 (MQ below (QI G (shW κ tl) ad σ post (s.heap.size)) ([.ref (ad 17), .int (iN v1)] : List Value).toArray s 0 0 (Aw ad (shW κ tl).length s.heap.size)) (F0 m 85 ls [.int (iN s0_85)]) := by
    intro s0_85 H locs ls hw hW hl
    unfold w_X10_told_B85 at hw
    exact r_CI hx hb hr hlk hK hW hw dX10_told_85
  have hL15 : ∀ (v1_15 : Int) (n : Nat) (v2_15 : Int) (v3_15 : Int) (H : Heap) (locs : List Loc) (ls : Array Slot), w_X10_told_L15 σ v1_15 post n v2_15 v3_15 → Wd G (shW κ tl) ad σ (Aw ad (shW κ tl).length s.heap.size) s.heap H locs → lv_has ls 4 [(0, .ref (ad 17)), (1, .int (iN v1_15)), (2, .int (iN v2_15)), (3, .int (iN v3_15))] → W p l e ({ frames := 1, cells := 0, slots := 0, locals := 22 } : Room) s m ([.ref (ad 17), .int (iN v1)] : List Value).toArray below meth c H locs 0 0 (MQ below (QI G (shW κ tl) ad σ post (s.heap.size)) ([.ref (ad 17), .int (iN v1)] : List Value).toArray s 0 0 (Aw ad (shW κ tl).length s.heap.size)) (F0 m 15 ls []) := by
    intro v1_15 n
    induction n with
    | zero =>
      intro v2_15 v3_15 H locs ls hw
      exact hw.elim
    | succ n15 ih15 =>
      intro v2_15 v3_15 H locs ls hw hW hl
      replace hw : w_X10_told_L15_body σ v1_15 post (w_X10_told_L15 σ v1_15 post n15) v2_15 v3_15 := hw
      have hB64 : ∀  (v3_64 : Int) (s0_64 : Int) (s1_64 : Int) (H : Heap) (locs : List Loc) (ls : Array Slot), w_X10_told_B64 σ v1_15 v3_64 s0_64 s1_64 post (w_X10_told_L15 σ v1_15 post n15) → Wd G (shW κ tl) ad σ (Aw ad (shW κ tl).length s.heap.size) s.heap H locs → lv_has ls 4 [(0, .ref (ad 17)), (1, .int (iN v1_15)), (3, .int (iN v3_64))] → W p l e ({ frames := 1, cells := 0, slots := 0, locals := 22 } : Room) s m ([.ref (ad 17), .int (iN v1)] : List Value).toArray below meth c H locs 0 0 (MQ below (QI G (shW κ tl) ad σ post (s.heap.size)) ([.ref (ad 17), .int (iN v1)] : List Value).toArray s 0 0 (Aw ad (shW κ tl).length s.heap.size)) (F0 m 64 ls [.int (iN s0_64), .int (iN s1_64)]) := by
        intro v3_64 s0_64 s1_64 H locs ls hw hW hl
        unfold w_X10_told_B64 at hw
        refine n_iadd hx hb dX10_told_64 ?_
        refine lv_istore_n (lv' := [(2, .int (iN (s1_64 + s0_64))), (0, .ref (ad 17)), (1, .int (iN v1_15)), (3, .int (iN v3_64))]) hx hb dX10_told_65 rfl hl (by decide) rfl (fun ls hl => ?_)
        refine lv_iinc (v := iN (v3_64 + 1)) (lv' := [(3, .int (iN (v3_64 + 1))), (2, .int (iN (s1_64 + s0_64))), (0, .ref (ad 17)), (1, .int (iN v1_15))]) hx hb dX10_told_66 hl (k := 3) rfl (iN_add _ _) (by decide) rfl (fun ls hl => ?_)
        refine lv_goto (tgt := 15) hx hb dX10_told_69 (by decide) ?_
        exact ih15 (s1_64 + s0_64) (v3_64 + 1) H locs ls hw hW (lv_sub hl [2, 3, 1, 0] rfl)
      have hB63 : ∀  (v3_63 : Int) (s0_63 : Int) (H : Heap) (locs : List Loc) (ls : Array Slot), w_X10_told_B63 σ v1_15 v3_63 s0_63 post (w_X10_told_L15 σ v1_15 post n15) → Wd G (shW κ tl) ad σ (Aw ad (shW κ tl).length s.heap.size) s.heap H locs → lv_has ls 4 [(0, .ref (ad 17)), (1, .int (iN v1_15)), (3, .int (iN v3_63))] → W p l e ({ frames := 1, cells := 0, slots := 0, locals := 22 } : Room) s m ([.ref (ad 17), .int (iN v1)] : List Value).toArray below meth c H locs 0 0 (MQ below (QI G (shW κ tl) ad σ post (s.heap.size)) ([.ref (ad 17), .int (iN v1)] : List Value).toArray s 0 0 (Aw ad (shW κ tl).length s.heap.size)) (F0 m 63 ls [.int (iN s0_63)]) := by
        intro v3_63 s0_63 H locs ls hw hW hl
        unfold w_X10_told_B63 at hw
        refine n_iconst hx hb dX10_told_63 ?_
        exact hB64 v3_63 0 s0_63 H locs ls hw hW (lv_sub hl [0, 1, 2] rfl)
      have hB59 : ∀  (v3_59 : Int) (s0_59 : Int) (H : Heap) (locs : List Loc) (ls : Array Slot), w_X10_told_B59 σ v1_15 v3_59 s0_59 post (w_X10_told_L15 σ v1_15 post n15) → Wd G (shW κ tl) ad σ (Aw ad (shW κ tl).length s.heap.size) s.heap H locs → lv_has ls 4 [(0, .ref (ad 17)), (1, .int (iN v1_15)), (3, .int (iN v3_59))] → W p l e ({ frames := 1, cells := 0, slots := 0, locals := 22 } : Room) s m ([.ref (ad 17), .int (iN v1)] : List Value).toArray below meth c H locs 0 0 (MQ below (QI G (shW κ tl) ad σ post (s.heap.size)) ([.ref (ad 17), .int (iN v1)] : List Value).toArray s 0 0 (Aw ad (shW κ tl).length s.heap.size)) (F0 m 59 ls [.int (iN s0_59)]) := by
        intro v3_59 s0_59 H locs ls hw hW hl
        unfold w_X10_told_B59 at hw
        refine n_iconst hx hb dX10_told_59 ?_
        refine lv_goto (tgt := 64) hx hb dX10_told_60 (by decide) ?_
        exact hB64 v3_59 1 s0_59 H locs ls hw hW (lv_sub hl [0, 1, 2] rfl)
      have hB45 : ∀  (v3_45 : Int) (s0_45 : Int) (H : Heap) (locs : List Loc) (ls : Array Slot), w_X10_told_B45 σ v1_15 v3_45 s0_45 post (w_X10_told_L15 σ v1_15 post n15) → Wd G (shW κ tl) ad σ (Aw ad (shW κ tl).length s.heap.size) s.heap H locs → lv_has ls 4 [(0, .ref (ad 17)), (1, .int (iN v1_15)), (3, .int (iN v3_45))] → W p l e ({ frames := 1, cells := 0, slots := 0, locals := 22 } : Room) s m ([.ref (ad 17), .int (iN v1)] : List Value).toArray below meth c H locs 0 0 (MQ below (QI G (shW κ tl) ad σ post (s.heap.size)) ([.ref (ad 17), .int (iN v1)] : List Value).toArray s 0 0 (Aw ad (shW κ tl).length s.heap.size)) (F0 m 45 ls [.int (iN s0_45)]) := by
        intro v3_45 s0_45 H locs ls hw hW hl
        unfold w_X10_told_B45 at hw
        refine lv_iload_n hx hb dX10_told_45 rfl (lv_at hl 1 rfl) ?_
        refine n_iconst hx hb dX10_told_46 ?_
        refine n_icmp_ne hx hb hw.1 (rg_c _ rfl) hw.2.1 hw.2.2 (tgt := 63) dX10_told_47 (by decide) (fun hw => ?_) (fun hw => ?_)
        · exact hB63 v3_45 s0_45 H locs ls hw hW (lv_sub hl [0, 1, 2] rfl)
        · refine lv_aload_n hx hb dX10_told_50 rfl (lv_at hl 0 rfl) ?_
          refine g_getr hx hb hts hown hK hW 17 rfl (q := 23) rfl uw_X10 7 (by decide) rfl al_770 (fun _ h9 => h9) dX10_told_51 ?_
          refine lv_iload_n hx hb dX10_told_54 rfl (lv_at hl 2 rfl) ?_
          refine g_ald hx hb hK hW 23 rfl hw.1 dX10_told_55 ?_
          replace hw := hw.2
          refine n_if_lt hx hb hw.1 hw.2.1 hw.2.2 (tgt := 63) dX10_told_56 (by decide) (fun hw => ?_) (fun hw => ?_)
          · exact hB63 v3_45 s0_45 H locs ls hw hW (lv_sub hl [0, 1, 2] rfl)
          · exact hB59 v3_45 s0_45 H locs ls hw hW (lv_sub hl [0, 1, 2] rfl)
      unfold w_X10_told_L15_body at hw
      refine lv_iload_n hx hb dX10_told_15 rfl (lv_at hl 3 rfl) ?_
      refine lv_aload_n hx hb dX10_told_16 rfl (lv_at hl 0 rfl) ?_
      refine g_get hx hb hts hown hK hW 17 rfl rfl uw_X10 1 (by decide) rfl al_764 (fun _ h9 => h9) dX10_told_17 ?_
      refine n_icmp_ge hx hb hw.1 hw.2.1 hw.2.2.1 hw.2.2.2 (tgt := 72) dX10_told_20 (by decide) (fun hw => ?_) (fun hw => ?_)
      · refine lv_iload_n hx hb dX10_told_72 rfl (lv_at hl 1 rfl) ?_
        refine n_iconst hx hb dX10_told_73 ?_
        refine n_icmp_ne hx hb hw.1 (rg_c _ rfl) hw.2.1 hw.2.2 (tgt := 84) dX10_told_74 (by decide) (fun hw => ?_) (fun hw => ?_)
        · refine lv_iload_n hx hb dX10_told_84 rfl (lv_at hl 2 rfl) ?_
          exact hB85 v2_15 H locs ls hw hW (lv_sub hl [] rfl)
        · refine lv_aload_n hx hb dX10_told_77 rfl (lv_at hl 0 rfl) ?_
          refine g_get hx hb hts hown hK hW 17 rfl rfl uw_X10 0 (by decide) rfl al_763 (fun _ h9 => h9) dX10_told_78 ?_
          refine lv_goto (tgt := 85) hx hb dX10_told_81 (by decide) ?_
          exact hB85 (σ 17 0) H locs ls hw hW (lv_sub hl [] rfl)
      · refine lv_iload_n hx hb dX10_told_23 rfl (lv_at hl 2 rfl) ?_
        refine lv_iload_n hx hb dX10_told_24 rfl (lv_at hl 1 rfl) ?_
        refine n_if_eq hx hb hw.1 hw.2.1 hw.2.2 (tgt := 59) dX10_told_25 (by decide) (fun hw => ?_) (fun hw => ?_)
        · exact hB59 v3_15 v2_15 H locs ls hw hW (lv_sub hl [0, 1, 3] rfl)
        · refine lv_iload_n hx hb dX10_told_28 rfl (lv_at hl 1 rfl) ?_
          refine n_iconst hx hb dX10_told_29 ?_
          refine n_icmp_ge hx hb hw.1 (rg_c _ rfl) hw.2.1 hw.2.2 (tgt := 45) dX10_told_30 (by decide) (fun hw => ?_) (fun hw => ?_)
          · exact hB45 v3_15 v2_15 H locs ls hw hW (lv_sub hl [0, 1, 3] rfl)
          · refine lv_aload_n hx hb dX10_told_33 rfl (lv_at hl 0 rfl) ?_
            refine g_getr hx hb hts hown hK hW 17 rfl (q := 18) rfl uw_X10 2 (by decide) rfl al_765 (fun _ h9 => h9) dX10_told_34 ?_
            refine lv_iload_n hx hb dX10_told_37 rfl (lv_at hl 3 rfl) ?_
            refine g_ald hx hb hK hW 18 rfl hw.1 dX10_told_38 ?_
            replace hw := hw.2
            refine lv_iload_n hx hb dX10_told_39 rfl (lv_at hl 1 rfl) ?_
            refine n_iconst hx hb dX10_told_40 ?_
            refine n_isub hx hb dX10_told_41 ?_
            refine n_icmp_eq hx hb hw.1 hw.2.1 hw.2.2.1 hw.2.2.2 (tgt := 59) dX10_told_42 (by decide) (fun hw => ?_) (fun hw => ?_)
            · exact hB59 v3_15 v2_15 H locs ls hw hW (lv_sub hl [0, 1, 3] rfl)
            · exact hB45 v3_15 v2_15 H locs ls hw hW (lv_sub hl [0, 1, 3] rfl)
  unfold w_X10_told at hw
  refine lv_iload_n hx hb dX10_told_0 rfl (lv_at hl 1 rfl) ?_
  refine n_iconst hx hb dX10_told_1 ?_
  refine n_iconst hx hb dX10_told_2 ?_
  refine fin_CI hW (run_S (As := [.int (iN v1), .int (iN 0), .int (iN 4)]) (rest := []) S hK hE hW (c_X10_in l G κ tl ad σ v1 0 4 _ hw s.heap.size) al_833 al_834 al_11 al_835 hd_X10_in.2 rfl rfl ⟨Nat.le_of_ble_eq_true rfl, Nat.le_of_ble_eq_true rfl⟩ rfl hl.1 rfl (Nat.le_of_ble_eq_true rfl) dX10_told_3 ⟨Nat.zero_le _, Nat.zero_le _⟩) ?_
  intro r1 H locs hw hW
  refine n_if_ne hx hb hw.1 hw.2.1 hw.2.2 (tgt := 11) dX10_told_6 (by decide) (fun hw => ?_) (fun hw => ?_)
  · refine n_iconst hx hb dX10_told_11 ?_
    refine lv_istore_n (lv' := [(2, .int (iN 0)), (0, .ref (ad 17)), (1, .int (iN v1))]) hx hb dX10_told_12 rfl hl (by decide) rfl (fun ls hl => ?_)
    refine n_iconst hx hb dX10_told_13 ?_
    refine lv_istore_n (lv' := [(3, .int (iN 0)), (2, .int (iN 0)), (0, .ref (ad 17)), (1, .int (iN v1))]) hx hb dX10_told_14 rfl hl (by decide) rfl (fun ls hl => ?_)
    obtain ⟨n, hw⟩ := hw
    exact hL15 v1 n 0 0 H locs ls hw hW (lv_sub hl [2, 3, 1, 0] rfl)
  · refine n_iconst hx hb dX10_told_9 ?_
    exact r_CI hx hb hr hlk hK hW hw dX10_told_10
set_option maxHeartbeats 4000000 in
set_option maxRecDepth 100000 in
theorem c_X10_about (l : Launch) (G : Gt) (κ : Nat)  (tl : Bool) (ad : Nat → Nat)  (σ : Mem) (v1 : Int) (v2 : Int) (post : Int → Prop) (hw : w_X10_about  σ v1 v2 post) : CI l yX10_about (Cond.code yX10_about cX10_about 3 (some .int)) ({ frames := 1, cells := 0, slots := 0, locals := 22 } : Room) G (shW κ tl) ad σ [.ref (ad 17), .int (iN v1), .int (iN v2)] post := by
  refine s_all (y := yX10_about) (code := cX10_about) (maxL := 3) (ret := (some .int)) (rm := ({ frames := 1, cells := 0, slots := 0, locals := 22 } : Room)) (av := [.ref (ad 17), .int (iN v1), .int (iN v2)]) (Qc := fun sz => QI G (shW κ tl) ad σ post (sz)) (by decide) (Nat.le_of_ble_eq_true rfl) ?_
  intro p e s m below meth c S hr hlk _ hK hE hW ls hl
  obtain ⟨hx, hb, hml, hown, hts⟩ := id S
  replace hl : lv_has ls 3 [(0, .ref (ad 17)), (1, .int (iN v1)), (2, .int (iN v2))] := hl
  have hB107 : ∀  (v1_107 : Int) (v2_107 : Int) (H : Heap) (locs : List Loc) (ls : Array Slot), w_X10_about_B107 σ v1_107 v2_107 post → Wd G (shW κ tl) ad σ (Aw ad (shW κ tl).length s.heap.size) s.heap H locs → lv_has ls 3 [(0, .ref (ad 17)), (1, .int (iN v1_107)), (2, .int (iN v2_107))] → W p l e ({ frames := 1, cells := 0, slots := 0, locals := 22 } : Room) s m ([.ref (ad 17), .int (iN v1), .int (iN v2)] : List Value).toArray below meth c H locs 0 0 (MQ below (QI G (shW κ tl) ad σ post (s.heap.size)) ([.ref (ad 17), .int (iN v1), .int (iN v2)] : List Value).toArray s 0 0 (Aw ad (shW κ tl).length s.heap.size)) (F0 m 107 ls []) := by
    intro v1_107 v2_107 H locs ls hw hW hl
    unfold w_X10_about_B107 at hw
    refine lv_aload_n hx hb dX10_about_107 rfl (lv_at hl 0 rfl) ?_
    refine g_getr hx hb hts hown hK hW 17 rfl (q := 22) rfl uw_X10 6 (by decide) rfl al_769 (fun _ h9 => h9) dX10_about_108 ?_
    refine n_iconst hx hb dX10_about_111 ?_
    refine lv_iload_n hx hb dX10_about_112 rfl (lv_at hl 1 rfl) ?_
    refine n_imul hx hb dX10_about_113 ?_
    refine lv_iload_n hx hb dX10_about_114 rfl (lv_at hl 2 rfl) ?_
    refine n_iadd hx hb dX10_about_115 ?_
    refine n_iconst hx hb dX10_about_116 ?_
    refine n_isub hx hb dX10_about_117 ?_
    refine g_ald hx hb hK hW 22 rfl hw.1 dX10_about_118 ?_
    replace hw := hw.2
    exact r_CI hx hb hr hlk hK hW hw dX10_about_119
  have hB24 : ∀   (H : Heap) (locs : List Loc) (ls : Array Slot), w_X10_about_B24 σ post → Wd G (shW κ tl) ad σ (Aw ad (shW κ tl).length s.heap.size) s.heap H locs → lv_has ls 3 [] → W p l e ({ frames := 1, cells := 0, slots := 0, locals := 22 } : Room) s m ([.ref (ad 17), .int (iN v1), .int (iN v2)] : List Value).toArray below meth c H locs 0 0 (MQ below (QI G (shW κ tl) ad σ post (s.heap.size)) ([.ref (ad 17), .int (iN v1), .int (iN v2)] : List Value).toArray s 0 0 (Aw ad (shW κ tl).length s.heap.size)) (F0 m 24 ls []) := by
    intro  H locs ls hw hW hl
    unfold w_X10_about_B24 at hw
    refine n_iconst hx hb dX10_about_24 ?_
    exact r_CI hx hb hr hlk hK hW hw dX10_about_25
  unfold w_X10_about at hw
  refine lv_iload_n hx hb dX10_about_0 rfl (lv_at hl 1 rfl) ?_
  refine n_iconst hx hb dX10_about_1 ?_
  refine lv_aload_n hx hb dX10_about_2 rfl (lv_at hl 0 rfl) ?_
  refine g_get hx hb hts hown hK hW 17 rfl rfl uw_X10 1 (by decide) rfl al_764 (fun _ h9 => h9) dX10_about_3 ?_
  refine n_iconst hx hb dX10_about_6 ?_
  refine n_isub hx hb dX10_about_7 ?_
  refine fin_CI hW (run_S (As := [.int (iN v1), .int (iN 0), .int (iN ((σ 17 1) - 1))]) (rest := []) S hK hE hW (c_X10_in l G κ tl ad σ v1 0 ((σ 17 1) - 1) _ hw s.heap.size) al_833 al_834 al_11 al_835 hd_X10_in.2 rfl rfl ⟨Nat.le_of_ble_eq_true rfl, Nat.le_of_ble_eq_true rfl⟩ rfl hl.1 rfl (Nat.le_of_ble_eq_true rfl) dX10_about_8 ⟨Nat.zero_le _, Nat.zero_le _⟩) ?_
  intro r1 H locs hw hW
  refine n_if_eq hx hb hw.1 hw.2.1 hw.2.2 (tgt := 24) dX10_about_11 (by decide) (fun hw => ?_) (fun hw => ?_)
  · exact hB24  H locs ls hw hW (lv_sub hl [] rfl)
  · refine lv_iload_n hx hb dX10_about_14 rfl (lv_at hl 2 rfl) ?_
    refine n_iconst hx hb dX10_about_15 ?_
    refine n_bipush hx hb dX10_about_16 (by decide) ?_
    refine fin_CI hW (run_S (As := [.int (iN v2), .int (iN 0), .int (iN 7)]) (rest := []) S hK hE hW (c_X10_in l G κ tl ad σ v2 0 7 _ hw H.size) al_833 al_834 al_11 al_835 hd_X10_in.2 rfl rfl ⟨Nat.le_of_ble_eq_true rfl, Nat.le_of_ble_eq_true rfl⟩ rfl hl.1 rfl (Nat.le_of_ble_eq_true rfl) dX10_about_18 ⟨Nat.zero_le _, Nat.zero_le _⟩) ?_
    intro r3 H locs hw hW
    refine n_if_ne hx hb hw.1 hw.2.1 hw.2.2 (tgt := 26) dX10_about_21 (by decide) (fun hw => ?_) (fun hw => ?_)
    · refine lv_iload_n hx hb dX10_about_26 rfl (lv_at hl 2 rfl) ?_
      rcases (show (v2 < 0 ∨ 7 < v2) ∨ v2 = 0 ∨ v2 = 1 ∨ v2 = 2 ∨ v2 = 3 ∨ v2 = 4 ∨ v2 = 5 ∨ v2 = 6 ∨ v2 = 7 by omega) with hc | hc | hc | hc | hc | hc | hc | hc | hc
      · refine n_tableOut (tgt := 107) hx hb hw.1 hc dX10_about_27 (by decide) ?_
        replace hw := hw.2.1 hc
        exact hB107 v1 v2 H locs ls hw hW (lv_sub hl [0, 1, 2] rfl)
      · refine n_tableIn (v := 0) (tgt := 72) hx hb hw.1 hc dX10_about_27 (by decide) (by decide) rfl (by decide) ?_
        replace hw := hw.2.2.1 hc
        refine lv_aload_n hx hb dX10_about_72 rfl (lv_at hl 0 rfl) ?_
        refine g_getr hx hb hts hown hK hW 17 rfl (q := 18) rfl uw_X10 2 (by decide) rfl al_765 (fun _ h9 => h9) dX10_about_73 ?_
        refine lv_iload_n hx hb dX10_about_76 rfl (lv_at hl 1 rfl) ?_
        refine g_ald hx hb hK hW 18 rfl hw.1 dX10_about_77 ?_
        replace hw := hw.2
        exact r_CI hx hb hr hlk hK hW hw dX10_about_78
      · refine n_tableIn (v := 1) (tgt := 79) hx hb hw.1 hc dX10_about_27 (by decide) (by decide) rfl (by decide) ?_
        replace hw := hw.2.2.2.1 hc
        refine lv_aload_n hx hb dX10_about_79 rfl (lv_at hl 0 rfl) ?_
        refine g_getr hx hb hts hown hK hW 17 rfl (q := 19) rfl uw_X10 3 (by decide) rfl al_766 (fun _ h9 => h9) dX10_about_80 ?_
        refine lv_iload_n hx hb dX10_about_83 rfl (lv_at hl 1 rfl) ?_
        refine g_ald hx hb hK hW 19 rfl hw.1 dX10_about_84 ?_
        replace hw := hw.2
        exact r_CI hx hb hr hlk hK hW hw dX10_about_85
      · refine n_tableIn (v := 2) (tgt := 86) hx hb hw.1 hc dX10_about_27 (by decide) (by decide) rfl (by decide) ?_
        replace hw := hw.2.2.2.2.1 hc
        refine lv_aload_n hx hb dX10_about_86 rfl (lv_at hl 0 rfl) ?_
        refine g_getr hx hb hts hown hK hW 17 rfl (q := 20) rfl uw_X10 4 (by decide) rfl al_767 (fun _ h9 => h9) dX10_about_87 ?_
        refine lv_iload_n hx hb dX10_about_90 rfl (lv_at hl 1 rfl) ?_
        refine g_ald hx hb hK hW 20 rfl hw.1 dX10_about_91 ?_
        replace hw := hw.2
        exact r_CI hx hb hr hlk hK hW hw dX10_about_92
      · refine n_tableIn (v := 3) (tgt := 93) hx hb hw.1 hc dX10_about_27 (by decide) (by decide) rfl (by decide) ?_
        replace hw := hw.2.2.2.2.2.1 hc
        refine lv_aload_n hx hb dX10_about_93 rfl (lv_at hl 0 rfl) ?_
        refine g_getr hx hb hts hown hK hW 17 rfl (q := 21) rfl uw_X10 5 (by decide) rfl al_768 (fun _ h9 => h9) dX10_about_94 ?_
        refine lv_iload_n hx hb dX10_about_97 rfl (lv_at hl 1 rfl) ?_
        refine g_ald hx hb hK hW 21 rfl hw.1 dX10_about_98 ?_
        replace hw := hw.2
        exact r_CI hx hb hr hlk hK hW hw dX10_about_99
      · refine n_tableIn (v := 4) (tgt := 107) hx hb hw.1 hc dX10_about_27 (by decide) (by decide) rfl (by decide) ?_
        replace hw := hw.2.2.2.2.2.2.1 hc
        exact hB107 v1 v2 H locs ls hw hW (lv_sub hl [0, 1, 2] rfl)
      · refine n_tableIn (v := 5) (tgt := 107) hx hb hw.1 hc dX10_about_27 (by decide) (by decide) rfl (by decide) ?_
        replace hw := hw.2.2.2.2.2.2.2.1 hc
        exact hB107 v1 v2 H locs ls hw hW (lv_sub hl [0, 1, 2] rfl)
      · refine n_tableIn (v := 6) (tgt := 107) hx hb hw.1 hc dX10_about_27 (by decide) (by decide) rfl (by decide) ?_
        replace hw := hw.2.2.2.2.2.2.2.2.1 hc
        exact hB107 v1 v2 H locs ls hw hW (lv_sub hl [0, 1, 2] rfl)
      · refine n_tableIn (v := 7) (tgt := 100) hx hb hw.1 hc dX10_about_27 (by decide) (by decide) rfl (by decide) ?_
        replace hw := hw.2.2.2.2.2.2.2.2.2 hc
        refine lv_aload_n hx hb dX10_about_100 rfl (lv_at hl 0 rfl) ?_
        refine g_getr hx hb hts hown hK hW 17 rfl (q := 23) rfl uw_X10 7 (by decide) rfl al_770 (fun _ h9 => h9) dX10_about_101 ?_
        refine lv_iload_n hx hb dX10_about_104 rfl (lv_at hl 1 rfl) ?_
        refine g_ald hx hb hK hW 23 rfl hw.1 dX10_about_105 ?_
        replace hw := hw.2
        exact r_CI hx hb hr hlk hK hW hw dX10_about_106
    · exact hB24  H locs ls hw hW (lv_sub hl [] rfl)
