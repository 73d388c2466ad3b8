set_option maxHeartbeats 4000000 in
set_option maxRecDepth 100000 in
theorem c_J7_fill_53178 (l : Launch) (G : Gt) (κ : Nat)  (tl : Bool) (ad : Nat → Nat) (kA nA : Nat) (hkA : (shW κ tl)[kA]? = some (.inl (0, nA))) (σ : Mem) (v1 : Int) (post : Mem → Prop) (hw : w_J7_fill_53178 kA nA σ v1 post) : CV l yJ7_fill_53178 (Cond.code yJ7_fill_53178 cJ7_fill_53178 4 none) ({ frames := 0, cells := 0, slots := 0, locals := 0 } : Room) G (shW κ tl) ad σ [.ref (ad kA), .int (iN v1)] post := by
  refine s_all (y := yJ7_fill_53178) (code := cJ7_fill_53178) (maxL := 4) (ret := none) (rm := ({ frames := 0, cells := 0, slots := 0, locals := 0 } : Room)) (av := [.ref (ad kA), .int (iN v1)]) (Qc := fun sz => QV G (shW κ tl) ad post (sz)) (by decide) (Nat.le_of_ble_eq_true rfl) ?_
  intro p e s m below meth c S hr hlk _ hK hE hW ls hl
  obtain ⟨hx, hb, hml, hown, hts⟩ := id S
  replace hl : lv_has ls 4 [(0, .ref (ad kA)), (1, .int (iN v1))] := hl
  have hL5 : ∀ (v1_5 : Int) (v3_5 : Int) (n : Nat) (v2_5 : Int) (σ_5 : Mem) (H : Heap) (locs : List Loc) (ls : Array Slot), w_J7_fill_53178_L5 kA nA v1_5 v3_5 post n v2_5 σ_5 → Wd G (shW κ tl) ad σ_5 (Aw ad (shW κ tl).length s.heap.size) s.heap H locs → lv_has ls 4 [(0, .ref (ad kA)), (1, .int (iN v1_5)), (2, .int (iN v2_5)), (3, .int (iN v3_5))] → W p l e ({ frames := 0, cells := 0, slots := 0, locals := 0 } : Room) s m ([.ref (ad kA), .int (iN v1)] : List Value).toArray below meth c H locs 0 0 (MQ below (QV G (shW κ tl) ad post (s.heap.size)) ([.ref (ad kA), .int (iN v1)] : List Value).toArray s 0 0 (Aw ad (shW κ tl).length s.heap.size)) (F0 m 5 ls []) := by
    intro v1_5 v3_5 n
    induction n with
    | zero =>
      intro v2_5 σ_5 H locs ls hw
      exact hw.elim
    | succ n5 ih5 =>
      intro v2_5 σ_5 H locs ls hw hW hl
      replace hw : w_J7_fill_53178_L5_body kA nA v1_5 v3_5 post (w_J7_fill_53178_L5 kA nA v1_5 v3_5 post n5) v2_5 σ_5 := hw
      unfold w_J7_fill_53178_L5_body at hw
      refine lv_iload_n hx hb dJ7_fill_53178_5 rfl (lv_at hl 2 rfl) ?_
      refine lv_iload_n hx hb dJ7_fill_53178_6 rfl (lv_at hl 3 rfl) ?_
      refine n_icmp_ge hx hb hw.1 hw.2.1 hw.2.2.1 hw.2.2.2 (tgt := 20) dJ7_fill_53178_7 (by decide) (fun hw => ?_) (fun hw => ?_)
      · exact r_CV hx hb hr hlk hK hW hw dJ7_fill_53178_20
      · refine lv_aload_n hx hb dJ7_fill_53178_10 rfl (lv_at hl 0 rfl) ?_
        refine lv_iload_n hx hb dJ7_fill_53178_11 rfl (lv_at hl 2 rfl) ?_
        refine lv_iload_n hx hb dJ7_fill_53178_12 rfl (lv_at hl 1 rfl) ?_
        refine g_ast hx hb hK hW kA hkA hw.1 dJ7_fill_53178_13 (fun σ2 H locs hτ hW => ?_)
        replace hw := hw.2 σ2 hτ
        refine lv_iinc (v := iN (v2_5 + 1)) (lv' := [(2, .int (iN (v2_5 + 1))), (0, .ref (ad kA)), (1, .int (iN v1_5)), (3, .int (iN v3_5))]) hx hb dJ7_fill_53178_14 hl (k := 2) rfl (iN_add _ _) (by decide) rfl (fun ls hl => ?_)
        refine lv_goto (tgt := 5) hx hb dJ7_fill_53178_17 (by decide) ?_
        exact ih5 (v2_5 + 1) σ2 H locs ls hw hW (lv_sub hl [1, 2, 0, 3] rfl)
  unfold w_J7_fill_53178 at hw
  refine n_iconst hx hb dJ7_fill_53178_0 ?_
  refine lv_istore_n (lv' := [(2, .int (iN 0)), (0, .ref (ad kA)), (1, .int (iN v1))]) hx hb dJ7_fill_53178_1 rfl hl (by decide) rfl (fun ls hl => ?_)
  refine lv_aload_n hx hb dJ7_fill_53178_2 rfl (lv_at hl 1 rfl) ?_
  refine g_alen hx hb hK hW kA hkA dJ7_fill_53178_3 ?_
  refine lv_istore_n (lv' := [(3, .int (iN ((nA : Nat) : Int))), (2, .int (iN 0)), (0, .ref (ad kA)), (1, .int (iN v1))]) hx hb dJ7_fill_53178_4 rfl hl (by decide) rfl (fun ls hl => ?_)
  obtain ⟨n, hw⟩ := hw
  exact hL5 v1 ((nA : Nat) : Int) n 0 σ s.heap [] ls hw hW (lv_sub hl [2, 3, 1, 0] rfl)
set_option maxHeartbeats 4000000 in
set_option maxRecDepth 100000 in
theorem c_J7_rangeCheck_23922 (l : Launch) (G : Gt) (κ : Nat)  (tl : Bool) (ad : Nat → Nat)  (σ : Mem) (v0 : Int) (v1 : Int) (v2 : Int) (post : Mem → Prop) (hw : w_J7_rangeCheck_23922  σ v0 v1 v2 post) : CV l yJ7_rangeCheck_23922 (Cond.code yJ7_rangeCheck_23922 cJ7_rangeCheck_23922 3 none) ({ frames := 0, cells := 0, slots := 0, locals := 0 } : Room) G (shW κ tl) ad σ [.int (iN v0), .int (iN v1), .int (iN v2)] post := by
  refine s_all (y := yJ7_rangeCheck_23922) (code := cJ7_rangeCheck_23922) (maxL := 3) (ret := none) (rm := ({ frames := 0, cells := 0, slots := 0, locals := 0 } : Room)) (av := [.int (iN v0), .int (iN v1), .int (iN v2)]) (Qc := fun sz => QV G (shW κ tl) ad post (sz)) (by decide) (Nat.le_of_ble_eq_true rfl) ?_
  intro p e s m below meth c S hr hlk _ hK hE hW ls hl
  obtain ⟨hx, hb, hml, hown, hts⟩ := id S
  replace hl : lv_has ls 3 [(0, .int (iN v0)), (1, .int (iN v1)), (2, .int (iN v2))] := hl
  unfold w_J7_rangeCheck_23922 at hw
  refine lv_iload_n hx hb dJ7_rangeCheck_23922_0 rfl (lv_at hl 1 rfl) ?_
  refine lv_iload_n hx hb dJ7_rangeCheck_23922_1 rfl (lv_at hl 2 rfl) ?_
  refine n_icmp_le hx hb hw.1 hw.2.1 hw.2.2.1 hw.2.2.2 (tgt := 46) dJ7_rangeCheck_23922_2 (by decide) (fun hw => ?_) (fun hw => ?_)
  · refine lv_iload_n hx hb dJ7_rangeCheck_23922_46 rfl (lv_at hl 1 rfl) ?_
    refine n_if_ge hx hb hw.1 hw.2.1 hw.2.2 (tgt := 59) dJ7_rangeCheck_23922_47 (by decide) (fun hw => ?_) (fun hw => ?_)
    · refine lv_iload_n hx hb dJ7_rangeCheck_23922_59 rfl (lv_at hl 2 rfl) ?_
      refine lv_iload_n hx hb dJ7_rangeCheck_23922_60 rfl (lv_at hl 0 rfl) ?_
      refine n_icmp_le hx hb hw.1 hw.2.1 hw.2.2.1 hw.2.2.2 (tgt := 73) dJ7_rangeCheck_23922_61 (by decide) (fun hw => ?_) (fun hw => ?_)
      · exact r_CV hx hb hr hlk hK hW hw dJ7_rangeCheck_23922_73
      · exact hw.elim
    · exact hw.elim
  · exact hw.elim
set_option maxHeartbeats 4000000 in
set_option maxRecDepth 100000 in
theorem c_J7_fill_fda19 (l : Launch) (G : Gt) (κ : Nat)  (tl : Bool) (ad : Nat → Nat) (kA nA : Nat) (hkA : (shW κ tl)[kA]? = some (.inl (0, nA))) (σ : Mem) (v1 : Int) (v2 : Int) (v3 : Int) (post : Mem → Prop) (hw : w_J7_fill_fda19 kA nA σ v1 v2 v3 post) : CV l yJ7_fill_fda19 (Cond.code yJ7_fill_fda19 cJ7_fill_fda19 5 none) ({ frames := 1, cells := 0, slots := 0, locals := 22 } : Room) G (shW κ tl) ad σ [.ref (ad kA), .int (iN v1), .int (iN v2), .int (iN v3)] post := by
  refine s_all (y := yJ7_fill_fda19) (code := cJ7_fill_fda19) (maxL := 5) (ret := none) (rm := ({ frames := 1, cells := 0, slots := 0, locals := 22 } : Room)) (av := [.ref (ad kA), .int (iN v1), .int (iN v2), .int (iN v3)]) (Qc := fun sz => QV G (shW κ tl) ad post (sz)) (by decide) (Nat.le_of_ble_eq_true rfl) ?_
  intro p e s m below meth c S hr hlk _ hK hE hW ls hl
  obtain ⟨hx, hb, hml, hown, hts⟩ := id S
  replace hl : lv_has ls 5 [(0, .ref (ad kA)), (1, .int (iN v1)), (2, .int (iN v2)), (3, .int (iN v3))] := hl
  have hL10 : ∀ (v2_10 : Int) (v3_10 : Int) (n : Nat) (v4_10 : Int) (σ_10 : Mem) (H : Heap) (locs : List Loc) (ls : Array Slot), w_J7_fill_fda19_L10 kA nA v2_10 v3_10 post n v4_10 σ_10 → Wd G (shW κ tl) ad σ_10 (Aw ad (shW κ tl).length s.heap.size) s.heap H locs → lv_has ls 5 [(0, .ref (ad kA)), (2, .int (iN v2_10)), (3, .int (iN v3_10)), (4, .int (iN v4_10))] → W p l e ({ frames := 1, cells := 0, slots := 0, locals := 22 } : Room) s m ([.ref (ad kA), .int (iN v1), .int (iN v2), .int (iN v3)] : List Value).toArray below meth c H locs 0 0 (MQ below (QV G (shW κ tl) ad post (s.heap.size)) ([.ref (ad kA), .int (iN v1), .int (iN v2), .int (iN v3)] : List Value).toArray s 0 0 (Aw ad (shW κ tl).length s.heap.size)) (F0 m 10 ls []) := by
    intro v2_10 v3_10 n
    induction n with
    | zero =>
      intro v4_10 σ_10 H locs ls hw
      exact hw.elim
    | succ n10 ih10 =>
      intro v4_10 σ_10 H locs ls hw hW hl
      replace hw : w_J7_fill_fda19_L10_body kA nA v2_10 v3_10 post (w_J7_fill_fda19_L10 kA nA v2_10 v3_10 post n10) v4_10 σ_10 := hw
      unfold w_J7_fill_fda19_L10_body at hw
      refine lv_iload hx hb dJ7_fill_fda19_10 (lv_at hl 3 rfl) ?_
      refine lv_iload_n hx hb dJ7_fill_fda19_12 rfl (lv_at hl 1 rfl) ?_
      refine n_icmp_ge hx hb hw.1 hw.2.1 hw.2.2.1 hw.2.2.2 (tgt := 27) dJ7_fill_fda19_13 (by decide) (fun hw => ?_) (fun hw => ?_)
      · exact r_CV hx hb hr hlk hK hW hw dJ7_fill_fda19_27
      · refine lv_aload_n hx hb dJ7_fill_fda19_16 rfl (lv_at hl 0 rfl) ?_
        refine lv_iload hx hb dJ7_fill_fda19_17 (lv_at hl 3 rfl) ?_
        refine lv_iload_n hx hb dJ7_fill_fda19_19 rfl (lv_at hl 2 rfl) ?_
        refine g_ast hx hb hK hW kA hkA hw.1 dJ7_fill_fda19_20 (fun σ4 H locs hτ hW => ?_)
        replace hw := hw.2 σ4 hτ
        refine lv_iinc (v := iN (v4_10 + 1)) (lv' := [(4, .int (iN (v4_10 + 1))), (0, .ref (ad kA)), (2, .int (iN v2_10)), (3, .int (iN v3_10))]) hx hb dJ7_fill_fda19_21 hl (k := 3) rfl (iN_add _ _) (by decide) rfl (fun ls hl => ?_)
        refine lv_goto (tgt := 10) hx hb dJ7_fill_fda19_24 (by decide) ?_
        exact ih10 (v4_10 + 1) σ4 H locs ls hw hW (lv_sub hl [1, 2, 3, 0] rfl)
  unfold w_J7_fill_fda19 at hw
  refine lv_aload_n hx hb dJ7_fill_fda19_0 rfl (lv_at hl 0 rfl) ?_
  refine g_alen hx hb hK hW kA hkA dJ7_fill_fda19_1 ?_
  refine lv_iload_n hx hb dJ7_fill_fda19_2 rfl (lv_at hl 1 rfl) ?_
  refine lv_iload_n hx hb dJ7_fill_fda19_3 rfl (lv_at hl 2 rfl) ?_
  refine fin_CV hW (run_S (As := [.int (iN ((nA : Nat) : Int)), .int (iN v1), .int (iN v2)]) (rest := []) S hK hE hW (c_J7_rangeCheck_23922 l G κ tl ad σ ((nA : Nat) : Int) v1 v2 _ hw s.heap.size) al_691 al_692 al_14 al_693 hd_J7_rangeCheck_23922.2 rfl rfl ⟨Nat.le_of_ble_eq_true rfl, Nat.le_of_ble_eq_true rfl⟩ rfl hl.1 rfl (Nat.le_of_ble_eq_true rfl) dJ7_fill_fda19_4 ⟨Nat.zero_le _, Nat.zero_le _⟩) ?_
  intro σ2 H locs hw hW
  refine lv_iload_n hx hb dJ7_fill_fda19_7 rfl (lv_at hl 1 rfl) ?_
  refine lv_istore (lv' := [(4, .int (iN v1)), (0, .ref (ad kA)), (1, .int (iN v1)), (2, .int (iN v2)), (3, .int (iN v3))]) hx hb dJ7_fill_fda19_8 hl (by decide) rfl (fun ls hl => ?_)
  obtain ⟨n, hw⟩ := hw
  exact hL10 v2 v3 n v1 σ2 H locs ls hw hW (lv_sub hl [1, 3, 4, 0] rfl)
set_option maxHeartbeats 4000000 in
set_option maxRecDepth 100000 in
theorem c_X7_clearRows (l : Launch) (G : Gt) (κ : Nat) (hκ : κ < 5)  (ad : Nat → Nat) (kA nA : Nat) (hkA : (shW κ true)[kA]? = some (.inl (0, nA))) (σ : Mem) (v1 : Int) (post : Mem → Prop) (hw : w_X7_clearRows κ kA nA σ v1 post) : CV l yX7_clearRows (Cond.code yX7_clearRows cX7_clearRows 2 none) ({ frames := 2, cells := 0, slots := 0, locals := 46 } : Room) G (shW κ true) ad σ [.ref (ad kA), .int (iN v1)] post := by
  refine s_all (y := yX7_clearRows) (code := cX7_clearRows) (maxL := 2) (ret := none) (rm := ({ frames := 2, cells := 0, slots := 0, locals := 46 } : Room)) (av := [.ref (ad kA), .int (iN v1)]) (Qc := fun sz => QV G (shW κ true) ad post (sz)) (by decide) (Nat.le_of_ble_eq_true rfl) ?_
  intro p e s m below meth c S hr hlk _ hK hE hW ls hl
  obtain ⟨hx, hb, hml, hown, hts⟩ := id S
  replace hl : lv_has ls 2 [(0, .ref (ad kA)), (1, .int (iN v1))] := hl
  unfold w_X7_clearRows at hw
  refine lv_aload_n hx hb dX7_clearRows_0 rfl (lv_at hl 0 rfl) ?_
  refine n_iconst hx hb dX7_clearRows_1 ?_
  refine n_iconst hx hb dX7_clearRows_2 ?_
  refine lv_aload_n hx hb dX7_clearRows_3 rfl (lv_at hl 0 rfl) ?_
  refine g_alen hx hb hK hW kA hkA dX7_clearRows_4 ?_
  refine lv_iload_n hx hb dX7_clearRows_5 rfl (lv_at hl 1 rfl) ?_
  refine n_sipush hx hb dX7_clearRows_6 (by decide) ?_
  refine n_imul hx hb dX7_clearRows_9 ?_
  refine n_mmin hx hb (hml.trans hl.1.symm) hown (hts _ (List.mem_cons_of_mem _ al_687)) (hts _ (List.mem_cons_of_mem _ al_24)) (hts _ (List.mem_cons_of_mem _ al_2)) (hts _ (List.mem_cons_of_mem _ al_25)) (Nat.le_of_ble_eq_true rfl) (Nat.le_of_ble_eq_true rfl) (Nat.zero_le _) (Nat.zero_le _) hw.1 hw.2.1 dX7_clearRows_10 ?_
  replace hw := hw.2.2
  refine n_mmax hx hb (hml.trans hl.1.symm) hown (hts _ (List.mem_cons_of_mem _ al_646)) (hts _ (List.mem_cons_of_mem _ al_27)) (hts _ (List.mem_cons_of_mem _ al_2)) (hts _ (List.mem_cons_of_mem _ al_28)) (Nat.le_of_ble_eq_true rfl) (Nat.le_of_ble_eq_true rfl) (Nat.zero_le _) (Nat.zero_le _) (rg_c _ rfl) hw.1 dX7_clearRows_13 ?_
  replace hw := hw.2
  refine n_iconst hx hb dX7_clearRows_16 ?_
  refine fin_CV hW (run_S (As := [.ref (ad kA), .int (iN 0), .int (iN (max 0 (min ((nA : Nat) : Int) (v1 * 301)))), .int (iN 0)]) (rest := []) S hK hE hW (c_J7_fill_fda19 l G κ true ad (kA) nA hkA σ 0 (max 0 (min ((nA : Nat) : Int) (v1 * 301))) 0 _ hw s.heap.size) al_688 al_689 al_14 al_690 hd_J7_fill_fda19.2 rfl rfl ⟨Nat.le_of_ble_eq_true rfl, Nat.le_of_ble_eq_true rfl⟩ rfl hl.1 rfl (Nat.le_of_ble_eq_true rfl) dX7_clearRows_17 ⟨Nat.zero_le _, Nat.zero_le _⟩) ?_
  intro σ2 H locs hw hW
  exact r_CV hx hb hr hlk hK hW hw dX7_clearRows_20
set_option maxHeartbeats 4000000 in
set_option maxRecDepth 100000 in
theorem c_X7_begin (l : Launch) (G : Gt) (κ : Nat) (hκ : κ < 5)  (ad : Nat → Nat)  (σ : Mem) (v2 : Int) (post : Mem → Prop) (hw : w_X7_begin κ σ v2 post) : CV l yX7_begin (Cond.code yX7_begin cX7_begin 6 none) ({ frames := 3, cells := 0, slots := 0, locals := 67 } : Room) G (shW κ true) ad σ [.ref (ad 35), .ref (ad 1), .int (iN v2)] post := by
  refine s_all (y := yX7_begin) (code := cX7_begin) (maxL := 6) (ret := none) (rm := ({ frames := 3, cells := 0, slots := 0, locals := 67 } : Room)) (av := [.ref (ad 35), .ref (ad 1), .int (iN v2)]) (Qc := fun sz => QV G (shW κ true) ad post (sz)) (by decide) (Nat.le_of_ble_eq_true rfl) ?_
  intro p e s m below meth c S hr hlk _ hK hE hW ls hl
  obtain ⟨hx, hb, hml, hown, hts⟩ := id S
  replace hl : lv_has ls 6 [(0, .ref (ad 35)), (1, .ref (ad 1)), (2, .int (iN v2))] := hl
  have hL14 : ∀ (v2_14 : Int) (n : Nat) (v3_14 : Int) (σ_14 : Mem) (H : Heap) (locs : List Loc) (ls : Array Slot), w_X7_begin_L14 κ v2_14 post n v3_14 σ_14 → Wd G (shW κ true) ad σ_14 (Aw ad (shW κ true).length s.heap.size) s.heap H locs → lv_has ls 6 [(0, .ref (ad 35)), (1, .ref (ad 1)), (2, .int (iN v2_14)), (3, .int (iN v3_14))] → W p l e ({ frames := 3, cells := 0, slots := 0, locals := 67 } : Room) s m ([.ref (ad 35), .ref (ad 1), .int (iN v2)] : List Value).toArray below meth c H locs 0 0 (MQ below (QV G (shW κ true) ad post (s.heap.size)) ([.ref (ad 35), .ref (ad 1), .int (iN v2)] : List Value).toArray s 0 0 (Aw ad (shW κ true).length s.heap.size)) (F0 m 14 ls []) := by
    intro v2_14 n
    induction n with
    | zero =>
      intro v3_14 σ_14 H locs ls hw
      exact hw.elim
    | succ n14 ih14 =>
      intro v3_14 σ_14 H locs ls hw hW hl
      replace hw : w_X7_begin_L14_body κ v2_14 post (w_X7_begin_L14 κ v2_14 post n14) v3_14 σ_14 := hw
      have hB84 : ∀ (σ_84 : Mem) (v3_84 : Int) (H : Heap) (locs : List Loc) (ls : Array Slot), w_X7_begin_B84 κ σ_84 v2_14 v3_84 post (w_X7_begin_L14 κ v2_14 post n14) → Wd G (shW κ true) ad σ_84 (Aw ad (shW κ true).length s.heap.size) s.heap H locs → lv_has ls 6 [(0, .ref (ad 35)), (1, .ref (ad 1)), (2, .int (iN v2_14)), (3, .int (iN v3_84))] → W p l e ({ frames := 3, cells := 0, slots := 0, locals := 67 } : Room) s m ([.ref (ad 35), .ref (ad 1), .int (iN v2)] : List Value).toArray below meth c H locs 0 0 (MQ below (QV G (shW κ true) ad post (s.heap.size)) ([.ref (ad 35), .ref (ad 1), .int (iN v2)] : List Value).toArray s 0 0 (Aw ad (shW κ true).length s.heap.size)) (F0 m 84 ls []) := by
        intro σ_84 v3_84 H locs ls hw hW hl
        unfold w_X7_begin_B84 at hw
        refine lv_iinc (v := iN (v3_84 + 1)) (lv' := [(3, .int (iN (v3_84 + 1))), (0, .ref (ad 35)), (1, .ref (ad 1)), (2, .int (iN v2_14))]) hx hb dX7_begin_84 hl (k := 3) rfl (iN_add _ _) (by decide) rfl (fun ls hl => ?_)
        refine lv_goto (tgt := 14) hx hb dX7_begin_87 (by decide) ?_
        exact ih14 (v3_84 + 1) σ_84 H locs ls hw hW (lv_sub hl [1, 2, 3, 0] rfl)
      unfold w_X7_begin_L14_body at hw
      refine lv_iload_n hx hb dX7_begin_14 rfl (lv_at hl 3 rfl) ?_
      refine lv_aload_n hx hb dX7_begin_15 rfl (lv_at hl 1 rfl) ?_
      refine lv_iload_n hx hb dX7_begin_16 rfl (lv_at hl 2 rfl) ?_
      refine fin_CI hW (run_U (k := 1) (As := [.int (iN v2_14)]) (rest := [.int (iN v3_14)]) S hK hE hW (c_X2_countOf l G κ hκ true ad σ_14 v2_14 _ hw H.size) rfl (hcP hκ) al_683 al_427 (se_X2_X2_countOf hκ) al_426 al_3 al_433 rfl hd_X2_countOf.2 rfl rfl ⟨Nat.le_of_ble_eq_true rfl, Nat.le_of_ble_eq_true rfl⟩ rfl hl.1 rfl (Nat.le_of_ble_eq_true rfl) dX7_begin_17 ⟨Nat.zero_le _, Nat.zero_le _⟩) ?_
      intro r12 H locs hw hW
      refine n_icmp_ge hx hb hw.1 hw.2.1 hw.2.2.1 hw.2.2.2 (tgt := 90) dX7_begin_20 (by decide) (fun hw => ?_) (fun hw => ?_)
      · exact r_CV hx hb hr hlk hK hW hw dX7_begin_90
      · refine lv_aload_n hx hb dX7_begin_23 rfl (lv_at hl 1 rfl) ?_
        refine lv_iload_n hx hb dX7_begin_24 rfl (lv_at hl 2 rfl) ?_
        refine lv_iload_n hx hb dX7_begin_25 rfl (lv_at hl 3 rfl) ?_
        refine fin_CI hW (run_U (k := 1) (As := [.int (iN v2_14), .int (iN v3_14)]) (rest := []) S hK hE hW (c_X2_priceOf l G κ hκ true ad σ_14 v2_14 v3_14 _ hw H.size) rfl (hcP hκ) al_694 al_444 (se_X2_X2_priceOf hκ) al_443 al_3 al_450 rfl hd_X2_priceOf.2 rfl rfl ⟨Nat.le_of_ble_eq_true rfl, Nat.le_of_ble_eq_true rfl⟩ rfl hl.1 rfl (Nat.le_of_ble_eq_true rfl) dX7_begin_26 ⟨Nat.zero_le _, Nat.zero_le _⟩) ?_
        intro r14 H locs hw hW
        refine lv_istore (lv' := [(4, .int (iN r14)), (0, .ref (ad 35)), (1, .ref (ad 1)), (2, .int (iN v2_14)), (3, .int (iN v3_14))]) hx hb dX7_begin_29 hl (by decide) rfl (fun ls hl => ?_)
        refine lv_iload_n hx hb dX7_begin_31 rfl (lv_at hl 4 rfl) ?_
        refine n_sipush hx hb dX7_begin_32 (by decide) ?_
        refine n_imul hx hb dX7_begin_35 ?_
        refine lv_iload hx hb dX7_begin_36 (lv_at hl 0 rfl) ?_
        refine n_iadd hx hb dX7_begin_38 ?_
        refine lv_istore (lv' := [(5, .int (iN ((v3_14 * 301) + r14))), (4, .int (iN r14)), (0, .ref (ad 35)), (1, .ref (ad 1)), (2, .int (iN v2_14)), (3, .int (iN v3_14))]) hx hb dX7_begin_39 hl (by decide) rfl (fun ls hl => ?_)
        refine lv_aload_n hx hb dX7_begin_41 rfl (lv_at hl 3 rfl) ?_
        refine g_getr hx hb hts hown hK hW 1 rfl (q := 2) (hcP hκ) (uwP hκ) 0 (by decide) rfl al_87 (fun _ h9 => h9) dX7_begin_42 ?_
        refine lv_iload_n hx hb dX7_begin_45 rfl (lv_at hl 4 rfl) ?_
        refine lv_iload_n hx hb dX7_begin_46 rfl (lv_at hl 5 rfl) ?_
        refine fin_CI hW (run_VN (k := 2) (As := [.int (iN v2_14), .int (iN v3_14)]) (rest := []) 36 S hK hE hW (c_X1_allows l G κ true ad σ_14 v2_14 v3_14 _ hw H.size) rfl rfl rfl al_582 sl_X1_allows al_5 al_583 hd_X1_allows.2 rfl rfl ⟨Nat.le_of_ble_eq_true rfl, Nat.le_of_ble_eq_true rfl⟩ rfl hl.1 rfl (Nat.le_of_ble_eq_true rfl) dX7_begin_47 ⟨Nat.zero_le _, Nat.zero_le _⟩) ?_
        intro r16 H locs hw hW
        refine n_if_eq hx hb hw.1 hw.2.1 hw.2.2 (tgt := 84) dX7_begin_50 (by decide) (fun hw => ?_) (fun hw => ?_)
        · exact hB84 σ_14 v3_14 H locs ls hw hW (lv_sub hl [2, 3, 4, 5] rfl)
        · refine lv_iload hx hb dX7_begin_53 (lv_at hl 1 rfl) ?_
          refine n_sipush hx hb dX7_begin_55 (by decide) ?_
          refine n_icmp_ge hx hb hw.1 (rg_c _ rfl) hw.2.1 hw.2.2 (tgt := 84) dX7_begin_58 (by decide) (fun hw => ?_) (fun hw => ?_)
          · exact hB84 σ_14 v3_14 H locs ls hw hW (lv_sub hl [2, 3, 4, 5] rfl)
          · refine lv_iload hx hb dX7_begin_61 (lv_at hl 0 rfl) ?_
            refine n_if_lt hx hb hw.1 hw.2.1 hw.2.2 (tgt := 84) dX7_begin_63 (by decide) (fun hw => ?_) (fun hw => ?_)
            · exact hB84 σ_14 v3_14 H locs ls hw hW (lv_sub hl [2, 3, 4, 5] rfl)
            · refine lv_iload hx hb dX7_begin_66 (lv_at hl 0 rfl) ?_
              refine lv_aload_n hx hb dX7_begin_68 rfl (lv_at hl 2 rfl) ?_
              refine g_getd hx hb hts hown hK hW 35 rfl rfl uw_X7 0 (by decide) rfl al_647 (fun _ h9 => h9) dX7_begin_69 ?_
              refine g_alen hx hb hK hW (σ_14 35 0).toNat hw.1 dX7_begin_72 ?_
              replace hw := hw.2
              refine n_icmp_ge hx hb hw.1 hw.2.1 hw.2.2.1 hw.2.2.2 (tgt := 84) dX7_begin_73 (by decide) (fun hw => ?_) (fun hw => ?_)
              · exact hB84 σ_14 v3_14 H locs ls hw hW (lv_sub hl [2, 3, 4, 5] rfl)
              · refine lv_aload_n hx hb dX7_begin_76 rfl (lv_at hl 2 rfl) ?_
                refine g_getd hx hb hts hown hK hW 35 rfl rfl uw_X7 0 (by decide) rfl al_647 (fun _ h9 => h9) dX7_begin_77 ?_
                refine lv_iload hx hb dX7_begin_80 (lv_at hl 0 rfl) ?_
                refine n_iconst hx hb dX7_begin_82 ?_
                refine g_ast hx hb hK hW (σ_14 35 0).toNat hw.1 hw.2.1 dX7_begin_83 (fun σ18 H locs hτ hW => ?_)
                replace hw := hw.2.2 σ18 hτ
                exact hB84 σ18 v3_14 H locs ls hw hW (lv_sub hl [2, 3, 4, 5] rfl)
  unfold w_X7_begin at hw
  refine lv_aload_n hx hb dX7_begin_0 rfl (lv_at hl 0 rfl) ?_
  refine g_getd hx hb hts hown hK hW 35 rfl rfl uw_X7 0 (by decide) rfl al_647 (fun _ h9 => h9) dX7_begin_1 ?_
  refine lv_aload_n hx hb dX7_begin_4 rfl (lv_at hl 1 rfl) ?_
  refine lv_iload_n hx hb dX7_begin_5 rfl (lv_at hl 2 rfl) ?_
  refine fin_CI hW (run_U (k := 1) (As := [.int (iN v2)]) (rest := [.ref (ad (σ 35 0).toNat)]) S hK hE hW (c_X2_countOf l G κ hκ true ad σ v2 _ hw s.heap.size) rfl (hcP hκ) al_683 al_427 (se_X2_X2_countOf hκ) al_426 al_3 al_433 rfl hd_X2_countOf.2 rfl rfl ⟨Nat.le_of_ble_eq_true rfl, Nat.le_of_ble_eq_true rfl⟩ rfl hl.1 rfl (Nat.le_of_ble_eq_true rfl) dX7_begin_6 ⟨Nat.zero_le _, Nat.zero_le _⟩) ?_
  intro r1 H locs hw hW
  refine fin_CV hW (run_S (As := [.ref (ad (σ 35 0).toNat), .int (iN r1)]) (rest := []) S hK hE hW (c_X7_clearRows l G κ hκ ad ((σ 35 0).toNat) (wd κ * 301) hw.1 σ r1 _ hw.2 H.size) al_684 al_685 al_13 al_686 hd_X7_clearRows.2 rfl rfl ⟨Nat.le_of_ble_eq_true rfl, Nat.le_of_ble_eq_true rfl⟩ rfl hl.1 rfl (Nat.le_of_ble_eq_true rfl) dX7_begin_9 ⟨Nat.zero_le _, Nat.zero_le _⟩) ?_
  intro σ4 H locs hw hW
  refine n_iconst hx hb dX7_begin_12 ?_
  refine lv_istore_n (lv' := [(3, .int (iN 0)), (0, .ref (ad 35)), (1, .ref (ad 1)), (2, .int (iN v2))]) hx hb dX7_begin_13 rfl hl (by decide) rfl (fun ls hl => ?_)
  obtain ⟨n, hw⟩ := hw
  exact hL14 v2 n 0 σ4 H locs ls hw hW (lv_sub hl [1, 2, 3, 0] rfl)
set_option maxHeartbeats 4000000 in
set_option maxRecDepth 100000 in
theorem c_X7_cheapestOf (l : Launch) (G : Gt) (κ : Nat) (hκ : κ < 5)  (ad : Nat → Nat)  (σ : Mem) (v1 : Int) (v2 : Int) (post : Int → Prop) (hw : w_X7_cheapestOf κ σ v1 v2 post) : CI l yX7_cheapestOf (Cond.code yX7_cheapestOf cX7_cheapestOf 5 (some .int)) ({ frames := 0, cells := 0, slots := 0, locals := 0 } : Room) G (shW κ true) ad σ [.ref (ad 35), .int (iN v1), .int (iN v2)] post := by
  refine s_all (y := yX7_cheapestOf) (code := cX7_cheapestOf) (maxL := 5) (ret := (some .int)) (rm := ({ frames := 0, cells := 0, slots := 0, locals := 0 } : Room)) (av := [.ref (ad 35), .int (iN v1), .int (iN v2)]) (Qc := fun sz => QI G (shW κ true) ad σ post (sz)) (by decide) (Nat.le_of_ble_eq_true rfl) ?_
  intro p e s m below meth c S hr hlk _ hK hE hW ls hl
  obtain ⟨hx, hb, hml, hown, hts⟩ := id S
  replace hl : lv_has ls 5 [(0, .ref (ad 35)), (1, .int (iN v1)), (2, .int (iN v2))] := hl
  have hL2 : ∀ (v1_2 : Int) (v2_2 : Int) (n : Nat) (v3_2 : Int) (H : Heap) (locs : List Loc) (ls : Array Slot), w_X7_cheapestOf_L2 κ σ v1_2 v2_2 post n v3_2 → Wd G (shW κ true) ad σ (Aw ad (shW κ true).length s.heap.size) s.heap H locs → lv_has ls 5 [(0, .ref (ad 35)), (1, .int (iN v1_2)), (2, .int (iN v2_2)), (3, .int (iN v3_2))] → W p l e ({ frames := 0, cells := 0, slots := 0, locals := 0 } : Room) s m ([.ref (ad 35), .int (iN v1), .int (iN v2)] : List Value).toArray below meth c H locs 0 0 (MQ below (QI G (shW κ true) ad σ post (s.heap.size)) ([.ref (ad 35), .int (iN v1), .int (iN v2)] : List Value).toArray s 0 0 (Aw ad (shW κ true).length s.heap.size)) (F0 m 2 ls []) := by
    intro v1_2 v2_2 n
    induction n with
    | zero =>
      intro v3_2 H locs ls hw
      exact hw.elim
    | succ n2 ih2 =>
      intro v3_2 H locs ls hw hW hl
      replace hw : w_X7_cheapestOf_L2_body κ σ v1_2 v2_2 post (w_X7_cheapestOf_L2 κ σ v1_2 v2_2 post n2) v3_2 := hw
      have hB43 : ∀  (v3_43 : Int) (H : Heap) (locs : List Loc) (ls : Array Slot), w_X7_cheapestOf_B43 κ σ v1_2 v2_2 v3_43 post (w_X7_cheapestOf_L2 κ σ v1_2 v2_2 post n2) → Wd G (shW κ true) ad σ (Aw ad (shW κ true).length s.heap.size) s.heap H locs → lv_has ls 5 [(0, .ref (ad 35)), (1, .int (iN v1_2)), (2, .int (iN v2_2)), (3, .int (iN v3_43))] → W p l e ({ frames := 0, cells := 0, slots := 0, locals := 0 } : Room) s m ([.ref (ad 35), .int (iN v1), .int (iN v2)] : List Value).toArray below meth c H locs 0 0 (MQ below (QI G (shW κ true) ad σ post (s.heap.size)) ([.ref (ad 35), .int (iN v1), .int (iN v2)] : List Value).toArray s 0 0 (Aw ad (shW κ true).length s.heap.size)) (F0 m 43 ls []) := by
        intro v3_43 H locs ls hw hW hl
        unfold w_X7_cheapestOf_B43 at hw
        refine lv_iinc (v := iN (v3_43 + 1)) (lv' := [(3, .int (iN (v3_43 + 1))), (0, .ref (ad 35)), (1, .int (iN v1_2)), (2, .int (iN v2_2))]) hx hb dX7_cheapestOf_43 hl (k := 3) rfl (iN_add _ _) (by decide) rfl (fun ls hl => ?_)
        refine lv_goto (tgt := 2) hx hb dX7_cheapestOf_46 (by decide) ?_
        exact ih2 (v3_43 + 1) H locs ls hw hW (lv_sub hl [1, 2, 3, 0] rfl)
      unfold w_X7_cheapestOf_L2_body at hw
      refine lv_iload_n hx hb dX7_cheapestOf_2 rfl (lv_at hl 3 rfl) ?_
      refine lv_iload_n hx hb dX7_cheapestOf_3 rfl (lv_at hl 2 rfl) ?_
      refine n_icmp_gt hx hb hw.1 hw.2.1 hw.2.2.1 hw.2.2.2 (tgt := 49) dX7_cheapestOf_4 (by decide) (fun hw => ?_) (fun hw => ?_)
      · refine lv_iload_n hx hb dX7_cheapestOf_49 rfl (lv_at hl 2 rfl) ?_
        refine n_iconst hx hb dX7_cheapestOf_50 ?_
        refine n_iadd hx hb dX7_cheapestOf_51 ?_
        exact r_CI hx hb hr hlk hK hW hw dX7_cheapestOf_52
      · refine lv_iload_n hx hb dX7_cheapestOf_7 rfl (lv_at hl 1 rfl) ?_
        refine n_sipush hx hb dX7_cheapestOf_8 (by decide) ?_
        refine n_imul hx hb dX7_cheapestOf_11 ?_
        refine lv_iload_n hx hb dX7_cheapestOf_12 rfl (lv_at hl 3 rfl) ?_
        refine n_iadd hx hb dX7_cheapestOf_13 ?_
        refine lv_istore (lv' := [(4, .int (iN ((v1_2 * 301) + v3_2))), (0, .ref (ad 35)), (1, .int (iN v1_2)), (2, .int (iN v2_2)), (3, .int (iN v3_2))]) hx hb dX7_cheapestOf_14 hl (by decide) rfl (fun ls hl => ?_)
        refine lv_iload hx hb dX7_cheapestOf_16 (lv_at hl 0 rfl) ?_
        refine n_if_lt hx hb hw.1 hw.2.1 hw.2.2 (tgt := 43) dX7_cheapestOf_18 (by decide) (fun hw => ?_) (fun hw => ?_)
        · exact hB43 v3_2 H locs ls hw hW (lv_sub hl [1, 2, 3, 4] rfl)
        · refine lv_iload hx hb dX7_cheapestOf_21 (lv_at hl 0 rfl) ?_
          refine lv_aload_n hx hb dX7_cheapestOf_23 rfl (lv_at hl 1 rfl) ?_
          refine g_getd hx hb hts hown hK hW 35 rfl rfl uw_X7 0 (by decide) rfl al_647 (fun _ h9 => h9) dX7_cheapestOf_24 ?_
          refine g_alen hx hb hK hW (σ 35 0).toNat hw.1 dX7_cheapestOf_27 ?_
          replace hw := hw.2
          refine n_icmp_ge hx hb hw.1 hw.2.1 hw.2.2.1 hw.2.2.2 (tgt := 43) dX7_cheapestOf_28 (by decide) (fun hw => ?_) (fun hw => ?_)
          · exact hB43 v3_2 H locs ls hw hW (lv_sub hl [1, 2, 3, 4] rfl)
          · refine lv_aload_n hx hb dX7_cheapestOf_31 rfl (lv_at hl 1 rfl) ?_
            refine g_getd hx hb hts hown hK hW 35 rfl rfl uw_X7 0 (by decide) rfl al_647 (fun _ h9 => h9) dX7_cheapestOf_32 ?_
            refine lv_iload hx hb dX7_cheapestOf_35 (lv_at hl 0 rfl) ?_
            refine g_ald hx hb hK hW (σ 35 0).toNat hw.1 hw.2.1 dX7_cheapestOf_37 ?_
            replace hw := hw.2.2
            refine n_if_eq hx hb hw.1 hw.2.1 hw.2.2 (tgt := 43) dX7_cheapestOf_38 (by decide) (fun hw => ?_) (fun hw => ?_)
            · exact hB43 v3_2 H locs ls hw hW (lv_sub hl [1, 2, 3, 4] rfl)
            · refine lv_iload_n hx hb dX7_cheapestOf_41 rfl (lv_at hl 4 rfl) ?_
              exact r_CI hx hb hr hlk hK hW hw dX7_cheapestOf_42
  unfold w_X7_cheapestOf at hw
  refine n_iconst hx hb dX7_cheapestOf_0 ?_
  refine lv_istore_n (lv' := [(3, .int (iN 0)), (0, .ref (ad 35)), (1, .int (iN v1)), (2, .int (iN v2))]) hx hb dX7_cheapestOf_1 rfl hl (by decide) rfl (fun ls hl => ?_)
  obtain ⟨n, hw⟩ := hw
  exact hL2 v1 v2 n 0 s.heap [] ls hw hW (lv_sub hl [1, 2, 3, 0] rfl)
set_option maxHeartbeats 4000000 in
set_option maxRecDepth 100000 in
theorem c_X7_dearestOf (l : Launch) (G : Gt) (κ : Nat) (hκ : κ < 5)  (ad : Nat → Nat)  (σ : Mem) (v1 : Int) (v2 : Int) (post : Int → Prop) (hw : w_X7_dearestOf κ σ v1 v2 post) : CI l yX7_dearestOf (Cond.code yX7_dearestOf cX7_dearestOf 5 (some .int)) ({ frames := 0, cells := 0, slots := 0, locals := 0 } : Room) G (shW κ true) ad σ [.ref (ad 35), .int (iN v1), .int (iN v2)] post := by
  refine s_all (y := yX7_dearestOf) (code := cX7_dearestOf) (maxL := 5) (ret := (some .int)) (rm := ({ frames := 0, cells := 0, slots := 0, locals := 0 } : Room)) (av := [.ref (ad 35), .int (iN v1), .int (iN v2)]) (Qc := fun sz => QI G (shW κ true) ad σ post (sz)) (by decide) (Nat.le_of_ble_eq_true rfl) ?_
  intro p e s m below meth c S hr hlk _ hK hE hW ls hl
  obtain ⟨hx, hb, hml, hown, hts⟩ := id S
  replace hl : lv_has ls 5 [(0, .ref (ad 35)), (1, .int (iN v1)), (2, .int (iN v2))] := hl
  have hL2 : ∀ (v1_2 : Int) (n : Nat) (v3_2 : Int) (H : Heap) (locs : List Loc) (ls : Array Slot), w_X7_dearestOf_L2 κ σ v1_2 post n v3_2 → Wd G (shW κ true) ad σ (Aw ad (shW κ true).length s.heap.size) s.heap H locs → lv_has ls 5 [(0, .ref (ad 35)), (1, .int (iN v1_2)), (3, .int (iN v3_2))] → W p l e ({ frames := 0, cells := 0, slots := 0, locals := 0 } : Room) s m ([.ref (ad 35), .int (iN v1), .int (iN v2)] : List Value).toArray below meth c H locs 0 0 (MQ below (QI G (shW κ true) ad σ post (s.heap.size)) ([.ref (ad 35), .int (iN v1), .int (iN v2)] : List Value).toArray s 0 0 (Aw ad (shW κ true).length s.heap.size)) (F0 m 2 ls []) := by
    intro v1_2 n
    induction n with
    | zero =>
      intro v3_2 H locs ls hw
      exact hw.elim
    | succ n2 ih2 =>
      intro v3_2 H locs ls hw hW hl
      replace hw : w_X7_dearestOf_L2_body κ σ v1_2 post (w_X7_dearestOf_L2 κ σ v1_2 post n2) v3_2 := hw
      have hB42 : ∀  (v3_42 : Int) (H : Heap) (locs : List Loc) (ls : Array Slot), w_X7_dearestOf_B42 κ σ v1_2 v3_42 post (w_X7_dearestOf_L2 κ σ v1_2 post n2) → Wd G (shW κ true) ad σ (Aw ad (shW κ true).length s.heap.size) s.heap H locs → lv_has ls 5 [(0, .ref (ad 35)), (1, .int (iN v1_2)), (3, .int (iN v3_42))] → W p l e ({ frames := 0, cells := 0, slots := 0, locals := 0 } : Room) s m ([.ref (ad 35), .int (iN v1), .int (iN v2)] : List Value).toArray below meth c H locs 0 0 (MQ below (QI G (shW κ true) ad σ post (s.heap.size)) ([.ref (ad 35), .int (iN v1), .int (iN v2)] : List Value).toArray s 0 0 (Aw ad (shW κ true).length s.heap.size)) (F0 m 42 ls []) := by
        intro v3_42 H locs ls hw hW hl
        unfold w_X7_dearestOf_B42 at hw
        refine lv_iinc (v := iN (v3_42 + (-1))) (lv' := [(3, .int (iN (v3_42 + (-1)))), (0, .ref (ad 35)), (1, .int (iN v1_2))]) hx hb dX7_dearestOf_42 hl (k := 2) rfl (iN_add _ _) (by decide) rfl (fun ls hl => ?_)
        refine lv_goto (tgt := 2) hx hb dX7_dearestOf_45 (by decide) ?_
        exact ih2 (v3_42 + (-1)) H locs ls hw hW (lv_sub hl [1, 2, 0] rfl)
      unfold w_X7_dearestOf_L2_body at hw
      refine lv_iload_n hx hb dX7_dearestOf_2 rfl (lv_at hl 2 rfl) ?_
      refine n_if_lt hx hb hw.1 hw.2.1 hw.2.2 (tgt := 48) dX7_dearestOf_3 (by decide) (fun hw => ?_) (fun hw => ?_)
      · refine n_iconst hx hb dX7_dearestOf_48 ?_
        exact r_CI hx hb hr hlk hK hW hw dX7_dearestOf_49
      · refine lv_iload_n hx hb dX7_dearestOf_6 rfl (lv_at hl 1 rfl) ?_
        refine n_sipush hx hb dX7_dearestOf_7 (by decide) ?_
        refine n_imul hx hb dX7_dearestOf_10 ?_
        refine lv_iload_n hx hb dX7_dearestOf_11 rfl (lv_at hl 2 rfl) ?_
        refine n_iadd hx hb dX7_dearestOf_12 ?_
        refine lv_istore (lv' := [(4, .int (iN ((v1_2 * 301) + v3_2))), (0, .ref (ad 35)), (1, .int (iN v1_2)), (3, .int (iN v3_2))]) hx hb dX7_dearestOf_13 hl (by decide) rfl (fun ls hl => ?_)
        refine lv_iload hx hb dX7_dearestOf_15 (lv_at hl 0 rfl) ?_
        refine n_if_lt hx hb hw.1 hw.2.1 hw.2.2 (tgt := 42) dX7_dearestOf_17 (by decide) (fun hw => ?_) (fun hw => ?_)
        · exact hB42 v3_2 H locs ls hw hW (lv_sub hl [1, 2, 3] rfl)
        · refine lv_iload hx hb dX7_dearestOf_20 (lv_at hl 0 rfl) ?_
          refine lv_aload_n hx hb dX7_dearestOf_22 rfl (lv_at hl 1 rfl) ?_
          refine g_getd hx hb hts hown hK hW 35 rfl rfl uw_X7 0 (by decide) rfl al_647 (fun _ h9 => h9) dX7_dearestOf_23 ?_
          refine g_alen hx hb hK hW (σ 35 0).toNat hw.1 dX7_dearestOf_26 ?_
          replace hw := hw.2
          refine n_icmp_ge hx hb hw.1 hw.2.1 hw.2.2.1 hw.2.2.2 (tgt := 42) dX7_dearestOf_27 (by decide) (fun hw => ?_) (fun hw => ?_)
          · exact hB42 v3_2 H locs ls hw hW (lv_sub hl [1, 2, 3] rfl)
          · refine lv_aload_n hx hb dX7_dearestOf_30 rfl (lv_at hl 1 rfl) ?_
            refine g_getd hx hb hts hown hK hW 35 rfl rfl uw_X7 0 (by decide) rfl al_647 (fun _ h9 => h9) dX7_dearestOf_31 ?_
            refine lv_iload hx hb dX7_dearestOf_34 (lv_at hl 0 rfl) ?_
            refine g_ald hx hb hK hW (σ 35 0).toNat hw.1 hw.2.1 dX7_dearestOf_36 ?_
            replace hw := hw.2.2
            refine n_if_eq hx hb hw.1 hw.2.1 hw.2.2 (tgt := 42) dX7_dearestOf_37 (by decide) (fun hw => ?_) (fun hw => ?_)
            · exact hB42 v3_2 H locs ls hw hW (lv_sub hl [1, 2, 3] rfl)
            · refine lv_iload_n hx hb dX7_dearestOf_40 rfl (lv_at hl 3 rfl) ?_
              exact r_CI hx hb hr hlk hK hW hw dX7_dearestOf_41
  unfold w_X7_dearestOf at hw
  refine lv_iload_n hx hb dX7_dearestOf_0 rfl (lv_at hl 2 rfl) ?_
  refine lv_istore_n (lv' := [(3, .int (iN v2)), (0, .ref (ad 35)), (1, .int (iN v1)), (2, .int (iN v2))]) hx hb dX7_dearestOf_1 rfl hl (by decide) rfl (fun ls hl => ?_)
  obtain ⟨n, hw⟩ := hw
  exact hL2 v1 n v2 s.heap [] ls hw hW (lv_sub hl [1, 2, 0] rfl)
set_option maxHeartbeats 4000000 in
set_option maxRecDepth 100000 in
theorem c_X7_capped (l : Launch) (G : Gt) (κ : Nat) (hκ : κ < 5)  (ad : Nat → Nat)  (σ : Mem) (v0 : Int) (v1 : Int) (post : Int → Prop) (hw : w_X7_capped κ σ v0 v1 post) : CI l yX7_capped (Cond.code yX7_capped cX7_capped 2 (some .int)) ({ frames := 1, cells := 0, slots := 0, locals := 23 } : Room) G (shW κ true) ad σ [.int (iN v0), .int (iN v1)] post := by
  refine s_all (y := yX7_capped) (code := cX7_capped) (maxL := 2) (ret := (some .int)) (rm := ({ frames := 1, cells := 0, slots := 0, locals := 23 } : Room)) (av := [.int (iN v0), .int (iN v1)]) (Qc := fun sz => QI G (shW κ true) ad σ post (sz)) (by decide) (Nat.le_of_ble_eq_true rfl) ?_
  intro p e s m below meth c S hr hlk _ hK hE hW ls hl
  obtain ⟨hx, hb, hml, hown, hts⟩ := id S
  replace hl : lv_has ls 2 [(0, .int (iN v0)), (1, .int (iN v1))] := hl
  unfold w_X7_capped at hw
  refine n_ldc (n := 1000000000) hx hb hown (hts _ (List.mem_cons_of_mem _ al_717)) (by decide) dX7_capped_0 ?_
  refine lv_iload_n hx hb dX7_capped_2 rfl (lv_at hl 0 rfl) ?_
  refine lv_iload_n hx hb dX7_capped_3 rfl (lv_at hl 1 rfl) ?_
  refine n_iadd hx hb dX7_capped_4 ?_
  refine n_mmin hx hb (hml.trans hl.1.symm) hown (hts _ (List.mem_cons_of_mem _ al_687)) (hts _ (List.mem_cons_of_mem _ al_24)) (hts _ (List.mem_cons_of_mem _ al_2)) (hts _ (List.mem_cons_of_mem _ al_25)) (Nat.le_of_ble_eq_true rfl) (Nat.le_of_ble_eq_true rfl) (Nat.zero_le _) (Nat.zero_le _) (rg_c _ rfl) hw.1 dX7_capped_5 ?_
  replace hw := hw.2
  exact r_CI hx hb hr hlk hK hW hw dX7_capped_8
set_option maxHeartbeats 4000000 in
set_option maxRecDepth 100000 in
theorem c_X7_carry (l : Launch) (G : Gt) (κ : Nat) (hκ : κ < 5)  (ad : Nat → Nat)  (σ : Mem) (v1 : Int) (v2 : Int) (v3 : Int) (v4 : Int) (post : Mem → Prop) (hw : w_X7_carry κ σ v1 v2 v3 v4 post) : CV l yX7_carry (Cond.code yX7_carry cX7_carry 6 none) ({ frames := 2, cells := 0, slots := 0, locals := 44 } : Room) G (shW κ true) ad σ [.ref (ad 35), .int (iN v1), .int (iN v2), .int (iN v3), .int (iN v4)] post := by
  refine s_all (y := yX7_carry) (code := cX7_carry) (maxL := 6) (ret := none) (rm := ({ frames := 2, cells := 0, slots := 0, locals := 44 } : Room)) (av := [.ref (ad 35), .int (iN v1), .int (iN v2), .int (iN v3), .int (iN v4)]) (Qc := fun sz => QV G (shW κ true) ad post (sz)) (by decide) (Nat.le_of_ble_eq_true rfl) ?_
  intro p e s m below meth c S hr hlk _ hK hE hW ls hl
  obtain ⟨hx, hb, hml, hown, hts⟩ := id S
  replace hl : lv_has ls 6 [(0, .ref (ad 35)), (1, .int (iN v1)), (2, .int (iN v2)), (3, .int (iN v3)), (4, .int (iN v4))] := hl
  have hL40 : ∀ (v1_40 : Int) (v2_40 : Int) (v4_40 : Int) (n : Nat) (v5_40 : Int) (σ_40 : Mem) (H : Heap) (locs : List Loc) (ls : Array Slot), w_X7_carry_L40 κ v1_40 v2_40 v4_40 post n v5_40 σ_40 → Wd G (shW κ true) ad σ_40 (Aw ad (shW κ true).length s.heap.size) s.heap H locs → lv_has ls 6 [(0, .ref (ad 35)), (1, .int (iN v1_40)), (2, .int (iN v2_40)), (4, .int (iN v4_40)), (5, .int (iN v5_40))] → W p l e ({ frames := 2, cells := 0, slots := 0, locals := 44 } : Room) s m ([.ref (ad 35), .int (iN v1), .int (iN v2), .int (iN v3), .int (iN v4)] : List Value).toArray below meth c H locs 0 0 (MQ below (QV G (shW κ true) ad post (s.heap.size)) ([.ref (ad 35), .int (iN v1), .int (iN v2), .int (iN v3), .int (iN v4)] : List Value).toArray s 0 0 (Aw ad (shW κ true).length s.heap.size)) (F0 m 40 ls []) := by
    intro v1_40 v2_40 v4_40 n
    induction n with
    | zero =>
      intro v5_40 σ_40 H locs ls hw
      exact hw.elim
    | succ n40 ih40 =>
      intro v5_40 σ_40 H locs ls hw hW hl
      replace hw : w_X7_carry_L40_body κ v1_40 v2_40 v4_40 post (w_X7_carry_L40 κ v1_40 v2_40 v4_40 post n40) v5_40 σ_40 := hw
      unfold w_X7_carry_L40_body at hw
      refine lv_iload hx hb dX7_carry_40 (lv_at hl 4 rfl) ?_
      refine lv_iload hx hb dX7_carry_42 (lv_at hl 3 rfl) ?_
      refine n_icmp_gt hx hb hw.1 hw.2.1 hw.2.2.1 hw.2.2.2 (tgt := 83) dX7_carry_44 (by decide) (fun hw => ?_) (fun hw => ?_)
      · exact r_CV hx hb hr hlk hK hW hw dX7_carry_83
      · refine lv_aload_n hx hb dX7_carry_47 rfl (lv_at hl 0 rfl) ?_
        refine g_getd hx hb hts hown hK hW 35 rfl rfl uw_X7 1 (by decide) rfl al_648 (fun _ h9 => h9) dX7_carry_48 ?_
        refine lv_iload_n hx hb dX7_carry_51 rfl (lv_at hl 2 rfl) ?_
        refine lv_iload hx hb dX7_carry_52 (lv_at hl 4 rfl) ?_
        refine n_iadd hx hb dX7_carry_54 ?_
        refine lv_aload_n hx hb dX7_carry_55 rfl (lv_at hl 0 rfl) ?_
        refine g_getd hx hb hts hown hK hW 35 rfl rfl uw_X7 1 (by decide) rfl al_648 (fun _ h9 => h9) dX7_carry_56 ?_
        refine lv_iload_n hx hb dX7_carry_59 rfl (lv_at hl 2 rfl) ?_
        refine lv_iload hx hb dX7_carry_60 (lv_at hl 4 rfl) ?_
        refine n_iadd hx hb dX7_carry_62 ?_
        refine g_ald hx hb hK hW (σ_40 35 1).toNat hw.1 hw.2.1 dX7_carry_63 ?_
        replace hw := hw.2.2
        refine lv_aload_n hx hb dX7_carry_64 rfl (lv_at hl 0 rfl) ?_
        refine g_getd hx hb hts hown hK hW 35 rfl rfl uw_X7 0 (by decide) rfl al_647 (fun _ h9 => h9) dX7_carry_65 ?_
        refine lv_iload_n hx hb dX7_carry_68 rfl (lv_at hl 1 rfl) ?_
        refine lv_iload hx hb dX7_carry_69 (lv_at hl 4 rfl) ?_
        refine n_iadd hx hb dX7_carry_71 ?_
        refine g_ald hx hb hK hW (σ_40 35 0).toNat hw.1 hw.2.1 dX7_carry_72 ?_
        replace hw := hw.2.2
        refine fin_CI hW (run_S (As := [.int (iN (σ_40 (σ_40 35 1).toNat ((v2_40 + v5_40)).toNat)), .int (iN (σ_40 (σ_40 35 0).toNat ((v1_40 + v5_40)).toNat))]) (rest := [.int (iN (v2_40 + v5_40)), .ref (ad (σ_40 35 1).toNat)]) S hK hE hW (c_X7_capped l G κ hκ ad σ_40 (σ_40 (σ_40 35 1).toNat ((v2_40 + v5_40)).toNat) (σ_40 (σ_40 35 0).toNat ((v1_40 + v5_40)).toNat) _ hw H.size) al_714 al_715 al_13 al_716 hd_X7_capped.2 rfl rfl ⟨Nat.le_of_ble_eq_true rfl, Nat.le_of_ble_eq_true rfl⟩ rfl hl.1 rfl (Nat.le_of_ble_eq_true rfl) dX7_carry_73 ⟨Nat.zero_le _, Nat.zero_le _⟩) ?_
        intro r4 H locs hw hW
        refine g_ast hx hb hK hW (σ_40 35 1).toNat hw.1 hw.2.1 dX7_carry_76 (fun σ6 H locs hτ hW => ?_)
        replace hw := hw.2.2 σ6 hτ
        refine lv_iinc (v := iN (v5_40 + 1)) (lv' := [(5, .int (iN (v5_40 + 1))), (0, .ref (ad 35)), (1, .int (iN v1_40)), (2, .int (iN v2_40)), (4, .int (iN v4_40))]) hx hb dX7_carry_77 hl (k := 4) rfl (iN_add _ _) (by decide) rfl (fun ls hl => ?_)
        refine lv_goto (tgt := 40) hx hb dX7_carry_80 (by decide) ?_
        exact ih40 (v5_40 + 1) σ6 H locs ls hw hW (lv_sub hl [1, 2, 3, 4, 0] rfl)
  have hB36 : ∀ (σ_36 : Mem)  (H : Heap) (locs : List Loc) (ls : Array Slot), w_X7_carry_B36 κ σ_36 post → Wd G (shW κ true) ad σ_36 (Aw ad (shW κ true).length s.heap.size) s.heap H locs → lv_has ls 6 [] → W p l e ({ frames := 2, cells := 0, slots := 0, locals := 44 } : Room) s m ([.ref (ad 35), .int (iN v1), .int (iN v2), .int (iN v3), .int (iN v4)] : List Value).toArray below meth c H locs 0 0 (MQ below (QV G (shW κ true) ad post (s.heap.size)) ([.ref (ad 35), .int (iN v1), .int (iN v2), .int (iN v3), .int (iN v4)] : List Value).toArray s 0 0 (Aw ad (shW κ true).length s.heap.size)) (F0 m 36 ls []) := by
    intro σ_36 H locs ls hw hW hl
    unfold w_X7_carry_B36 at hw
    exact r_CV hx hb hr hlk hK hW hw dX7_carry_36
  unfold w_X7_carry at hw
  refine lv_iload_n hx hb dX7_carry_0 rfl (lv_at hl 1 rfl) ?_
  refine n_if_lt hx hb hw.1 hw.2.1 hw.2.2 (tgt := 36) dX7_carry_1 (by decide) (fun hw => ?_) (fun hw => ?_)
  · exact hB36 σ s.heap [] ls hw hW (lv_sub hl [] rfl)
  · refine lv_iload_n hx hb dX7_carry_4 rfl (lv_at hl 2 rfl) ?_
    refine n_if_lt hx hb hw.1 hw.2.1 hw.2.2 (tgt := 36) dX7_carry_5 (by decide) (fun hw => ?_) (fun hw => ?_)
    · exact hB36 σ s.heap [] ls hw hW (lv_sub hl [] rfl)
    · refine lv_iload_n hx hb dX7_carry_8 rfl (lv_at hl 3 rfl) ?_
      refine n_if_lt hx hb hw.1 hw.2.1 hw.2.2 (tgt := 36) dX7_carry_9 (by decide) (fun hw => ?_) (fun hw => ?_)
      · exact hB36 σ s.heap [] ls hw hW (lv_sub hl [] rfl)
      · refine lv_iload hx hb dX7_carry_12 (lv_at hl 4 rfl) ?_
        refine lv_aload_n hx hb dX7_carry_14 rfl (lv_at hl 0 rfl) ?_
        refine g_getd hx hb hts hown hK hW 35 rfl rfl uw_X7 0 (by decide) rfl al_647 (fun _ h9 => h9) dX7_carry_15 ?_
        refine g_alen hx hb hK hW (σ 35 0).toNat hw.1 dX7_carry_18 ?_
        replace hw := hw.2
        refine lv_iload_n hx hb dX7_carry_19 rfl (lv_at hl 1 rfl) ?_
        refine n_isub hx hb dX7_carry_20 ?_
        refine n_icmp_ge hx hb hw.1 hw.2.1 hw.2.2.1 hw.2.2.2 (tgt := 36) dX7_carry_21 (by decide) (fun hw => ?_) (fun hw => ?_)
        · exact hB36 σ s.heap [] ls hw hW (lv_sub hl [] rfl)
        · refine lv_iload hx hb dX7_carry_24 (lv_at hl 4 rfl) ?_
          refine lv_aload_n hx hb dX7_carry_26 rfl (lv_at hl 0 rfl) ?_
          refine g_getd hx hb hts hown hK hW 35 rfl rfl uw_X7 1 (by decide) rfl al_648 (fun _ h9 => h9) dX7_carry_27 ?_
          refine g_alen hx hb hK hW (σ 35 1).toNat hw.1 dX7_carry_30 ?_
          replace hw := hw.2
          refine lv_iload_n hx hb dX7_carry_31 rfl (lv_at hl 2 rfl) ?_
          refine n_isub hx hb dX7_carry_32 ?_
          refine n_icmp_lt hx hb hw.1 hw.2.1 hw.2.2.1 hw.2.2.2 (tgt := 37) dX7_carry_33 (by decide) (fun hw => ?_) (fun hw => ?_)
          · refine lv_iload_n hx hb dX7_carry_37 rfl (lv_at hl 3 rfl) ?_
            refine lv_istore (lv' := [(5, .int (iN v3)), (0, .ref (ad 35)), (1, .int (iN v1)), (2, .int (iN v2)), (3, .int (iN v3)), (4, .int (iN v4))]) hx hb dX7_carry_38 hl (by decide) rfl (fun ls hl => ?_)
            obtain ⟨n, hw⟩ := hw
            exact hL40 v1 v2 v4 n v3 σ s.heap [] ls hw hW (lv_sub hl [1, 2, 3, 5, 0] rfl)
          · exact hB36 σ s.heap [] ls hw hW (lv_sub hl [] rfl)
set_option maxHeartbeats 4000000 in
set_option maxRecDepth 100000 in
theorem c_X7_advance (l : Launch) (G : Gt) (κ : Nat) (hκ : κ < 5)  (ad : Nat → Nat)  (σ : Mem) (v2 : Int) (v3 : Int) (v4 : Int) (post : Mem → Prop) (hw : w_X7_advance κ σ v2 v3 v4 post) : CV l yX7_advance (Cond.code yX7_advance cX7_advance 11 none) ({ frames := 3, cells := 0, slots := 0, locals := 76 } : Room) G (shW κ true) ad σ [.ref (ad 35), .ref (ad 1), .int (iN v2), .int (iN v3), .int (iN v4)] post := by
  refine s_all (y := yX7_advance) (code := cX7_advance) (maxL := 11) (ret := none) (rm := ({ frames := 3, cells := 0, slots := 0, locals := 76 } : Room)) (av := [.ref (ad 35), .ref (ad 1), .int (iN v2), .int (iN v3), .int (iN v4)]) (Qc := fun sz => QV G (shW κ true) ad post (sz)) (by decide) (Nat.le_of_ble_eq_true rfl) ?_
  intro p e s m below meth c S hr hlk _ hK hE hW ls hl
  obtain ⟨hx, hb, hml, hown, hts⟩ := id S
  replace hl : lv_has ls 11 [(0, .ref (ad 35)), (1, .ref (ad 1)), (2, .int (iN v2)), (3, .int (iN v3)), (4, .int (iN v4))] := hl
  have hL15 : ∀ (v2_15 : Int) (v3_15 : Int) (v4_15 : Int) (n : Nat) (v5_15 : Int) (σ_15 : Mem) (H : Heap) (locs : List Loc) (ls : Array Slot), w_X7_advance_L15 κ v2_15 v3_15 v4_15 post n v5_15 σ_15 → Wd G (shW κ true) ad σ_15 (Aw ad (shW κ true).length s.heap.size) s.heap H locs → lv_has ls 11 [(0, .ref (ad 35)), (1, .ref (ad 1)), (2, .int (iN v2_15)), (3, .int (iN v3_15)), (4, .int (iN v4_15)), (5, .int (iN v5_15))] → W p l e ({ frames := 3, cells := 0, slots := 0, locals := 76 } : Room) s m ([.ref (ad 35), .ref (ad 1), .int (iN v2), .int (iN v3), .int (iN v4)] : List Value).toArray below meth c H locs 0 0 (MQ below (QV G (shW κ true) ad post (s.heap.size)) ([.ref (ad 35), .ref (ad 1), .int (iN v2), .int (iN v3), .int (iN v4)] : List Value).toArray s 0 0 (Aw ad (shW κ true).length s.heap.size)) (F0 m 15 ls []) := by
    intro v2_15 v3_15 v4_15 n
    induction n with
    | zero =>
      intro v5_15 σ_15 H locs ls hw
      exact hw.elim
    | succ n15 ih15 =>
      intro v5_15 σ_15 H locs ls hw hW hl
      replace hw : w_X7_advance_L15_body κ v2_15 v3_15 v4_15 post (w_X7_advance_L15 κ v2_15 v3_15 v4_15 post n15) v5_15 σ_15 := hw
      have hB151 : ∀ (σ_151 : Mem) (v5_151 : Int) (H : Heap) (locs : List Loc) (ls : Array Slot), w_X7_advance_B151 κ σ_151 v2_15 v3_15 v4_15 v5_151 post (w_X7_advance_L15 κ v2_15 v3_15 v4_15 post n15) → Wd G (shW κ true) ad σ_151 (Aw ad (shW κ true).length s.heap.size) s.heap H locs → lv_has ls 11 [(0, .ref (ad 35)), (1, .ref (ad 1)), (2, .int (iN v2_15)), (3, .int (iN v3_15)), (4, .int (iN v4_15)), (5, .int (iN v5_151))] → W p l e ({ frames := 3, cells := 0, slots := 0, locals := 76 } : Room) s m ([.ref (ad 35), .ref (ad 1), .int (iN v2), .int (iN v3), .int (iN v4)] : List Value).toArray below meth c H locs 0 0 (MQ below (QV G (shW κ true) ad post (s.heap.size)) ([.ref (ad 35), .ref (ad 1), .int (iN v2), .int (iN v3), .int (iN v4)] : List Value).toArray s 0 0 (Aw ad (shW κ true).length s.heap.size)) (F0 m 151 ls []) := by
        intro σ_151 v5_151 H locs ls hw hW hl
        unfold w_X7_advance_B151 at hw
        refine lv_iinc (v := iN (v5_151 + 1)) (lv' := [(5, .int (iN (v5_151 + 1))), (0, .ref (ad 35)), (1, .ref (ad 1)), (2, .int (iN v2_15)), (3, .int (iN v3_15)), (4, .int (iN v4_15))]) hx hb dX7_advance_151 hl (k := 5) rfl (iN_add _ _) (by decide) rfl (fun ls hl => ?_)
        refine lv_goto (tgt := 15) hx hb dX7_advance_154 (by decide) ?_
        exact ih15 (v5_151 + 1) σ_151 H locs ls hw hW (lv_sub hl [1, 2, 3, 4, 5, 0] rfl)
      have hL48 : ∀ (v5_48 : Int) (v6_48 : Int) (v7_48 : Int) (n : Nat) (v8_48 : Int) (σ_48 : Mem) (H : Heap) (locs : List Loc) (ls : Array Slot), w_X7_advance_L48 κ v2_15 v3_15 v4_15 v5_48 v6_48 v7_48 post (w_X7_advance_L15 κ v2_15 v3_15 v4_15 post n15) n v8_48 σ_48 → Wd G (shW κ true) ad σ_48 (Aw ad (shW κ true).length s.heap.size) s.heap H locs → lv_has ls 11 [(0, .ref (ad 35)), (1, .ref (ad 1)), (2, .int (iN v2_15)), (3, .int (iN v3_15)), (4, .int (iN v4_15)), (5, .int (iN v5_48)), (6, .int (iN v6_48)), (7, .int (iN v7_48)), (8, .int (iN v8_48))] → W p l e ({ frames := 3, cells := 0, slots := 0, locals := 76 } : Room) s m ([.ref (ad 35), .ref (ad 1), .int (iN v2), .int (iN v3), .int (iN v4)] : List Value).toArray below meth c H locs 0 0 (MQ below (QV G (shW κ true) ad post (s.heap.size)) ([.ref (ad 35), .ref (ad 1), .int (iN v2), .int (iN v3), .int (iN v4)] : List Value).toArray s 0 0 (Aw ad (shW κ true).length s.heap.size)) (F0 m 48 ls []) := by
        intro v5_48 v6_48 v7_48 n
        induction n with
        | zero =>
          intro v8_48 σ_48 H locs ls hw
          exact hw.elim
        | succ n48 ih48 =>
          intro v8_48 σ_48 H locs ls hw hW hl
          replace hw : w_X7_advance_L48_body κ v2_15 v3_15 v4_15 v5_48 v6_48 v7_48 post (w_X7_advance_L15 κ v2_15 v3_15 v4_15 post n15) (w_X7_advance_L48 κ v2_15 v3_15 v4_15 v5_48 v6_48 v7_48 post (w_X7_advance_L15 κ v2_15 v3_15 v4_15 post n15) n48) v8_48 σ_48 := hw
          have hB145 : ∀ (σ_145 : Mem) (v8_145 : Int) (H : Heap) (locs : List Loc) (ls : Array Slot), w_X7_advance_B145 κ σ_145 v2_15 v3_15 v4_15 v5_48 v6_48 v7_48 v8_145 post (w_X7_advance_L15 κ v2_15 v3_15 v4_15 post n15) (w_X7_advance_L48 κ v2_15 v3_15 v4_15 v5_48 v6_48 v7_48 post (w_X7_advance_L15 κ v2_15 v3_15 v4_15 post n15) n48) → Wd G (shW κ true) ad σ_145 (Aw ad (shW κ true).length s.heap.size) s.heap H locs → lv_has ls 11 [(0, .ref (ad 35)), (1, .ref (ad 1)), (2, .int (iN v2_15)), (3, .int (iN v3_15)), (4, .int (iN v4_15)), (5, .int (iN v5_48)), (6, .int (iN v6_48)), (7, .int (iN v7_48)), (8, .int (iN v8_145))] → W p l e ({ frames := 3, cells := 0, slots := 0, locals := 76 } : Room) s m ([.ref (ad 35), .ref (ad 1), .int (iN v2), .int (iN v3), .int (iN v4)] : List Value).toArray below meth c H locs 0 0 (MQ below (QV G (shW κ true) ad post (s.heap.size)) ([.ref (ad 35), .ref (ad 1), .int (iN v2), .int (iN v3), .int (iN v4)] : List Value).toArray s 0 0 (Aw ad (shW κ true).length s.heap.size)) (F0 m 145 ls []) := by
            intro σ_145 v8_145 H locs ls hw hW hl
            unfold w_X7_advance_B145 at hw
            refine lv_iinc (v := iN (v8_145 + 1)) (lv' := [(8, .int (iN (v8_145 + 1))), (0, .ref (ad 35)), (1, .ref (ad 1)), (2, .int (iN v2_15)), (3, .int (iN v3_15)), (4, .int (iN v4_15)), (5, .int (iN v5_48)), (6, .int (iN v6_48)), (7, .int (iN v7_48))]) hx hb dX7_advance_145 hl (k := 8) rfl (iN_add _ _) (by decide) rfl (fun ls hl => ?_)
            refine lv_goto (tgt := 48) hx hb dX7_advance_148 (by decide) ?_
            exact ih48 (v8_145 + 1) σ_145 H locs ls hw hW (lv_sub hl [1, 2, 3, 4, 5, 6, 7, 8, 0] rfl)
          have hB93 : ∀ (σ_93 : Mem) (v8_93 : Int) (s0_93 : Int) (H : Heap) (locs : List Loc) (ls : Array Slot), w_X7_advance_B93 κ σ_93 v2_15 v3_15 v4_15 v5_48 v6_48 v7_48 v8_93 s0_93 post (w_X7_advance_L15 κ v2_15 v3_15 v4_15 post n15) (w_X7_advance_L48 κ v2_15 v3_15 v4_15 v5_48 v6_48 v7_48 post (w_X7_advance_L15 κ v2_15 v3_15 v4_15 post n15) n48) → Wd G (shW κ true) ad σ_93 (Aw ad (shW κ true).length s.heap.size) s.heap H locs → lv_has ls 11 [(0, .ref (ad 35)), (1, .ref (ad 1)), (2, .int (iN v2_15)), (3, .int (iN v3_15)), (4, .int (iN v4_15)), (5, .int (iN v5_48)), (6, .int (iN v6_48)), (7, .int (iN v7_48)), (8, .int (iN v8_93))] → W p l e ({ frames := 3, cells := 0, slots := 0, locals := 76 } : Room) s m ([.ref (ad 35), .ref (ad 1), .int (iN v2), .int (iN v3), .int (iN v4)] : List Value).toArray below meth c H locs 0 0 (MQ below (QV G (shW κ true) ad post (s.heap.size)) ([.ref (ad 35), .ref (ad 1), .int (iN v2), .int (iN v3), .int (iN v4)] : List Value).toArray s 0 0 (Aw ad (shW κ true).length s.heap.size)) (F0 m 93 ls [.int (iN s0_93)]) := by
            intro σ_93 v8_93 s0_93 H locs ls hw hW hl
            unfold w_X7_advance_B93 at hw
            refine lv_istore (lv' := [(9, .int (iN s0_93)), (0, .ref (ad 35)), (1, .ref (ad 1)), (2, .int (iN v2_15)), (3, .int (iN v3_15)), (4, .int (iN v4_15)), (5, .int (iN v5_48)), (6, .int (iN v6_48)), (7, .int (iN v7_48)), (8, .int (iN v8_93))]) hx hb dX7_advance_93 hl (by decide) rfl (fun ls hl => ?_)
            refine lv_iload hx hb dX7_advance_95 (lv_at hl 0 rfl) ?_
            refine n_bipush hx hb dX7_advance_97 (by decide) ?_
            refine n_icmp_eq hx hb hw.1 (rg_c _ rfl) hw.2.1 hw.2.2 (tgt := 145) dX7_advance_99 (by decide) (fun hw => ?_) (fun hw => ?_)
            · exact hB145 σ_93 v8_93 H locs ls hw hW (lv_sub hl [1, 2, 3, 4, 5, 6, 7, 8, 9] rfl)
            · refine lv_iload hx hb dX7_advance_102 (lv_at hl 0 rfl) ?_
              refine lv_aload_n hx hb dX7_advance_104 rfl (lv_at hl 2 rfl) ?_
              refine lv_iload_n hx hb dX7_advance_105 rfl (lv_at hl 4 rfl) ?_
              refine lv_iload hx hb dX7_advance_106 (lv_at hl 9 rfl) ?_
              refine fin_CI hW (run_U (k := 1) (As := [.int (iN v3_15), .int (iN v8_93)]) (rest := [.int (iN s0_93)]) S hK hE hW (c_X2_priceOf l G κ hκ true ad σ_93 v3_15 v8_93 _ hw H.size) rfl (hcP hκ) al_694 al_444 (se_X2_X2_priceOf hκ) al_443 al_3 al_450 rfl hd_X2_priceOf.2 rfl rfl ⟨Nat.le_of_ble_eq_true rfl, Nat.le_of_ble_eq_true rfl⟩ rfl hl.1 rfl (Nat.le_of_ble_eq_true rfl) dX7_advance_108 ⟨Nat.zero_le _, Nat.zero_le _⟩) ?_
              intro r23 H locs hw hW
              refine n_iadd hx hb dX7_advance_111 ?_
              refine lv_istore (lv' := [(10, .int (iN (s0_93 + r23))), (9, .int (iN s0_93)), (0, .ref (ad 35)), (1, .ref (ad 1)), (2, .int (iN v2_15)), (3, .int (iN v3_15)), (4, .int (iN v4_15)), (5, .int (iN v5_48)), (6, .int (iN v6_48)), (7, .int (iN v7_48)), (8, .int (iN v8_93))]) hx hb dX7_advance_112 hl (by decide) rfl (fun ls hl => ?_)
              refine lv_aload_n hx hb dX7_advance_114 rfl (lv_at hl 2 rfl) ?_
              refine lv_iload hx hb dX7_advance_115 (lv_at hl 7 rfl) ?_
              refine n_sipush hx hb dX7_advance_117 (by decide) ?_
              refine n_imul hx hb dX7_advance_120 ?_
              refine lv_iload hx hb dX7_advance_121 (lv_at hl 10 rfl) ?_
              refine n_sipush hx hb dX7_advance_123 (by decide) ?_
              refine n_imul hx hb dX7_advance_126 ?_
              refine lv_iload hx hb dX7_advance_127 (lv_at hl 0 rfl) ?_
              refine n_iadd hx hb dX7_advance_129 ?_
              refine lv_iload hx hb dX7_advance_130 (lv_at hl 8 rfl) ?_
              refine lv_iload hx hb dX7_advance_132 (lv_at hl 9 rfl) ?_
              refine lv_iload hx hb dX7_advance_134 (lv_at hl 6 rfl) ?_
              refine lv_iload hx hb dX7_advance_136 (lv_at hl 0 rfl) ?_
              refine n_isub hx hb dX7_advance_138 ?_
              refine n_mmin hx hb (hml.trans hl.1.symm) hown (hts _ (List.mem_cons_of_mem _ al_687)) (hts _ (List.mem_cons_of_mem _ al_24)) (hts _ (List.mem_cons_of_mem _ al_2)) (hts _ (List.mem_cons_of_mem _ al_25)) (Nat.le_of_ble_eq_true rfl) (Nat.le_of_ble_eq_true rfl) (Nat.zero_le _) (Nat.zero_le _) hw.1 hw.2.1 dX7_advance_139 ?_
              replace hw := hw.2.2
              refine fin_CV hW (run_V (k := 35) (As := [.int (iN (v5_48 * 301)), .int (iN ((v8_93 * 301) + (s0_93 + r23))), .int (iN v6_48), .int (iN (min v7_48 (v4_15 - (s0_93 + r23))))]) (rest := []) S hK hE hW (c_X7_carry l G κ hκ ad σ_93 (v5_48 * 301) ((v8_93 * 301) + (s0_93 + r23)) v6_48 (min v7_48 (v4_15 - (s0_93 + r23))) _ hw H.size) rfl rfl al_710 al_712 sl_X7_carry al_13 al_713 hd_X7_carry rfl rfl ⟨Nat.le_of_ble_eq_true rfl, Nat.le_of_ble_eq_true rfl⟩ rfl hl.1 rfl (Nat.le_of_ble_eq_true rfl) dX7_advance_142 ⟨Nat.zero_le _, Nat.zero_le _⟩) ?_
              intro σ26 H locs hw hW
              exact hB145 σ26 v8_93 H locs ls hw hW (lv_sub hl [2, 3, 4, 5, 6, 7, 8, 9, 10] rfl)
          unfold w_X7_advance_L48_body at hw
          refine lv_iload hx hb dX7_advance_48 (lv_at hl 6 rfl) ?_
          refine lv_iload hx hb dX7_advance_50 (lv_at hl 7 rfl) ?_
          refine n_icmp_gt hx hb hw.1 hw.2.1 hw.2.2.1 hw.2.2.2 (tgt := 151) dX7_advance_52 (by decide) (fun hw => ?_) (fun hw => ?_)
          · exact hB151 σ_48 v5_48 H locs ls hw hW (lv_sub hl [0, 1, 2, 3, 4, 5] rfl)
          · refine lv_iload hx hb dX7_advance_55 (lv_at hl 8 rfl) ?_
            refine lv_aload_n hx hb dX7_advance_57 rfl (lv_at hl 1 rfl) ?_
            refine lv_iload_n hx hb dX7_advance_58 rfl (lv_at hl 3 rfl) ?_
            refine fin_CI hW (run_U (k := 1) (As := [.int (iN v3_15)]) (rest := [.int (iN v8_48)]) S hK hE hW (c_X2_countOf l G κ hκ true ad σ_48 v3_15 _ hw H.size) rfl (hcP hκ) al_683 al_427 (se_X2_X2_countOf hκ) al_426 al_3 al_433 rfl hd_X2_countOf.2 rfl rfl ⟨Nat.le_of_ble_eq_true rfl, Nat.le_of_ble_eq_true rfl⟩ rfl hl.1 rfl (Nat.le_of_ble_eq_true rfl) dX7_advance_59 ⟨Nat.zero_le _, Nat.zero_le _⟩) ?_
            intro r27 H locs hw hW
            refine n_icmp_ge hx hb hw.1 hw.2.1 hw.2.2.1 hw.2.2.2 (tgt := 151) dX7_advance_62 (by decide) (fun hw => ?_) (fun hw => ?_)
            · exact hB151 σ_48 v5_48 H locs ls hw hW (lv_sub hl [0, 1, 2, 3, 4, 5] rfl)
            · refine lv_aload_n hx hb dX7_advance_65 rfl (lv_at hl 1 rfl) ?_
              refine g_getr hx hb hts hown hK hW 1 rfl (q := 2) (hcP hκ) (uwP hκ) 0 (by decide) rfl al_87 (fun _ h9 => h9) dX7_advance_66 ?_
              refine lv_iload_n hx hb dX7_advance_69 rfl (lv_at hl 3 rfl) ?_
              refine lv_iload hx hb dX7_advance_70 (lv_at hl 8 rfl) ?_
              refine fin_CI hW (run_VN (k := 2) (As := [.int (iN v3_15), .int (iN v8_48)]) (rest := []) 36 S hK hE hW (c_X1_allows l G κ true ad σ_48 v3_15 v8_48 _ hw H.size) rfl rfl rfl al_582 sl_X1_allows al_5 al_583 hd_X1_allows.2 rfl rfl ⟨Nat.le_of_ble_eq_true rfl, Nat.le_of_ble_eq_true rfl⟩ rfl hl.1 rfl (Nat.le_of_ble_eq_true rfl) dX7_advance_72 ⟨Nat.zero_le _, Nat.zero_le _⟩) ?_
              intro r29 H locs hw hW
              refine n_if_eq hx hb hw.1 hw.2.1 hw.2.2 (tgt := 91) dX7_advance_75 (by decide) (fun hw => ?_) (fun hw => ?_)
              · refine n_bipush hx hb dX7_advance_91 (by decide) ?_
                exact hB93 σ_48 v8_48 (-2) H locs ls hw hW (lv_sub hl [0, 1, 2, 3, 4, 5, 6, 7, 8] rfl)
              · refine lv_aload_n hx hb dX7_advance_78 rfl (lv_at hl 1 rfl) ?_
                refine lv_iload_n hx hb dX7_advance_79 rfl (lv_at hl 2 rfl) ?_
                refine lv_iload hx hb dX7_advance_80 (lv_at hl 5 rfl) ?_
                refine lv_iload_n hx hb dX7_advance_82 rfl (lv_at hl 3 rfl) ?_
                refine lv_iload hx hb dX7_advance_83 (lv_at hl 8 rfl) ?_
                refine fin_CI hW (run_X7_stepPrice (As := [.int (iN v2_15), .int (iN v5_48), .int (iN v3_15), .int (iN v8_48)]) (rest := []) hκ S hK hE hW hw rfl (Nat.le_of_ble_eq_true rfl) (Nat.le_of_ble_eq_true rfl) rfl hl.1 rfl (Nat.le_of_ble_eq_true rfl) dX7_advance_85 ⟨Nat.zero_le _, Nat.zero_le _⟩) ?_
                intro r31 H locs hw hW
                refine lv_goto (tgt := 93) hx hb dX7_advance_88 (by decide) ?_
                exact hB93 σ_48 v8_48 r31 H locs ls hw hW (lv_sub hl [0, 1, 2, 3, 4, 5, 6, 7, 8] rfl)
      unfold w_X7_advance_L15_body at hw
      refine lv_iload hx hb dX7_advance_15 (lv_at hl 5 rfl) ?_
      refine lv_aload_n hx hb dX7_advance_17 rfl (lv_at hl 1 rfl) ?_
      refine lv_iload_n hx hb dX7_advance_18 rfl (lv_at hl 2 rfl) ?_
      refine fin_CI hW (run_U (k := 1) (As := [.int (iN v2_15)]) (rest := [.int (iN v5_15)]) S hK hE hW (c_X2_countOf l G κ hκ true ad σ_15 v2_15 _ hw H.size) rfl (hcP hκ) al_683 al_427 (se_X2_X2_countOf hκ) al_426 al_3 al_433 rfl hd_X2_countOf.2 rfl rfl ⟨Nat.le_of_ble_eq_true rfl, Nat.le_of_ble_eq_true rfl⟩ rfl hl.1 rfl (Nat.le_of_ble_eq_true rfl) dX7_advance_19 ⟨Nat.zero_le _, Nat.zero_le _⟩) ?_
      intro r33 H locs hw hW
      refine n_icmp_ge hx hb hw.1 hw.2.1 hw.2.2.1 hw.2.2.2 (tgt := 157) dX7_advance_22 (by decide) (fun hw => ?_) (fun hw => ?_)
      · refine lv_aload_n hx hb dX7_advance_157 rfl (lv_at hl 0 rfl) ?_
        refine g_getd hx hb hts hown hK hW 35 rfl rfl uw_X7 0 (by decide) rfl al_647 (fun _ h9 => h9) dX7_advance_158 ?_
        refine lv_astore (lv' := [(5, .ref (ad (σ_15 35 0).toNat)), (0, .ref (ad 35)), (1, .ref (ad 1)), (2, .int (iN v2_15)), (3, .int (iN v3_15)), (4, .int (iN v4_15))]) hx hb dX7_advance_161 hl (by decide) rfl (fun ls hl => ?_)
        refine lv_aload_n hx hb dX7_advance_163 rfl (lv_at hl 1 rfl) ?_
        refine lv_aload_n hx hb dX7_advance_164 rfl (lv_at hl 1 rfl) ?_
        refine g_getd hx hb hts hown hK hW 35 rfl rfl uw_X7 1 (by decide) rfl al_648 (fun _ h9 => h9) dX7_advance_165 ?_
        refine g_putd hx hb hts hown hK hW 35 rfl rfl uw_X7 tyX7 tyX7_ok nmX7 0 (by decide) rfl al_647 (fun _ h9 => h9) rfl rfl rfl dX7_advance_168 (fun σ35 H locs hτ hW => ?_)
        replace hw := hw σ35 hτ
        refine lv_aload_n hx hb dX7_advance_171 rfl (lv_at hl 1 rfl) ?_
        refine lv_aload hx hb dX7_advance_172 (lv_at hl 0 rfl) ?_
        refine g_putd hx hb hts hown hK hW 35 rfl rfl uw_X7 tyX7 tyX7_ok nmX7 1 (by decide) rfl al_648 (fun _ h9 => h9) rfl rfl rfl dX7_advance_174 (fun σ36 H locs hτ hW => ?_)
        replace hw := hw σ36 hτ
        exact r_CV hx hb hr hlk hK hW hw dX7_advance_177
      · refine lv_aload_n hx hb dX7_advance_25 rfl (lv_at hl 0 rfl) ?_
        refine lv_iload hx hb dX7_advance_26 (lv_at hl 5 rfl) ?_
        refine lv_iload hx hb dX7_advance_28 (lv_at hl 4 rfl) ?_
        refine fin_CI hW (run_V (k := 35) (As := [.int (iN v5_15), .int (iN v4_15)]) (rest := []) S hK hE hW (c_X7_cheapestOf l G κ hκ ad σ_15 v5_15 v4_15 _ hw H.size) rfl rfl al_701 al_703 sl_X7_cheapestOf al_13 al_704 hd_X7_cheapestOf rfl rfl ⟨Nat.le_of_ble_eq_true rfl, Nat.le_of_ble_eq_true rfl⟩ rfl hl.1 rfl (Nat.le_of_ble_eq_true rfl) dX7_advance_30 ⟨Nat.zero_le _, Nat.zero_le _⟩) ?_
        intro r37 H locs hw hW
        refine lv_istore (lv' := [(6, .int (iN r37)), (0, .ref (ad 35)), (1, .ref (ad 1)), (2, .int (iN v2_15)), (3, .int (iN v3_15)), (4, .int (iN v4_15)), (5, .int (iN v5_15))]) hx hb dX7_advance_33 hl (by decide) rfl (fun ls hl => ?_)
        refine lv_aload_n hx hb dX7_advance_35 rfl (lv_at hl 1 rfl) ?_
        refine lv_iload hx hb dX7_advance_36 (lv_at hl 6 rfl) ?_
        refine lv_iload hx hb dX7_advance_38 (lv_at hl 5 rfl) ?_
        refine fin_CI hW (run_V (k := 35) (As := [.int (iN v5_15), .int (iN v4_15)]) (rest := []) S hK hE hW (c_X7_dearestOf l G κ hκ ad σ_15 v5_15 v4_15 _ hw H.size) rfl rfl al_705 al_707 sl_X7_dearestOf al_13 al_708 hd_X7_dearestOf rfl rfl ⟨Nat.le_of_ble_eq_true rfl, Nat.le_of_ble_eq_true rfl⟩ rfl hl.1 rfl (Nat.le_of_ble_eq_true rfl) dX7_advance_40 ⟨Nat.zero_le _, Nat.zero_le _⟩) ?_
        intro r39 H locs hw hW
        refine lv_istore (lv' := [(7, .int (iN r39)), (6, .int (iN r37)), (0, .ref (ad 35)), (1, .ref (ad 1)), (2, .int (iN v2_15)), (3, .int (iN v3_15)), (4, .int (iN v4_15)), (5, .int (iN v5_15))]) hx hb dX7_advance_43 hl (by decide) rfl (fun ls hl => ?_)
        refine n_iconst hx hb dX7_advance_45 ?_
        refine lv_istore (lv' := [(8, .int (iN 0)), (7, .int (iN r39)), (6, .int (iN r37)), (0, .ref (ad 35)), (1, .ref (ad 1)), (2, .int (iN v2_15)), (3, .int (iN v3_15)), (4, .int (iN v4_15)), (5, .int (iN v5_15))]) hx hb dX7_advance_46 hl (by decide) rfl (fun ls hl => ?_)
        obtain ⟨n, hw⟩ := hw
        exact hL48 v5_15 r37 r39 n 0 σ_15 H locs ls hw hW (lv_sub hl [3, 4, 5, 6, 7, 8, 2, 1, 0] rfl)
  unfold w_X7_advance at hw
  refine lv_aload_n hx hb dX7_advance_0 rfl (lv_at hl 0 rfl) ?_
  refine g_getd hx hb hts hown hK hW 35 rfl rfl uw_X7 1 (by decide) rfl al_648 (fun _ h9 => h9) dX7_advance_1 ?_
  refine lv_aload_n hx hb dX7_advance_4 rfl (lv_at hl 1 rfl) ?_
  refine lv_iload_n hx hb dX7_advance_5 rfl (lv_at hl 3 rfl) ?_
  refine fin_CI hW (run_U (k := 1) (As := [.int (iN v3)]) (rest := [.ref (ad (σ 35 1).toNat)]) S hK hE hW (c_X2_countOf l G κ hκ true ad σ v3 _ hw s.heap.size) rfl (hcP hκ) al_683 al_427 (se_X2_X2_countOf hκ) al_426 al_3 al_433 rfl hd_X2_countOf.2 rfl rfl ⟨Nat.le_of_ble_eq_true rfl, Nat.le_of_ble_eq_true rfl⟩ rfl hl.1 rfl (Nat.le_of_ble_eq_true rfl) dX7_advance_6 ⟨Nat.zero_le _, Nat.zero_le _⟩) ?_
  intro r1 H locs hw hW
  refine fin_CV hW (run_S (As := [.ref (ad (σ 35 1).toNat), .int (iN r1)]) (rest := []) S hK hE hW (c_X7_clearRows l G κ hκ ad ((σ 35 1).toNat) (wd κ * 301) hw.1 σ r1 _ hw.2 H.size) al_684 al_685 al_13 al_686 hd_X7_clearRows.2 rfl rfl ⟨Nat.le_of_ble_eq_true rfl, Nat.le_of_ble_eq_true rfl⟩ rfl hl.1 rfl (Nat.le_of_ble_eq_true rfl) dX7_advance_9 ⟨Nat.zero_le _, Nat.zero_le _⟩) ?_
  intro σ4 H locs hw hW
  refine n_iconst hx hb dX7_advance_12 ?_
  refine lv_istore (lv' := [(5, .int (iN 0)), (0, .ref (ad 35)), (1, .ref (ad 1)), (2, .int (iN v2)), (3, .int (iN v3)), (4, .int (iN v4))]) hx hb dX7_advance_13 hl (by decide) rfl (fun ls hl => ?_)
  obtain ⟨n, hw⟩ := hw
  exact hL15 v2 v3 v4 n 0 σ4 H locs ls hw hW (lv_sub hl [1, 2, 3, 4, 5, 0] rfl)
set_option maxHeartbeats 4000000 in
set_option maxRecDepth 100000 in
theorem c_X7_gather (l : Launch) (G : Gt) (κ : Nat) (hκ : κ < 5)  (ad : Nat → Nat)  (σ : Mem) (v1 : Int) (v2 : Int) (post : Mem → Prop) (hw : w_X7_gather κ σ v1 v2 post) : CV l yX7_gather (Cond.code yX7_gather cX7_gather 6 none) ({ frames := 2, cells := 0, slots := 0, locals := 44 } : Room) G (shW κ true) ad σ [.ref (ad 35), .int (iN v1), .int (iN v2)] post := by
  refine s_all (y := yX7_gather) (code := cX7_gather) (maxL := 6) (ret := none) (rm := ({ frames := 2, cells := 0, slots := 0, locals := 44 } : Room)) (av := [.ref (ad 35), .int (iN v1), .int (iN v2)]) (Qc := fun sz => QV G (shW κ true) ad post (sz)) (by decide) (Nat.le_of_ble_eq_true rfl) ?_
  intro p e s m below meth c S hr hlk _ hK hE hW ls hl
  obtain ⟨hx, hb, hml, hown, hts⟩ := id S
  replace hl : lv_has ls 6 [(0, .ref (ad 35)), (1, .int (iN v1)), (2, .int (iN v2))] := hl
  have hL10 : ∀ (v1_10 : Int) (v2_10 : Int) (n : Nat) (v3_10 : Int) (σ_10 : Mem) (H : Heap) (locs : List Loc) (ls : Array Slot), w_X7_gather_L10 κ v1_10 v2_10 post n v3_10 σ_10 → Wd G (shW κ true) ad σ_10 (Aw ad (shW κ true).length s.heap.size) s.heap H locs → lv_has ls 6 [(0, .ref (ad 35)), (1, .int (iN v1_10)), (2, .int (iN v2_10)), (3, .int (iN v3_10))] → W p l e ({ frames := 2, cells := 0, slots := 0, locals := 44 } : Room) s m ([.ref (ad 35), .int (iN v1), .int (iN v2)] : List Value).toArray below meth c H locs 0 0 (MQ below (QV G (shW κ true) ad post (s.heap.size)) ([.ref (ad 35), .int (iN v1), .int (iN v2)] : List Value).toArray s 0 0 (Aw ad (shW κ true).length s.heap.size)) (F0 m 10 ls []) := by
    intro v1_10 v2_10 n
    induction n with
    | zero =>
      intro v3_10 σ_10 H locs ls hw
      exact hw.elim
    | succ n10 ih10 =>
      intro v3_10 σ_10 H locs ls hw hW hl
      replace hw : w_X7_gather_L10_body κ v1_10 v2_10 post (w_X7_gather_L10 κ v1_10 v2_10 post n10) v3_10 σ_10 := hw
      have hB87 : ∀ (σ_87 : Mem) (v3_87 : Int) (H : Heap) (locs : List Loc) (ls : Array Slot), w_X7_gather_B87 κ σ_87 v1_10 v2_10 v3_87 post (w_X7_gather_L10 κ v1_10 v2_10 post n10) → Wd G (shW κ true) ad σ_87 (Aw ad (shW κ true).length s.heap.size) s.heap H locs → lv_has ls 6 [(0, .ref (ad 35)), (1, .int (iN v1_10)), (2, .int (iN v2_10)), (3, .int (iN v3_87))] → W p l e ({ frames := 2, cells := 0, slots := 0, locals := 44 } : Room) s m ([.ref (ad 35), .int (iN v1), .int (iN v2)] : List Value).toArray below meth c H locs 0 0 (MQ below (QV G (shW κ true) ad post (s.heap.size)) ([.ref (ad 35), .int (iN v1), .int (iN v2)] : List Value).toArray s 0 0 (Aw ad (shW κ true).length s.heap.size)) (F0 m 87 ls []) := by
        intro σ_87 v3_87 H locs ls hw hW hl
        unfold w_X7_gather_B87 at hw
        refine lv_iinc (v := iN (v3_87 + 1)) (lv' := [(3, .int (iN (v3_87 + 1))), (0, .ref (ad 35)), (1, .int (iN v1_10)), (2, .int (iN v2_10))]) hx hb dX7_gather_87 hl (k := 3) rfl (iN_add _ _) (by decide) rfl (fun ls hl => ?_)
        refine lv_goto (tgt := 10) hx hb dX7_gather_90 (by decide) ?_
        exact ih10 (v3_87 + 1) σ_87 H locs ls hw hW (lv_sub hl [1, 2, 3, 0] rfl)
      have hL18 : ∀ (v3_18 : Int) (n : Nat) (v4_18 : Int) (σ_18 : Mem) (H : Heap) (locs : List Loc) (ls : Array Slot), w_X7_gather_L18 κ v1_10 v2_10 v3_18 post (w_X7_gather_L10 κ v1_10 v2_10 post n10) n v4_18 σ_18 → Wd G (shW κ true) ad σ_18 (Aw ad (shW κ true).length s.heap.size) s.heap H locs → lv_has ls 6 [(0, .ref (ad 35)), (1, .int (iN v1_10)), (2, .int (iN v2_10)), (3, .int (iN v3_18)), (4, .int (iN v4_18))] → W p l e ({ frames := 2, cells := 0, slots := 0, locals := 44 } : Room) s m ([.ref (ad 35), .int (iN v1), .int (iN v2)] : List Value).toArray below meth c H locs 0 0 (MQ below (QV G (shW κ true) ad post (s.heap.size)) ([.ref (ad 35), .int (iN v1), .int (iN v2)] : List Value).toArray s 0 0 (Aw ad (shW κ true).length s.heap.size)) (F0 m 18 ls []) := by
        intro v3_18 n
        induction n with
        | zero =>
          intro v4_18 σ_18 H locs ls hw
          exact hw.elim
        | succ n18 ih18 =>
          intro v4_18 σ_18 H locs ls hw hW hl
          replace hw : w_X7_gather_L18_body κ v1_10 v2_10 v3_18 post (w_X7_gather_L10 κ v1_10 v2_10 post n10) (w_X7_gather_L18 κ v1_10 v2_10 v3_18 post (w_X7_gather_L10 κ v1_10 v2_10 post n10) n18) v4_18 σ_18 := hw
          have hB81 : ∀ (σ_81 : Mem) (v4_81 : Int) (H : Heap) (locs : List Loc) (ls : Array Slot), w_X7_gather_B81 κ σ_81 v1_10 v2_10 v3_18 v4_81 post (w_X7_gather_L10 κ v1_10 v2_10 post n10) (w_X7_gather_L18 κ v1_10 v2_10 v3_18 post (w_X7_gather_L10 κ v1_10 v2_10 post n10) n18) → Wd G (shW κ true) ad σ_81 (Aw ad (shW κ true).length s.heap.size) s.heap H locs → lv_has ls 6 [(0, .ref (ad 35)), (1, .int (iN v1_10)), (2, .int (iN v2_10)), (3, .int (iN v3_18)), (4, .int (iN v4_81))] → W p l e ({ frames := 2, cells := 0, slots := 0, locals := 44 } : Room) s m ([.ref (ad 35), .int (iN v1), .int (iN v2)] : List Value).toArray below meth c H locs 0 0 (MQ below (QV G (shW κ true) ad post (s.heap.size)) ([.ref (ad 35), .int (iN v1), .int (iN v2)] : List Value).toArray s 0 0 (Aw ad (shW κ true).length s.heap.size)) (F0 m 81 ls []) := by
            intro σ_81 v4_81 H locs ls hw hW hl
            unfold w_X7_gather_B81 at hw
            refine lv_iinc (v := iN (v4_81 + 1)) (lv' := [(4, .int (iN (v4_81 + 1))), (0, .ref (ad 35)), (1, .int (iN v1_10)), (2, .int (iN v2_10)), (3, .int (iN v3_18))]) hx hb dX7_gather_81 hl (k := 4) rfl (iN_add _ _) (by decide) rfl (fun ls hl => ?_)
            refine lv_goto (tgt := 18) hx hb dX7_gather_84 (by decide) ?_
            exact ih18 (v4_81 + 1) σ_81 H locs ls hw hW (lv_sub hl [1, 2, 3, 4, 0] rfl)
          unfold w_X7_gather_L18_body at hw
          refine lv_iload hx hb dX7_gather_18 (lv_at hl 4 rfl) ?_
          refine lv_iload_n hx hb dX7_gather_20 rfl (lv_at hl 2 rfl) ?_
          refine n_icmp_gt hx hb hw.1 hw.2.1 hw.2.2.1 hw.2.2.2 (tgt := 87) dX7_gather_21 (by decide) (fun hw => ?_) (fun hw => ?_)
          · exact hB87 σ_18 v3_18 H locs ls hw hW (lv_sub hl [0, 1, 2, 3] rfl)
          · refine lv_iload hx hb dX7_gather_24 (lv_at hl 4 rfl) ?_
            refine n_sipush hx hb dX7_gather_26 (by decide) ?_
            refine n_icmp_ge hx hb hw.1 (rg_c _ rfl) hw.2.1 hw.2.2 (tgt := 87) dX7_gather_29 (by decide) (fun hw => ?_) (fun hw => ?_)
            · exact hB87 σ_18 v3_18 H locs ls hw hW (lv_sub hl [0, 1, 2, 3] rfl)
            · refine lv_iload_n hx hb dX7_gather_32 rfl (lv_at hl 3 rfl) ?_
              refine n_sipush hx hb dX7_gather_33 (by decide) ?_
              refine n_imul hx hb dX7_gather_36 ?_
              refine lv_iload hx hb dX7_gather_37 (lv_at hl 4 rfl) ?_
              refine n_iadd hx hb dX7_gather_39 ?_
              refine lv_istore (lv' := [(5, .int (iN ((v3_18 * 301) + v4_18))), (0, .ref (ad 35)), (1, .int (iN v1_10)), (2, .int (iN v2_10)), (3, .int (iN v3_18)), (4, .int (iN v4_18))]) hx hb dX7_gather_40 hl (by decide) rfl (fun ls hl => ?_)
              refine lv_iload hx hb dX7_gather_42 (lv_at hl 0 rfl) ?_
              refine n_if_lt hx hb hw.1 hw.2.1 hw.2.2 (tgt := 81) dX7_gather_44 (by decide) (fun hw => ?_) (fun hw => ?_)
              · exact hB81 σ_18 v4_18 H locs ls hw hW (lv_sub hl [1, 2, 3, 4, 5] rfl)
              · refine lv_iload hx hb dX7_gather_47 (lv_at hl 0 rfl) ?_
                refine lv_aload_n hx hb dX7_gather_49 rfl (lv_at hl 1 rfl) ?_
                refine g_getd hx hb hts hown hK hW 35 rfl rfl uw_X7 0 (by decide) rfl al_647 (fun _ h9 => h9) dX7_gather_50 ?_
                refine g_alen hx hb hK hW (σ_18 35 0).toNat hw.1 dX7_gather_53 ?_
                replace hw := hw.2
                refine n_icmp_ge hx hb hw.1 hw.2.1 hw.2.2.1 hw.2.2.2 (tgt := 81) dX7_gather_54 (by decide) (fun hw => ?_) (fun hw => ?_)
                · exact hB81 σ_18 v4_18 H locs ls hw hW (lv_sub hl [1, 2, 3, 4, 5] rfl)
                · refine lv_aload_n hx hb dX7_gather_57 rfl (lv_at hl 1 rfl) ?_
                  refine g_getr hx hb hts hown hK hW 35 rfl (q := 38) rfl uw_X7 4 (by decide) rfl al_651 (fun _ h9 => h9) dX7_gather_58 ?_
                  refine lv_iload hx hb dX7_gather_61 (lv_at hl 5 rfl) ?_
                  refine lv_aload_n hx hb dX7_gather_63 rfl (lv_at hl 1 rfl) ?_
                  refine g_getr hx hb hts hown hK hW 35 rfl (q := 38) rfl uw_X7 4 (by decide) rfl al_651 (fun _ h9 => h9) dX7_gather_64 ?_
                  refine lv_iload hx hb dX7_gather_67 (lv_at hl 5 rfl) ?_
                  refine g_ald hx hb hK hW 38 rfl hw.1 dX7_gather_69 ?_
                  replace hw := hw.2
                  refine lv_aload_n hx hb dX7_gather_70 rfl (lv_at hl 1 rfl) ?_
                  refine g_getd hx hb hts hown hK hW 35 rfl rfl uw_X7 0 (by decide) rfl al_647 (fun _ h9 => h9) dX7_gather_71 ?_
                  refine lv_iload hx hb dX7_gather_74 (lv_at hl 0 rfl) ?_
                  refine g_ald hx hb hK hW (σ_18 35 0).toNat hw.1 hw.2.1 dX7_gather_76 ?_
                  replace hw := hw.2.2
                  refine fin_CI hW (run_S (As := [.int (iN (σ_18 38 (v4_18).toNat)), .int (iN (σ_18 (σ_18 35 0).toNat (((v3_18 * 301) + v4_18)).toNat))]) (rest := [.int (iN v4_18), .ref (ad 38)]) S hK hE hW (c_X7_capped l G κ hκ ad σ_18 (σ_18 38 (v4_18).toNat) (σ_18 (σ_18 35 0).toNat (((v3_18 * 301) + v4_18)).toNat) _ hw H.size) al_714 al_715 al_13 al_716 hd_X7_capped.2 rfl rfl ⟨Nat.le_of_ble_eq_true rfl, Nat.le_of_ble_eq_true rfl⟩ rfl hl.1 rfl (Nat.le_of_ble_eq_true rfl) dX7_gather_77 ⟨Nat.zero_le _, Nat.zero_le _⟩) ?_
                  intro r6 H locs hw hW
                  refine g_ast hx hb hK hW 38 rfl hw.1 dX7_gather_80 (fun σ8 H locs hτ hW => ?_)
                  replace hw := hw.2 σ8 hτ
                  exact hB81 σ8 v4_18 H locs ls hw hW (lv_sub hl [1, 2, 3, 4, 5] rfl)
      unfold w_X7_gather_L10_body at hw
      refine lv_iload_n hx hb dX7_gather_10 rfl (lv_at hl 3 rfl) ?_
      refine lv_iload_n hx hb dX7_gather_11 rfl (lv_at hl 1 rfl) ?_
      refine n_icmp_ge hx hb hw.1 hw.2.1 hw.2.2.1 hw.2.2.2 (tgt := 93) dX7_gather_12 (by decide) (fun hw => ?_) (fun hw => ?_)
      · exact r_CV hx hb hr hlk hK hW hw dX7_gather_93
      · refine n_iconst hx hb dX7_gather_15 ?_
        refine lv_istore (lv' := [(4, .int (iN 0)), (0, .ref (ad 35)), (1, .int (iN v1_10)), (2, .int (iN v2_10)), (3, .int (iN v3_10))]) hx hb dX7_gather_16 hl (by decide) rfl (fun ls hl => ?_)
        obtain ⟨n, hw⟩ := hw
        exact hL18 v3_10 n 0 σ_10 H locs ls hw hW (lv_sub hl [1, 2, 3, 4, 0] rfl)
  unfold w_X7_gather at hw
  refine lv_aload_n hx hb dX7_gather_0 rfl (lv_at hl 0 rfl) ?_
  refine g_getr hx hb hts hown hK hW 35 rfl (q := 38) rfl uw_X7 4 (by decide) rfl al_651 (fun _ h9 => h9) dX7_gather_1 ?_
  refine n_iconst hx hb dX7_gather_4 ?_
  refine fin_CV hW (run_S (As := [.ref (ad 38), .int (iN 0)]) (rest := []) S hK hE hW (c_J7_fill_53178 l G κ true ad 38 301 rfl σ 0 _ hw s.heap.size) al_671 al_672 al_14 al_673 hd_J7_fill_53178.2 rfl rfl ⟨Nat.le_of_ble_eq_true rfl, Nat.le_of_ble_eq_true rfl⟩ rfl hl.1 rfl (Nat.le_of_ble_eq_true rfl) dX7_gather_5 ⟨Nat.zero_le _, Nat.zero_le _⟩) ?_
  intro σ2 H locs hw hW
  refine n_iconst hx hb dX7_gather_8 ?_
  refine lv_istore_n (lv' := [(3, .int (iN 0)), (0, .ref (ad 35)), (1, .int (iN v1)), (2, .int (iN v2))]) hx hb dX7_gather_9 rfl hl (by decide) rfl (fun ls hl => ?_)
  obtain ⟨n, hw⟩ := hw
  exact hL10 v1 v2 n 0 σ2 H locs ls hw hW (lv_sub hl [1, 2, 3, 0] rfl)
set_option maxHeartbeats 4000000 in
set_option maxRecDepth 100000 in
theorem c_X7_tallyChain (l : Launch) (G : Gt) (κ : Nat) (hκ : κ < 5)  (ad : Nat → Nat)  (σ : Mem) (v2 : Int) (v3 : Int) (post : Mem → Prop) (hw : w_X7_tallyChain κ σ v2 v3 post) : CV l yX7_tallyChain (Cond.code yX7_tallyChain cX7_tallyChain 6 none) ({ frames := 4, cells := 0, slots := 0, locals := 106 } : Room) G (shW κ true) ad σ [.ref (ad 35), .ref (ad 1), .int (iN v2), .int (iN v3)] post := by
  refine s_all (y := yX7_tallyChain) (code := cX7_tallyChain) (maxL := 6) (ret := none) (rm := ({ frames := 4, cells := 0, slots := 0, locals := 106 } : Room)) (av := [.ref (ad 35), .ref (ad 1), .int (iN v2), .int (iN v3)]) (Qc := fun sz => QV G (shW κ true) ad post (sz)) (by decide) (Nat.le_of_ble_eq_true rfl) ?_
  intro p e s m below meth c S hr hlk _ hK hE hW ls hl
  obtain ⟨hx, hb, hml, hown, hts⟩ := id S
  replace hl : lv_has ls 6 [(0, .ref (ad 35)), (1, .ref (ad 1)), (2, .int (iN v2)), (3, .int (iN v3))] := hl
  have hL24 : ∀ (v2_24 : Int) (v3_24 : Int) (n : Nat) (v4_24 : Int) (v5_24 : Int) (σ_24 : Mem) (H : Heap) (locs : List Loc) (ls : Array Slot), w_X7_tallyChain_L24 κ v2_24 v3_24 post n v4_24 v5_24 σ_24 → Wd G (shW κ true) ad σ_24 (Aw ad (shW κ true).length s.heap.size) s.heap H locs → lv_has ls 6 [(0, .ref (ad 35)), (1, .ref (ad 1)), (2, .int (iN v2_24)), (3, .int (iN v3_24)), (4, .int (iN v4_24)), (5, .int (iN v5_24))] → W p l e ({ frames := 4, cells := 0, slots := 0, locals := 106 } : Room) s m ([.ref (ad 35), .ref (ad 1), .int (iN v2), .int (iN v3)] : List Value).toArray below meth c H locs 0 0 (MQ below (QV G (shW κ true) ad post (s.heap.size)) ([.ref (ad 35), .ref (ad 1), .int (iN v2), .int (iN v3)] : List Value).toArray s 0 0 (Aw ad (shW κ true).length s.heap.size)) (F0 m 24 ls []) := by
    intro v2_24 v3_24 n
    induction n with
    | zero =>
      intro v4_24 v5_24 σ_24 H locs ls hw
      exact hw.elim
    | succ n24 ih24 =>
      intro v4_24 v5_24 σ_24 H locs ls hw hW hl
      replace hw : w_X7_tallyChain_L24_body κ v2_24 v3_24 post (w_X7_tallyChain_L24 κ v2_24 v3_24 post n24) v4_24 v5_24 σ_24 := hw
      have hB63 : ∀ (σ_63 : Mem) (v4_63 : Int) (v5_63 : Int) (H : Heap) (locs : List Loc) (ls : Array Slot), w_X7_tallyChain_B63 κ σ_63 v2_24 v3_24 v4_63 v5_63 post (w_X7_tallyChain_L24 κ v2_24 v3_24 post n24) → Wd G (shW κ true) ad σ_63 (Aw ad (shW κ true).length s.heap.size) s.heap H locs → lv_has ls 6 [(0, .ref (ad 35)), (1, .ref (ad 1)), (2, .int (iN v2_24)), (3, .int (iN v3_24)), (4, .int (iN v4_63)), (5, .int (iN v5_63))] → W p l e ({ frames := 4, cells := 0, slots := 0, locals := 106 } : Room) s m ([.ref (ad 35), .ref (ad 1), .int (iN v2), .int (iN v3)] : List Value).toArray below meth c H locs 0 0 (MQ below (QV G (shW κ true) ad post (s.heap.size)) ([.ref (ad 35), .ref (ad 1), .int (iN v2), .int (iN v3)] : List Value).toArray s 0 0 (Aw ad (shW κ true).length s.heap.size)) (F0 m 63 ls []) := by
        intro σ_63 v4_63 v5_63 H locs ls hw hW hl
        unfold w_X7_tallyChain_B63 at hw
        refine lv_iinc (v := iN (v5_63 + 1)) (lv' := [(5, .int (iN (v5_63 + 1))), (0, .ref (ad 35)), (1, .ref (ad 1)), (2, .int (iN v2_24)), (3, .int (iN v3_24)), (4, .int (iN v4_63))]) hx hb dX7_tallyChain_63 hl (k := 5) rfl (iN_add _ _) (by decide) rfl (fun ls hl => ?_)
        refine lv_goto (tgt := 24) hx hb dX7_tallyChain_66 (by decide) ?_
        exact ih24 v4_63 (v5_63 + 1) σ_63 H locs ls hw hW (lv_sub hl [1, 2, 3, 4, 5, 0] rfl)
      unfold w_X7_tallyChain_L24_body at hw
      refine lv_iload hx hb dX7_tallyChain_24 (lv_at hl 5 rfl) ?_
      refine lv_aload_n hx hb dX7_tallyChain_26 rfl (lv_at hl 1 rfl) ?_
      refine g_getr hx hb hts hown hK hW 1 rfl (q := 2) (hcP hκ) (uwP hκ) 0 (by decide) rfl al_87 (fun _ h9 => h9) dX7_tallyChain_27 ?_
      refine g_getN hx hb hts hown hK hE hW 2 rfl rfl uw_X1 7 (by decide) rfl 2 rfl (fun _ h9 => h9) dX7_tallyChain_30 ?_
      refine n_icmp_ge hx hb hw.1 hw.2.1 hw.2.2.1 hw.2.2.2 (tgt := 69) dX7_tallyChain_33 (by decide) (fun hw => ?_) (fun hw => ?_)
      · refine lv_aload_n hx hb dX7_tallyChain_69 rfl (lv_at hl 0 rfl) ?_
        refine lv_aload_n hx hb dX7_tallyChain_70 rfl (lv_at hl 1 rfl) ?_
        refine lv_iload hx hb dX7_tallyChain_71 (lv_at hl 4 rfl) ?_
        refine fin_CI hW (run_U (k := 1) (As := [.int (iN v4_24)]) (rest := [.ref (ad 35)]) S hK hE hW (c_X2_countOf l G κ hκ true ad σ_24 v4_24 _ hw H.size) rfl (hcP hκ) al_683 al_427 (se_X2_X2_countOf hκ) al_426 al_3 al_433 rfl hd_X2_countOf.2 rfl rfl ⟨Nat.le_of_ble_eq_true rfl, Nat.le_of_ble_eq_true rfl⟩ rfl hl.1 rfl (Nat.le_of_ble_eq_true rfl) dX7_tallyChain_73 ⟨Nat.zero_le _, Nat.zero_le _⟩) ?_
        intro r13 H locs hw hW
        refine lv_iload_n hx hb dX7_tallyChain_76 rfl (lv_at hl 3 rfl) ?_
        refine fin_CV hW (run_V (k := 35) (As := [.int (iN r13), .int (iN v3_24)]) (rest := []) S hK hE hW (c_X7_gather l G κ hκ ad σ_24 r13 v3_24 _ hw H.size) rfl rfl al_718 al_720 sl_X7_gather al_13 al_721 hd_X7_gather rfl rfl ⟨Nat.le_of_ble_eq_true rfl, Nat.le_of_ble_eq_true rfl⟩ rfl hl.1 rfl (Nat.le_of_ble_eq_true rfl) dX7_tallyChain_77 ⟨Nat.zero_le _, Nat.zero_le _⟩) ?_
        intro σ16 H locs hw hW
        exact r_CV hx hb hr hlk hK hW hw dX7_tallyChain_80
      · refine lv_aload_n hx hb dX7_tallyChain_36 rfl (lv_at hl 1 rfl) ?_
        refine g_getr hx hb hts hown hK hW 1 rfl (q := 2) (hcP hκ) (uwP hκ) 0 (by decide) rfl al_87 (fun _ h9 => h9) dX7_tallyChain_37 ?_
        refine lv_iload hx hb dX7_tallyChain_40 (lv_at hl 5 rfl) ?_
        refine fin_CI hW (run_VN (k := 2) (As := [.int (iN v5_24)]) (rest := []) 37 S hK hE hW (c_X1_handOf l G κ true ad σ_24 v5_24 _ hw H.size) rfl rfl rfl al_343 sl_X1_handOf al_5 al_344 hd_X1_handOf.2 rfl rfl ⟨Nat.le_of_ble_eq_true rfl, Nat.le_of_ble_eq_true rfl⟩ rfl hl.1 rfl (Nat.le_of_ble_eq_true rfl) dX7_tallyChain_42 ⟨Nat.zero_le _, Nat.zero_le _⟩) ?_
        intro r17 H locs hw hW
        refine lv_iload_n hx hb dX7_tallyChain_45 rfl (lv_at hl 2 rfl) ?_
        refine n_icmp_ne hx hb hw.1 hw.2.1 hw.2.2.1 hw.2.2.2 (tgt := 63) dX7_tallyChain_46 (by decide) (fun hw => ?_) (fun hw => ?_)
        · exact hB63 σ_24 v4_24 v5_24 H locs ls hw hW (lv_sub hl [0, 1, 2, 3, 4, 5] rfl)
        · refine lv_aload_n hx hb dX7_tallyChain_49 rfl (lv_at hl 0 rfl) ?_
          refine lv_aload_n hx hb dX7_tallyChain_50 rfl (lv_at hl 1 rfl) ?_
          refine lv_iload hx hb dX7_tallyChain_51 (lv_at hl 4 rfl) ?_
          refine lv_iload hx hb dX7_tallyChain_53 (lv_at hl 5 rfl) ?_
          refine lv_iload_n hx hb dX7_tallyChain_55 rfl (lv_at hl 3 rfl) ?_
          refine fin_CV hW (run_V (k := 35) (As := [.ref (ad 1), .int (iN v4_24), .int (iN v5_24), .int (iN v3_24)]) (rest := []) S hK hE hW (c_X7_advance l G κ hκ ad σ_24 v4_24 v5_24 v3_24 _ hw H.size) rfl rfl al_697 al_699 sl_X7_advance al_13 al_700 hd_X7_advance rfl rfl ⟨Nat.le_of_ble_eq_true rfl, Nat.le_of_ble_eq_true rfl⟩ rfl hl.1 rfl (Nat.le_of_ble_eq_true rfl) dX7_tallyChain_56 ⟨Nat.zero_le _, Nat.zero_le _⟩) ?_
          intro σ20 H locs hw hW
          refine lv_iload hx hb dX7_tallyChain_59 (lv_at hl 5 rfl) ?_
          refine lv_istore (lv' := [(4, .int (iN v5_24)), (0, .ref (ad 35)), (1, .ref (ad 1)), (2, .int (iN v2_24)), (3, .int (iN v3_24)), (5, .int (iN v5_24))]) hx hb dX7_tallyChain_61 hl (by decide) rfl (fun ls hl => ?_)
          exact hB63 σ20 v5_24 v5_24 H locs ls hw hW (lv_sub hl [1, 2, 3, 4, 0, 5] rfl)
  unfold w_X7_tallyChain at hw
  refine lv_aload_n hx hb dX7_tallyChain_0 rfl (lv_at hl 1 rfl) ?_
  refine g_getr hx hb hts hown hK hW 1 rfl (q := 2) (hcP hκ) (uwP hκ) 0 (by decide) rfl al_87 (fun _ h9 => h9) dX7_tallyChain_1 ?_
  refine lv_iload_n hx hb dX7_tallyChain_4 rfl (lv_at hl 2 rfl) ?_
  refine n_iconst hx hb dX7_tallyChain_5 ?_
  refine fin_CI hW (run_VN (k := 2) (As := [.int (iN v2), .int (iN 0)]) (rest := []) 35 S hK hE hW (c_X1_firstOfHand l G κ true ad σ v2 0 _ hw s.heap.size) rfl rfl rfl al_480 sl_X1_firstOfHand al_5 al_481 hd_X1_firstOfHand.2 rfl rfl ⟨Nat.le_of_ble_eq_true rfl, Nat.le_of_ble_eq_true rfl⟩ rfl hl.1 rfl (Nat.le_of_ble_eq_true rfl) dX7_tallyChain_6 ⟨Nat.zero_le _, Nat.zero_le _⟩) ?_
  intro r1 H locs hw hW
  refine lv_istore (lv' := [(4, .int (iN r1)), (0, .ref (ad 35)), (1, .ref (ad 1)), (2, .int (iN v2)), (3, .int (iN v3))]) hx hb dX7_tallyChain_9 hl (by decide) rfl (fun ls hl => ?_)
  refine lv_aload_n hx hb dX7_tallyChain_11 rfl (lv_at hl 1 rfl) ?_
  refine lv_aload_n hx hb dX7_tallyChain_12 rfl (lv_at hl 2 rfl) ?_
  refine lv_iload hx hb dX7_tallyChain_13 (lv_at hl 0 rfl) ?_
  refine fin_CV hW (run_V (k := 35) (As := [.ref (ad 1), .int (iN r1)]) (rest := []) S hK hE hW (c_X7_begin l G κ hκ ad σ r1 _ hw H.size) rfl rfl al_679 al_681 sl_X7_begin al_13 al_682 hd_X7_begin rfl rfl ⟨Nat.le_of_ble_eq_true rfl, Nat.le_of_ble_eq_true rfl⟩ rfl hl.1 rfl (Nat.le_of_ble_eq_true rfl) dX7_tallyChain_15 ⟨Nat.zero_le _, Nat.zero_le _⟩) ?_
  intro σ4 H locs hw hW
  refine lv_iload hx hb dX7_tallyChain_18 (lv_at hl 0 rfl) ?_
  refine n_iconst hx hb dX7_tallyChain_20 ?_
  refine n_iadd hx hb dX7_tallyChain_21 ?_
  refine lv_istore (lv' := [(5, .int (iN (r1 + 1))), (4, .int (iN r1)), (0, .ref (ad 35)), (1, .ref (ad 1)), (2, .int (iN v2)), (3, .int (iN v3))]) hx hb dX7_tallyChain_22 hl (by decide) rfl (fun ls hl => ?_)
  obtain ⟨n, hw⟩ := hw
  exact hL24 v2 v3 n r1 (r1 + 1) σ4 H locs ls hw hW (lv_sub hl [2, 3, 4, 5, 1, 0] rfl)
set_option maxHeartbeats 4000000 in
set_option maxRecDepth 100000 in
theorem c_X7_join (l : Launch) (G : Gt) (κ : Nat) (hκ : κ < 5)  (ad : Nat → Nat)  (σ : Mem) (v1 : Int) (post : Mem → Prop) (hw : w_X7_join κ σ v1 post) : CV l yX7_join (Cond.code yX7_join cX7_join 6 none) ({ frames := 2, cells := 0, slots := 0, locals := 44 } : Room) G (shW κ true) ad σ [.ref (ad 35), .int (iN v1)] post := by
  refine s_all (y := yX7_join) (code := cX7_join) (maxL := 6) (ret := none) (rm := ({ frames := 2, cells := 0, slots := 0, locals := 44 } : Room)) (av := [.ref (ad 35), .int (iN v1)]) (Qc := fun sz => QV G (shW κ true) ad post (sz)) (by decide) (Nat.le_of_ble_eq_true rfl) ?_
  intro p e s m below meth c S hr hlk _ hK hE hW ls hl
  obtain ⟨hx, hb, hml, hown, hts⟩ := id S
  replace hl : lv_has ls 6 [(0, .ref (ad 35)), (1, .int (iN v1))] := hl
  have hB106 : ∀ (σ_106 : Mem)  (H : Heap) (locs : List Loc) (ls : Array Slot), w_X7_join_B106 κ σ_106 post → Wd G (shW κ true) ad σ_106 (Aw ad (shW κ true).length s.heap.size) s.heap H locs → lv_has ls 6 [(0, .ref (ad 35))] → W p l e ({ frames := 2, cells := 0, slots := 0, locals := 44 } : Room) s m ([.ref (ad 35), .int (iN v1)] : List Value).toArray below meth c H locs 0 0 (MQ below (QV G (shW κ true) ad post (s.heap.size)) ([.ref (ad 35), .int (iN v1)] : List Value).toArray s 0 0 (Aw ad (shW κ true).length s.heap.size)) (F0 m 106 ls []) := by
    intro σ_106 H locs ls hw hW hl
    unfold w_X7_join_B106 at hw
    refine lv_aload_n hx hb dX7_join_106 rfl (lv_at hl 0 rfl) ?_
    refine g_getd hx hb hts hown hK hW 35 rfl rfl uw_X7 2 (by decide) rfl al_649 (fun _ h9 => h9) dX7_join_107 ?_
    refine lv_astore_n (lv' := [(2, .ref (ad (σ_106 35 2).toNat)), (0, .ref (ad 35))]) hx hb dX7_join_110 rfl hl (by decide) rfl (fun ls hl => ?_)
    refine lv_aload_n hx hb dX7_join_111 rfl (lv_at hl 1 rfl) ?_
    refine lv_aload_n hx hb dX7_join_112 rfl (lv_at hl 1 rfl) ?_
    refine g_getd hx hb hts hown hK hW 35 rfl rfl uw_X7 3 (by decide) rfl al_650 (fun _ h9 => h9) dX7_join_113 ?_
    refine g_putd hx hb hts hown hK hW 35 rfl rfl uw_X7 tyX7 tyX7_ok nmX7 2 (by decide) rfl al_649 (fun _ h9 => h9) rfl rfl rfl dX7_join_116 (fun σ8 H locs hτ hW => ?_)
    replace hw := hw σ8 hτ
    refine lv_aload_n hx hb dX7_join_119 rfl (lv_at hl 1 rfl) ?_
    refine lv_aload_n hx hb dX7_join_120 rfl (lv_at hl 0 rfl) ?_
    refine g_putd hx hb hts hown hK hW 35 rfl rfl uw_X7 tyX7 tyX7_ok nmX7 3 (by decide) rfl al_650 (fun _ h9 => h9) rfl rfl rfl dX7_join_121 (fun σ9 H locs hτ hW => ?_)
    replace hw := hw σ9 hτ
    exact r_CV hx hb hr hlk hK hW hw dX7_join_124
  have hL10 : ∀ (v1_10 : Int) (n : Nat) (v2_10 : Int) (σ_10 : Mem) (H : Heap) (locs : List Loc) (ls : Array Slot), w_X7_join_L10 κ v1_10 post n v2_10 σ_10 → Wd G (shW κ true) ad σ_10 (Aw ad (shW κ true).length s.heap.size) s.heap H locs → lv_has ls 6 [(0, .ref (ad 35)), (1, .int (iN v1_10)), (2, .int (iN v2_10))] → W p l e ({ frames := 2, cells := 0, slots := 0, locals := 44 } : Room) s m ([.ref (ad 35), .int (iN v1)] : List Value).toArray below meth c H locs 0 0 (MQ below (QV G (shW κ true) ad post (s.heap.size)) ([.ref (ad 35), .int (iN v1)] : List Value).toArray s 0 0 (Aw ad (shW κ true).length s.heap.size)) (F0 m 10 ls []) := by
    intro v1_10 n
    induction n with
    | zero =>
      intro v2_10 σ_10 H locs ls hw
      exact hw.elim
    | succ n10 ih10 =>
      intro v2_10 σ_10 H locs ls hw hW hl
      replace hw : w_X7_join_L10_body κ v1_10 post (w_X7_join_L10 κ v1_10 post n10) v2_10 σ_10 := hw
      have hB100 : ∀ (σ_100 : Mem) (v2_100 : Int) (H : Heap) (locs : List Loc) (ls : Array Slot), w_X7_join_B100 κ σ_100 v1_10 v2_100 post (w_X7_join_L10 κ v1_10 post n10) → Wd G (shW κ true) ad σ_100 (Aw ad (shW κ true).length s.heap.size) s.heap H locs → lv_has ls 6 [(0, .ref (ad 35)), (1, .int (iN v1_10)), (2, .int (iN v2_100))] → W p l e ({ frames := 2, cells := 0, slots := 0, locals := 44 } : Room) s m ([.ref (ad 35), .int (iN v1)] : List Value).toArray below meth c H locs 0 0 (MQ below (QV G (shW κ true) ad post (s.heap.size)) ([.ref (ad 35), .int (iN v1)] : List Value).toArray s 0 0 (Aw ad (shW κ true).length s.heap.size)) (F0 m 100 ls []) := by
        intro σ_100 v2_100 H locs ls hw hW hl
        unfold w_X7_join_B100 at hw
        refine lv_iinc (v := iN (v2_100 + 1)) (lv' := [(2, .int (iN (v2_100 + 1))), (0, .ref (ad 35)), (1, .int (iN v1_10))]) hx hb dX7_join_100 hl (k := 2) rfl (iN_add _ _) (by decide) rfl (fun ls hl => ?_)
        refine lv_goto (tgt := 10) hx hb dX7_join_103 (by decide) ?_
        exact ih10 (v2_100 + 1) σ_100 H locs ls hw hW (lv_sub hl [1, 2, 0] rfl)
      have hL24 : ∀ (v2_24 : Int) (n : Nat) (v3_24 : Int) (σ_24 : Mem) (H : Heap) (locs : List Loc) (ls : Array Slot), w_X7_join_L24 κ v1_10 v2_24 post (w_X7_join_L10 κ v1_10 post n10) n v3_24 σ_24 → Wd G (shW κ true) ad σ_24 (Aw ad (shW κ true).length s.heap.size) s.heap H locs → lv_has ls 6 [(0, .ref (ad 35)), (1, .int (iN v1_10)), (2, .int (iN v2_24)), (3, .int (iN v3_24))] → W p l e ({ frames := 2, cells := 0, slots := 0, locals := 44 } : Room) s m ([.ref (ad 35), .int (iN v1)] : List Value).toArray below meth c H locs 0 0 (MQ below (QV G (shW κ true) ad post (s.heap.size)) ([.ref (ad 35), .int (iN v1)] : List Value).toArray s 0 0 (Aw ad (shW κ true).length s.heap.size)) (F0 m 24 ls []) := by
        intro v2_24 n
        induction n with
        | zero =>
          intro v3_24 σ_24 H locs ls hw
          exact hw.elim
        | succ n24 ih24 =>
          intro v3_24 σ_24 H locs ls hw hW hl
          replace hw : w_X7_join_L24_body κ v1_10 v2_24 post (w_X7_join_L10 κ v1_10 post n10) (w_X7_join_L24 κ v1_10 v2_24 post (w_X7_join_L10 κ v1_10 post n10) n24) v3_24 σ_24 := hw
          unfold w_X7_join_L24_body at hw
          refine lv_aload_n hx hb dX7_join_24 rfl (lv_at hl 0 rfl) ?_
          refine g_getd hx hb hts hown hK hW 35 rfl rfl uw_X7 2 (by decide) rfl al_649 (fun _ h9 => h9) dX7_join_25 ?_
          refine lv_iload_n hx hb dX7_join_28 rfl (lv_at hl 2 rfl) ?_
          refine g_ald hx hb hK hW (σ_24 35 2).toNat hw.1 hw.2.1 dX7_join_29 ?_
          replace hw := hw.2.2
          refine n_if_eq hx hb hw.1 hw.2.1 hw.2.2 (tgt := 100) dX7_join_30 (by decide) (fun hw => ?_) (fun hw => ?_)
          · exact hB100 σ_24 v2_24 H locs ls hw hW (lv_sub hl [0, 1, 2] rfl)
          · refine lv_iload_n hx hb dX7_join_33 rfl (lv_at hl 2 rfl) ?_
            refine lv_iload_n hx hb dX7_join_34 rfl (lv_at hl 3 rfl) ?_
            refine n_iadd hx hb dX7_join_35 ?_
            refine lv_iload_n hx hb dX7_join_36 rfl (lv_at hl 1 rfl) ?_
            refine n_icmp_gt hx hb hw.1 hw.2.1 hw.2.2.1 hw.2.2.2 (tgt := 100) dX7_join_37 (by decide) (fun hw => ?_) (fun hw => ?_)
            · exact hB100 σ_24 v2_24 H locs ls hw hW (lv_sub hl [0, 1, 2] rfl)
            · refine lv_iload_n hx hb dX7_join_40 rfl (lv_at hl 2 rfl) ?_
              refine lv_iload_n hx hb dX7_join_41 rfl (lv_at hl 3 rfl) ?_
              refine n_iadd hx hb dX7_join_42 ?_
              refine n_sipush hx hb dX7_join_43 (by decide) ?_
              refine n_icmp_ge hx hb hw.1 (rg_c _ rfl) hw.2.1 hw.2.2 (tgt := 100) dX7_join_46 (by decide) (fun hw => ?_) (fun hw => ?_)
              · exact hB100 σ_24 v2_24 H locs ls hw hW (lv_sub hl [0, 1, 2] rfl)
              · refine lv_aload_n hx hb dX7_join_49 rfl (lv_at hl 0 rfl) ?_
                refine g_getd hx hb hts hown hK hW 35 rfl rfl uw_X7 2 (by decide) rfl al_649 (fun _ h9 => h9) dX7_join_50 ?_
                refine lv_iload_n hx hb dX7_join_53 rfl (lv_at hl 2 rfl) ?_
                refine g_ald hx hb hK hW (σ_24 35 2).toNat hw.1 hw.2.1 dX7_join_54 ?_
                replace hw := hw.2.2
                refine n_i2l hx hb hw.1 dX7_join_55 ?_
                replace hw := hw.2
                refine lv_aload_n hx hb dX7_join_56 rfl (lv_at hl 0 rfl) ?_
                refine g_getr hx hb hts hown hK hW 35 rfl (q := 38) rfl uw_X7 4 (by decide) rfl al_651 (fun _ h9 => h9) dX7_join_57 ?_
                refine lv_iload_n hx hb dX7_join_60 rfl (lv_at hl 3 rfl) ?_
                refine g_ald hx hb hK hW 38 rfl hw.1 dX7_join_61 ?_
                replace hw := hw.2
                refine n_i2l hx hb hw.1 dX7_join_62 ?_
                replace hw := hw.2
                refine n_lmul hx hb dX7_join_63 ?_
                refine lv_lstore (lv' := [(4, .long (jN ((σ_24 (σ_24 35 2).toNat (v2_24).toNat) * (σ_24 38 (v3_24).toNat)))), (0, .ref (ad 35)), (1, .int (iN v1_10)), (2, .int (iN v2_24)), (3, .int (iN v3_24))]) hx hb dX7_join_64 hl (by decide) rfl (fun ls hl => ?_)
                refine lv_aload_n hx hb dX7_join_66 rfl (lv_at hl 1 rfl) ?_
                refine g_getd hx hb hts hown hK hW 35 rfl rfl uw_X7 3 (by decide) rfl al_650 (fun _ h9 => h9) dX7_join_67 ?_
                refine lv_iload_n hx hb dX7_join_70 rfl (lv_at hl 3 rfl) ?_
                refine lv_iload_n hx hb dX7_join_71 rfl (lv_at hl 4 rfl) ?_
                refine n_iadd hx hb dX7_join_72 ?_
                refine lv_aload_n hx hb dX7_join_73 rfl (lv_at hl 1 rfl) ?_
                refine g_getd hx hb hts hown hK hW 35 rfl rfl uw_X7 3 (by decide) rfl al_650 (fun _ h9 => h9) dX7_join_74 ?_
                refine lv_iload_n hx hb dX7_join_77 rfl (lv_at hl 3 rfl) ?_
                refine lv_iload_n hx hb dX7_join_78 rfl (lv_at hl 4 rfl) ?_
                refine n_iadd hx hb dX7_join_79 ?_
                refine g_ald hx hb hK hW (σ_24 35 3).toNat hw.1 hw.2.1 dX7_join_80 ?_
                replace hw := hw.2.2
                refine n_ldc2 (n := 1000000000) hx hb hown (hts _ (List.mem_cons_of_mem _ al_726)) (by decide) dX7_join_81 ?_
                refine lv_lload hx hb dX7_join_84 (lv_at hl 0 rfl) ?_
                refine n_mminl hx hb (hml.trans hl.1.symm) hown (hts _ (List.mem_cons_of_mem _ al_727)) (hts _ (List.mem_cons_of_mem _ al_728)) (hts _ (List.mem_cons_of_mem _ al_2)) (hts _ (List.mem_cons_of_mem _ al_729)) (Nat.le_of_ble_eq_true rfl) (Nat.le_of_ble_eq_true rfl) (Nat.zero_le _) (Nat.zero_le _) hw.1 hw.2.1 dX7_join_86 ?_
                replace hw := hw.2.2
                refine n_l2i hx hb dX7_join_89 ?_
                refine fin_CI hW (run_S (As := [.int (iN (σ_24 (σ_24 35 3).toNat ((v2_24 + v3_24)).toNat)), .int (iN (min 1000000000 ((σ_24 (σ_24 35 2).toNat (v2_24).toNat) * (σ_24 38 (v3_24).toNat))))]) (rest := [.int (iN (v2_24 + v3_24)), .ref (ad (σ_24 35 3).toNat)]) S hK hE hW (c_X7_capped l G κ hκ ad σ_24 (σ_24 (σ_24 35 3).toNat ((v2_24 + v3_24)).toNat) (min 1000000000 ((σ_24 (σ_24 35 2).toNat (v2_24).toNat) * (σ_24 38 (v3_24).toNat))) _ hw H.size) al_714 al_715 al_13 al_716 hd_X7_capped.2 rfl rfl ⟨Nat.le_of_ble_eq_true rfl, Nat.le_of_ble_eq_true rfl⟩ rfl hl.1 rfl (Nat.le_of_ble_eq_true rfl) dX7_join_90 ⟨Nat.zero_le _, Nat.zero_le _⟩) ?_
                intro r10 H locs hw hW
                refine g_ast hx hb hK hW (σ_24 35 3).toNat hw.1 hw.2.1 dX7_join_93 (fun σ12 H locs hτ hW => ?_)
                replace hw := hw.2.2 σ12 hτ
                refine lv_iinc (v := iN (v3_24 + 1)) (lv' := [(3, .int (iN (v3_24 + 1))), (4, .long (jN ((σ_24 (σ_24 35 2).toNat (v2_24).toNat) * (σ_24 38 (v3_24).toNat)))), (0, .ref (ad 35)), (1, .int (iN v1_10)), (2, .int (iN v2_24))]) hx hb dX7_join_94 hl (k := 4) rfl (iN_add _ _) (by decide) rfl (fun ls hl => ?_)
                refine lv_goto (tgt := 24) hx hb dX7_join_97 (by decide) ?_
                exact ih24 (v3_24 + 1) σ12 H locs ls hw hW (lv_sub hl [2, 3, 4, 0] rfl)
      unfold w_X7_join_L10_body at hw
      refine lv_iload_n hx hb dX7_join_10 rfl (lv_at hl 2 rfl) ?_
      refine lv_iload_n hx hb dX7_join_11 rfl (lv_at hl 1 rfl) ?_
      refine n_icmp_gt hx hb hw.1 hw.2.1 hw.2.2.1 hw.2.2.2 (tgt := 106) dX7_join_12 (by decide) (fun hw => ?_) (fun hw => ?_)
      · exact hB106 σ_10 H locs ls hw hW (lv_sub hl [0] rfl)
      · refine lv_iload_n hx hb dX7_join_15 rfl (lv_at hl 2 rfl) ?_
        refine n_sipush hx hb dX7_join_16 (by decide) ?_
        refine n_icmp_ge hx hb hw.1 (rg_c _ rfl) hw.2.1 hw.2.2 (tgt := 106) dX7_join_19 (by decide) (fun hw => ?_) (fun hw => ?_)
        · exact hB106 σ_10 H locs ls hw hW (lv_sub hl [0] rfl)
        · refine n_iconst hx hb dX7_join_22 ?_
          refine lv_istore_n (lv' := [(3, .int (iN 0)), (0, .ref (ad 35)), (1, .int (iN v1_10)), (2, .int (iN v2_10))]) hx hb dX7_join_23 rfl hl (by decide) rfl (fun ls hl => ?_)
          obtain ⟨n, hw⟩ := hw
          exact hL24 v2_10 n 0 σ_10 H locs ls hw hW (lv_sub hl [1, 2, 3, 0] rfl)
  unfold w_X7_join at hw
  refine lv_aload_n hx hb dX7_join_0 rfl (lv_at hl 0 rfl) ?_
  refine g_getd hx hb hts hown hK hW 35 rfl rfl uw_X7 3 (by decide) rfl al_650 (fun _ h9 => h9) dX7_join_1 ?_
  refine n_iconst hx hb dX7_join_4 ?_
  refine fin_CV hW (run_S (As := [.ref (ad (σ 35 3).toNat), .int (iN 0)]) (rest := []) S hK hE hW (c_J7_fill_53178 l G κ true ad ((σ 35 3).toNat) 301 hw.1 σ 0 _ hw.2 s.heap.size) al_671 al_672 al_14 al_673 hd_J7_fill_53178.2 rfl rfl ⟨Nat.le_of_ble_eq_true rfl, Nat.le_of_ble_eq_true rfl⟩ rfl hl.1 rfl (Nat.le_of_ble_eq_true rfl) dX7_join_5 ⟨Nat.zero_le _, Nat.zero_le _⟩) ?_
  intro σ2 H locs hw hW
  refine n_iconst hx hb dX7_join_8 ?_
  refine lv_istore_n (lv' := [(2, .int (iN 0)), (0, .ref (ad 35)), (1, .int (iN v1))]) hx hb dX7_join_9 rfl hl (by decide) rfl (fun ls hl => ?_)
  obtain ⟨n, hw⟩ := hw
  exact hL10 v1 n 0 σ2 H locs ls hw hW (lv_sub hl [1, 2, 0] rfl)
set_option maxHeartbeats 4000000 in
set_option maxRecDepth 100000 in
theorem c_X7_run (l : Launch) (G : Gt) (κ : Nat) (hκ : κ < 5)  (ad : Nat → Nat)  (σ : Mem) (v2 : Int) (post : Mem → Prop) (hw : w_X7_run κ σ v2 post) : CV l yX7_run (Cond.code yX7_run cX7_run 4 none) ({ frames := 5, cells := 0, slots := 0, locals := 131 } : Room) G (shW κ true) ad σ [.ref (ad 35), .ref (ad 1), .int (iN v2)] post := by
  refine s_all (y := yX7_run) (code := cX7_run) (maxL := 4) (ret := none) (rm := ({ frames := 5, cells := 0, slots := 0, locals := 131 } : Room)) (av := [.ref (ad 35), .ref (ad 1), .int (iN v2)]) (Qc := fun sz => QV G (shW κ true) ad post (sz)) (by decide) (Nat.le_of_ble_eq_true rfl) ?_
  intro p e s m below meth c S hr hlk _ hK hE hW ls hl
  obtain ⟨hx, hb, hml, hown, hts⟩ := id S
  replace hl : lv_has ls 4 [(0, .ref (ad 35)), (1, .ref (ad 1)), (2, .int (iN v2))] := hl
  have hL17 : ∀ (v2_17 : Int) (n : Nat) (v3_17 : Int) (σ_17 : Mem) (H : Heap) (locs : List Loc) (ls : Array Slot), w_X7_run_L17 κ v2_17 post n v3_17 σ_17 → Wd G (shW κ true) ad σ_17 (Aw ad (shW κ true).length s.heap.size) s.heap H locs → lv_has ls 4 [(0, .ref (ad 35)), (1, .ref (ad 1)), (2, .int (iN v2_17)), (3, .int (iN v3_17))] → W p l e ({ frames := 5, cells := 0, slots := 0, locals := 131 } : Room) s m ([.ref (ad 35), .ref (ad 1), .int (iN v2)] : List Value).toArray below meth c H locs 0 0 (MQ below (QV G (shW κ true) ad post (s.heap.size)) ([.ref (ad 35), .ref (ad 1), .int (iN v2)] : List Value).toArray s 0 0 (Aw ad (shW κ true).length s.heap.size)) (F0 m 17 ls []) := by
    intro v2_17 n
    induction n with
    | zero =>
      intro v3_17 σ_17 H locs ls hw
      exact hw.elim
    | succ n17 ih17 =>
      intro v3_17 σ_17 H locs ls hw hW hl
      replace hw : w_X7_run_L17_body κ v2_17 post (w_X7_run_L17 κ v2_17 post n17) v3_17 σ_17 := hw
      have hB46 : ∀ (σ_46 : Mem) (v3_46 : Int) (H : Heap) (locs : List Loc) (ls : Array Slot), w_X7_run_B46 κ σ_46 v2_17 v3_46 post (w_X7_run_L17 κ v2_17 post n17) → Wd G (shW κ true) ad σ_46 (Aw ad (shW κ true).length s.heap.size) s.heap H locs → lv_has ls 4 [(0, .ref (ad 35)), (1, .ref (ad 1)), (2, .int (iN v2_17)), (3, .int (iN v3_46))] → W p l e ({ frames := 5, cells := 0, slots := 0, locals := 131 } : Room) s m ([.ref (ad 35), .ref (ad 1), .int (iN v2)] : List Value).toArray below meth c H locs 0 0 (MQ below (QV G (shW κ true) ad post (s.heap.size)) ([.ref (ad 35), .ref (ad 1), .int (iN v2)] : List Value).toArray s 0 0 (Aw ad (shW κ true).length s.heap.size)) (F0 m 46 ls []) := by
        intro σ_46 v3_46 H locs ls hw hW hl
        unfold w_X7_run_B46 at hw
        refine lv_iinc (v := iN (v3_46 + 1)) (lv' := [(3, .int (iN (v3_46 + 1))), (0, .ref (ad 35)), (1, .ref (ad 1)), (2, .int (iN v2_17))]) hx hb dX7_run_46 hl (k := 3) rfl (iN_add _ _) (by decide) rfl (fun ls hl => ?_)
        refine lv_goto (tgt := 17) hx hb dX7_run_49 (by decide) ?_
        exact ih17 (v3_46 + 1) σ_46 H locs ls hw hW (lv_sub hl [1, 2, 3, 0] rfl)
      unfold w_X7_run_L17_body at hw
      refine lv_iload_n hx hb dX7_run_17 rfl (lv_at hl 3 rfl) ?_
      refine n_iconst hx hb dX7_run_18 ?_
      refine n_icmp_ge hx hb hw.1 (rg_c _ rfl) hw.2.1 hw.2.2 (tgt := 52) dX7_run_19 (by decide) (fun hw => ?_) (fun hw => ?_)
      · refine lv_aload_n hx hb dX7_run_52 rfl (lv_at hl 0 rfl) ?_
        refine lv_iload_n hx hb dX7_run_53 rfl (lv_at hl 2 rfl) ?_
        refine g_put hx hb hts hown hK hW 35 rfl rfl uw_X7 tyX7 tyX7_ok nmX7 5 (by decide) rfl al_652 (fun _ h9 => h9) rfl rfl rfl dX7_run_54 (fun σ11 H locs hτ hW => ?_)
        replace hw := hw σ11 hτ
        exact r_CV hx hb hr hlk hK hW hw dX7_run_57
      · refine lv_aload_n hx hb dX7_run_22 rfl (lv_at hl 1 rfl) ?_
        refine g_getr hx hb hts hown hK hW 1 rfl (q := 2) (hcP hκ) (uwP hκ) 0 (by decide) rfl al_87 (fun _ h9 => h9) dX7_run_23 ?_
        refine lv_iload_n hx hb dX7_run_26 rfl (lv_at hl 3 rfl) ?_
        refine n_iconst hx hb dX7_run_27 ?_
        refine fin_CI hW (run_VN (k := 2) (As := [.int (iN v3_17), .int (iN 0)]) (rest := []) 35 S hK hE hW (c_X1_firstOfHand l G κ true ad σ_17 v3_17 0 _ hw H.size) rfl rfl rfl al_480 sl_X1_firstOfHand al_5 al_481 hd_X1_firstOfHand.2 rfl rfl ⟨Nat.le_of_ble_eq_true rfl, Nat.le_of_ble_eq_true rfl⟩ rfl hl.1 rfl (Nat.le_of_ble_eq_true rfl) dX7_run_28 ⟨Nat.zero_le _, Nat.zero_le _⟩) ?_
        intro r12 H locs hw hW
        refine n_if_lt hx hb hw.1 hw.2.1 hw.2.2 (tgt := 46) dX7_run_31 (by decide) (fun hw => ?_) (fun hw => ?_)
        · exact hB46 σ_17 v3_17 H locs ls hw hW (lv_sub hl [0, 1, 2, 3] rfl)
        · refine lv_aload_n hx hb dX7_run_34 rfl (lv_at hl 0 rfl) ?_
          refine lv_aload_n hx hb dX7_run_35 rfl (lv_at hl 1 rfl) ?_
          refine lv_iload_n hx hb dX7_run_36 rfl (lv_at hl 3 rfl) ?_
          refine lv_iload_n hx hb dX7_run_37 rfl (lv_at hl 2 rfl) ?_
          refine fin_CV hW (run_V (k := 35) (As := [.ref (ad 1), .int (iN v3_17), .int (iN v2_17)]) (rest := []) S hK hE hW (c_X7_tallyChain l G κ hκ ad σ_17 v3_17 v2_17 _ hw H.size) rfl rfl al_675 al_677 sl_X7_tallyChain al_13 al_678 hd_X7_tallyChain rfl rfl ⟨Nat.le_of_ble_eq_true rfl, Nat.le_of_ble_eq_true rfl⟩ rfl hl.1 rfl (Nat.le_of_ble_eq_true rfl) dX7_run_38 ⟨Nat.zero_le _, Nat.zero_le _⟩) ?_
          intro σ15 H locs hw hW
          refine lv_aload_n hx hb dX7_run_41 rfl (lv_at hl 0 rfl) ?_
          refine lv_iload_n hx hb dX7_run_42 rfl (lv_at hl 2 rfl) ?_
          refine fin_CV hW (run_V (k := 35) (As := [.int (iN v2_17)]) (rest := []) S hK hE hW (c_X7_join l G κ hκ ad σ15 v2_17 _ hw H.size) rfl rfl al_722 al_724 sl_X7_join al_13 al_725 hd_X7_join rfl rfl ⟨Nat.le_of_ble_eq_true rfl, Nat.le_of_ble_eq_true rfl⟩ rfl hl.1 rfl (Nat.le_of_ble_eq_true rfl) dX7_run_43 ⟨Nat.zero_le _, Nat.zero_le _⟩) ?_
          intro σ17 H locs hw hW
          exact hB46 σ17 v3_17 H locs ls hw hW (lv_sub hl [0, 1, 2, 3] rfl)
  unfold w_X7_run at hw
  refine lv_aload_n hx hb dX7_run_0 rfl (lv_at hl 0 rfl) ?_
  refine g_getd hx hb hts hown hK hW 35 rfl rfl uw_X7 2 (by decide) rfl al_649 (fun _ h9 => h9) dX7_run_1 ?_
  refine n_iconst hx hb dX7_run_4 ?_
  refine fin_CV hW (run_S (As := [.ref (ad (σ 35 2).toNat), .int (iN 0)]) (rest := []) S hK hE hW (c_J7_fill_53178 l G κ true ad ((σ 35 2).toNat) 301 hw.1 σ 0 _ hw.2 s.heap.size) al_671 al_672 al_14 al_673 hd_J7_fill_53178.2 rfl rfl ⟨Nat.le_of_ble_eq_true rfl, Nat.le_of_ble_eq_true rfl⟩ rfl hl.1 rfl (Nat.le_of_ble_eq_true rfl) dX7_run_5 ⟨Nat.zero_le _, Nat.zero_le _⟩) ?_
  intro σ2 H locs hw hW
  refine lv_aload_n hx hb dX7_run_8 rfl (lv_at hl 0 rfl) ?_
  refine g_getd hx hb hts hown hK hW 35 rfl rfl uw_X7 2 (by decide) rfl al_649 (fun _ h9 => h9) dX7_run_9 ?_
  refine n_iconst hx hb dX7_run_12 ?_
  refine n_iconst hx hb dX7_run_13 ?_
  refine g_ast hx hb hK hW (σ2 35 2).toNat hw.1 (inb_c _ _ rfl) dX7_run_14 (fun σ3 H locs hτ hW => ?_)
  replace hw := hw.2 σ3 hτ
  refine n_iconst hx hb dX7_run_15 ?_
  refine lv_istore_n (lv' := [(3, .int (iN 0)), (0, .ref (ad 35)), (1, .ref (ad 1)), (2, .int (iN v2))]) hx hb dX7_run_16 rfl hl (by decide) rfl (fun ls hl => ?_)
  obtain ⟨n, hw⟩ := hw
  exact hL17 v2 n 0 σ3 H locs ls hw hW (lv_sub hl [1, 2, 3, 0] rfl)
set_option maxHeartbeats 4000000 in
set_option maxRecDepth 100000 in
theorem c_X7_sumTo (l : Launch) (G : Gt) (κ : Nat) (hκ : κ < 5)  (ad : Nat → Nat)  (σ : Mem) (v1 : Int) (post : Int → Prop) (hw : w_X7_sumTo κ σ v1 post) : CI l yX7_sumTo (Cond.code yX7_sumTo cX7_sumTo 4 (some .int)) ({ frames := 2, cells := 0, slots := 0, locals := 44 } : Room) G (shW κ true) ad σ [.ref (ad 35), .int (iN v1)] post := by
  refine s_all (y := yX7_sumTo) (code := cX7_sumTo) (maxL := 4) (ret := (some .int)) (rm := ({ frames := 2, cells := 0, slots := 0, locals := 44 } : Room)) (av := [.ref (ad 35), .int (iN v1)]) (Qc := fun sz => QI G (shW κ true) ad σ post (sz)) (by decide) (Nat.le_of_ble_eq_true rfl) ?_
  intro p e s m below meth c S hr hlk _ hK hE hW ls hl
  obtain ⟨hx, hb, hml, hown, hts⟩ := id S
  replace hl : lv_has ls 4 [(0, .ref (ad 35)), (1, .int (iN v1))] := hl
  have hB33 : ∀  (v2_33 : Int) (H : Heap) (locs : List Loc) (ls : Array Slot), w_X7_sumTo_B33 κ σ v2_33 post → Wd G (shW κ true) ad σ (Aw ad (shW κ true).length s.heap.size) s.heap H locs → lv_has ls 4 [(2, .int (iN v2_33))] → W p l e ({ frames := 2, cells := 0, slots := 0, locals := 44 } : Room) s m ([.ref (ad 35), .int (iN v1)] : List Value).toArray below meth c H locs 0 0 (MQ below (QI G (shW κ true) ad σ post (s.heap.size)) ([.ref (ad 35), .int (iN v1)] : List Value).toArray s 0 0 (Aw ad (shW κ true).length s.heap.size)) (F0 m 33 ls []) := by
    intro v2_33 H locs ls hw hW hl
    unfold w_X7_sumTo_B33 at hw
    refine lv_iload_n hx hb dX7_sumTo_33 rfl (lv_at hl 0 rfl) ?_
    exact r_CI hx hb hr hlk hK hW hw dX7_sumTo_34
  have hL4 : ∀ (v1_4 : Int) (n : Nat) (v2_4 : Int) (v3_4 : Int) (H : Heap) (locs : List Loc) (ls : Array Slot), w_X7_sumTo_L4 κ σ v1_4 post n v2_4 v3_4 → Wd G (shW κ true) ad σ (Aw ad (shW κ true).length s.heap.size) s.heap H locs → lv_has ls 4 [(0, .ref (ad 35)), (1, .int (iN v1_4)), (2, .int (iN v2_4)), (3, .int (iN v3_4))] → W p l e ({ frames := 2, cells := 0, slots := 0, locals := 44 } : Room) s m ([.ref (ad 35), .int (iN v1)] : List Value).toArray below meth c H locs 0 0 (MQ below (QI G (shW κ true) ad σ post (s.heap.size)) ([.ref (ad 35), .int (iN v1)] : List Value).toArray s 0 0 (Aw ad (shW κ true).length s.heap.size)) (F0 m 4 ls []) := by
    intro v1_4 n
    induction n with
    | zero =>
      intro v2_4 v3_4 H locs ls hw
      exact hw.elim
    | succ n4 ih4 =>
      intro v2_4 v3_4 H locs ls hw hW hl
      replace hw : w_X7_sumTo_L4_body κ σ v1_4 post (w_X7_sumTo_L4 κ σ v1_4 post n4) v2_4 v3_4 := hw
      unfold w_X7_sumTo_L4_body at hw
      refine lv_iload_n hx hb dX7_sumTo_4 rfl (lv_at hl 3 rfl) ?_
      refine lv_iload_n hx hb dX7_sumTo_5 rfl (lv_at hl 1 rfl) ?_
      refine n_icmp_gt hx hb hw.1 hw.2.1 hw.2.2.1 hw.2.2.2 (tgt := 33) dX7_sumTo_6 (by decide) (fun hw => ?_) (fun hw => ?_)
      · exact hB33 v2_4 H locs ls hw hW (lv_sub hl [2] rfl)
      · refine lv_iload_n hx hb dX7_sumTo_9 rfl (lv_at hl 3 rfl) ?_
        refine n_sipush hx hb dX7_sumTo_10 (by decide) ?_
        refine n_icmp_ge hx hb hw.1 (rg_c _ rfl) hw.2.1 hw.2.2 (tgt := 33) dX7_sumTo_13 (by decide) (fun hw => ?_) (fun hw => ?_)
        · exact hB33 v2_4 H locs ls hw hW (lv_sub hl [2] rfl)
        · refine lv_iload_n hx hb dX7_sumTo_16 rfl (lv_at hl 2 rfl) ?_
          refine lv_aload_n hx hb dX7_sumTo_17 rfl (lv_at hl 0 rfl) ?_
          refine g_getd hx hb hts hown hK hW 35 rfl rfl uw_X7 2 (by decide) rfl al_649 (fun _ h9 => h9) dX7_sumTo_18 ?_
          refine lv_iload_n hx hb dX7_sumTo_21 rfl (lv_at hl 3 rfl) ?_
          refine g_ald hx hb hK hW (σ 35 2).toNat hw.1 hw.2.1 dX7_sumTo_22 ?_
          replace hw := hw.2.2
          refine fin_CI hW (run_S (As := [.int (iN v2_4), .int (iN (σ (σ 35 2).toNat (v3_4).toNat))]) (rest := []) S hK hE hW (c_X7_capped l G κ hκ ad σ v2_4 (σ (σ 35 2).toNat (v3_4).toNat) _ hw H.size) al_714 al_715 al_13 al_716 hd_X7_capped.2 rfl rfl ⟨Nat.le_of_ble_eq_true rfl, Nat.le_of_ble_eq_true rfl⟩ rfl hl.1 rfl (Nat.le_of_ble_eq_true rfl) dX7_sumTo_23 ⟨Nat.zero_le _, Nat.zero_le _⟩) ?_
          intro r3 H locs hw hW
          refine lv_istore_n (lv' := [(2, .int (iN r3)), (0, .ref (ad 35)), (1, .int (iN v1_4)), (3, .int (iN v3_4))]) hx hb dX7_sumTo_26 rfl hl (by decide) rfl (fun ls hl => ?_)
          refine lv_iinc (v := iN (v3_4 + 1)) (lv' := [(3, .int (iN (v3_4 + 1))), (2, .int (iN r3)), (0, .ref (ad 35)), (1, .int (iN v1_4))]) hx hb dX7_sumTo_27 hl (k := 3) rfl (iN_add _ _) (by decide) rfl (fun ls hl => ?_)
          refine lv_goto (tgt := 4) hx hb dX7_sumTo_30 (by decide) ?_
          exact ih4 r3 (v3_4 + 1) H locs ls hw hW (lv_sub hl [2, 3, 1, 0] rfl)
  unfold w_X7_sumTo at hw
  refine n_iconst hx hb dX7_sumTo_0 ?_
  refine lv_istore_n (lv' := [(2, .int (iN 0)), (0, .ref (ad 35)), (1, .int (iN v1))]) hx hb dX7_sumTo_1 rfl hl (by decide) rfl (fun ls hl => ?_)
  refine n_iconst hx hb dX7_sumTo_2 ?_
  refine lv_istore_n (lv' := [(3, .int (iN 0)), (2, .int (iN 0)), (0, .ref (ad 35)), (1, .int (iN v1))]) hx hb dX7_sumTo_3 rfl hl (by decide) rfl (fun ls hl => ?_)
  obtain ⟨n, hw⟩ := hw
  exact hL4 v1 n 0 0 s.heap [] ls hw hW (lv_sub hl [2, 3, 1, 0] rfl)
