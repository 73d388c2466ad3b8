set_option maxHeartbeats 4000000 in
set_option maxRecDepth 100000 in
theorem c_X1_howMany (l : Launch) (G : Gt) (κ : Nat)  (tl : Bool) (ad : Nat → Nat)  (σ : Mem) (v0 : Int) (v1 : Int) (v2 : Int) (post : Int → Prop) (hw : w_X1_howMany  σ v0 v1 v2 post) : CI l yX1_howMany (Cond.code yX1_howMany cX1_howMany 3 (some .int)) ({ frames := 0, cells := 0, slots := 0, locals := 0 } : Room) G (shW κ tl) ad σ [.int (iN v0), .int (iN v1), .int (iN v2)] post := by
  refine s_all (y := yX1_howMany) (code := cX1_howMany) (maxL := 3) (ret := (some .int)) (rm := ({ frames := 0, cells := 0, slots := 0, locals := 0 } : Room)) (av := [.int (iN v0), .int (iN v1), .int (iN v2)]) (Qc := fun sz => QI G (shW κ tl) ad σ post (sz)) (by decide) (Nat.le_of_ble_eq_true rfl) ?_
  intro p e s m below meth c S hr hlk _ hK hE hW ls hl
  obtain ⟨hx, hb, hml, hown, hts⟩ := id S
  replace hl : lv_has ls 3 [(0, .int (iN v0)), (1, .int (iN v1)), (2, .int (iN v2))] := hl
  have hB64 : ∀  (s0_64 : Int) (H : Heap) (locs : List Loc) (ls : Array Slot), w_X1_howMany_B64 σ s0_64 post → Wd G (shW κ tl) ad σ (Aw ad (shW κ tl).length s.heap.size) s.heap H locs → lv_has ls 3 [] → W p l e ({ frames := 0, cells := 0, slots := 0, locals := 0 } : Room) s m ([.int (iN v0), .int (iN v1), .int (iN v2)] : List Value).toArray below meth c H locs 0 0 (MQ below (QI G (shW κ tl) ad σ post (s.heap.size)) ([.int (iN v0), .int (iN v1), .int (iN v2)] : List Value).toArray s 0 0 (Aw ad (shW κ tl).length s.heap.size)) (F0 m 64 ls [.int (iN s0_64)]) := by
    intro s0_64 H locs ls hw hW hl
    unfold w_X1_howMany_B64 at hw
    exact r_CI hx hb hr hlk hK hW hw dX1_howMany_64
  have hB63 : ∀   (H : Heap) (locs : List Loc) (ls : Array Slot), w_X1_howMany_B63 σ post → Wd G (shW κ tl) ad σ (Aw ad (shW κ tl).length s.heap.size) s.heap H locs → lv_has ls 3 [] → W p l e ({ frames := 0, cells := 0, slots := 0, locals := 0 } : Room) s m ([.int (iN v0), .int (iN v1), .int (iN v2)] : List Value).toArray below meth c H locs 0 0 (MQ below (QI G (shW κ tl) ad σ post (s.heap.size)) ([.int (iN v0), .int (iN v1), .int (iN v2)] : List Value).toArray s 0 0 (Aw ad (shW κ tl).length s.heap.size)) (F0 m 63 ls []) := by
    intro  H locs ls hw hW hl
    unfold w_X1_howMany_B63 at hw
    refine n_iconst hx hb dX1_howMany_63 ?_
    exact hB64 0 H locs ls hw hW (lv_sub hl [] rfl)
  have hB39 : ∀   (H : Heap) (locs : List Loc) (ls : Array Slot), w_X1_howMany_B39 σ post → Wd G (shW κ tl) ad σ (Aw ad (shW κ tl).length s.heap.size) s.heap H locs → lv_has ls 3 [] → W p l e ({ frames := 0, cells := 0, slots := 0, locals := 0 } : Room) s m ([.int (iN v0), .int (iN v1), .int (iN v2)] : List Value).toArray below meth c H locs 0 0 (MQ below (QI G (shW κ tl) ad σ post (s.heap.size)) ([.int (iN v0), .int (iN v1), .int (iN v2)] : List Value).toArray s 0 0 (Aw ad (shW κ tl).length s.heap.size)) (F0 m 39 ls []) := by
    intro  H locs ls hw hW hl
    unfold w_X1_howMany_B39 at hw
    refine n_iconst hx hb dX1_howMany_39 ?_
    exact r_CI hx hb hr hlk hK hW hw dX1_howMany_40
  have hB27 : ∀  (s0_27 : Int) (H : Heap) (locs : List Loc) (ls : Array Slot), w_X1_howMany_B27 σ s0_27 post → Wd G (shW κ tl) ad σ (Aw ad (shW κ tl).length s.heap.size) s.heap H locs → lv_has ls 3 [] → W p l e ({ frames := 0, cells := 0, slots := 0, locals := 0 } : Room) s m ([.int (iN v0), .int (iN v1), .int (iN v2)] : List Value).toArray below meth c H locs 0 0 (MQ below (QI G (shW κ tl) ad σ post (s.heap.size)) ([.int (iN v0), .int (iN v1), .int (iN v2)] : List Value).toArray s 0 0 (Aw ad (shW κ tl).length s.heap.size)) (F0 m 27 ls [.int (iN s0_27)]) := by
    intro s0_27 H locs ls hw hW hl
    unfold w_X1_howMany_B27 at hw
    exact r_CI hx hb hr hlk hK hW hw dX1_howMany_27
  have hB10 : ∀   (H : Heap) (locs : List Loc) (ls : Array Slot), w_X1_howMany_B10 σ post → Wd G (shW κ tl) ad σ (Aw ad (shW κ tl).length s.heap.size) s.heap H locs → lv_has ls 3 [] → W p l e ({ frames := 0, cells := 0, slots := 0, locals := 0 } : Room) s m ([.int (iN v0), .int (iN v1), .int (iN v2)] : List Value).toArray below meth c H locs 0 0 (MQ below (QI G (shW κ tl) ad σ post (s.heap.size)) ([.int (iN v0), .int (iN v1), .int (iN v2)] : List Value).toArray s 0 0 (Aw ad (shW κ tl).length s.heap.size)) (F0 m 10 ls []) := by
    intro  H locs ls hw hW hl
    unfold w_X1_howMany_B10 at hw
    refine n_iconst hx hb dX1_howMany_10 ?_
    exact r_CI hx hb hr hlk hK hW hw dX1_howMany_11
  unfold w_X1_howMany at hw
  refine lv_iload_n hx hb dX1_howMany_0 rfl (lv_at hl 0 rfl) ?_
  refine n_if_lt hx hb hw.1 hw.2.1 hw.2.2 (tgt := 10) dX1_howMany_1 (by decide) (fun hw => ?_) (fun hw => ?_)
  · exact hB10  s.heap [] ls hw hW (lv_sub hl [] rfl)
  · refine lv_iload_n hx hb dX1_howMany_4 rfl (lv_at hl 0 rfl) ?_
    refine n_bipush hx hb dX1_howMany_5 (by decide) ?_
    refine n_icmp_le hx hb hw.1 (rg_c _ rfl) hw.2.1 hw.2.2 (tgt := 12) dX1_howMany_7 (by decide) (fun hw => ?_) (fun hw => ?_)
    · refine lv_iload_n hx hb dX1_howMany_12 rfl (lv_at hl 1 rfl) ?_
      refine n_iconst hx hb dX1_howMany_13 ?_
      refine n_icmp_ne hx hb hw.1 (rg_c _ rfl) hw.2.1 hw.2.2 (tgt := 28) dX1_howMany_14 (by decide) (fun hw => ?_) (fun hw => ?_)
      · refine lv_iload_n hx hb dX1_howMany_28 rfl (lv_at hl 1 rfl) ?_
        refine lv_iload_n hx hb dX1_howMany_29 rfl (lv_at hl 0 rfl) ?_
        refine n_icmp_le hx hb hw.1 hw.2.1 hw.2.2.1 hw.2.2.2 (tgt := 39) dX1_howMany_30 (by decide) (fun hw => ?_) (fun hw => ?_)
        · exact hB39  s.heap [] ls hw hW (lv_sub hl [] rfl)
        · refine lv_iload_n hx hb dX1_howMany_33 rfl (lv_at hl 1 rfl) ?_
          refine n_bipush hx hb dX1_howMany_34 (by decide) ?_
          refine n_icmp_le hx hb hw.1 (rg_c _ rfl) hw.2.1 hw.2.2 (tgt := 41) dX1_howMany_36 (by decide) (fun hw => ?_) (fun hw => ?_)
          · refine lv_iload_n hx hb dX1_howMany_41 rfl (lv_at hl 2 rfl) ?_
            refine n_iconst hx hb dX1_howMany_42 ?_
            refine n_icmp_ne hx hb hw.1 (rg_c _ rfl) hw.2.1 hw.2.2 (tgt := 48) dX1_howMany_43 (by decide) (fun hw => ?_) (fun hw => ?_)
            · refine lv_iload_n hx hb dX1_howMany_48 rfl (lv_at hl 2 rfl) ?_
              refine lv_iload_n hx hb dX1_howMany_49 rfl (lv_at hl 1 rfl) ?_
              refine n_icmp_le hx hb hw.1 hw.2.1 hw.2.2.1 hw.2.2.2 (tgt := 63) dX1_howMany_50 (by decide) (fun hw => ?_) (fun hw => ?_)
              · exact hB63  s.heap [] ls hw hW (lv_sub hl [] rfl)
              · refine lv_iload_n hx hb dX1_howMany_53 rfl (lv_at hl 2 rfl) ?_
                refine n_bipush hx hb dX1_howMany_54 (by decide) ?_
                refine n_icmp_gt hx hb hw.1 (rg_c _ rfl) hw.2.1 hw.2.2 (tgt := 63) dX1_howMany_56 (by decide) (fun hw => ?_) (fun hw => ?_)
                · exact hB63  s.heap [] ls hw hW (lv_sub hl [] rfl)
                · refine n_iconst hx hb dX1_howMany_59 ?_
                  refine lv_goto (tgt := 64) hx hb dX1_howMany_60 (by decide) ?_
                  exact hB64 3 s.heap [] ls hw hW (lv_sub hl [] rfl)
            · refine n_iconst hx hb dX1_howMany_46 ?_
              exact r_CI hx hb hr hlk hK hW hw dX1_howMany_47
          · exact hB39  s.heap [] ls hw hW (lv_sub hl [] rfl)
      · refine lv_iload_n hx hb dX1_howMany_17 rfl (lv_at hl 2 rfl) ?_
        refine n_iconst hx hb dX1_howMany_18 ?_
        refine n_icmp_ne hx hb hw.1 (rg_c _ rfl) hw.2.1 hw.2.2 (tgt := 26) dX1_howMany_19 (by decide) (fun hw => ?_) (fun hw => ?_)
        · refine n_iconst hx hb dX1_howMany_26 ?_
          exact hB27 0 s.heap [] ls hw hW (lv_sub hl [] rfl)
        · refine n_iconst hx hb dX1_howMany_22 ?_
          refine lv_goto (tgt := 27) hx hb dX1_howMany_23 (by decide) ?_
          exact hB27 1 s.heap [] ls hw hW (lv_sub hl [] rfl)
    · exact hB10  s.heap [] ls hw hW (lv_sub hl [] rfl)
set_option maxHeartbeats 4000000 in
set_option maxRecDepth 100000 in
theorem c_X1_add (l : Launch) (G : Gt) (κ : Nat)  (tl : Bool) (ad : Nat → Nat)  (σ : Mem) (v1 : Int) (v2 : Int) (v3 : Int) (v4 : Int) (v5 : Int) (v6 : Int) (post : Mem → Prop) (hw : w_X1_add  σ v1 v2 v3 v4 v5 v6 post) : CV l yX1_add (Cond.code yX1_add cX1_add 7 none) ({ frames := 1, cells := 0, slots := 0, locals := 22 } : Room) G (shW κ tl) ad σ [.ref (ad 2), .int (iN v1), .int (iN v2), .int (iN v3), .int (iN v4), .int (iN v5), .int (iN v6)] post := by
  refine s_all (y := yX1_add) (code := cX1_add) (maxL := 7) (ret := none) (rm := ({ frames := 1, cells := 0, slots := 0, locals := 22 } : Room)) (av := [.ref (ad 2), .int (iN v1), .int (iN v2), .int (iN v3), .int (iN v4), .int (iN v5), .int (iN v6)]) (Qc := fun sz => QV G (shW κ tl) ad post (sz)) (by decide) (Nat.le_of_ble_eq_true rfl) ?_
  intro p e s m below meth c S hr hlk _ hK hE hW ls hl
  obtain ⟨hx, hb, hml, hown, hts⟩ := id S
  replace hl : lv_has ls 7 [(0, .ref (ad 2)), (1, .int (iN v1)), (2, .int (iN v2)), (3, .int (iN v3)), (4, .int (iN v4)), (5, .int (iN v5)), (6, .int (iN v6))] := hl
  have hB16 : ∀ (σ_16 : Mem)  (H : Heap) (locs : List Loc) (ls : Array Slot), w_X1_add_B16 σ_16 post → Wd G (shW κ tl) ad σ_16 (Aw ad (shW κ tl).length s.heap.size) s.heap H locs → lv_has ls 7 [] → W p l e ({ frames := 1, cells := 0, slots := 0, locals := 22 } : Room) s m ([.ref (ad 2), .int (iN v1), .int (iN v2), .int (iN v3), .int (iN v4), .int (iN v5), .int (iN v6)] : List Value).toArray below meth c H locs 0 0 (MQ below (QV G (shW κ tl) ad post (s.heap.size)) ([.ref (ad 2), .int (iN v1), .int (iN v2), .int (iN v3), .int (iN v4), .int (iN v5), .int (iN v6)] : List Value).toArray s 0 0 (Aw ad (shW κ tl).length s.heap.size)) (F0 m 16 ls []) := by
    intro σ_16 H locs ls hw hW hl
    unfold w_X1_add_B16 at hw
    exact r_CV hx hb hr hlk hK hW hw dX1_add_16
  unfold w_X1_add at hw
  refine lv_aload_n hx hb dX1_add_0 rfl (lv_at hl 0 rfl) ?_
  refine g_get hx hb hts hown hK hW 2 rfl rfl uw_X1 7 (by decide) rfl al_54 (fun _ h9 => h9) dX1_add_1 ?_
  refine n_if_lt hx hb hw.1 hw.2.1 hw.2.2 (tgt := 16) dX1_add_4 (by decide) (fun hw => ?_) (fun hw => ?_)
  · exact hB16 σ s.heap [] ls hw hW (lv_sub hl [] rfl)
  · refine lv_aload_n hx hb dX1_add_7 rfl (lv_at hl 0 rfl) ?_
    refine g_get hx hb hts hown hK hW 2 rfl rfl uw_X1 7 (by decide) rfl al_54 (fun _ h9 => h9) dX1_add_8 ?_
    refine n_bipush hx hb dX1_add_11 (by decide) ?_
    refine n_icmp_lt hx hb hw.1 (rg_c _ rfl) hw.2.1 hw.2.2 (tgt := 17) dX1_add_13 (by decide) (fun hw => ?_) (fun hw => ?_)
    · refine lv_aload_n hx hb dX1_add_17 rfl (lv_at hl 0 rfl) ?_
      refine g_getr hx hb hts hown hK hW 2 rfl (q := 4) rfl uw_X1 1 (by decide) rfl al_48 (fun _ h9 => h9) dX1_add_18 ?_
      refine lv_aload_n hx hb dX1_add_21 rfl (lv_at hl 0 rfl) ?_
      refine g_get hx hb hts hown hK hW 2 rfl rfl uw_X1 7 (by decide) rfl al_54 (fun _ h9 => h9) dX1_add_22 ?_
      refine lv_iload_n hx hb dX1_add_25 rfl (lv_at hl 1 rfl) ?_
      refine g_ast hx hb hK hW 4 rfl hw.1 dX1_add_26 (fun σ1 H locs hτ hW => ?_)
      replace hw := hw.2 σ1 hτ
      refine lv_aload_n hx hb dX1_add_27 rfl (lv_at hl 0 rfl) ?_
      refine g_getr hx hb hts hown hK hW 2 rfl (q := 5) rfl uw_X1 2 (by decide) rfl al_49 (fun _ h9 => h9) dX1_add_28 ?_
      refine lv_aload_n hx hb dX1_add_31 rfl (lv_at hl 0 rfl) ?_
      refine g_get hx hb hts hown hK hW 2 rfl rfl uw_X1 7 (by decide) rfl al_54 (fun _ h9 => h9) dX1_add_32 ?_
      refine lv_iload_n hx hb dX1_add_35 rfl (lv_at hl 2 rfl) ?_
      refine g_ast hx hb hK hW 5 rfl hw.1 dX1_add_36 (fun σ2 H locs hτ hW => ?_)
      replace hw := hw.2 σ2 hτ
      refine lv_aload_n hx hb dX1_add_37 rfl (lv_at hl 0 rfl) ?_
      refine g_getr hx hb hts hown hK hW 2 rfl (q := 6) rfl uw_X1 3 (by decide) rfl al_50 (fun _ h9 => h9) dX1_add_38 ?_
      refine lv_aload_n hx hb dX1_add_41 rfl (lv_at hl 0 rfl) ?_
      refine g_get hx hb hts hown hK hW 2 rfl rfl uw_X1 7 (by decide) rfl al_54 (fun _ h9 => h9) dX1_add_42 ?_
      refine lv_iload_n hx hb dX1_add_45 rfl (lv_at hl 3 rfl) ?_
      refine g_ast hx hb hK hW 6 rfl hw.1 dX1_add_46 (fun σ3 H locs hτ hW => ?_)
      replace hw := hw.2 σ3 hτ
      refine lv_aload_n hx hb dX1_add_47 rfl (lv_at hl 0 rfl) ?_
      refine g_getr hx hb hts hown hK hW 2 rfl (q := 7) rfl uw_X1 4 (by decide) rfl al_51 (fun _ h9 => h9) dX1_add_48 ?_
      refine lv_aload_n hx hb dX1_add_51 rfl (lv_at hl 0 rfl) ?_
      refine g_get hx hb hts hown hK hW 2 rfl rfl uw_X1 7 (by decide) rfl al_54 (fun _ h9 => h9) dX1_add_52 ?_
      refine lv_iload hx hb dX1_add_55 (lv_at hl 4 rfl) ?_
      refine lv_iload hx hb dX1_add_57 (lv_at hl 5 rfl) ?_
      refine lv_iload hx hb dX1_add_59 (lv_at hl 6 rfl) ?_
      refine fin_CI hW (run_S (As := [.int (iN v4), .int (iN v5), .int (iN v6)]) (rest := [.int (iN (σ3 2 7)), .ref (ad 7)]) S hK hE hW (c_X1_howMany l G κ tl ad σ3 v4 v5 v6 _ hw H.size) al_248 al_218 al_5 al_219 hd_X1_howMany.2 rfl rfl ⟨Nat.le_of_ble_eq_true rfl, Nat.le_of_ble_eq_true rfl⟩ rfl hl.1 rfl (Nat.le_of_ble_eq_true rfl) dX1_add_61 ⟨Nat.zero_le _, Nat.zero_le _⟩) ?_
      intro r4 H locs hw hW
      refine g_ast hx hb hK hW 7 rfl hw.1 dX1_add_64 (fun σ6 H locs hτ hW => ?_)
      replace hw := hw.2 σ6 hτ
      refine lv_aload_n hx hb dX1_add_65 rfl (lv_at hl 0 rfl) ?_
      refine g_getr hx hb hts hown hK hW 2 rfl (q := 8) rfl uw_X1 5 (by decide) rfl al_52 (fun _ h9 => h9) dX1_add_66 ?_
      refine lv_aload_n hx hb dX1_add_69 rfl (lv_at hl 0 rfl) ?_
      refine g_get hx hb hts hown hK hW 2 rfl rfl uw_X1 7 (by decide) rfl al_54 (fun _ h9 => h9) dX1_add_70 ?_
      refine n_bipush hx hb dX1_add_73 (by decide) ?_
      refine g_ast hx hb hK hW 8 rfl hw.1 dX1_add_75 (fun σ7 H locs hτ hW => ?_)
      replace hw := hw.2 σ7 hτ
      refine lv_aload_n hx hb dX1_add_76 rfl (lv_at hl 0 rfl) ?_
      refine g_getr hx hb hts hown hK hW 2 rfl (q := 9) rfl uw_X1 6 (by decide) rfl al_53 (fun _ h9 => h9) dX1_add_77 ?_
      refine lv_aload_n hx hb dX1_add_80 rfl (lv_at hl 0 rfl) ?_
      refine g_get hx hb hts hown hK hW 2 rfl rfl uw_X1 7 (by decide) rfl al_54 (fun _ h9 => h9) dX1_add_81 ?_
      refine n_iconst hx hb dX1_add_84 ?_
      refine n_imul hx hb dX1_add_85 ?_
      refine lv_iload hx hb dX1_add_86 (lv_at hl 4 rfl) ?_
      refine g_ast hx hb hK hW 9 rfl hw.1 dX1_add_88 (fun σ8 H locs hτ hW => ?_)
      replace hw := hw.2 σ8 hτ
      refine lv_aload_n hx hb dX1_add_89 rfl (lv_at hl 0 rfl) ?_
      refine g_getr hx hb hts hown hK hW 2 rfl (q := 9) rfl uw_X1 6 (by decide) rfl al_53 (fun _ h9 => h9) dX1_add_90 ?_
      refine lv_aload_n hx hb dX1_add_93 rfl (lv_at hl 0 rfl) ?_
      refine g_get hx hb hts hown hK hW 2 rfl rfl uw_X1 7 (by decide) rfl al_54 (fun _ h9 => h9) dX1_add_94 ?_
      refine n_iconst hx hb dX1_add_97 ?_
      refine n_imul hx hb dX1_add_98 ?_
      refine n_iconst hx hb dX1_add_99 ?_
      refine n_iadd hx hb dX1_add_100 ?_
      refine lv_iload hx hb dX1_add_101 (lv_at hl 5 rfl) ?_
      refine g_ast hx hb hK hW 9 rfl hw.1 dX1_add_103 (fun σ9 H locs hτ hW => ?_)
      replace hw := hw.2 σ9 hτ
      refine lv_aload_n hx hb dX1_add_104 rfl (lv_at hl 0 rfl) ?_
      refine g_getr hx hb hts hown hK hW 2 rfl (q := 9) rfl uw_X1 6 (by decide) rfl al_53 (fun _ h9 => h9) dX1_add_105 ?_
      refine lv_aload_n hx hb dX1_add_108 rfl (lv_at hl 0 rfl) ?_
      refine g_get hx hb hts hown hK hW 2 rfl rfl uw_X1 7 (by decide) rfl al_54 (fun _ h9 => h9) dX1_add_109 ?_
      refine n_iconst hx hb dX1_add_112 ?_
      refine n_imul hx hb dX1_add_113 ?_
      refine n_iconst hx hb dX1_add_114 ?_
      refine n_iadd hx hb dX1_add_115 ?_
      refine lv_iload hx hb dX1_add_116 (lv_at hl 6 rfl) ?_
      refine g_ast hx hb hK hW 9 rfl hw.1 dX1_add_118 (fun σ10 H locs hτ hW => ?_)
      replace hw := hw.2 σ10 hτ
      refine lv_aload_n hx hb dX1_add_119 rfl (lv_at hl 0 rfl) ?_
      refine lv_dup hx hb dX1_add_120 rfl ?_
      refine g_get hx hb hts hown hK hW 2 rfl rfl uw_X1 7 (by decide) rfl al_54 (fun _ h9 => h9) dX1_add_121 ?_
      refine n_iconst hx hb dX1_add_124 ?_
      refine n_iadd hx hb dX1_add_125 ?_
      refine g_put hx hb hts hown hK hW 2 rfl rfl uw_X1 tyX1 tyX1_ok nmX1 7 (by decide) rfl al_54 (fun _ h9 => h9) rfl rfl rfl dX1_add_126 (fun σ11 H locs hτ hW => ?_)
      replace hw := hw σ11 hτ
      exact r_CV hx hb hr hlk hK hW hw dX1_add_129
    · exact hB16 σ s.heap [] ls hw hW (lv_sub hl [] rfl)
set_option maxHeartbeats 4000000 in
set_option maxRecDepth 100000 in
theorem c_X1_has (l : Launch) (G : Gt) (κ : Nat)  (tl : Bool) (ad : Nat → Nat)  (σ : Mem) (v1 : Int) (post : Int → Prop) (hw : w_X1_has  σ v1 post) : CI l yX1_has (Cond.code yX1_has cX1_has 2 (some .boolean)) ({ frames := 0, cells := 0, slots := 0, locals := 0 } : Room) G (shW κ tl) ad σ [.ref (ad 2), .int (iN v1)] post := by
  refine s_all (y := yX1_has) (code := cX1_has) (maxL := 2) (ret := (some .boolean)) (rm := ({ frames := 0, cells := 0, slots := 0, locals := 0 } : Room)) (av := [.ref (ad 2), .int (iN v1)]) (Qc := fun sz => QI G (shW κ tl) ad σ post (sz)) (by decide) (Nat.le_of_ble_eq_true rfl) ?_
  intro p e s m below meth c S hr hlk _ hK hE hW ls hl
  obtain ⟨hx, hb, hml, hown, hts⟩ := id S
  replace hl : lv_has ls 2 [(0, .ref (ad 2)), (1, .int (iN v1))] := hl
  have hB17 : ∀  (s0_17 : Int) (H : Heap) (locs : List Loc) (ls : Array Slot), w_X1_has_B17 σ s0_17 post → Wd G (shW κ tl) ad σ (Aw ad (shW κ tl).length s.heap.size) s.heap H locs → lv_has ls 2 [] → W p l e ({ frames := 0, cells := 0, slots := 0, locals := 0 } : Room) s m ([.ref (ad 2), .int (iN v1)] : List Value).toArray below meth c H locs 0 0 (MQ below (QI G (shW κ tl) ad σ post (s.heap.size)) ([.ref (ad 2), .int (iN v1)] : List Value).toArray s 0 0 (Aw ad (shW κ tl).length s.heap.size)) (F0 m 17 ls [.int (iN s0_17)]) := by
    intro s0_17 H locs ls hw hW hl
    unfold w_X1_has_B17 at hw
    exact rz_CI hx hb hr hlk hK hW hw.1 hw.2 dX1_has_17
  have hB16 : ∀   (H : Heap) (locs : List Loc) (ls : Array Slot), w_X1_has_B16 σ post → Wd G (shW κ tl) ad σ (Aw ad (shW κ tl).length s.heap.size) s.heap H locs → lv_has ls 2 [] → W p l e ({ frames := 0, cells := 0, slots := 0, locals := 0 } : Room) s m ([.ref (ad 2), .int (iN v1)] : List Value).toArray below meth c H locs 0 0 (MQ below (QI G (shW κ tl) ad σ post (s.heap.size)) ([.ref (ad 2), .int (iN v1)] : List Value).toArray s 0 0 (Aw ad (shW κ tl).length s.heap.size)) (F0 m 16 ls []) := by
    intro  H locs ls hw hW hl
    unfold w_X1_has_B16 at hw
    refine n_iconst hx hb dX1_has_16 ?_
    exact hB17 0 H locs ls hw hW (lv_sub hl [] rfl)
  unfold w_X1_has at hw
  refine lv_iload_n hx hb dX1_has_0 rfl (lv_at hl 1 rfl) ?_
  refine n_if_lt hx hb hw.1 hw.2.1 hw.2.2 (tgt := 16) dX1_has_1 (by decide) (fun hw => ?_) (fun hw => ?_)
  · exact hB16  s.heap [] ls hw hW (lv_sub hl [] rfl)
  · refine lv_iload_n hx hb dX1_has_4 rfl (lv_at hl 1 rfl) ?_
    refine lv_aload_n hx hb dX1_has_5 rfl (lv_at hl 0 rfl) ?_
    refine g_get hx hb hts hown hK hW 2 rfl rfl uw_X1 7 (by decide) rfl al_54 (fun _ h9 => h9) dX1_has_6 ?_
    refine n_icmp_ge hx hb hw.1 hw.2.1 hw.2.2.1 hw.2.2.2 (tgt := 16) dX1_has_9 (by decide) (fun hw => ?_) (fun hw => ?_)
    · exact hB16  s.heap [] ls hw hW (lv_sub hl [] rfl)
    · refine n_iconst hx hb dX1_has_12 ?_
      refine lv_goto (tgt := 17) hx hb dX1_has_13 (by decide) ?_
      exact hB17 1 s.heap [] ls hw hW (lv_sub hl [] rfl)
set_option maxHeartbeats 4000000 in
set_option maxRecDepth 100000 in
theorem c_X1_setBound (l : Launch) (G : Gt) (κ : Nat)  (tl : Bool) (ad : Nat → Nat)  (σ : Mem) (v1 : Int) (v2 : Int) (post : Mem → Prop) (hw : w_X1_setBound  σ v1 v2 post) : CV l yX1_setBound (Cond.code yX1_setBound cX1_setBound 3 none) ({ frames := 0, cells := 0, slots := 0, locals := 0 } : Room) G (shW κ tl) ad σ [.ref (ad 2), .int (iN v1), .int (iN v2)] post := by
  refine s_all (y := yX1_setBound) (code := cX1_setBound) (maxL := 3) (ret := none) (rm := ({ frames := 0, cells := 0, slots := 0, locals := 0 } : Room)) (av := [.ref (ad 2), .int (iN v1), .int (iN v2)]) (Qc := fun sz => QV G (shW κ tl) ad post (sz)) (by decide) (Nat.le_of_ble_eq_true rfl) ?_
  intro p e s m below meth c S hr hlk _ hK hE hW ls hl
  obtain ⟨hx, hb, hml, hown, hts⟩ := id S
  replace hl : lv_has ls 3 [(0, .ref (ad 2)), (1, .int (iN v1)), (2, .int (iN v2))] := hl
  have hB20 : ∀ (σ_20 : Mem)  (H : Heap) (locs : List Loc) (ls : Array Slot), w_X1_setBound_B20 σ_20 post → Wd G (shW κ tl) ad σ_20 (Aw ad (shW κ tl).length s.heap.size) s.heap H locs → lv_has ls 3 [] → W p l e ({ frames := 0, cells := 0, slots := 0, locals := 0 } : Room) s m ([.ref (ad 2), .int (iN v1), .int (iN v2)] : List Value).toArray below meth c H locs 0 0 (MQ below (QV G (shW κ tl) ad post (s.heap.size)) ([.ref (ad 2), .int (iN v1), .int (iN v2)] : List Value).toArray s 0 0 (Aw ad (shW κ tl).length s.heap.size)) (F0 m 20 ls []) := by
    intro σ_20 H locs ls hw hW hl
    unfold w_X1_setBound_B20 at hw
    exact r_CV hx hb hr hlk hK hW hw dX1_setBound_20
  unfold w_X1_setBound at hw
  refine lv_iload_n hx hb dX1_setBound_0 rfl (lv_at hl 1 rfl) ?_
  refine n_if_lt hx hb hw.1 hw.2.1 hw.2.2 (tgt := 20) dX1_setBound_1 (by decide) (fun hw => ?_) (fun hw => ?_)
  · exact hB20 σ s.heap [] ls hw hW (lv_sub hl [] rfl)
  · refine lv_iload_n hx hb dX1_setBound_4 rfl (lv_at hl 1 rfl) ?_
    refine lv_aload_n hx hb dX1_setBound_5 rfl (lv_at hl 0 rfl) ?_
    refine g_getr hx hb hts hown hK hW 2 rfl (q := 3) rfl uw_X1 0 (by decide) rfl al_47 (fun _ h9 => h9) dX1_setBound_6 ?_
    refine g_alen hx hb hK hW 3 rfl dX1_setBound_9 ?_
    refine n_icmp_ge hx hb hw.1 hw.2.1 hw.2.2.1 hw.2.2.2 (tgt := 20) dX1_setBound_10 (by decide) (fun hw => ?_) (fun hw => ?_)
    · exact hB20 σ s.heap [] ls hw hW (lv_sub hl [] rfl)
    · refine lv_aload_n hx hb dX1_setBound_13 rfl (lv_at hl 0 rfl) ?_
      refine g_getr hx hb hts hown hK hW 2 rfl (q := 3) rfl uw_X1 0 (by decide) rfl al_47 (fun _ h9 => h9) dX1_setBound_14 ?_
      refine lv_iload_n hx hb dX1_setBound_17 rfl (lv_at hl 1 rfl) ?_
      refine lv_iload_n hx hb dX1_setBound_18 rfl (lv_at hl 2 rfl) ?_
      refine g_ast hx hb hK hW 3 rfl hw.1 dX1_setBound_19 (fun σ1 H locs hτ hW => ?_)
      replace hw := hw.2 σ1 hτ
      exact hB20 σ1 H locs ls hw hW (lv_sub hl [] rfl)
set_option maxHeartbeats 4000000 in
set_option maxRecDepth 100000 in
theorem c_X1_pinOf (l : Launch) (G : Gt) (κ : Nat)  (tl : Bool) (ad : Nat → Nat)  (σ : Mem) (v1 : Int) (post : Int → Prop) (hw : w_X1_pinOf  σ v1 post) : CI l yX1_pinOf (Cond.code yX1_pinOf cX1_pinOf 2 (some .int)) ({ frames := 0, cells := 0, slots := 0, locals := 0 } : Room) G (shW κ tl) ad σ [.ref (ad 2), .int (iN v1)] post := by
  refine s_all (y := yX1_pinOf) (code := cX1_pinOf) (maxL := 2) (ret := (some .int)) (rm := ({ frames := 0, cells := 0, slots := 0, locals := 0 } : Room)) (av := [.ref (ad 2), .int (iN v1)]) (Qc := fun sz => QI G (shW κ tl) ad σ post (sz)) (by decide) (Nat.le_of_ble_eq_true rfl) ?_
  intro p e s m below meth c S hr hlk _ hK hE hW ls hl
  obtain ⟨hx, hb, hml, hown, hts⟩ := id S
  replace hl : lv_has ls 2 [(0, .ref (ad 2)), (1, .int (iN v1))] := hl
  have hB23 : ∀  (s0_23 : Int) (H : Heap) (locs : List Loc) (ls : Array Slot), w_X1_pinOf_B23 σ s0_23 post → Wd G (shW κ tl) ad σ (Aw ad (shW κ tl).length s.heap.size) s.heap H locs → lv_has ls 2 [] → W p l e ({ frames := 0, cells := 0, slots := 0, locals := 0 } : Room) s m ([.ref (ad 2), .int (iN v1)] : List Value).toArray below meth c H locs 0 0 (MQ below (QI G (shW κ tl) ad σ post (s.heap.size)) ([.ref (ad 2), .int (iN v1)] : List Value).toArray s 0 0 (Aw ad (shW κ tl).length s.heap.size)) (F0 m 23 ls [.int (iN s0_23)]) := by
    intro s0_23 H locs ls hw hW hl
    unfold w_X1_pinOf_B23 at hw
    exact r_CI hx hb hr hlk hK hW hw dX1_pinOf_23
  have hB21 : ∀   (H : Heap) (locs : List Loc) (ls : Array Slot), w_X1_pinOf_B21 σ post → Wd G (shW κ tl) ad σ (Aw ad (shW κ tl).length s.heap.size) s.heap H locs → lv_has ls 2 [] → W p l e ({ frames := 0, cells := 0, slots := 0, locals := 0 } : Room) s m ([.ref (ad 2), .int (iN v1)] : List Value).toArray below meth c H locs 0 0 (MQ below (QI G (shW κ tl) ad σ post (s.heap.size)) ([.ref (ad 2), .int (iN v1)] : List Value).toArray s 0 0 (Aw ad (shW κ tl).length s.heap.size)) (F0 m 21 ls []) := by
    intro  H locs ls hw hW hl
    unfold w_X1_pinOf_B21 at hw
    refine n_bipush hx hb dX1_pinOf_21 (by decide) ?_
    exact hB23 (-2) H locs ls hw hW (lv_sub hl [] rfl)
  unfold w_X1_pinOf at hw
  refine lv_iload_n hx hb dX1_pinOf_0 rfl (lv_at hl 1 rfl) ?_
  refine n_if_lt hx hb hw.1 hw.2.1 hw.2.2 (tgt := 21) dX1_pinOf_1 (by decide) (fun hw => ?_) (fun hw => ?_)
  · exact hB21  s.heap [] ls hw hW (lv_sub hl [] rfl)
  · refine lv_iload_n hx hb dX1_pinOf_4 rfl (lv_at hl 1 rfl) ?_
    refine lv_aload_n hx hb dX1_pinOf_5 rfl (lv_at hl 0 rfl) ?_
    refine g_get hx hb hts hown hK hW 2 rfl rfl uw_X1 7 (by decide) rfl al_54 (fun _ h9 => h9) dX1_pinOf_6 ?_
    refine n_icmp_ge hx hb hw.1 hw.2.1 hw.2.2.1 hw.2.2.2 (tgt := 21) dX1_pinOf_9 (by decide) (fun hw => ?_) (fun hw => ?_)
    · exact hB21  s.heap [] ls hw hW (lv_sub hl [] rfl)
    · refine lv_aload_n hx hb dX1_pinOf_12 rfl (lv_at hl 0 rfl) ?_
      refine g_getr hx hb hts hown hK hW 2 rfl (q := 8) rfl uw_X1 5 (by decide) rfl al_52 (fun _ h9 => h9) dX1_pinOf_13 ?_
      refine lv_iload_n hx hb dX1_pinOf_16 rfl (lv_at hl 1 rfl) ?_
      refine g_ald hx hb hK hW 8 rfl hw.1 dX1_pinOf_17 ?_
      replace hw := hw.2
      refine lv_goto (tgt := 23) hx hb dX1_pinOf_18 (by decide) ?_
      exact hB23 (σ 8 (v1).toNat) s.heap [] ls hw hW (lv_sub hl [] rfl)
set_option maxHeartbeats 4000000 in
set_option maxRecDepth 100000 in
theorem c_X1_setPin (l : Launch) (G : Gt) (κ : Nat)  (tl : Bool) (ad : Nat → Nat)  (σ : Mem) (v1 : Int) (v2 : Int) (post : Mem → Prop) (hw : w_X1_setPin  σ v1 v2 post) : CV l yX1_setPin (Cond.code yX1_setPin cX1_setPin 3 none) ({ frames := 0, cells := 0, slots := 0, locals := 0 } : Room) G (shW κ tl) ad σ [.ref (ad 2), .int (iN v1), .int (iN v2)] post := by
  refine s_all (y := yX1_setPin) (code := cX1_setPin) (maxL := 3) (ret := none) (rm := ({ frames := 0, cells := 0, slots := 0, locals := 0 } : Room)) (av := [.ref (ad 2), .int (iN v1), .int (iN v2)]) (Qc := fun sz => QV G (shW κ tl) ad post (sz)) (by decide) (Nat.le_of_ble_eq_true rfl) ?_
  intro p e s m below meth c S hr hlk _ hK hE hW ls hl
  obtain ⟨hx, hb, hml, hown, hts⟩ := id S
  replace hl : lv_has ls 3 [(0, .ref (ad 2)), (1, .int (iN v1)), (2, .int (iN v2))] := hl
  have hB19 : ∀ (σ_19 : Mem)  (H : Heap) (locs : List Loc) (ls : Array Slot), w_X1_setPin_B19 σ_19 post → Wd G (shW κ tl) ad σ_19 (Aw ad (shW κ tl).length s.heap.size) s.heap H locs → lv_has ls 3 [] → W p l e ({ frames := 0, cells := 0, slots := 0, locals := 0 } : Room) s m ([.ref (ad 2), .int (iN v1), .int (iN v2)] : List Value).toArray below meth c H locs 0 0 (MQ below (QV G (shW κ tl) ad post (s.heap.size)) ([.ref (ad 2), .int (iN v1), .int (iN v2)] : List Value).toArray s 0 0 (Aw ad (shW κ tl).length s.heap.size)) (F0 m 19 ls []) := by
    intro σ_19 H locs ls hw hW hl
    unfold w_X1_setPin_B19 at hw
    exact r_CV hx hb hr hlk hK hW hw dX1_setPin_19
  unfold w_X1_setPin at hw
  refine lv_iload_n hx hb dX1_setPin_0 rfl (lv_at hl 1 rfl) ?_
  refine n_if_lt hx hb hw.1 hw.2.1 hw.2.2 (tgt := 19) dX1_setPin_1 (by decide) (fun hw => ?_) (fun hw => ?_)
  · exact hB19 σ s.heap [] ls hw hW (lv_sub hl [] rfl)
  · refine lv_iload_n hx hb dX1_setPin_4 rfl (lv_at hl 1 rfl) ?_
    refine lv_aload_n hx hb dX1_setPin_5 rfl (lv_at hl 0 rfl) ?_
    refine g_get hx hb hts hown hK hW 2 rfl rfl uw_X1 7 (by decide) rfl al_54 (fun _ h9 => h9) dX1_setPin_6 ?_
    refine n_icmp_ge hx hb hw.1 hw.2.1 hw.2.2.1 hw.2.2.2 (tgt := 19) dX1_setPin_9 (by decide) (fun hw => ?_) (fun hw => ?_)
    · exact hB19 σ s.heap [] ls hw hW (lv_sub hl [] rfl)
    · refine lv_aload_n hx hb dX1_setPin_12 rfl (lv_at hl 0 rfl) ?_
      refine g_getr hx hb hts hown hK hW 2 rfl (q := 8) rfl uw_X1 5 (by decide) rfl al_52 (fun _ h9 => h9) dX1_setPin_13 ?_
      refine lv_iload_n hx hb dX1_setPin_16 rfl (lv_at hl 1 rfl) ?_
      refine lv_iload_n hx hb dX1_setPin_17 rfl (lv_at hl 2 rfl) ?_
      refine g_ast hx hb hK hW 8 rfl hw.1 dX1_setPin_18 (fun σ1 H locs hτ hW => ?_)
      replace hw := hw.2 σ1 hτ
      exact hB19 σ1 H locs ls hw hW (lv_sub hl [] rfl)
set_option maxHeartbeats 4000000 in
set_option maxRecDepth 100000 in
theorem c_X1_allows (l : Launch) (G : Gt) (κ : Nat)  (tl : Bool) (ad : Nat → Nat)  (σ : Mem) (v1 : Int) (v2 : Int) (post : Int → Prop) (hw : w_X1_allows  σ v1 v2 post) : CI l yX1_allows (Cond.code yX1_allows cX1_allows 4 (some .boolean)) ({ frames := 1, cells := 0, slots := 0, locals := 21 } : Room) G (shW κ tl) ad σ [.ref (ad 2), .int (iN v1), .int (iN v2)] post := by
  refine s_all (y := yX1_allows) (code := cX1_allows) (maxL := 4) (ret := (some .boolean)) (rm := ({ frames := 1, cells := 0, slots := 0, locals := 21 } : Room)) (av := [.ref (ad 2), .int (iN v1), .int (iN v2)]) (Qc := fun sz => QI G (shW κ tl) ad σ post (sz)) (by decide) (Nat.le_of_ble_eq_true rfl) ?_
  intro p e s m below meth c S hr hlk _ hK hE hW ls hl
  obtain ⟨hx, hb, hml, hown, hts⟩ := id S
  replace hl : lv_has ls 4 [(0, .ref (ad 2)), (1, .int (iN v1)), (2, .int (iN v2))] := hl
  have hB22 : ∀  (s0_22 : Int) (H : Heap) (locs : List Loc) (ls : Array Slot), w_X1_allows_B22 σ s0_22 post → Wd G (shW κ tl) ad σ (Aw ad (shW κ tl).length s.heap.size) s.heap H locs → lv_has ls 4 [] → W p l e ({ frames := 1, cells := 0, slots := 0, locals := 21 } : Room) s m ([.ref (ad 2), .int (iN v1), .int (iN v2)] : List Value).toArray below meth c H locs 0 0 (MQ below (QI G (shW κ tl) ad σ post (s.heap.size)) ([.ref (ad 2), .int (iN v1), .int (iN v2)] : List Value).toArray s 0 0 (Aw ad (shW κ tl).length s.heap.size)) (F0 m 22 ls [.int (iN s0_22)]) := by
    intro s0_22 H locs ls hw hW hl
    unfold w_X1_allows_B22 at hw
    exact rz_CI hx hb hr hlk hK hW hw.1 hw.2 dX1_allows_22
  have hB17 : ∀   (H : Heap) (locs : List Loc) (ls : Array Slot), w_X1_allows_B17 σ post → Wd G (shW κ tl) ad σ (Aw ad (shW κ tl).length s.heap.size) s.heap H locs → lv_has ls 4 [] → W p l e ({ frames := 1, cells := 0, slots := 0, locals := 21 } : Room) s m ([.ref (ad 2), .int (iN v1), .int (iN v2)] : List Value).toArray below meth c H locs 0 0 (MQ below (QI G (shW κ tl) ad σ post (s.heap.size)) ([.ref (ad 2), .int (iN v1), .int (iN v2)] : List Value).toArray s 0 0 (Aw ad (shW κ tl).length s.heap.size)) (F0 m 17 ls []) := by
    intro  H locs ls hw hW hl
    unfold w_X1_allows_B17 at hw
    refine n_iconst hx hb dX1_allows_17 ?_
    refine lv_goto (tgt := 22) hx hb dX1_allows_18 (by decide) ?_
    exact hB22 1 H locs ls hw hW (lv_sub hl [] rfl)
  unfold w_X1_allows at hw
  refine lv_aload_n hx hb dX1_allows_0 rfl (lv_at hl 0 rfl) ?_
  refine lv_iload_n hx hb dX1_allows_1 rfl (lv_at hl 1 rfl) ?_
  refine fin_CI hW (run_V (k := 2) (As := [.int (iN v1)]) (rest := []) S hK hE hW (c_X1_pinOf l G κ tl ad σ v1 _ hw s.heap.size) rfl rfl al_584 al_283 sl_X1_pinOf al_5 al_284 hd_X1_pinOf rfl rfl ⟨Nat.le_of_ble_eq_true rfl, Nat.le_of_ble_eq_true rfl⟩ rfl hl.1 rfl (Nat.le_of_ble_eq_true rfl) dX1_allows_2 ⟨Nat.zero_le _, Nat.zero_le _⟩) ?_
  intro r1 H locs hw hW
  refine lv_istore_n (lv' := [(3, .int (iN r1)), (0, .ref (ad 2)), (1, .int (iN v1)), (2, .int (iN v2))]) hx hb dX1_allows_5 rfl hl (by decide) rfl (fun ls hl => ?_)
  refine lv_iload_n hx hb dX1_allows_6 rfl (lv_at hl 0 rfl) ?_
  refine n_bipush hx hb dX1_allows_7 (by decide) ?_
  refine n_icmp_eq hx hb hw.1 (rg_c _ rfl) hw.2.1 hw.2.2 (tgt := 17) dX1_allows_9 (by decide) (fun hw => ?_) (fun hw => ?_)
  · exact hB17  H locs ls hw hW (lv_sub hl [] rfl)
  · refine lv_iload_n hx hb dX1_allows_12 rfl (lv_at hl 0 rfl) ?_
    refine lv_iload_n hx hb dX1_allows_13 rfl (lv_at hl 3 rfl) ?_
    refine n_icmp_ne hx hb hw.1 hw.2.1 hw.2.2.1 hw.2.2.2 (tgt := 21) dX1_allows_14 (by decide) (fun hw => ?_) (fun hw => ?_)
    · refine n_iconst hx hb dX1_allows_21 ?_
      exact hB22 0 H locs ls hw hW (lv_sub hl [] rfl)
    · exact hB17  H locs ls hw hW (lv_sub hl [] rfl)
set_option maxHeartbeats 4000000 in
set_option maxRecDepth 100000 in
theorem c_X1_inCompass (l : Launch) (G : Gt) (κ : Nat)  (tl : Bool) (ad : Nat → Nat)  (σ : Mem) (v1 : Int) (post : Int → Prop) (hw : w_X1_inCompass  σ v1 post) : CI l yX1_inCompass (Cond.code yX1_inCompass cX1_inCompass 2 (some .boolean)) ({ frames := 1, cells := 0, slots := 0, locals := 22 } : Room) G (shW κ tl) ad σ [.ref (ad 2), .int (iN v1)] post := by
  refine s_all (y := yX1_inCompass) (code := cX1_inCompass) (maxL := 2) (ret := (some .boolean)) (rm := ({ frames := 1, cells := 0, slots := 0, locals := 22 } : Room)) (av := [.ref (ad 2), .int (iN v1)]) (Qc := fun sz => QI G (shW κ tl) ad σ post (sz)) (by decide) (Nat.le_of_ble_eq_true rfl) ?_
  intro p e s m below meth c S hr hlk _ hK hE hW ls hl
  obtain ⟨hx, hb, hml, hown, hts⟩ := id S
  replace hl : lv_has ls 2 [(0, .ref (ad 2)), (1, .int (iN v1))] := hl
  have hB33 : ∀  (s0_33 : Int) (H : Heap) (locs : List Loc) (ls : Array Slot), w_X1_inCompass_B33 σ s0_33 post → Wd G (shW κ tl) ad σ (Aw ad (shW κ tl).length s.heap.size) s.heap H locs → lv_has ls 2 [] → W p l e ({ frames := 1, cells := 0, slots := 0, locals := 22 } : Room) s m ([.ref (ad 2), .int (iN v1)] : List Value).toArray below meth c H locs 0 0 (MQ below (QI G (shW κ tl) ad σ post (s.heap.size)) ([.ref (ad 2), .int (iN v1)] : List Value).toArray s 0 0 (Aw ad (shW κ tl).length s.heap.size)) (F0 m 33 ls [.int (iN s0_33)]) := by
    intro s0_33 H locs ls hw hW hl
    unfold w_X1_inCompass_B33 at hw
    exact rz_CI hx hb hr hlk hK hW hw.1 hw.2 dX1_inCompass_33
  have hB32 : ∀   (H : Heap) (locs : List Loc) (ls : Array Slot), w_X1_inCompass_B32 σ post → Wd G (shW κ tl) ad σ (Aw ad (shW κ tl).length s.heap.size) s.heap H locs → lv_has ls 2 [] → W p l e ({ frames := 1, cells := 0, slots := 0, locals := 22 } : Room) s m ([.ref (ad 2), .int (iN v1)] : List Value).toArray below meth c H locs 0 0 (MQ below (QI G (shW κ tl) ad σ post (s.heap.size)) ([.ref (ad 2), .int (iN v1)] : List Value).toArray s 0 0 (Aw ad (shW κ tl).length s.heap.size)) (F0 m 32 ls []) := by
    intro  H locs ls hw hW hl
    unfold w_X1_inCompass_B32 at hw
    refine n_iconst hx hb dX1_inCompass_32 ?_
    exact hB33 0 H locs ls hw hW (lv_sub hl [] rfl)
  unfold w_X1_inCompass at hw
  refine lv_aload_n hx hb dX1_inCompass_0 rfl (lv_at hl 0 rfl) ?_
  refine lv_iload_n hx hb dX1_inCompass_1 rfl (lv_at hl 1 rfl) ?_
  refine fin_CI hW (run_V (k := 2) (As := [.int (iN v1)]) (rest := []) S hK hE hW (c_X1_lowestOf l G κ tl ad σ v1 _ hw s.heap.size) rfl rfl al_306 al_308 sl_X1_lowestOf al_5 al_309 hd_X1_lowestOf rfl rfl ⟨Nat.le_of_ble_eq_true rfl, Nat.le_of_ble_eq_true rfl⟩ rfl hl.1 rfl (Nat.le_of_ble_eq_true rfl) dX1_inCompass_2 ⟨Nat.zero_le _, Nat.zero_le _⟩) ?_
  intro r1 H locs hw hW
  refine lv_aload_n hx hb dX1_inCompass_5 rfl (lv_at hl 0 rfl) ?_
  refine g_getr hx hb hts hown hK hW 2 rfl (q := 3) rfl uw_X1 0 (by decide) rfl al_47 (fun _ h9 => h9) dX1_inCompass_6 ?_
  refine n_iconst hx hb dX1_inCompass_9 ?_
  refine g_ald hx hb hK hW 3 rfl (inb_c _ _ rfl) dX1_inCompass_10 ?_
  refine n_icmp_lt hx hb hw.1 hw.2.1 hw.2.2.1 hw.2.2.2 (tgt := 32) dX1_inCompass_11 (by decide) (fun hw => ?_) (fun hw => ?_)
  · exact hB32  H locs ls hw hW (lv_sub hl [] rfl)
  · refine lv_aload_n hx hb dX1_inCompass_14 rfl (lv_at hl 0 rfl) ?_
    refine lv_iload_n hx hb dX1_inCompass_15 rfl (lv_at hl 1 rfl) ?_
    refine fin_CI hW (run_V (k := 2) (As := [.int (iN v1)]) (rest := []) S hK hE hW (c_X1_highestOf l G κ tl ad σ v1 _ hw H.size) rfl rfl al_310 al_312 sl_X1_highestOf al_5 al_313 hd_X1_highestOf rfl rfl ⟨Nat.le_of_ble_eq_true rfl, Nat.le_of_ble_eq_true rfl⟩ rfl hl.1 rfl (Nat.le_of_ble_eq_true rfl) dX1_inCompass_16 ⟨Nat.zero_le _, Nat.zero_le _⟩) ?_
    intro r3 H locs hw hW
    refine lv_aload_n hx hb dX1_inCompass_19 rfl (lv_at hl 0 rfl) ?_
    refine g_getr hx hb hts hown hK hW 2 rfl (q := 3) rfl uw_X1 0 (by decide) rfl al_47 (fun _ h9 => h9) dX1_inCompass_20 ?_
    refine n_iconst hx hb dX1_inCompass_23 ?_
    refine g_ald hx hb hK hW 3 rfl (inb_c _ _ rfl) dX1_inCompass_24 ?_
    refine n_icmp_gt hx hb hw.1 hw.2.1 hw.2.2.1 hw.2.2.2 (tgt := 32) dX1_inCompass_25 (by decide) (fun hw => ?_) (fun hw => ?_)
    · exact hB32  H locs ls hw hW (lv_sub hl [] rfl)
    · refine n_iconst hx hb dX1_inCompass_28 ?_
      refine lv_goto (tgt := 33) hx hb dX1_inCompass_29 (by decide) ?_
      exact hB33 1 H locs ls hw hW (lv_sub hl [] rfl)
set_option maxHeartbeats 4000000 in
set_option maxRecDepth 100000 in
theorem c_X1_firstOfHand (l : Launch) (G : Gt) (κ : Nat)  (tl : Bool) (ad : Nat → Nat)  (σ : Mem) (v1 : Int) (v2 : Int) (post : Int → Prop) (hw : w_X1_firstOfHand  σ v1 v2 post) : CI l yX1_firstOfHand (Cond.code yX1_firstOfHand cX1_firstOfHand 4 (some .int)) ({ frames := 1, cells := 0, slots := 0, locals := 23 } : Room) G (shW κ tl) ad σ [.ref (ad 2), .int (iN v1), .int (iN v2)] post := by
  refine s_all (y := yX1_firstOfHand) (code := cX1_firstOfHand) (maxL := 4) (ret := (some .int)) (rm := ({ frames := 1, cells := 0, slots := 0, locals := 23 } : Room)) (av := [.ref (ad 2), .int (iN v1), .int (iN v2)]) (Qc := fun sz => QI G (shW κ tl) ad σ post (sz)) (by decide) (Nat.le_of_ble_eq_true rfl) ?_
  intro p e s m below meth c S hr hlk _ hK hE hW ls hl
  obtain ⟨hx, hb, hml, hown, hts⟩ := id S
  replace hl : lv_has ls 4 [(0, .ref (ad 2)), (1, .int (iN v1)), (2, .int (iN v2))] := hl
  have hL6 : ∀ (v1_6 : Int) (n : Nat) (v3_6 : Int) (H : Heap) (locs : List Loc) (ls : Array Slot), w_X1_firstOfHand_L6 σ v1_6 post n v3_6 → Wd G (shW κ tl) ad σ (Aw ad (shW κ tl).length s.heap.size) s.heap H locs → lv_has ls 4 [(0, .ref (ad 2)), (1, .int (iN v1_6)), (3, .int (iN v3_6))] → W p l e ({ frames := 1, cells := 0, slots := 0, locals := 23 } : Room) s m ([.ref (ad 2), .int (iN v1), .int (iN v2)] : List Value).toArray below meth c H locs 0 0 (MQ below (QI G (shW κ tl) ad σ post (s.heap.size)) ([.ref (ad 2), .int (iN v1), .int (iN v2)] : List Value).toArray s 0 0 (Aw ad (shW κ tl).length s.heap.size)) (F0 m 6 ls []) := by
    intro v1_6 n
    induction n with
    | zero =>
      intro v3_6 H locs ls hw
      exact hw.elim
    | succ n6 ih6 =>
      intro v3_6 H locs ls hw hW hl
      replace hw : w_X1_firstOfHand_L6_body σ v1_6 post (w_X1_firstOfHand_L6 σ v1_6 post n6) v3_6 := hw
      unfold w_X1_firstOfHand_L6_body at hw
      refine lv_iload_n hx hb dX1_firstOfHand_6 rfl (lv_at hl 2 rfl) ?_
      refine lv_aload_n hx hb dX1_firstOfHand_7 rfl (lv_at hl 0 rfl) ?_
      refine g_get hx hb hts hown hK hW 2 rfl rfl uw_X1 7 (by decide) rfl al_54 (fun _ h9 => h9) dX1_firstOfHand_8 ?_
      refine n_icmp_ge hx hb hw.1 hw.2.1 hw.2.2.1 hw.2.2.2 (tgt := 32) dX1_firstOfHand_11 (by decide) (fun hw => ?_) (fun hw => ?_)
      · refine n_iconst hx hb dX1_firstOfHand_32 ?_
        exact r_CI hx hb hr hlk hK hW hw dX1_firstOfHand_33
      · refine lv_aload_n hx hb dX1_firstOfHand_14 rfl (lv_at hl 0 rfl) ?_
        refine g_getr hx hb hts hown hK hW 2 rfl (q := 4) rfl uw_X1 1 (by decide) rfl al_48 (fun _ h9 => h9) dX1_firstOfHand_15 ?_
        refine lv_iload_n hx hb dX1_firstOfHand_18 rfl (lv_at hl 2 rfl) ?_
        refine g_ald hx hb hK hW 4 rfl hw.1 dX1_firstOfHand_19 ?_
        replace hw := hw.2
        refine lv_iload_n hx hb dX1_firstOfHand_20 rfl (lv_at hl 1 rfl) ?_
        refine n_icmp_ne hx hb hw.1 hw.2.1 hw.2.2.1 hw.2.2.2 (tgt := 26) dX1_firstOfHand_21 (by decide) (fun hw => ?_) (fun hw => ?_)
        · refine lv_iinc (v := iN (v3_6 + 1)) (lv' := [(3, .int (iN (v3_6 + 1))), (0, .ref (ad 2)), (1, .int (iN v1_6))]) hx hb dX1_firstOfHand_26 hl (k := 2) rfl (iN_add _ _) (by decide) rfl (fun ls hl => ?_)
          refine lv_goto (tgt := 6) hx hb dX1_firstOfHand_29 (by decide) ?_
          exact ih6 (v3_6 + 1) H locs ls hw hW (lv_sub hl [1, 2, 0] rfl)
        · refine lv_iload_n hx hb dX1_firstOfHand_24 rfl (lv_at hl 2 rfl) ?_
          exact r_CI hx hb hr hlk hK hW hw dX1_firstOfHand_25
  unfold w_X1_firstOfHand at hw
  refine n_iconst hx hb dX1_firstOfHand_0 ?_
  refine lv_iload_n hx hb dX1_firstOfHand_1 rfl (lv_at hl 2 rfl) ?_
  refine n_mmax hx hb (hml.trans hl.1.symm) hown (hts _ (List.mem_cons_of_mem _ al_482)) (hts _ (List.mem_cons_of_mem _ al_27)) (hts _ (List.mem_cons_of_mem _ al_2)) (hts _ (List.mem_cons_of_mem _ al_28)) (Nat.le_of_ble_eq_true rfl) (Nat.le_of_ble_eq_true rfl) (Nat.zero_le _) (Nat.zero_le _) (rg_c _ rfl) hw.1 dX1_firstOfHand_2 ?_
  replace hw := hw.2
  refine lv_istore_n (lv' := [(3, .int (iN (max 0 v2))), (0, .ref (ad 2)), (1, .int (iN v1)), (2, .int (iN v2))]) hx hb dX1_firstOfHand_5 rfl hl (by decide) rfl (fun ls hl => ?_)
  obtain ⟨n, hw⟩ := hw
  exact hL6 v1 n (max 0 v2) s.heap [] ls hw hW (lv_sub hl [1, 2, 0] rfl)
set_option maxHeartbeats 4000000 in
set_option maxRecDepth 100000 in
theorem c_X1_lastOfHand (l : Launch) (G : Gt) (κ : Nat)  (tl : Bool) (ad : Nat → Nat)  (σ : Mem) (v1 : Int) (v2 : Int) (post : Int → Prop) (hw : w_X1_lastOfHand  σ v1 v2 post) : CI l yX1_lastOfHand (Cond.code yX1_lastOfHand cX1_lastOfHand 4 (some .int)) ({ frames := 1, cells := 0, slots := 0, locals := 23 } : Room) G (shW κ tl) ad σ [.ref (ad 2), .int (iN v1), .int (iN v2)] post := by
  refine s_all (y := yX1_lastOfHand) (code := cX1_lastOfHand) (maxL := 4) (ret := (some .int)) (rm := ({ frames := 1, cells := 0, slots := 0, locals := 23 } : Room)) (av := [.ref (ad 2), .int (iN v1), .int (iN v2)]) (Qc := fun sz => QI G (shW κ tl) ad σ post (sz)) (by decide) (Nat.le_of_ble_eq_true rfl) ?_
  intro p e s m below meth c S hr hlk _ hK hE hW ls hl
  obtain ⟨hx, hb, hml, hown, hts⟩ := id S
  replace hl : lv_has ls 4 [(0, .ref (ad 2)), (1, .int (iN v1)), (2, .int (iN v2))] := hl
  have hL11 : ∀ (v1_11 : Int) (n : Nat) (v3_11 : Int) (H : Heap) (locs : List Loc) (ls : Array Slot), w_X1_lastOfHand_L11 σ v1_11 post n v3_11 → Wd G (shW κ tl) ad σ (Aw ad (shW κ tl).length s.heap.size) s.heap H locs → lv_has ls 4 [(0, .ref (ad 2)), (1, .int (iN v1_11)), (3, .int (iN v3_11))] → W p l e ({ frames := 1, cells := 0, slots := 0, locals := 23 } : Room) s m ([.ref (ad 2), .int (iN v1), .int (iN v2)] : List Value).toArray below meth c H locs 0 0 (MQ below (QI G (shW κ tl) ad σ post (s.heap.size)) ([.ref (ad 2), .int (iN v1), .int (iN v2)] : List Value).toArray s 0 0 (Aw ad (shW κ tl).length s.heap.size)) (F0 m 11 ls []) := by
    intro v1_11 n
    induction n with
    | zero =>
      intro v3_11 H locs ls hw
      exact hw.elim
    | succ n11 ih11 =>
      intro v3_11 H locs ls hw hW hl
      replace hw : w_X1_lastOfHand_L11_body σ v1_11 post (w_X1_lastOfHand_L11 σ v1_11 post n11) v3_11 := hw
      unfold w_X1_lastOfHand_L11_body at hw
      refine lv_iload_n hx hb dX1_lastOfHand_11 rfl (lv_at hl 2 rfl) ?_
      refine n_if_lt hx hb hw.1 hw.2.1 hw.2.2 (tgt := 33) dX1_lastOfHand_12 (by decide) (fun hw => ?_) (fun hw => ?_)
      · refine n_iconst hx hb dX1_lastOfHand_33 ?_
        exact r_CI hx hb hr hlk hK hW hw dX1_lastOfHand_34
      · refine lv_aload_n hx hb dX1_lastOfHand_15 rfl (lv_at hl 0 rfl) ?_
        refine g_getr hx hb hts hown hK hW 2 rfl (q := 4) rfl uw_X1 1 (by decide) rfl al_48 (fun _ h9 => h9) dX1_lastOfHand_16 ?_
        refine lv_iload_n hx hb dX1_lastOfHand_19 rfl (lv_at hl 2 rfl) ?_
        refine g_ald hx hb hK hW 4 rfl hw.1 dX1_lastOfHand_20 ?_
        replace hw := hw.2
        refine lv_iload_n hx hb dX1_lastOfHand_21 rfl (lv_at hl 1 rfl) ?_
        refine n_icmp_ne hx hb hw.1 hw.2.1 hw.2.2.1 hw.2.2.2 (tgt := 27) dX1_lastOfHand_22 (by decide) (fun hw => ?_) (fun hw => ?_)
        · refine lv_iinc (v := iN (v3_11 + (-1))) (lv' := [(3, .int (iN (v3_11 + (-1)))), (0, .ref (ad 2)), (1, .int (iN v1_11))]) hx hb dX1_lastOfHand_27 hl (k := 2) rfl (iN_add _ _) (by decide) rfl (fun ls hl => ?_)
          refine lv_goto (tgt := 11) hx hb dX1_lastOfHand_30 (by decide) ?_
          exact ih11 (v3_11 + (-1)) H locs ls hw hW (lv_sub hl [1, 2, 0] rfl)
        · refine lv_iload_n hx hb dX1_lastOfHand_25 rfl (lv_at hl 2 rfl) ?_
          exact r_CI hx hb hr hlk hK hW hw dX1_lastOfHand_26
  unfold w_X1_lastOfHand at hw
  refine lv_iload_n hx hb dX1_lastOfHand_0 rfl (lv_at hl 2 rfl) ?_
  refine lv_aload_n hx hb dX1_lastOfHand_1 rfl (lv_at hl 0 rfl) ?_
  refine g_get hx hb hts hown hK hW 2 rfl rfl uw_X1 7 (by decide) rfl al_54 (fun _ h9 => h9) dX1_lastOfHand_2 ?_
  refine n_mmin hx hb (hml.trans hl.1.symm) hown (hts _ (List.mem_cons_of_mem _ al_235)) (hts _ (List.mem_cons_of_mem _ al_24)) (hts _ (List.mem_cons_of_mem _ al_2)) (hts _ (List.mem_cons_of_mem _ al_25)) (Nat.le_of_ble_eq_true rfl) (Nat.le_of_ble_eq_true rfl) (Nat.zero_le _) (Nat.zero_le _) hw.1 hw.2.1 dX1_lastOfHand_5 ?_
  replace hw := hw.2.2
  refine n_iconst hx hb dX1_lastOfHand_8 ?_
  refine n_isub hx hb dX1_lastOfHand_9 ?_
  refine lv_istore_n (lv' := [(3, .int (iN ((min v2 (σ 2 7)) - 1))), (0, .ref (ad 2)), (1, .int (iN v1)), (2, .int (iN v2))]) hx hb dX1_lastOfHand_10 rfl hl (by decide) rfl (fun ls hl => ?_)
  obtain ⟨n, hw⟩ := hw
  exact hL11 v1 n ((min v2 (σ 2 7)) - 1) s.heap [] ls hw hW (lv_sub hl [1, 2, 0] rfl)
set_option maxHeartbeats 4000000 in
set_option maxRecDepth 100000 in
theorem c_X1_after (l : Launch) (G : Gt) (κ : Nat)  (tl : Bool) (ad : Nat → Nat)  (σ : Mem) (v1 : Int) (post : Int → Prop) (hw : w_X1_after  σ v1 post) : CI l yX1_after (Cond.code yX1_after cX1_after 2 (some .int)) ({ frames := 2, cells := 0, slots := 0, locals := 46 } : Room) G (shW κ tl) ad σ [.ref (ad 2), .int (iN v1)] post := by
  refine s_all (y := yX1_after) (code := cX1_after) (maxL := 2) (ret := (some .int)) (rm := ({ frames := 2, cells := 0, slots := 0, locals := 46 } : Room)) (av := [.ref (ad 2), .int (iN v1)]) (Qc := fun sz => QI G (shW κ tl) ad σ post (sz)) (by decide) (Nat.le_of_ble_eq_true rfl) ?_
  intro p e s m below meth c S hr hlk _ hK hE hW ls hl
  obtain ⟨hx, hb, hml, hown, hts⟩ := id S
  replace hl : lv_has ls 2 [(0, .ref (ad 2)), (1, .int (iN v1))] := hl
  unfold w_X1_after at hw
  refine lv_aload_n hx hb dX1_after_0 rfl (lv_at hl 0 rfl) ?_
  refine lv_aload_n hx hb dX1_after_1 rfl (lv_at hl 0 rfl) ?_
  refine lv_iload_n hx hb dX1_after_2 rfl (lv_at hl 1 rfl) ?_
  refine fin_CI hW (run_V (k := 2) (As := [.int (iN v1)]) (rest := [.ref (ad 2)]) S hK hE hW (c_X1_handOf l G κ tl ad σ v1 _ hw s.heap.size) rfl rfl al_477 al_343 sl_X1_handOf al_5 al_344 hd_X1_handOf rfl rfl ⟨Nat.le_of_ble_eq_true rfl, Nat.le_of_ble_eq_true rfl⟩ rfl hl.1 rfl (Nat.le_of_ble_eq_true rfl) dX1_after_3 ⟨Nat.zero_le _, Nat.zero_le _⟩) ?_
  intro r1 H locs hw hW
  refine lv_iload_n hx hb dX1_after_6 rfl (lv_at hl 1 rfl) ?_
  refine n_iconst hx hb dX1_after_7 ?_
  refine n_iadd hx hb dX1_after_8 ?_
  refine fin_CI hW (run_V (k := 2) (As := [.int (iN r1), .int (iN (v1 + 1))]) (rest := []) S hK hE hW (c_X1_firstOfHand l G κ tl ad σ r1 (v1 + 1) _ hw H.size) rfl rfl al_478 al_480 sl_X1_firstOfHand al_5 al_481 hd_X1_firstOfHand rfl rfl ⟨Nat.le_of_ble_eq_true rfl, Nat.le_of_ble_eq_true rfl⟩ rfl hl.1 rfl (Nat.le_of_ble_eq_true rfl) dX1_after_9 ⟨Nat.zero_le _, Nat.zero_le _⟩) ?_
  intro r3 H locs hw hW
  exact r_CI hx hb hr hlk hK hW hw dX1_after_12
set_option maxHeartbeats 4000000 in
set_option maxRecDepth 100000 in
theorem c_X1_before (l : Launch) (G : Gt) (κ : Nat)  (tl : Bool) (ad : Nat → Nat)  (σ : Mem) (v1 : Int) (post : Int → Prop) (hw : w_X1_before  σ v1 post) : CI l yX1_before (Cond.code yX1_before cX1_before 2 (some .int)) ({ frames := 2, cells := 0, slots := 0, locals := 46 } : Room) G (shW κ tl) ad σ [.ref (ad 2), .int (iN v1)] post := by
  refine s_all (y := yX1_before) (code := cX1_before) (maxL := 2) (ret := (some .int)) (rm := ({ frames := 2, cells := 0, slots := 0, locals := 46 } : Room)) (av := [.ref (ad 2), .int (iN v1)]) (Qc := fun sz => QI G (shW κ tl) ad σ post (sz)) (by decide) (Nat.le_of_ble_eq_true rfl) ?_
  intro p e s m below meth c S hr hlk _ hK hE hW ls hl
  obtain ⟨hx, hb, hml, hown, hts⟩ := id S
  replace hl : lv_has ls 2 [(0, .ref (ad 2)), (1, .int (iN v1))] := hl
  unfold w_X1_before at hw
  refine lv_aload_n hx hb dX1_before_0 rfl (lv_at hl 0 rfl) ?_
  refine lv_aload_n hx hb dX1_before_1 rfl (lv_at hl 0 rfl) ?_
  refine lv_iload_n hx hb dX1_before_2 rfl (lv_at hl 1 rfl) ?_
  refine fin_CI hW (run_V (k := 2) (As := [.int (iN v1)]) (rest := [.ref (ad 2)]) S hK hE hW (c_X1_handOf l G κ tl ad σ v1 _ hw s.heap.size) rfl rfl al_477 al_343 sl_X1_handOf al_5 al_344 hd_X1_handOf rfl rfl ⟨Nat.le_of_ble_eq_true rfl, Nat.le_of_ble_eq_true rfl⟩ rfl hl.1 rfl (Nat.le_of_ble_eq_true rfl) dX1_before_3 ⟨Nat.zero_le _, Nat.zero_le _⟩) ?_
  intro r1 H locs hw hW
  refine lv_iload_n hx hb dX1_before_6 rfl (lv_at hl 1 rfl) ?_
  refine fin_CI hW (run_V (k := 2) (As := [.int (iN r1), .int (iN v1)]) (rest := []) S hK hE hW (c_X1_lastOfHand l G κ tl ad σ r1 v1 _ hw H.size) rfl rfl al_578 al_233 sl_X1_lastOfHand al_5 al_234 hd_X1_lastOfHand rfl rfl ⟨Nat.le_of_ble_eq_true rfl, Nat.le_of_ble_eq_true rfl⟩ rfl hl.1 rfl (Nat.le_of_ble_eq_true rfl) dX1_before_7 ⟨Nat.zero_le _, Nat.zero_le _⟩) ?_
  intro r3 H locs hw hW
  exact r_CI hx hb hr hlk hK hW hw dX1_before_10
set_option maxHeartbeats 4000000 in
set_option maxRecDepth 100000 in
theorem c_X1_countOfHand (l : Launch) (G : Gt) (κ : Nat)  (tl : Bool) (ad : Nat → Nat)  (σ : Mem) (v1 : Int) (post : Int → Prop) (hw : w_X1_countOfHand  σ v1 post) : CI l yX1_countOfHand (Cond.code yX1_countOfHand cX1_countOfHand 4 (some .int)) ({ frames := 0, cells := 0, slots := 0, locals := 0 } : Room) G (shW κ tl) ad σ [.ref (ad 2), .int (iN v1)] post := by
  refine s_all (y := yX1_countOfHand) (code := cX1_countOfHand) (maxL := 4) (ret := (some .int)) (rm := ({ frames := 0, cells := 0, slots := 0, locals := 0 } : Room)) (av := [.ref (ad 2), .int (iN v1)]) (Qc := fun sz => QI G (shW κ tl) ad σ post (sz)) (by decide) (Nat.le_of_ble_eq_true rfl) ?_
  intro p e s m below meth c S hr hlk _ hK hE hW ls hl
  obtain ⟨hx, hb, hml, hown, hts⟩ := id S
  replace hl : lv_has ls 4 [(0, .ref (ad 2)), (1, .int (iN v1))] := hl
  have hL4 : ∀ (v1_4 : Int) (n : Nat) (v2_4 : Int) (v3_4 : Int) (H : Heap) (locs : List Loc) (ls : Array Slot), w_X1_countOfHand_L4 σ v1_4 post n v2_4 v3_4 → Wd G (shW κ tl) ad σ (Aw ad (shW κ tl).length s.heap.size) s.heap H locs → lv_has ls 4 [(0, .ref (ad 2)), (1, .int (iN v1_4)), (2, .int (iN v2_4)), (3, .int (iN v3_4))] → W p l e ({ frames := 0, cells := 0, slots := 0, locals := 0 } : Room) s m ([.ref (ad 2), .int (iN v1)] : List Value).toArray below meth c H locs 0 0 (MQ below (QI G (shW κ tl) ad σ post (s.heap.size)) ([.ref (ad 2), .int (iN v1)] : List Value).toArray s 0 0 (Aw ad (shW κ tl).length s.heap.size)) (F0 m 4 ls []) := by
    intro v1_4 n
    induction n with
    | zero =>
      intro v2_4 v3_4 H locs ls hw
      exact hw.elim
    | succ n4 ih4 =>
      intro v2_4 v3_4 H locs ls hw hW hl
      replace hw : w_X1_countOfHand_L4_body σ v1_4 post (w_X1_countOfHand_L4 σ v1_4 post n4) v2_4 v3_4 := hw
      have hB28 : ∀  (v3_28 : Int) (s0_28 : Int) (s1_28 : Int) (H : Heap) (locs : List Loc) (ls : Array Slot), w_X1_countOfHand_B28 σ v1_4 v3_28 s0_28 s1_28 post (w_X1_countOfHand_L4 σ v1_4 post n4) → Wd G (shW κ tl) ad σ (Aw ad (shW κ tl).length s.heap.size) s.heap H locs → lv_has ls 4 [(0, .ref (ad 2)), (1, .int (iN v1_4)), (3, .int (iN v3_28))] → W p l e ({ frames := 0, cells := 0, slots := 0, locals := 0 } : Room) s m ([.ref (ad 2), .int (iN v1)] : List Value).toArray below meth c H locs 0 0 (MQ below (QI G (shW κ tl) ad σ post (s.heap.size)) ([.ref (ad 2), .int (iN v1)] : List Value).toArray s 0 0 (Aw ad (shW κ tl).length s.heap.size)) (F0 m 28 ls [.int (iN s0_28), .int (iN s1_28)]) := by
        intro v3_28 s0_28 s1_28 H locs ls hw hW hl
        unfold w_X1_countOfHand_B28 at hw
        refine n_iadd hx hb dX1_countOfHand_28 ?_
        refine lv_istore_n (lv' := [(2, .int (iN (s1_28 + s0_28))), (0, .ref (ad 2)), (1, .int (iN v1_4)), (3, .int (iN v3_28))]) hx hb dX1_countOfHand_29 rfl hl (by decide) rfl (fun ls hl => ?_)
        refine lv_iinc (v := iN (v3_28 + 1)) (lv' := [(3, .int (iN (v3_28 + 1))), (2, .int (iN (s1_28 + s0_28))), (0, .ref (ad 2)), (1, .int (iN v1_4))]) hx hb dX1_countOfHand_30 hl (k := 3) rfl (iN_add _ _) (by decide) rfl (fun ls hl => ?_)
        refine lv_goto (tgt := 4) hx hb dX1_countOfHand_33 (by decide) ?_
        exact ih4 (s1_28 + s0_28) (v3_28 + 1) H locs ls hw hW (lv_sub hl [2, 3, 1, 0] rfl)
      unfold w_X1_countOfHand_L4_body at hw
      refine lv_iload_n hx hb dX1_countOfHand_4 rfl (lv_at hl 3 rfl) ?_
      refine lv_aload_n hx hb dX1_countOfHand_5 rfl (lv_at hl 0 rfl) ?_
      refine g_get hx hb hts hown hK hW 2 rfl rfl uw_X1 7 (by decide) rfl al_54 (fun _ h9 => h9) dX1_countOfHand_6 ?_
      refine n_icmp_ge hx hb hw.1 hw.2.1 hw.2.2.1 hw.2.2.2 (tgt := 36) dX1_countOfHand_9 (by decide) (fun hw => ?_) (fun hw => ?_)
      · refine lv_iload_n hx hb dX1_countOfHand_36 rfl (lv_at hl 2 rfl) ?_
        exact r_CI hx hb hr hlk hK hW hw dX1_countOfHand_37
      · refine lv_iload_n hx hb dX1_countOfHand_12 rfl (lv_at hl 2 rfl) ?_
        refine lv_aload_n hx hb dX1_countOfHand_13 rfl (lv_at hl 0 rfl) ?_
        refine g_getr hx hb hts hown hK hW 2 rfl (q := 4) rfl uw_X1 1 (by decide) rfl al_48 (fun _ h9 => h9) dX1_countOfHand_14 ?_
        refine lv_iload_n hx hb dX1_countOfHand_17 rfl (lv_at hl 3 rfl) ?_
        refine g_ald hx hb hK hW 4 rfl hw.1 dX1_countOfHand_18 ?_
        replace hw := hw.2
        refine lv_iload_n hx hb dX1_countOfHand_19 rfl (lv_at hl 1 rfl) ?_
        refine n_icmp_ne hx hb hw.1 hw.2.1 hw.2.2.1 hw.2.2.2 (tgt := 27) dX1_countOfHand_20 (by decide) (fun hw => ?_) (fun hw => ?_)
        · refine n_iconst hx hb dX1_countOfHand_27 ?_
          exact hB28 v3_4 0 v2_4 H locs ls hw hW (lv_sub hl [0, 1, 3] rfl)
        · refine n_iconst hx hb dX1_countOfHand_23 ?_
          refine lv_goto (tgt := 28) hx hb dX1_countOfHand_24 (by decide) ?_
          exact hB28 v3_4 1 v2_4 H locs ls hw hW (lv_sub hl [0, 1, 3] rfl)
  unfold w_X1_countOfHand at hw
  refine n_iconst hx hb dX1_countOfHand_0 ?_
  refine lv_istore_n (lv' := [(2, .int (iN 0)), (0, .ref (ad 2)), (1, .int (iN v1))]) hx hb dX1_countOfHand_1 rfl hl (by decide) rfl (fun ls hl => ?_)
  refine n_iconst hx hb dX1_countOfHand_2 ?_
  refine lv_istore_n (lv' := [(3, .int (iN 0)), (2, .int (iN 0)), (0, .ref (ad 2)), (1, .int (iN v1))]) hx hb dX1_countOfHand_3 rfl hl (by decide) rfl (fun ls hl => ?_)
  obtain ⟨n, hw⟩ := hw
  exact hL4 v1 n 0 0 s.heap [] ls hw hW (lv_sub hl [2, 3, 1, 0] rfl)
set_option maxHeartbeats 4000000 in
set_option maxRecDepth 100000 in
theorem c_X1_countPinned (l : Launch) (G : Gt) (κ : Nat)  (tl : Bool) (ad : Nat → Nat)  (σ : Mem)  (post : Int → Prop) (hw : w_X1_countPinned  σ  post) : CI l yX1_countPinned (Cond.code yX1_countPinned cX1_countPinned 3 (some .int)) ({ frames := 0, cells := 0, slots := 0, locals := 0 } : Room) G (shW κ tl) ad σ [.ref (ad 2)] post := by
  refine s_all (y := yX1_countPinned) (code := cX1_countPinned) (maxL := 3) (ret := (some .int)) (rm := ({ frames := 0, cells := 0, slots := 0, locals := 0 } : Room)) (av := [.ref (ad 2)]) (Qc := fun sz => QI G (shW κ tl) ad σ post (sz)) (by decide) (Nat.le_of_ble_eq_true rfl) ?_
  intro p e s m below meth c S hr hlk _ hK hE hW ls hl
  obtain ⟨hx, hb, hml, hown, hts⟩ := id S
  replace hl : lv_has ls 3 [(0, .ref (ad 2))] := hl
  have hL4 : ∀  (n : Nat) (v1_4 : Int) (v2_4 : Int) (H : Heap) (locs : List Loc) (ls : Array Slot), w_X1_countPinned_L4 σ post n v1_4 v2_4 → Wd G (shW κ tl) ad σ (Aw ad (shW κ tl).length s.heap.size) s.heap H locs → lv_has ls 3 [(0, .ref (ad 2)), (1, .int (iN v1_4)), (2, .int (iN v2_4))] → W p l e ({ frames := 0, cells := 0, slots := 0, locals := 0 } : Room) s m ([.ref (ad 2)] : List Value).toArray below meth c H locs 0 0 (MQ below (QI G (shW κ tl) ad σ post (s.heap.size)) ([.ref (ad 2)] : List Value).toArray s 0 0 (Aw ad (shW κ tl).length s.heap.size)) (F0 m 4 ls []) := by
    intro  n
    induction n with
    | zero =>
      intro v1_4 v2_4 H locs ls hw
      exact hw.elim
    | succ n4 ih4 =>
      intro v1_4 v2_4 H locs ls hw hW hl
      replace hw : w_X1_countPinned_L4_body σ post (w_X1_countPinned_L4 σ post n4) v1_4 v2_4 := hw
      have hB29 : ∀  (v2_29 : Int) (s0_29 : Int) (s1_29 : Int) (H : Heap) (locs : List Loc) (ls : Array Slot), w_X1_countPinned_B29 σ v2_29 s0_29 s1_29 post (w_X1_countPinned_L4 σ post n4) → Wd G (shW κ tl) ad σ (Aw ad (shW κ tl).length s.heap.size) s.heap H locs → lv_has ls 3 [(0, .ref (ad 2)), (2, .int (iN v2_29))] → W p l e ({ frames := 0, cells := 0, slots := 0, locals := 0 } : Room) s m ([.ref (ad 2)] : List Value).toArray below meth c H locs 0 0 (MQ below (QI G (shW κ tl) ad σ post (s.heap.size)) ([.ref (ad 2)] : List Value).toArray s 0 0 (Aw ad (shW κ tl).length s.heap.size)) (F0 m 29 ls [.int (iN s0_29), .int (iN s1_29)]) := by
        intro v2_29 s0_29 s1_29 H locs ls hw hW hl
        unfold w_X1_countPinned_B29 at hw
        refine n_iadd hx hb dX1_countPinned_29 ?_
        refine lv_istore_n (lv' := [(1, .int (iN (s1_29 + s0_29))), (0, .ref (ad 2)), (2, .int (iN v2_29))]) hx hb dX1_countPinned_30 rfl hl (by decide) rfl (fun ls hl => ?_)
        refine lv_iinc (v := iN (v2_29 + 1)) (lv' := [(2, .int (iN (v2_29 + 1))), (1, .int (iN (s1_29 + s0_29))), (0, .ref (ad 2))]) hx hb dX1_countPinned_31 hl (k := 2) rfl (iN_add _ _) (by decide) rfl (fun ls hl => ?_)
        refine lv_goto (tgt := 4) hx hb dX1_countPinned_34 (by decide) ?_
        exact ih4 (s1_29 + s0_29) (v2_29 + 1) H locs ls hw hW (lv_sub hl [2, 1, 0] rfl)
      unfold w_X1_countPinned_L4_body at hw
      refine lv_iload_n hx hb dX1_countPinned_4 rfl (lv_at hl 2 rfl) ?_
      refine lv_aload_n hx hb dX1_countPinned_5 rfl (lv_at hl 0 rfl) ?_
      refine g_get hx hb hts hown hK hW 2 rfl rfl uw_X1 7 (by decide) rfl al_54 (fun _ h9 => h9) dX1_countPinned_6 ?_
      refine n_icmp_ge hx hb hw.1 hw.2.1 hw.2.2.1 hw.2.2.2 (tgt := 37) dX1_countPinned_9 (by decide) (fun hw => ?_) (fun hw => ?_)
      · refine lv_iload_n hx hb dX1_countPinned_37 rfl (lv_at hl 1 rfl) ?_
        exact r_CI hx hb hr hlk hK hW hw dX1_countPinned_38
      · refine lv_iload_n hx hb dX1_countPinned_12 rfl (lv_at hl 1 rfl) ?_
        refine lv_aload_n hx hb dX1_countPinned_13 rfl (lv_at hl 0 rfl) ?_
        refine g_getr hx hb hts hown hK hW 2 rfl (q := 8) rfl uw_X1 5 (by decide) rfl al_52 (fun _ h9 => h9) dX1_countPinned_14 ?_
        refine lv_iload_n hx hb dX1_countPinned_17 rfl (lv_at hl 2 rfl) ?_
        refine g_ald hx hb hK hW 8 rfl hw.1 dX1_countPinned_18 ?_
        replace hw := hw.2
        refine n_bipush hx hb dX1_countPinned_19 (by decide) ?_
        refine n_icmp_eq hx hb hw.1 (rg_c _ rfl) hw.2.1 hw.2.2 (tgt := 28) dX1_countPinned_21 (by decide) (fun hw => ?_) (fun hw => ?_)
        · refine n_iconst hx hb dX1_countPinned_28 ?_
          exact hB29 v2_4 0 v1_4 H locs ls hw hW (lv_sub hl [0, 2] rfl)
        · refine n_iconst hx hb dX1_countPinned_24 ?_
          refine lv_goto (tgt := 29) hx hb dX1_countPinned_25 (by decide) ?_
          exact hB29 v2_4 1 v1_4 H locs ls hw hW (lv_sub hl [0, 2] rfl)
  unfold w_X1_countPinned at hw
  refine n_iconst hx hb dX1_countPinned_0 ?_
  refine lv_istore_n (lv' := [(1, .int (iN 0)), (0, .ref (ad 2))]) hx hb dX1_countPinned_1 rfl hl (by decide) rfl (fun ls hl => ?_)
  refine n_iconst hx hb dX1_countPinned_2 ?_
  refine lv_istore_n (lv' := [(2, .int (iN 0)), (1, .int (iN 0)), (0, .ref (ad 2))]) hx hb dX1_countPinned_3 rfl hl (by decide) rfl (fun ls hl => ?_)
  obtain ⟨n, hw⟩ := hw
  exact hL4 n 0 0 s.heap [] ls hw hW (lv_sub hl [2, 1, 0] rfl)
