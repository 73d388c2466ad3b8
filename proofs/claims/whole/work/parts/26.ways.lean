section WAYS
variable {p : Program} {l : Launch} {e : Env} {R : Room} {s : State} {m : MethodId} {args : Array Value} {below : List Frame} {meth : Method} {c : Code} {H : Heap} {locs : List Loc} {cells slots : Nat} {Q : State → Prop} {pc : Nat} {ls : Array Slot} {rest st : List Value} {G : Gt} {ad : Nat → Nat} {σ : Mem} {A : Nat → Prop} {c0 : Cond}
theorem fin_CVA {sh : List Shp} {a : Array Value} {post : Mem → Prop} (hA : ∀ q, s.heap.size ≤ q → A q) (hW : Wd G sh ad σ A s.heap H locs) (hr : va_Run p l e R s m args below meth c H locs cells slots 0 0 (F0 m pc ls st) rest (va_Qv (fun (u : Mem) => post u) (fun u t => Bw G sh ad u H.size t) (Aw ad sh.length H.size) a) (Aw ad sh.length H.size))
    (kk : ∀ (τ : Mem) (H1 : Heap) (locs1 : List Loc), post τ → Wd G sh ad τ A s.heap H1 locs1 → W p l e R s m args below meth c H1 locs1 cells slots Q (F0 m (pc + 3) ls rest)) : W p l e R s m args below meth c H locs cells slots Q (F0 m pc ls st) :=
  va_callv hr hW.2.2 (fun q _ h => AwA hW hA q h) (fun q h => AwA hW hA q h) (fun u t H1 locs1 ht _ hp hB _ _ hS => kk u H1 locs1 hp (hW.backA hA ht hB hS))
theorem run_UA {cc : ByteArray} {own : String} {sh : List Shp} {nL n index maxL : Nat} {x y : MethodName} {bytes : ByteArray} {ret : Option FieldType} {rm : Room} {As : List Value} {Qc : Array Value → State → Outcome → State → Prop} {free : Addr → Prop} {k : Nat} {owner : String} (S : CallFix p m c cc nL s args (c0 :: ALL) own) (hK : Kx G s) (hE : Ex A s) (hA : ∀ q, s.heap.size ≤ q → A q) (hW : Wd G sh ad σ A s.heap H locs) (hM : Met l y (Cond.code y bytes maxL ret :: ALL) rm (va_Pc (.ref (ad k) :: As) (Pst G sh ad σ H.size)) Qc 0 0 free) {ci : Nat} {fs : List Fld} (hk : sh[k]? = some (.inr (ci, fs))) {C : String} {T : u_T} {N : Nat} (hc : vwCl[ci]? = some (C, T, N))
    (h1 : Cond.methodLink own index x ∈ ALL) (h2 : Cond.sameMethod x.cls owner x.name x.desc ∈ ALL) (h3 : Cond.selects C x y ∈ ALL) (h4 : Cond.instanceMethod y ∈ ALL) (h6 : Cond.initialized y.cls ∈ ALL) (h5 : Cond.code y bytes maxL ret ∈ ALL) (hyx : y = ⟨owner, x.name, x.desc⟩) (hd : owner ≠ "java/lang/invoke/MethodHandle" ∧ owner ≠ "java/lang/invoke/VarHandle" ∧ (parseMethodDescriptor x.desc).map (fun d => d.parameters.length) = some n) (hrc : rm.cells = 0) (hrs : rm.slots = 0) (hR : rm.frames + 1 ≤ R.frames ∧ 8 + (maxL + 11) + rm.locals ≤ R.locals) (hn : As.length = n) (hsz : ls.size = nL) (hst : st = As.reverse ++ .ref (ad k) :: rest) (hroom : (rest.map fun v => v.category).sum ≤ 8) (hdg : decode cc pc = .ok (.invokevirtual index, 3)) (hcs : cells ≤ R.cells ∧ slots ≤ R.slots) :
    va_Run p l e R s m args below meth c H locs cells slots 0 0 (F0 m pc ls st) rest (Qc (Value.ref (ad k) :: As).toArray) free :=
  va_runU (As := As) (rest := rest) S hM (va_cwU n S.2.2.2.2 (GoodAp (GoodB (mem5 h1 h2 h3 h4 h6)) (GoodA h5)) rfl hrc hrs hyx hd hR) ⟨Pst.blind G sh ad σ H.size _, hW.recv hK hk hc, Pst.preA hK hE hA hW _⟩ rfl hn hsz hst (lv_room hroom) hdg hcs
def w_ways (κ : Nat) (σ : Mem) (v1 : Int) (post : Int → Mem → Prop) : Prop := rg (σ 35 5) ∧ (v1 ≤ σ 35 5 → w_X7_sumTo κ σ v1 (fun r => post r σ)) ∧ (σ 35 5 < v1 → w_X2_listAll κ σ (fun τ => w_X7_run κ τ v1 (fun τ1 => w_X7_sumTo κ τ1 v1 (fun r => post r τ1))))
theorem ways_tail {κ : Nat} {v1 : Int} {post : Int → Mem → Prop} (hκ : κ < 5) (S : CallFix p m c cX9_ways 2 s args (c0 :: ALL) RX9) (hK : Kx G s) (hE : Ex A s) (hA : ∀ q, s.heap.size ≤ q → A q) (hW : Wd G (shW κ true) ad σ A s.heap H locs) (hl : lv_has ls 2 [(0, .ref (ad 0)), (1, .int (iN v1))]) (hr1 : rg v1) (hw : w_ways κ σ v1 post) (hf : 6 ≤ R.frames) (hlo : 154 ≤ R.locals) (hcs : cells ≤ R.cells ∧ slots ≤ R.slots)
    (kk : ∀ (x : Int) (τ : Mem) (H1 : Heap) (locs1 : List Loc), post x τ → Wd G (shW κ true) ad τ A s.heap H1 locs1 → W p l e R s m args below meth c H1 locs1 cells slots Q (F0 m 76 ls [.int (iN x)])) : W p l e R s m args below meth c H locs cells slots Q (F0 m 38 ls []) := by
  obtain ⟨hx, hb, hml, hown, hts⟩ := id S
  have tail : ∀ (τ : Mem) (H : Heap) (locs : List Loc), w_X7_sumTo κ τ v1 (fun r => post r τ) → Wd G (shW κ true) ad τ A s.heap H locs → W p l e R s m args below meth c H locs cells slots Q (F0 m 68 ls []) := by
    intro τ H locs hw hW
    refine lv_aload_n hx hb dX9_ways_68 rfl (lv_at hl 0 rfl) ?_
    refine g_getr hx hb hts hown hK hW 0 rfl (q := 35) rfl uw_X9 3 (by decide) rfl al_203 (fun _ h9 => h9) dX9_ways_69 ?_
    refine lv_iload_n hx hb dX9_ways_72 rfl (lv_at hl 1 rfl) ?_
    refine fin_CIA hA hW (run_VA (k := 35) (As := [.int (iN v1)]) (rest := []) S hK hE hA hW (c_X7_sumTo l G κ hκ ad τ v1 _ hw H.size) rfl rfl al_730 al_731 al_732 al_13 al_733 hd_X7_sumTo rfl rfl ⟨Nat.le_trans (by decide) hf, Nat.le_trans (by decide) hlo⟩ rfl hl.1 rfl (Nat.le_of_ble_eq_true rfl) dX9_ways_73 hcs) ?_
    intro x H1 locs1 hp hW
    exact kk x τ H1 locs1 hp hW
  obtain ⟨hg, hw1, hw2⟩ := hw
  refine lv_aload_n hx hb dX9_ways_38 rfl (lv_at hl 0 rfl) ?_
  refine g_getr hx hb hts hown hK hW 0 rfl (q := 35) rfl uw_X9 3 (by decide) rfl al_203 (fun _ h9 => h9) dX9_ways_39 ?_
  refine g_getN hx hb hts hown hK hE hW 35 rfl rfl uw_X7 5 (by decide) rfl 8 rfl (fun _ h9 => h9) dX9_ways_42 ?_
  refine lv_iload_n hx hb dX9_ways_45 rfl (lv_at hl 1 rfl) ?_
  refine n_icmp_ge hx hb hg hr1 (X := v1 ≤ σ 35 5) (Y := σ 35 5 < v1) id id (tgt := 68) dX9_ways_46 (by decide) (fun h => ?_) (fun h => ?_)
  · exact tail σ H locs (hw1 h) hW
  · have hw := hw2 h
    refine lv_aload_n hx hb dX9_ways_49 rfl (lv_at hl 0 rfl) ?_
    refine g_getr hx hb hts hown hK hW 0 rfl (q := 1) rfl uw_X9 1 (by decide) rfl al_201 (fun _ h9 => h9) dX9_ways_50 ?_
    refine fin_CVA hA hW (run_UA (k := 1) (As := []) (rest := []) S hK hE hA hW (c_X2_listAll l G κ hκ true ad σ _ hw H.size) rfl (hcP hκ) al_293 al_295 (se_X2_X2_listAll hκ) al_294 al_3 al_301 rfl hd_X2_listAll.2 rfl rfl ⟨Nat.le_trans (by decide) hf, Nat.le_trans (by decide) hlo⟩ rfl hl.1 rfl (Nat.le_of_ble_eq_true rfl) dX9_ways_53 hcs) ?_
    intro τ H locs hw hW
    refine lv_aload_n hx hb dX9_ways_56 rfl (lv_at hl 0 rfl) ?_
    refine g_getr hx hb hts hown hK hW 0 rfl (q := 35) rfl uw_X9 3 (by decide) rfl al_203 (fun _ h9 => h9) dX9_ways_57 ?_
    refine lv_aload_n hx hb dX9_ways_60 rfl (lv_at hl 0 rfl) ?_
    refine g_getr hx hb hts hown hK hW 0 rfl (q := 1) rfl uw_X9 1 (by decide) rfl al_201 (fun _ h9 => h9) dX9_ways_61 ?_
    refine lv_iload_n hx hb dX9_ways_64 rfl (lv_at hl 1 rfl) ?_
    refine fin_CVA hA hW (run_VA (k := 35) (As := [.ref (ad 1), .int (iN v1)]) (rest := []) S hK hE hA hW (c_X7_run l G κ hκ ad τ v1 _ hw H.size) rfl rfl al_667 al_668 al_669 al_13 al_670 hd_X7_run rfl rfl ⟨Nat.le_trans (by decide) hf, Nat.le_trans (by decide) hlo⟩ rfl hl.1 rfl (Nat.le_of_ble_eq_true rfl) dX9_ways_65 hcs) ?_
    intro τ1 H locs hw hW
    exact tail τ1 H locs hw hW
end WAYS
theorem c_X9_ways_out (l : Launch) (G : Gt) (κ : Nat) (tl : Bool) (ad : Nat → Nat) (σ : Mem) (v1 : Int) (hr1 : rg v1) (hv : v1 < 0 ∨ 300 < v1) (post : Int → Prop) (hp : post (-1)) : CI l yX9_ways (Cond.code yX9_ways cX9_ways 2 (some .int)) ({ frames := 6, cells := 0, slots := 0, locals := 154 } : Room) G (shW κ tl) ad σ [.ref (ad 0), .int (iN v1)] post := by
  refine s_all (y := yX9_ways) (code := cX9_ways) (maxL := 2) (ret := (some .int)) (rm := ({ frames := 6, cells := 0, slots := 0, locals := 154 } : Room)) (av := [.ref (ad 0), .int (iN v1)]) (Qc := fun sz => QI G (shW κ tl) ad σ post (sz)) (by decide) (Nat.le_of_ble_eq_true rfl) ?_
  intro p e s m below meth c S hr hlk _ hK hE hW ls hl
  obtain ⟨hx, hb, hml, hown, hts⟩ := id S
  replace hl : lv_has ls 2 [(0, .ref (ad 0)), (1, .int (iN v1))] := hl
  refine lv_iload_n hx hb dX9_ways_0 rfl (lv_at hl 1 rfl) ?_
  refine n_if_lt hx hb hr1 (X := v1 < 0) (Y := 0 ≤ v1) id id (tgt := 11) dX9_ways_1 (by decide) (fun h => ?_) (fun h => ?_)
  · refine n_iconst hx hb dX9_ways_11 ?_
    exact r_CI hx hb hr hlk hK hW hp dX9_ways_12
  · refine lv_iload_n hx hb dX9_ways_4 rfl (lv_at hl 1 rfl) ?_
    refine n_sipush hx hb dX9_ways_5 (by decide) ?_
    refine n_icmp_le hx hb hr1 (rg_c _ rfl) (X := v1 ≤ 300) (Y := 300 < v1) id id (tgt := 13) dX9_ways_8 (by decide) (fun h2 => ?_) (fun h2 => ?_)
    · exact absurd hv (by omega)
    · refine n_iconst hx hb dX9_ways_11 ?_
      exact r_CI hx hb hr hlk hK hW hp dX9_ways_12
theorem c_X9_ways_t (l : Launch) (G : Gt) (κ : Nat) (hκ : κ < 5) (ad : Nat → Nat) (σ : Mem) (v1 : Int) (hr1 : rg v1) (hv0 : 0 ≤ v1) (hv1 : v1 ≤ 300) (post : Int → Mem → Prop) (hw : w_ways κ σ v1 post) : CM l yX9_ways (Cond.code yX9_ways cX9_ways 2 (some .int)) ({ frames := 6, cells := 0, slots := 0, locals := 154 } : Room) G (shW κ true) ad σ [.ref (ad 0), .int (iN v1)] post := by
  refine s_all (y := yX9_ways) (code := cX9_ways) (maxL := 2) (ret := (some .int)) (rm := ({ frames := 6, cells := 0, slots := 0, locals := 154 } : Room)) (av := [.ref (ad 0), .int (iN v1)]) (Qc := fun sz => QM G (shW κ true) ad post (sz)) (by decide) (Nat.le_of_ble_eq_true rfl) ?_
  intro p e s m below meth c S hr hlk _ hK hE hW ls hl
  obtain ⟨hx, hb, hml, hown, hts⟩ := id S
  replace hl : lv_has ls 2 [(0, .ref (ad 0)), (1, .int (iN v1))] := hl
  refine lv_iload_n hx hb dX9_ways_0 rfl (lv_at hl 1 rfl) ?_
  refine n_if_lt hx hb hr1 (X := v1 < 0) (Y := 0 ≤ v1) id id (tgt := 11) dX9_ways_1 (by decide) (fun h => absurd h (by omega)) (fun h => ?_)
  refine lv_iload_n hx hb dX9_ways_4 rfl (lv_at hl 1 rfl) ?_
  refine n_sipush hx hb dX9_ways_5 (by decide) ?_
  refine n_icmp_le hx hb hr1 (rg_c _ rfl) (X := v1 ≤ 300) (Y := 300 < v1) id id (tgt := 13) dX9_ways_8 (by decide) (fun h2 => ?_) (fun h2 => absurd h2 (by omega))
  refine lv_aload_n hx hb dX9_ways_13 rfl (lv_at hl 0 rfl) ?_
  refine g_getr hx hb hts hown hK hW 0 rfl (q := 35) rfl uw_X9 3 (by decide) rfl al_203 (fun _ h9 => h9) dX9_ways_14 ?_
  refine lv_ifnonnull (tgt := 38) hx hb dX9_ways_17 (by decide) ?_
  refine ways_tail (post := post) hκ S hK hE Aw_new hW hl hr1 hw (by decide) (by decide) ⟨Nat.zero_le _, Nat.zero_le _⟩ ?_
  intro x τ H1 locs1 hp hW
  exact r_CM hx hb hr hlk hK hW hp dX9_ways_76
def QY (G : Gt) (n : Nat) (sh' : List Shp) (ad : Nat → Nat) (post : Int → Mem → Prop) (A : Nat → Prop) : Array Value → State → Outcome → State → Prop := va_Qi (fun r (u : Int × Mem × (Nat → Nat)) => r = iN u.1 ∧ post u.1 u.2.1 ∧ ∀ i, i < n → u.2.2 i = ad i) (fun u t => Bn G sh' u.2.2 u.2.1 A t) A
def CY (l : Launch) (y : MethodName) (c0 : Cond) (rm : Room) (G : Gt) (sh sh' : List Shp) (ad : Nat → Nat) (σ : Mem) (av : List Value) (post : Int → Mem → Prop) (mc ms : Nat) : Prop := ∀ sz : Nat, Met l y (c0 :: ALL) rm (va_Pc av (Pst G sh ad σ sz)) (QY G sh.length sh' ad post (Aw ad sh.length sz)) mc ms (Aw ad sh.length sz)
theorem k_getnull {p : Program} {l : Launch} {e : Env} {R : Room} {s : State} {m : MethodId} {args : Array Value} {below : List Frame} {meth : Method} {c : Code} {H H0 : Heap} {locs : List Loc} {cells slots : Nat} {Q : State → Prop} {pc : Nat} {ls : Array Slot} {rest : List Value} {cc : ByteArray} {G : Gt} {sh : List Shp} {ad : Nat → Nat} {σ : Mem} {A : Nat → Prop} {c0 : Cond} {own : String} (hexec : p.tables.exec = Jvm.exec) (hb : c.code = cc) (hts : ∀ w ∈ c0 :: ALL, w.before args s = true) (hown : s.vm.findClass own = some m.cls) (hK : Kx G s) (hW : Wd G sh ad σ A H0 H locs) (k : Nat) {ci : Nat} {fs : List Fld} (hk : sh[k]? = some (.inr (ci, fs))) {C ref : String} {T : u_T} {N index : Nat} (hc : vwCl[ci]? = some (C, T, N)) (huw : ∀ w ∈ u_ws C T N, w ∈ ALL) (j : Nat) (hj : j < N) (hf : fs[j]? = some 1) (hlink : Cond.fieldLink own index ref (T j).2.1 (T j).2.2.1 ∈ ALL) (hsame : ∀ x, s.fieldFound? (T j).1 (T j).2.1 (T j).2.2.1 = some x → s.fieldFound? ref (T j).2.1 (T j).2.2.1 = some x) (hdg : decode cc pc = .ok (.getfield index, 3))
    (kk : W p l e R s m args below meth c H locs cells slots Q (F0 m (pc + 3) ls (.null :: rest))) : W p l e R s m args below meth c H locs cells slots Q (F0 m pc ls (.ref (ad k) :: rest)) :=
  va_get (v := .null) hexec hb hts (fun w h => List.mem_cons_of_mem _ (huw w h)) hown hK hW.1 k (hW.at k hk) hc j hj (hts _ (List.mem_cons_of_mem _ hlink)) hsame (by rw [fv_get, hf]; simp [fv1]) hdg kk
theorem c_X9_ways_n (l : Launch) (G : Gt) (κ : Nat) (hκ : κ < 5) (ad : Nat → Nat) (σ : Mem) (v1 : Int) (hr1 : rg v1) (hv0 : 0 ≤ v1) (hv1 : v1 ≤ 300) (hwd : σ 1 1 = ((wd κ : Nat) : Int)) (hzz : hz 35 σ) (post : Int → Mem → Prop) (hw : w_ways κ (up2 (up2 (up2 (up2 (up2 (σ) 35 5 (-1)) 35 0 39) 35 1 40) 35 2 36) 35 3 37) v1 post) : CY l yX9_ways (Cond.code yX9_ways cX9_ways 2 (some .int)) ({ frames := 6, cells := 6, slots := 909 + 602 * wd κ, locals := 154 } : Room) G (shW κ false) (shW κ true) ad σ [.ref (ad 0), .int (iN v1)] post 6 (909 + 602 * wd κ) := by
  refine s_allN (G := G) (sh := shW κ false) (ad := ad) (σ := σ) (y := yX9_ways) (code := cX9_ways) (maxL := 2) (ret := (some .int)) (rm := ({ frames := 6, cells := 6, slots := 909 + 602 * wd κ, locals := 154 } : Room)) (av := [.ref (ad 0), .int (iN v1)]) (mc := 6) (ms := 909 + 602 * wd κ) (Qc := fun sz => QY G 35 (shW κ true) ad post (Aw ad 35 sz)) (by decide) (Nat.le_of_ble_eq_true rfl) ?_
  intro p e s m below meth c S hr hlk _ hK hE hW ls hl
  have hA : ∀ q : Nat, s.heap.size ≤ q → Aw ad 35 s.heap.size q := Aw_new
  change Ex (Aw ad 35 s.heap.size) s at hE
  change Wd G (shW κ false) ad σ (Aw ad 35 s.heap.size) s.heap s.heap [] at hW
  change W p l e _ s m _ below meth c s.heap [] 0 0 (MQ below (QY G 35 (shW κ true) ad post (Aw ad 35 s.heap.size)) _ s 6 (909 + 602 * wd κ) (Aw ad 35 s.heap.size)) _
  generalize Aw ad 35 s.heap.size = A at *
  obtain ⟨hx, hb, hml, hown, hts⟩ := id S
  replace hl : lv_has ls 2 [(0, .ref (ad 0)), (1, .int (iN v1))] := hl
  refine lv_iload_n hx hb dX9_ways_0 rfl (lv_at hl 1 rfl) ?_
  refine n_if_lt hx hb hr1 (X := v1 < 0) (Y := 0 ≤ v1) id id (tgt := 11) dX9_ways_1 (by decide) (fun h => absurd h (by omega)) (fun h => ?_)
  refine lv_iload_n hx hb dX9_ways_4 rfl (lv_at hl 1 rfl) ?_
  refine n_sipush hx hb dX9_ways_5 (by decide) ?_
  refine n_icmp_le hx hb hr1 (rg_c _ rfl) (X := v1 ≤ 300) (Y := 300 < v1) id id (tgt := 13) dX9_ways_8 (by decide) (fun h2 => ?_) (fun h2 => absurd h2 (by omega))
  refine lv_aload_n hx hb dX9_ways_13 rfl (lv_at hl 0 rfl) ?_
  refine k_getnull hx hb hts hown hK hW 0 rfl rfl uw_X9 3 (by decide) rfl al_203 (fun _ h9 => h9) dX9_ways_14 ?_
  refine lv_ifnonnullN hx hb dX9_ways_17 ?_
  obtain ⟨a0, h0⟩ : ∃ a, ad 0 = a := ⟨_, rfl⟩
  obtain ⟨a1, h1⟩ : ∃ a, ad 1 = a := ⟨_, rfl⟩
  rw [h0] at hl
  refine lv_aload_n hx hb dX9_ways_20 rfl (lv_at hl 0 rfl) ?_
  refine k_new (n := 35) (ci := 6) hx hb hts hown hK hW hA rfl hzz rfl rfl uw_X7 tyX7 tyX7_ok al_640 al_641 al_13 [1, 1, 1, 1, 1, 0] rfl (fun j hj => by rcases (show j = 0 ∨ j = 1 ∨ j = 2 ∨ j = 3 ∨ j = 4 ∨ j = 5 by omega) with rfl | rfl | rfl | rfl | rfl | rfl <;> rfl) (by show 0 + 1 ≤ 6; omega) (by show 0 + 6 ≤ 909 + 602 * wd κ; omega) dX9_ways_21 (fun ad1 a35 H ha h35 hW => ?_)
  replace h0 := (ha 0 (by decide)).trans h0
  replace h1 := (ha 1 (by decide)).trans h1
  refine lv_dup hx hb dX9_ways_24 rfl ?_
  refine lv_aload_n hx hb dX9_ways_25 rfl (lv_at hl 0 rfl) ?_
  refine k_getr hx hb hts hown hK hW 0 h0 h1 rfl rfl uw_X9 1 (by decide) rfl al_201 (fun _ h9 => h9) dX9_ways_26 ?_
  refine k_get (v := ((wd κ : Nat) : Int)) hx hb hts hown hK hW 1 h1 rfl (hcP hκ) (uwP hκ) 1 (by decide) rfl al_93 (fun _ h9 => h9) hwd dX9_ways_29 ?_
  refine fin_CN (n := 36) hA hW rfl (run_IA (a := a35) (As := [.int (iN ((wd κ : Nat) : Int))]) (rest := [.ref a35, .ref a0]) S hK hE hA hW (c_X7_init l G κ hκ ad1 σ a35 h35 _ rfl (hzz.mono (by decide)) H.size) al_642 al_643 al_13 al_644 rfl (show yX7_init.cls ≠ "java/lang/invoke/MethodHandle" ∧ yX7_init.cls ≠ "java/lang/invoke/VarHandle" ∧ (parseMethodDescriptor yX7_init.desc).map (fun d => d.parameters.length) = some 1 by decide +kernel) rfl rfl ⟨Nat.le_of_ble_eq_true rfl, Nat.le_of_ble_eq_true rfl⟩ rfl hl.1 rfl (Nat.le_of_ble_eq_true rfl) dX9_ways_32 ⟨(by show 0 + 1 + 5 ≤ 6; omega), (by show 0 + 6 + (903 + 602 * wd κ) ≤ 909 + 602 * wd κ; omega)⟩) (fun ad2 H locs ha2 hW => ?_)
  replace h0 := (ha2 0 (by decide)).trans h0
  replace h35 := (ha2 35 (by decide)).trans h35
  refine k_putr hx hb hts hown hK hW 0 h0 35 h35 rfl rfl uw_X9 tyX9 tyX9_ok nmX9 3 (by decide) (by decide) al_203 (fun _ h9 => h9) (Or.inl rfl) rfl rfl dX9_ways_35 (fun H locs hW => ?_)
  replace hW : Wd G (shW κ true) ad2 (up2 (up2 (up2 (up2 (up2 (σ) 35 5 (-1)) 35 0 39) 35 1 40) 35 2 36) 35 3 37) A s.heap H locs := hW
  rw [← h0] at hl
  refine W.widen (k := 6) (n := 909 + 602 * wd κ) (by show 0 + 1 + 5 ≤ 6; omega) (by show 0 + 6 + (903 + 602 * wd κ) ≤ 909 + 602 * wd κ; omega) ?_
  refine ways_tail (post := post) hκ S hK hE hA hW hl hr1 hw (Nat.le_refl 6) (Nat.le_refl 154) ⟨Nat.le_refl _, Nat.le_refl _⟩ ?_
  intro x τ H1 locs1 hp hW
  exact W.iret hx hb hr (fun t ht hWm => ⟨⟨iN x, (x, τ, ad2), rfl, ⟨rfl, hp, fun i hi => (ha2 i (by omega)).trans (ha i hi)⟩, by rw [ht]; exact hW.1, va_K.moved hWm.alike hK, hW.2.1⟩, hW.2.2.F ht⟩) hW.2.2.2.2 dX9_ways_76 hlk
