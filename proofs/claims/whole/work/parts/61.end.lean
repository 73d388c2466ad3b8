/-! THE CLAIM OUT OF ONE WALK OF THE LAW'S BODY. Your part is whole_start (and what it stands on); all else here is the same for every law, but numbers. -/
def R_law : String := "PlaySpansLaw"
def lw_P (b : Addr) (xs : List Int32) (args : Array Value) (s : State) : Prop := args = #[.ref b] ∧ s.IntsAt b xs ∧ xs.length ≤ 3585 ∧ (Jvm.Cond.and given_1 narrow_1).before args s = true
def lw_Q (_ : Array Value) (s : State) (o : Outcome) (t : State) : Prop := o = .returned (some (.int 1)) ∧ Framed s o t [] 600000 7302250
def lw_Z (below : List Frame) (a : Array Value) (s : State) : State → Prop := fun t => ∃ o, t.status = .running ∧ Ended t below o ∧ lw_Q a s o t
/-- the law's own end, with 1 on the stack, nothing written that was there before, its room as the claim has it -/
theorem lw_ret {p : Program} {l : Launch} {e : Env} {s : State} {m : MethodId} {below : List Frame} {meth : Method} {c : Code} {b : Nat} (hx : p.tables.exec = Jvm.exec) (hb : c.code = code) (hr : meth.sig.returnType = ret) (hlocks : meth.locks = false) {pc : Nat} {H : Heap} {ls : Array Slot} (hdg : decode code pc = .ok (.ireturn, 1)) : W p l e room_1 s m #[Value.ref b] below meth c H [] 600000 7302250 (lw_Z below #[Value.ref b] s) (F0 m pc ls [.int 1]) := by
  intro T hT X
  obtain ⟨fs, hret, hrun, hended, hW, hframe⟩ := X.leave (v := some (.int 1)) (hlocks := hlocks) (fun h => by rw [hr] at h; cases h)
  have hmeth' : T.vm.method? m = some meth := X.method'
  refine ⟨T.setFrames fs, ?_, .returned (some (.int 1)), hrun, hended, rfl, ⟨_, rfl⟩, hW, hframe⟩
  jvm_step X.here [X.here.top, hx, hb, hdg, hmeth', hr, ret, narrow_b1]
  (try refine ⟨rfl, ?_⟩); (try refine ⟨rfl, ?_⟩)
  first | (intro acts; rw [hret _ acts rfl rfl rfl]) | rw [hret _ _ rfl rfl rfl]
  exact Steps.refl _
/-- what holds at the law's entry: the machine, the code, the tables' words (any of lw_tbl by 'hts w (by decide +kernel)'), the script of L ints xs at the cell b, what the Statement gives of the start (any of its parts by flat_of_before) -/
def lw_At (p : Program) (s : State) (m : MethodId) (meth : Method) (c : Code) (b L : Nat) (xs : Nat → Int32) : Prop :=
  p.tables.exec = Jvm.exec ∧ c.code = code ∧ meth.sig.returnType = ret ∧ c.maxLocals = 4 ∧ s.vm.findClass R_law = some m.cls ∧ (∀ w ∈ lw_tbl, w.before #[Value.ref b] s = true) ∧ va_X b L xs s s.heap ∧ b < s.heap.size ∧ meth.locks = false ∧ (Jvm.Cond.and given_1 narrow_1).before #[Value.ref b] s = true
-- ===== YOUR PART BEGINS =====
/-- YOUR PART: from the entry, for every script of at most 3585 ints, the law comes to its end with true -/
theorem whole_start {p : Program} {e : Env} {s : State} {m : MethodId} {below : List Frame} {meth : Method} {c : Code} (l : Launch) {b L : Nat} {xs : Nat → Int32} (hL : L ≤ 3585) (C0 : lw_At p s m meth c b L xs) : W p l e room_1 s m #[Value.ref b] below meth c s.heap [] 0 0 (lw_Z below #[Value.ref b] s) (entryFrame m ([Value.ref b] : List Value).toArray 4) := by
  obtain ⟨hx, hb, hr, hml, hown, hts, hX, hbl, hlk, hgv⟩ := C0
  have hALL : ∀ w ∈ ALL, w.before #[Value.ref b] s = true := fun w h => hts w (al_tbl w h)
  have hALL1 : ∀ w ∈ Cond.initialized RL :: ALL, w.before #[Value.ref b] s = true := fun w h => by
    rcases List.mem_cons.mp h with rfl | h
    · exact hALL _ al_0
    · exact hALL w h
  have S : CallFix p m c code 4 s #[Value.ref b] (Cond.initialized RL :: ALL) RL := ⟨hx, hb, hml, hown, hALL1⟩
  obtain ⟨G, hK⟩ := en_K hALL
  obtain ⟨A, eA⟩ : ∃ A : Nat → Prop, A = fun q => s.heap.size ≤ q := ⟨_, rfl⟩
  have hA : ∀ q : Nat, s.heap.size ≤ q → A q := fun q h => by rw [eA]; exact h
  have hAn : ∀ q : Nat, q < s.heap.size → ¬ A q := fun q h z => by rw [eA] at z; exact absurd z (by omega)
  have hAs : ∀ q : Nat, A q → s.heap.size ≤ q := fun q h => by rw [eA] at h; exact h
  clear eA
  have hE : Ex A s := ⟨en_N hts, en_S hts hgv hAn⟩
  have hbA : ¬ A b := hAn b hbl
  have hl := lv_entry [Value.ref b] (n := 4) (Nat.le_of_ble_eq_true rfl)
  rw [lg_entry_eq]
  generalize (lg_sl [Value.ref b] ++ List.replicate (4 - (lg_sl [Value.ref b]).length) Slot.unset).toArray = ls at hl ⊢
  replace hl : lv_has ls 4 [(0, .ref b)] := hl
  obtain ⟨κ, eκ⟩ : ∃ κ : Nat, κ = (max 0 (min 4 (x0 xs L))).toNat := ⟨_, rfl⟩
  have hκ : κ < 5 := by omega
  have hv1 : max 0 (min 4 (x0 xs L)) = (κ : Int) := by omega
  have hwb := (wdle κ).2
  clear eκ
  have hW : Wd G [] (fun _ => 0) (fun _ _ => 0) A s.heap s.heap [] := Wd_nil
  refine k_new (n := 0) (ci := 8) (c0 := Cond.initialized RL) (own := RL) hx hb hALL1 hown hK hW hA rfl (fun _ _ _ => rfl) rfl rfl uw_X9 tyX9 tyX9_ok al_15 al_16 al_1 [0, 1, 1, 1] rfl (fun j hj => by rcases (show j = 0 ∨ j = 1 ∨ j = 2 ∨ j = 3 by omega) with rfl | rfl | rfl | rfl <;> rfl) (show 0 + 1 ≤ 600000 by decide) (show 0 + 4 ≤ 7302250 by decide) dL_law_0 (fun ad a0 H ha h0 hW => ?_)
  clear ha
  replace hW : Wd G ([.inr (8, [0, 1, 1, 1])] : List Shp) ad (fun _ _ => 0) A s.heap H [] := hW
  refine lv_dup hx hb dL_law_3 rfl ?_
  refine lv_aload_n hx hb dL_law_4 rfl (lv_at hl 0 rfl) ?_
  refine n_iconst hx hb dL_law_5 ?_
  refine run_cell (rest := [.ref a0, .ref a0]) S hK hE hA hX hbl hbA hL hW hl.1 rfl (Nat.le_of_ble_eq_true rfl) dL_law_6 ⟨(show 0 + 1 ≤ 600000 by decide), (show 0 + 4 ≤ 7302250 by decide)⟩ (fun H locs hW => ?_)
  refine fin_CN (n := 1) hA hW rfl (run_IA (a := a0) (As := [.int (iN (x0 xs L))]) (rest := [.ref a0]) S hK hE hA hW (c_X9_init l G κ hκ ad (fun _ _ => 0) a0 h0 (x0 xs L) (x0_rg xs L) hv1 (fun _ _ _ => rfl) H.size) al_17 al_18 al_1 al_19 rfl (show yX9_init.cls ≠ "java/lang/invoke/MethodHandle" ∧ yX9_init.cls ≠ "java/lang/invoke/VarHandle" ∧ (parseMethodDescriptor yX9_init.desc).map (fun d => d.parameters.length) = some 1 by decide +kernel) rfl rfl ⟨Nat.le_of_ble_eq_true rfl, Nat.le_of_ble_eq_true rfl⟩ rfl hl.1 rfl (Nat.le_of_ble_eq_true rfl) dL_law_9 ⟨(show 0 + 1 + 16 ≤ 600000 by decide), (show 0 + 4 + (431 + 160 * wd κ) ≤ 7302250 by omega)⟩) (fun ad1 H locs ha hW => ?_)
  replace h0 := (ha 0 (by decide)).trans h0
  clear ha
  replace hW : Wd G ([.inr (8, [0, 4, 17, 1]), .inr (ciK κ, [5, 0, 13, 14, 15, 16, 0]), .inr (1, [6, 7, 8, 9, 10, 11, 12, 0]), .inl (0, 10), .inl (0, 40), .inl (0, 40), .inl (0, 40), .inl (0, 40), .inl (0, 40), .inl (0, 120), .inl (0, 40), .inl (0, 40 * wd κ), .inl (0, 40 * wd κ), .inl (0, 40 * wd κ), .inr (2, [0, 19, 18, 0, 0, 0]), .inl (0, 40), .inl (0, 40 * wd κ)] : List Shp) ad1 (M0 κ) A s.heap H locs := hW
  refine lv_astore_n (lv' := [(1, .ref a0), (0, .ref b)]) hx hb dL_law_12 rfl hl (by decide) rfl (fun ls hl => ?_)
  have hz1 := M0_hz κ
  refine k_new (n := 17) (ci := 9) (c0 := Cond.initialized RL) (own := RL) hx hb hALL1 hown hK hW hA rfl hz1 rfl rfl uw_X10 tyX10 tyX10_ok al_756 al_757 al_11 [0, 0, 1, 1, 1, 1, 1, 1, 1, 0, 1, 1, 1, 1, 1, 1, 1, 1, 1, 1] rfl (fun j hj => by rcases (show j = 0 ∨ j = 1 ∨ j = 2 ∨ j = 3 ∨ j = 4 ∨ j = 5 ∨ j = 6 ∨ j = 7 ∨ j = 8 ∨ j = 9 ∨ j = 10 ∨ j = 11 ∨ j = 12 ∨ j = 13 ∨ j = 14 ∨ j = 15 ∨ j = 16 ∨ j = 17 ∨ j = 18 ∨ j = 19 by omega) with rfl | rfl | rfl | rfl | rfl | rfl | rfl | rfl | rfl | rfl | rfl | rfl | rfl | rfl | rfl | rfl | rfl | rfl | rfl | rfl <;> rfl) (show 0 + 1 + 16 + 1 ≤ 600000 by decide) (show 0 + 4 + (431 + 160 * wd κ) + 20 ≤ 7302250 by omega) dL_law_13 (fun ad2 a17 H ha h17 hW => ?_)
  replace h0 := (ha 0 (by decide)).trans h0
  clear ha
  replace hW : Wd G ([.inr (8, [0, 4, 17, 1]), .inr (ciK κ, [5, 0, 13, 14, 15, 16, 0]), .inr (1, [6, 7, 8, 9, 10, 11, 12, 0]), .inl (0, 10), .inl (0, 40), .inl (0, 40), .inl (0, 40), .inl (0, 40), .inl (0, 40), .inl (0, 120), .inl (0, 40), .inl (0, 40 * wd κ), .inl (0, 40 * wd κ), .inl (0, 40 * wd κ), .inr (2, [0, 19, 18, 0, 0, 0]), .inl (0, 40), .inl (0, 40 * wd κ), .inr (9, [0, 0, 1, 1, 1, 1, 1, 1, 1, 0, 1, 1, 1, 1, 1, 1, 1, 1, 1, 1])] : List Shp) ad2 (M0 κ) A s.heap H locs := hW
  replace hz1 := hz1.mono (m := 18) (by decide)
  refine lv_dup hx hb dL_law_16 rfl ?_
  refine lv_aload_n hx hb dL_law_17 rfl (lv_at hl 1 rfl) ?_
  refine n_iconst hx hb dL_law_18 ?_
  refine run_cell (rest := [.ref a17, .ref a17]) S hK hE hA hX hbl hbA hL hW hl.1 rfl (Nat.le_of_ble_eq_true rfl) dL_law_19 ⟨(show 0 + 1 + 16 + 1 ≤ 600000 by decide), (show 0 + 4 + (431 + 160 * wd κ) + 20 ≤ 7302250 by omega)⟩ (fun H locs hW => ?_)
  refine fin_CN (n := 18) hA hW rfl (run_IA (a := a17) (As := [.int (iN (x0 xs L))]) (rest := [.ref a17]) S hK hE hA hW (c_X10_init l G κ hκ ad2 (M0 κ) a17 h17 (x0 xs L) (x0_rg xs L) hv1 hz1 H.size) al_758 al_759 al_11 al_760 rfl (show yX10_init.cls ≠ "java/lang/invoke/MethodHandle" ∧ yX10_init.cls ≠ "java/lang/invoke/VarHandle" ∧ (parseMethodDescriptor yX10_init.desc).map (fun d => d.parameters.length) = some 1 by decide +kernel) rfl rfl ⟨Nat.le_of_ble_eq_true rfl, Nat.le_of_ble_eq_true rfl⟩ rfl hl.1 rfl (Nat.le_of_ble_eq_true rfl) dL_law_22 ⟨(show 0 + 1 + 16 + 1 + 17 ≤ 600000 by decide), (show 0 + 4 + (431 + 160 * wd κ) + 20 + 65172 ≤ 7302250 by omega)⟩) (fun ad3 H locs ha hW => ?_)
  replace h0 := (ha 0 (by decide)).trans h0
  replace h17 := (ha 17 (by decide)).trans h17
  clear ha
  replace hW : Wd G (shW κ false) ad3 (M1 κ) A s.heap H locs := hW
  refine lv_astore_n (lv' := [(2, .ref a17), (1, .ref a0), (0, .ref b)]) hx hb dL_law_25 rfl hl (by decide) rfl (fun ls hl => ?_)
  refine n_iconst hx hb dL_law_26 ?_
  refine lv_istore_n (lv' := [(3, .int (iN 1)), (2, .ref a17), (1, .ref a0), (0, .ref b)]) hx hb dL_law_27 rfl hl (by decide) rfl (fun ls hl => ?_)
  refine W.widen (k := clT false) (n := slT false) (Nat.le_refl 35) (show 0 + 4 + (431 + 160 * wd κ) + 20 + 65172 ≤ 100000 by omega) ?_
  refine law_loop hκ S hK hE hA hX hbl hbA hL ?_ L 1 (by omega) false ad3 (M1 κ) (M1 κ) H locs ls ?_ (by omega) (M1_C κ) (M1_M κ) hW
  · intro H locs ls cells slots h1 h2 hS
    refine va_forget (fun q hq => hAs _ (hS.2.2 q hq)) (W.widen (k := 600000) (n := 7302250) h1 h2 ?_)
    exact lw_ret hx hb hr hlk dL_law_506
  · rw [h0, h17]
    exact hl
-- ===== YOUR PART ENDS =====
set_option maxHeartbeats 4000000 in
theorem lw_walk (l : Launch) (b : Addr) (xs : List Int32) : MetFree l x (headSpec (Jvm.Cond.code x code maxLocals ret :: tables_1) room_1) (lw_P b xs) (fun _ _ _ _ _ => True) lw_Q := by
  refine MetFree.of_bodyS (code := code) (maxLocals := maxLocals) (ret := ret) (by decide) ?_ ?_
  · intro args s m h hn
    obtain ⟨meth, c, h1, h2, h3, h4, h5, h6, -, -⟩ := Cond.code_spec hn (atoms_spec (ws := Jvm.Cond.code x code maxLocals ret :: tables_1) h _ List.mem_cons_self)
    exact ⟨meth, c, h1, h2, h3, h4, h5, h6⟩
  · intro p e s m args below meth c s₁ B hml0 hP _
    obtain ⟨rfl, hx, hbd, hgv⟩ := hP
    obtain ⟨scr, harrAt, hlist, hof, hsmall⟩ := hx
    obtain ⟨hcb, hkn, -, -⟩ := State.arrayAt?_spec harrAt
    have hown : s.vm.findClass R_law = some m.cls := findClass_of_methodNamed B.named
    have hts0 : ∀ c ∈ (Jvm.Cond.code x code maxLocals ret :: tables_1), c.before #[Value.ref b] s = true := atoms_spec (ws := Jvm.Cond.code x code maxLocals ret :: tables_1) B.pre
    have hts : ∀ w ∈ lw_tbl, w.before #[Value.ref b] s = true := k2_hts_sels lw_privs (fun w hw => hts0 w (List.mem_cons_of_mem _ hw)) lw_privs_ok
    have hml : c.maxLocals = 4 := B.maxLocals_eq (hts0 _ List.mem_cons_self)
    have X₀ : Stand p l e room_1 s m #[Value.ref b] below meth c s₁ [] 0 0 := Stand.of_body B
    have hh0 : s₁.heap = s.heap := by rw [B.state]; rfl
    have hsz : scr.slots.size = xs.length := by rw [← Array.length_toList, hlist, List.length_map]
    have hval : ∀ j : Nat, j < xs.length → scr.slots[j]? = some (.int (xs.getD j 0)) := fun j hj => by
      rw [← Array.getElem?_toList, hlist]
      simp [hj]
    have hbl : b < s.heap.size := (Array.getElem?_eq_some_iff.mp hcb).1
    have hX : va_X b xs.length (fun j => xs.getD j 0) s s.heap := ⟨scr, hcb, hof, hkn, hsz, hval⟩
    have K : W p l e room_1 s m #[Value.ref b] below meth c s₁.heap [] 0 0 (lw_Z below #[Value.ref b] s) (entryFrame m ([Value.ref b] : List Value).toArray 4) := by
      rw [hh0]
      exact whole_start l hbd ⟨B.exec, B.bytes, B.returns, hml, hown, hts, hX, hbl, B.notSynchronized, hgv⟩
    obtain ⟨t, a1, o, b1, b2, b3⟩ := K s₁ rfl X₀
    exact ⟨t, o, a1, b1, b2, b3⟩
theorem lw_pre_spec {args : Array Value} {s : State} (h : (Jvm.Cond.and given_1 narrow_1).before args s = true) (hr : rest_1_c.before args s = true) : ∃ (b : Addr) (xs : List Int32), lw_P b xs args s := by
  have hs := flat_of_before _ h
  have hq := flat_of_before _ hr
  have hc : (Cond.count 1).before args s = true := hs _ (by decide +kernel)
  have harr : (Cond.arrayOf (.arg 0) .int).before args s = true := hs _ (by decide +kernel)
  have hle : (Cond.le (.length (.arg 0)) (.int 3585)).before args s = true := hs _ (by decide +kernel)
  have hlen : (Cond.isInt (.length (.arg 0))).before args s = true := hq _ (by decide +kernel)
  have hall : (Cond.all (.arg 0) (.isInt (.elem (.arg 0) (.index 0)))).before args s = true := hq _ (by decide +kernel)
  obtain ⟨b, xs, hb, hx⟩ := State.ints_of_pre rfl harr hlen hall
  have hsm : xs.length < 2 ^ 31 := hx.choose_spec.2.2.2
  have hev : (Term.length (.arg 0)).eval args s none [] s = some (.int xs.length.toInt32) := hx.length_eval hb
  have hv := Cond.le_ints hev (show (Term.int 3585).eval args s none [] s = some (.int 3585) from rfl)
  have hd : xs.length.toInt32 ≤ 3585 := by
    simpa [Cond.before, Cond.holds, hv] using hle
  have hN : xs.length ≤ 3585 := (Int32.ofNat_le_ofNat hsm (by decide)).mp (show Int32.ofNat xs.length ≤ Int32.ofNat 3585 from hd)
  exact ⟨b, xs, Cond.one_arg hc (show args[0]? = some (.ref b) from hb), hx, hN, h⟩
theorem lw_comes (l : Launch) : Comes l x (Jvm.Cond.code x code maxLocals ret :: tables_1) room_1 (fun tb e args s => Calls_1 tb e args s ∧ rest_1 tb e args s ∧ Pre_1 tb e args s)
    (fun _ _ args s o t => lw_Q args s o t) := by
  intro p e ha hc hk s m args below hf hfit hheap happ hpre
  obtain ⟨b, xs, hP⟩ := lw_pre_spec hpre.2.2 hpre.2.1
  obtain ⟨k, o, h1, h2, h3, hQ⟩ := lw_walk l b xs p e ha hc hk s m args below hf ((Spec.applies_iff_loose hf).mp happ).1 hP trivial
  exact ⟨k, o, h1, h2, h3, hQ⟩
theorem lw_frame {s t : State} {o : Outcome} {args : Array Value} (h : Framed s o t [] 600000 7302250) :
    Framed s o t (fieldLocs frame_1_writes args s ++ arrayLocs frame_1_arrays args s ++ staticLocs frame_1_statics s) 600000 7302250 := h
theorem lw_limb (L : Cond) (hL : ∀ (args : Array Value) (s t : State), L.after args s (.returned (some (.int 1))) t = true) :
    ArmFor flags0 classFile x code maxLocals ret World_1 tables_1 room_1 Calls_1 rest_1 Pre_1
      (fun tb e a s o t => postC L tb e a s o t ∧ Framed s o t (fieldLocs frame_1_writes a s ++ arrayLocs frame_1_arrays a s ++ staticLocs frame_1_statics s) 600000 7302250) := by
  intro l _ _ _ p e ha hc hk s m args below hf hfit hheap happ hpre
  obtain ⟨k, o, h1, h2, h3, rfl, hF⟩ := lw_comes l p e ha hc hk s m args below hf hfit hheap happ hpre
  exact ⟨k, _, h1, h2, h3, hL args s _, lw_frame hF⟩
theorem i_vc : Claimed_1_1 ∧ Claimed_1_2 := ⟨lw_limb limb_1_1 (fun args s t => by simp [limb_1_1, Cond.after, Cond.holds, Cond.value]), lw_limb limb_1_2 (fun args s t => Cond.after_iff.mpr (by
  first | (rw [show limb_1_2 = Cond.eq .result (.int 1) from rfl, Cond.eq_ints (x := 1) (y := 1) rfl rfl]; simp; done) | (simp [limb_1_2, Cond.value, Term.eval]; done)))⟩
