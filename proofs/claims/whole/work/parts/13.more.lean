abbrev QI (G : Gt) (sh : List Shp) (ad : Nat → Nat) (σ : Mem) (post : Int → Prop) (sz : Nat) : Array Value → State → Outcome → State → Prop := va_Qi (fun r (u : Int) => r = iN u ∧ post u) (fun _ t => Bw G sh ad σ sz t) (Aw ad sh.length sz)
abbrev QM (G : Gt) (sh : List Shp) (ad : Nat → Nat) (post : Int → Mem → Prop) (sz : Nat) : Array Value → State → Outcome → State → Prop := va_Qi (fun r (u : Int × Mem) => r = iN u.1 ∧ post u.1 u.2) (fun u t => Bw G sh ad u.2 sz t) (Aw ad sh.length sz)
abbrev QV (G : Gt) (sh : List Shp) (ad : Nat → Nat) (post : Mem → Prop) (sz : Nat) : Array Value → State → Outcome → State → Prop := va_Qv (fun (u : Mem) => post u) (fun u t => Bw G sh ad u sz t) (Aw ad sh.length sz)
def ushI (x y : Int) : Int := ((iN x).toUInt32 >>> ((iN y).toUInt32 &&& Int32.toUInt32 31)).toInt32.toInt
section MORE
variable {p : Program} {l : Launch} {e : Env} {R : Room} {s : State} {m : MethodId} {args : Array Value} {below : List Frame} {meth : Method} {c : Code} {H H0 : Heap} {locs : List Loc} {cells slots : Nat} {Q : State → Prop}
variable {pc : Nat} {ls : Array Slot} {rest : List Value} {cc : ByteArray} {own : String} {index : Nat}
theorem n_iushr (hexec : p.tables.exec = Jvm.exec) (hb : c.code = cc) {x y : Int} (hdg : decode cc pc = .ok (.iushr, 1)) (k : W p l e R s m args below meth c H locs cells slots Q (F0 m (pc + 1) ls (.int (iN (ushI x y)) :: rest))) : W p l e R s m args below meth c H locs cells slots Q (F0 m pc ls (.int (iN y) :: .int (iN x) :: rest)) := lv_iushr hexec hb hdg rfl (by rw [ushI, iN_of] at k; exact k)
/-- or -/
def orI (x y : Int) : Int := (iN x ||| iN y).toInt
theorem n_ior (hexec : p.tables.exec = Jvm.exec) (hb : c.code = cc) {x y : Int} (hdg : decode cc pc = .ok (.ior, 1)) (k : W p l e R s m args below meth c H locs cells slots Q (F0 m (pc + 1) ls (.int (iN (orI x y)) :: rest))) : W p l e R s m args below meth c H locs cells slots Q (F0 m pc ls (.int (iN y) :: .int (iN x) :: rest)) := lv_ior hexec hb hdg (by rw [orI, iN_of] at k; exact k)
theorem n_ldc {n : Int} (hexec : p.tables.exec = Jvm.exec) (hb : c.code = cc) {v : Int32} (hown : s.vm.findClass own = some m.cls) (hconst : (Jvm.Cond.constant own index v).before args s = true) (hv : v = iN n) (hdg : decode cc pc = .ok (.ldc index, 2)) (k : W p l e R s m args below meth c H locs cells slots Q (F0 m (pc + 2) ls (.int (iN n) :: rest))) : W p l e R s m args below meth c H locs cells slots Q (F0 m pc ls rest) := by
  subst hv
  exact lv_ldc hexec hb hown hconst hdg k
theorem n_ldcw {n : Int} (hexec : p.tables.exec = Jvm.exec) (hb : c.code = cc) {v : Int32} (hown : s.vm.findClass own = some m.cls) (hconst : (Jvm.Cond.constant own index v).before args s = true) (hv : v = iN n) (hdg : decode cc pc = .ok (.ldc_w index, 3)) (k : W p l e R s m args below meth c H locs cells slots Q (F0 m (pc + 3) ls (.int (iN n) :: rest))) : W p l e R s m args below meth c H locs cells slots Q (F0 m pc ls rest) := by
  subst hv
  exact lv_ldcw hexec hb hown hconst hdg k
theorem n_ldc2 {n : Int} (hexec : p.tables.exec = Jvm.exec) (hb : c.code = cc) {v : Int64} (hown : s.vm.findClass own = some m.cls) (hconst : (Jvm.Cond.constantLong own index v).before args s = true) (hv : v = jN n) (hdg : decode cc pc = .ok (.ldc2_w index, 3)) (k : W p l e R s m args below meth c H locs cells slots Q (F0 m (pc + 3) ls (.long (jN n) :: rest))) : W p l e R s m args below meth c H locs cells slots Q (F0 m pc ls rest) := by
  subst hv
  exact lv_ldc2 hexec hb hown hconst hdg k
theorem iN_max {x y : Int} (hx : rg x) (hy : rg y) : (if iN x < iN y then iN y else iN x) = iN (max x y) := by
  by_cases h : x < y
  · rw [if_pos ((iN_lt hx hy).mpr h), show max x y = y by omega]
  · rw [if_neg (fun q => h ((iN_lt hx hy).mp q)), show max x y = x by omega]
theorem iN_min {x y : Int} (hx : rg x) (hy : rg y) : (if iN y < iN x then iN y else iN x) = iN (min x y) := by
  by_cases h : y < x
  · rw [if_pos ((iN_lt hy hx).mpr h), show min x y = y by omega]
  · rw [if_neg (fun q => h ((iN_lt hy hx).mp q)), show min x y = x by omega]
theorem jN_min {x y : Int} (hx : rgL x) (hy : rgL y) : (if jN y < jN x then jN y else jN x) = jN (min x y) := by
  by_cases h : y < x
  · rw [if_pos ((jN_lt hy hx).mpr h), show min x y = y by omega]
  · rw [if_neg (fun q => h ((jN_lt hy hx).mp q)), show min x y = x by omega]
theorem iN_abs {x : Int} (hx : rg x) : (if 0 ≤ iN x then iN x else 0 - iN x) = iN (max x (-x)) := by
  have h0 : rg 0 := rg_c 0 rfl
  show (if iN 0 ≤ iN x then iN x else iN 0 - iN x) = iN (max x (-x))
  by_cases h : 0 ≤ x
  · rw [if_pos ((iN_le h0 hx).mpr h), show max x (-x) = x by omega]
  · rw [if_neg (fun q => h ((iN_le h0 hx).mp q)), iN_sub, show max x (-x) = 0 - x by omega]
theorem cmp_val {x y : Int} (hx : rgL x) (hy : rgL y) : lg_cmp (jN x) (jN y) = iN (if y < x then 1 else if x = y then 0 else -1) := by
  unfold lg_cmp
  simp only [gt_iff_lt, jN_lt hy hx, jN_eq hx hy]
  split
  · rfl
  · split <;> rfl
theorem n_mmax (hexec : p.tables.exec = Jvm.exec) (hb : c.code = cc) (hml : c.maxLocals = ls.size) (hown : s.vm.findClass own = some m.cls) (hlink : (Cond.methodLink own index Lib.Math.max.name).before args s = true) (hstat : (Cond.static Lib.Math.max.name).before args s = true) (hini : (Cond.initialized "java/lang/Math").before args s = true) (hcode : (Cond.code Lib.Math.max.name Lib.Math.max.code 2 (some .int)).before args s = true) (hframes : 1 ≤ R.frames) (hlocals : (rest.map fun v => v.category).sum + 13 ≤ R.locals) (hc : cells ≤ R.cells) (hs : slots ≤ R.slots) {x y : Int} (hx : rg x) (hy : rg y) (hdg : decode cc pc = .ok (.invokestatic index, 3)) (k : W p l e R s m args below meth c H locs cells slots Q (F0 m (pc + 3) ls (.int (iN (max x y)) :: rest))) : W p l e R s m args below meth c H locs cells slots Q (F0 m pc ls (.int (iN y) :: .int (iN x) :: rest)) := va_mmax hexec hb hml hown hlink hstat hini hcode hframes hlocals hc hs hdg (by rw [iN_max hx hy]; exact k)
theorem n_mmin (hexec : p.tables.exec = Jvm.exec) (hb : c.code = cc) (hml : c.maxLocals = ls.size) (hown : s.vm.findClass own = some m.cls) (hlink : (Cond.methodLink own index Lib.Math.min.name).before args s = true) (hstat : (Cond.static Lib.Math.min.name).before args s = true) (hini : (Cond.initialized "java/lang/Math").before args s = true) (hcode : (Cond.code Lib.Math.min.name Lib.Math.min.code 2 (some .int)).before args s = true) (hframes : 1 ≤ R.frames) (hlocals : (rest.map fun v => v.category).sum + 13 ≤ R.locals) (hc : cells ≤ R.cells) (hs : slots ≤ R.slots) {x y : Int} (hx : rg x) (hy : rg y) (hdg : decode cc pc = .ok (.invokestatic index, 3)) (k : W p l e R s m args below meth c H locs cells slots Q (F0 m (pc + 3) ls (.int (iN (min x y)) :: rest))) : W p l e R s m args below meth c H locs cells slots Q (F0 m pc ls (.int (iN y) :: .int (iN x) :: rest)) := va_mmin hexec hb hml hown hlink hstat hini hcode hframes hlocals hc hs hdg (by rw [iN_min hx hy]; exact k)
theorem n_mminl (hexec : p.tables.exec = Jvm.exec) (hb : c.code = cc) (hml : c.maxLocals = ls.size) (hown : s.vm.findClass own = some m.cls) (hlink : (Cond.methodLink own index Lib.MathLoose.min_long.x).before args s = true) (hstat : (Cond.static Lib.MathLoose.min_long.x).before args s = true) (hini : (Cond.initialized "java/lang/Math").before args s = true) (hcode : (Cond.code Lib.MathLoose.min_long.x Lib.MathLoose.min_long.code 4 (some .long)).before args s = true) (hframes : 1 ≤ R.frames) (hlocals : (rest.map fun v => v.category).sum + 15 ≤ R.locals) (hc : cells ≤ R.cells) (hs : slots ≤ R.slots) {x y : Int} (hx : rgL x) (hy : rgL y) (hdg : decode cc pc = .ok (.invokestatic index, 3)) (k : W p l e R s m args below meth c H locs cells slots Q (F0 m (pc + 3) ls (.long (jN (min x y)) :: rest))) : W p l e R s m args below meth c H locs cells slots Q (F0 m pc ls (.long (jN y) :: .long (jN x) :: rest)) := va_mmin_long hexec hb hml hown hlink hstat hini hcode hframes hlocals hc hs hdg (by rw [jN_min hx hy]; exact k)
theorem n_mabs (hexec : p.tables.exec = Jvm.exec) (hb : c.code = cc) (hml : c.maxLocals = ls.size) (hown : s.vm.findClass own = some m.cls) (hlink : (Cond.methodLink own index Lib.Math.abs.name).before args s = true) (hstat : (Cond.static Lib.Math.abs.name).before args s = true) (hini : (Cond.initialized "java/lang/Math").before args s = true) (hcode : (Cond.code Lib.Math.abs.name Lib.Math.abs.code 1 (some .int)).before args s = true) (hframes : 1 ≤ R.frames) (hlocals : (rest.map fun v => v.category).sum + 13 ≤ R.locals) (hc : cells ≤ R.cells) (hs : slots ≤ R.slots) {x : Int} (hx : rg x) (hdg : decode cc pc = .ok (.invokestatic index, 3)) (k : W p l e R s m args below meth c H locs cells slots Q (F0 m (pc + 3) ls (.int (iN (max x (-x))) :: rest))) : W p l e R s m args below meth c H locs cells slots Q (F0 m pc ls (.int (iN x) :: rest)) := va_mabs hexec hb hml hown hlink hstat hini hcode hframes hlocals hc hs hdg (by rw [iN_abs hx]; exact k)
theorem n_tableOut (hexec : p.tables.exec = Jvm.exec) (hb : c.code = cc) {dflt lo hi : Int} {offs : Array Int} {len : Nat} {x : Int} {tgt : Nat} (hx : rg x) (h : x < lo ∨ hi < x) (hdg : decode cc pc = .ok (.tableswitch dflt lo hi offs, len)) (ht : (pc : Int) + dflt = (tgt : Int)) (k : W p l e R s m args below meth c H locs cells slots Q (F0 m tgt ls rest)) : W p l e R s m args below meth c H locs cells slots Q (F0 m pc ls (.int (iN x) :: rest)) := lv_tableOut hexec hb hdg (by rw [iN_toInt hx]; exact h) ht k
theorem n_tableIn {v : Int} (hexec : p.tables.exec = Jvm.exec) (hb : c.code = cc) {dflt lo hi : Int} {offs : Array Int} {len : Nat} {x off : Int} {tgt : Nat} (hx : rg x) (hv : x = v) (hdg : decode cc pc = .ok (.tableswitch dflt lo hi offs, len)) (h1 : ¬ v < lo) (h2 : ¬ hi < v) (ho : offs[(v - lo).toNat]? = some off) (ht : (pc : Int) + off = (tgt : Int)) (k : W p l e R s m args below meth c H locs cells slots Q (F0 m tgt ls rest)) : W p l e R s m args below meth c H locs cells slots Q (F0 m pc ls (.int (iN x) :: rest)) := by
  subst hv
  exact lv_tableIn hexec hb hdg (by rw [iN_toInt hx]; exact h1) (by rw [iN_toInt hx]; exact h2) (by rw [iN_toInt hx]; exact ho) ht k
theorem n_lcmp_lt (hexec : p.tables.exec = Jvm.exec) (hb : c.code = cc) {x y : Int} {X Y : Prop} (hx : rgL x) (hy : rgL y) (hT : x < y → X) (hF : y ≤ x → Y) {off : Int} {tgt : Nat} (hdg : decode cc pc = .ok (.lcmp, 1)) (hdg2 : decode cc (pc + 1) = .ok (.ifCond .lt off, 3)) (ht : ((pc + 1 : Nat) : Int) + off = (tgt : Int)) (kt : X → W p l e R s m args below meth c H locs cells slots Q (F0 m tgt ls rest)) (kf : Y → W p l e R s m args below meth c H locs cells slots Q (F0 m (pc + 4) ls rest)) : W p l e R s m args below meth c H locs cells slots Q (F0 m pc ls (.long (jN y) :: .long (jN x) :: rest)) := by
  have e := cmp_val hx hy
  refine W.lcmp hexec hb hdg ?_
  rw [e]
  refine n_if_lt hexec hb (x := if y < x then 1 else if x = y then 0 else -1) (by split <;> (try split) <;> exact rg_c _ rfl) (X := X) (Y := Y) (fun h => hT (by revert h; split <;> (try split) <;> omega)) (fun h => hF (by revert h; split <;> (try split) <;> omega)) hdg2 ht kt kf
theorem n_lcmp_ge (hexec : p.tables.exec = Jvm.exec) (hb : c.code = cc) {x y : Int} {X Y : Prop} (hx : rgL x) (hy : rgL y) (hT : y ≤ x → X) (hF : x < y → Y) {off : Int} {tgt : Nat} (hdg : decode cc pc = .ok (.lcmp, 1)) (hdg2 : decode cc (pc + 1) = .ok (.ifCond .ge off, 3)) (ht : ((pc + 1 : Nat) : Int) + off = (tgt : Int)) (kt : X → W p l e R s m args below meth c H locs cells slots Q (F0 m tgt ls rest)) (kf : Y → W p l e R s m args below meth c H locs cells slots Q (F0 m (pc + 4) ls rest)) : W p l e R s m args below meth c H locs cells slots Q (F0 m pc ls (.long (jN y) :: .long (jN x) :: rest)) := by
  have e := cmp_val hx hy
  refine W.lcmp hexec hb hdg ?_
  rw [e]
  refine n_if_ge hexec hb (x := if y < x then 1 else if x = y then 0 else -1) (by split <;> (try split) <;> exact rg_c _ rfl) (X := X) (Y := Y) (fun h => hT (by revert h; split <;> (try split) <;> omega)) (fun h => hF (by revert h; split <;> (try split) <;> omega)) hdg2 ht kt kf
theorem n_lcmp_gt (hexec : p.tables.exec = Jvm.exec) (hb : c.code = cc) {x y : Int} {X Y : Prop} (hx : rgL x) (hy : rgL y) (hT : y < x → X) (hF : x ≤ y → Y) {off : Int} {tgt : Nat} (hdg : decode cc pc = .ok (.lcmp, 1)) (hdg2 : decode cc (pc + 1) = .ok (.ifCond .gt off, 3)) (ht : ((pc + 1 : Nat) : Int) + off = (tgt : Int)) (kt : X → W p l e R s m args below meth c H locs cells slots Q (F0 m tgt ls rest)) (kf : Y → W p l e R s m args below meth c H locs cells slots Q (F0 m (pc + 4) ls rest)) : W p l e R s m args below meth c H locs cells slots Q (F0 m pc ls (.long (jN y) :: .long (jN x) :: rest)) := by
  have e := cmp_val hx hy
  refine W.lcmp hexec hb hdg ?_
  rw [e]
  refine n_if_gt hexec hb (x := if y < x then 1 else if x = y then 0 else -1) (by split <;> (try split) <;> exact rg_c _ rfl) (X := X) (Y := Y) (fun h => hT (by revert h; split <;> (try split) <;> omega)) (fun h => hF (by revert h; split <;> (try split) <;> omega)) hdg2 ht kt kf
theorem n_lcmp_le (hexec : p.tables.exec = Jvm.exec) (hb : c.code = cc) {x y : Int} {X Y : Prop} (hx : rgL x) (hy : rgL y) (hT : x ≤ y → X) (hF : y < x → Y) {off : Int} {tgt : Nat} (hdg : decode cc pc = .ok (.lcmp, 1)) (hdg2 : decode cc (pc + 1) = .ok (.ifCond .le off, 3)) (ht : ((pc + 1 : Nat) : Int) + off = (tgt : Int)) (kt : X → W p l e R s m args below meth c H locs cells slots Q (F0 m tgt ls rest)) (kf : Y → W p l e R s m args below meth c H locs cells slots Q (F0 m (pc + 4) ls rest)) : W p l e R s m args below meth c H locs cells slots Q (F0 m pc ls (.long (jN y) :: .long (jN x) :: rest)) := by
  have e := cmp_val hx hy
  refine W.lcmp hexec hb hdg ?_
  rw [e]
  refine n_if_le hexec hb (x := if y < x then 1 else if x = y then 0 else -1) (by split <;> (try split) <;> exact rg_c _ rfl) (X := X) (Y := Y) (fun h => hT (by revert h; split <;> (try split) <;> omega)) (fun h => hF (by revert h; split <;> (try split) <;> omega)) hdg2 ht kt kf
/-- getfield: null -/
theorem g_getnull {G : Gt} {sh : List Shp} {ad : Nat → Nat} {σ : Mem} {A : Nat → Prop} {c0 : Cond} (hexec : p.tables.exec = Jvm.exec) (hb : c.code = cc) (hts : ∀ w ∈ c0 :: ALL, w.before args s = true) (hown : s.vm.findClass own = some m.cls) (hK : Kx G s) (hW : Wd G sh ad σ A H0 H locs) (k : Nat) {ci : Nat} {fs : List Fld} (hk : sh[k]? = some (.inr (ci, fs))) {C ref : String} {T : u_T} {N : Nat} (hc : vwCl[ci]? = some (C, T, N)) (huw : ∀ w ∈ u_ws C T N, w ∈ ALL) (j : Nat) (hj : j < N) (hf : fs[j]? = some 1) (hlink : Cond.fieldLink own index ref (T j).2.1 (T j).2.2.1 ∈ ALL) (hsame : ∀ x, s.fieldFound? (T j).1 (T j).2.1 (T j).2.2.1 = some x → s.fieldFound? ref (T j).2.1 (T j).2.2.1 = some x) (hdg : decode cc pc = .ok (.getfield index, 3))
    (kk : W p l e R s m args below meth c H locs cells slots Q (F0 m (pc + 3) ls (.null :: rest))) : W p l e R s m args below meth c H locs cells slots Q (F0 m pc ls (.ref (ad k) :: rest)) :=
  va_get (v := .null) hexec hb hts (fun w h => List.mem_cons_of_mem _ (huw w h)) hown hK hW.1 k (hW.at k hk) hc j hj (hts _ (List.mem_cons_of_mem _ hlink)) hsame (by rw [fv_get, hf]; simp [fv1]) hdg kk
end MORE
