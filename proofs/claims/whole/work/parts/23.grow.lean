/-! a world that grows: constructors -/
def okF (n f : Nat) : Bool := decide (f < 2) || (decide (2 < f) && decide (f < n + 3))
def okS (n : Nat) : List Shp → Bool
  | [] => true
  | .inl _ :: r => okS n r
  | .inr o :: r => o.2.all (okF n) && okS n r
def hz (n : Nat) (σ : Mem) : Prop := ∀ c, n ≤ c → ∀ j, σ c j = 0
theorem hz.up {n k j : Nat} {v : Int} {σ : Mem} (h : hz n σ) (hk : k < n) : hz n (up2 σ k j v) := fun c hc i => by rw [up2_k (by omega)]; exact h c hc i
theorem hz.mono {n m : Nat} {σ : Mem} (h : hz n σ) (hm : n ≤ m) : hz m σ := fun c hc j => h c (by omega) j
theorem fv_ext {n : Nat} {ad ad' : Nat → Nat} (ha : ∀ i, i < n → ad' i = ad i) (σ : Mem) (k : Nat) (fs : List Fld) (h : fs.all (okF n) = true) (j : Nat) : fv ad' σ k j fs = fv ad σ k j fs := by
  induction fs generalizing j with
  | nil => rfl
  | cons f r ih =>
    rw [List.all_cons, Bool.and_eq_true] at h
    simp only [fv]
    rw [ih h.2 (j + 1)]
    congr 1
    have hf := h.1
    unfold okF at hf
    simp only [Bool.or_eq_true, Bool.and_eq_true, decide_eq_true_eq] at hf
    clear h ih
    obtain ⟨g, hg⟩ : ∃ g : Nat, g = f := ⟨f, rfl⟩
    subst hg
    unfold fv1
    by_cases h0 : g = 0
    · rw [if_pos h0, if_pos h0]
    · rw [if_neg h0, if_neg h0]
      by_cases h1 : g = 1
      · rw [if_pos h1, if_pos h1]
      · have h2 : ¬ g = 2 := fun e => by rcases hf with q | ⟨q, -⟩ <;> omega
        have h3 : g - 3 < n := by rcases hf with q | ⟨q, q'⟩ <;> omega
        rw [if_neg h1, if_neg h1, if_neg h2, if_neg h2, ha (g - 3) h3]
theorem wl_ext {n : Nat} {ad ad' : Nat → Nat} (ha : ∀ i, i < n → ad' i = ad i) (G : Gt) (σ : Mem) (sh : List Shp) (h : okS n sh = true) (k : Nat) (hk : k + sh.length ≤ n) : wl G ad' σ k sh = wl G ad σ k sh := by
  induction sh generalizing k with
  | nil => rfl
  | cons c r ih =>
    simp only [List.length_cons] at hk
    simp only [wl]
    rcases c with ⟨t, N⟩ | ⟨ci, fs⟩
    · rw [ih h (k + 1) (by omega), ha k (by omega)]
      rfl
    · simp only [okS, Bool.and_eq_true] at h
      rw [ih h.2 (k + 1) (by omega), ha k (by omega)]
      simp only [ce]
      rw [fv_ext ha σ k fs h.1 0]
theorem wl_snoc (G : Gt) (ad : Nat → Nat) (σ : Mem) (sh : List Shp) (x : Shp) (k : Nat) : wl G ad σ k (sh ++ [x]) = wl G ad σ k sh ++ [(ad (k + sh.length), ce G ad σ (k + sh.length) x)] := by
  induction sh generalizing k with
  | nil => rfl
  | cons c r ih => simp only [List.cons_append, wl, ih, List.length_cons]; rw [show k + 1 + r.length = k + (r.length + 1) by omega]
def f0 (f : Nat) : Value := if f = 0 then .int 0 else .null
theorem fv_zero (ad : Nat → Nat) {σ : Mem} {k : Nat} (hσ : ∀ j, σ k j = 0) (fs : List Fld) (h : fs.all (fun f : Nat => decide (f < 2)) = true) (j : Nat) : fv ad σ k j fs = fs.map f0 := by
  induction fs generalizing j with
  | nil => rfl
  | cons f r ih =>
    rw [List.all_cons, Bool.and_eq_true, decide_eq_true_eq] at h
    simp only [fv, List.map_cons]
    rw [ih h.2 (j + 1)]
    congr 1
    have hf := h.1
    clear h ih
    obtain ⟨g, hg⟩ : ∃ g : Nat, g = f := ⟨f, rfl⟩
    subst hg
    unfold fv1 f0
    by_cases h0 : g = 0
    · rw [if_pos h0, if_pos h0, hσ j]; rfl
    · have h1 : g = 1 := by omega
      rw [if_neg h0, if_neg h0, if_pos h1]
theorem wl_setS (G : Gt) (ad : Nat → Nat) (σ : Mem) {sh : List Shp} {k : Nat} {x y : Shp} (hk : sh[k]? = some x) : (wl G ad σ 0 sh).set k (ad k, ce G ad σ k y) = wl G ad σ 0 (sh.set k y) := by
  apply List.ext_getElem?
  intro i
  rw [List.getElem?_set, wl_get, wl_get, wl_len, List.getElem?_set]
  have hl : k < sh.length := (List.getElem?_eq_some_iff.mp hk).1
  by_cases hi : k = i
  · subst hi
    rw [if_pos rfl, if_pos rfl, if_pos hl, if_pos hl, Option.map_some, Nat.zero_add]
  · rw [if_neg hi, if_neg hi]
theorem fv_setS (ad : Nat → Nat) (σ : Mem) (k : Nat) {fs : List Fld} {j : Nat} (hj : j < fs.length) (f : Fld) : (fv ad σ k 0 fs).set j (fv1 ad σ k j f) = fv ad σ k 0 (fs.set j f) := by
  apply List.ext_getElem?
  intro i
  rw [List.getElem?_set, fv_get, fv_get, fv_len, List.getElem?_set]
  by_cases hi : j = i
  · subst hi
    rw [if_pos rfl, if_pos rfl, if_pos hj, if_pos hj, Option.map_some, Nat.zero_add]
  · rw [if_neg hi, if_neg hi]
theorem AwA {G : Gt} {sh : List Shp} {ad : Nat → Nat} {σ : Mem} {A : Nat → Prop} {H0 H : Heap} {locs : List Loc} (hW : Wd G sh ad σ A H0 H locs) (hA : ∀ q, H0.size ≤ q → A q) : ∀ q, Aw ad sh.length H.size q → A q := by
  intro q hq
  rcases hq with ⟨k, hk, e⟩ | h
  · have := hW.2.1.2 k (ad k, ce G ad σ k sh[k]) (by rw [wl_get, List.getElem?_eq_getElem hk]; simp)
    rw [← e]; exact this
  · exact hA q (Nat.le_trans hW.2.2.1 h)
theorem Pst.preA {G : Gt} {sh : List Shp} {ad : Nat → Nat} {σ : Mem} {A : Nat → Prop} {s : State} {H : Heap} {locs : List Loc} (hK : Kx G s) (hE : Ex A s) (hA : ∀ q, s.heap.size ≤ q → A q) (hW : Wd G sh ad σ A s.heap H locs) (av : List Value) : ∀ U : State, U.heap = H → s.WarmedH U.vm → va_Pc av (Pst G sh ad σ H.size) av.toArray U := by
  intro U hU hWm
  refine ⟨rfl, by rw [hU], by rw [hU]; exact hW.1, va_K.moved hWm.alike hK, hW.2.1.weaken (fun _ _ _ _ => trivial), hE.1.warm hWm, ?_⟩
  rw [hU]
  exact hE.2.go hWm.alike hW.2.2.2.1 (AwA hW hA)
/-- behind a constructor -/
def Bn (G : Gt) (sh : List Shp) (ad : Nat → Nat) (σ : Mem) (A : Nat → Prop) (t : State) : Prop := va_P G.2.2 vwCl (wl G ad σ 0 sh) t.heap ∧ Kx G t ∧ va_D A (wl G ad σ 0 sh)
def QN (G : Gt) (n : Nat) (sh' : List Shp) (ad : Nat → Nat) (τ : Mem) (A : Nat → Prop) : Array Value → State → Outcome → State → Prop := va_Qv (fun (u : Nat → Nat) => ∀ i, i < n → u i = ad i) (fun u t => Bn G sh' u τ A t) A
def QR (G : Gt) (n : Nat) (sh' : List Shp) (ad : Nat → Nat) (τ : Mem) (A : Nat → Prop) : Array Value → State → Outcome → State → Prop := va_Qr (fun (u : Nat → Nat) => ∀ i, i < n → u i = ad i) (fun u a t => u n = a ∧ Bn G sh' u τ A t) A
def CN (l : Launch) (y : MethodName) (c0 : Cond) (rm : Room) (G : Gt) (sh sh' : List Shp) (ad : Nat → Nat) (σ τ : Mem) (av : List Value) (mc ms : Nat) : Prop := ∀ sz : Nat, Met l y (c0 :: ALL) rm (va_Pc av (Pst G sh ad σ sz)) (QN G sh.length sh' ad τ (Aw ad sh.length sz)) mc ms (Aw ad sh.length sz)
def CR (l : Launch) (y : MethodName) (c0 : Cond) (rm : Room) (G : Gt) (sh sh' : List Shp) (ad : Nat → Nat) (σ τ : Mem) (av : List Value) (mc ms : Nat) : Prop := ∀ sz : Nat, Met l y (c0 :: ALL) rm (va_Pc av (Pst G sh ad σ sz)) (QR G sh.length sh' ad τ (Aw ad sh.length sz)) mc ms (Aw ad sh.length sz)
section GROW
variable {p : Program} {l : Launch} {e : Env} {R : Room} {s : State} {m : MethodId} {args : Array Value} {below : List Frame} {meth : Method} {c : Code} {H H0 : Heap} {locs : List Loc} {cells slots : Nat} {Q : State → Prop}
variable {pc : Nat} {ls : Array Slot} {rest st : List Value} {cc : ByteArray} {G : Gt} {sh : List Shp} {ad : Nat → Nat} {σ : Mem} {A : Nat → Prop} {c0 : Cond} {own : String}
theorem k_new (hexec : p.tables.exec = Jvm.exec) (hb : c.code = cc) (hts : ∀ w ∈ c0 :: ALL, w.before args s = true) (hown : s.vm.findClass own = some m.cls) (hK : Kx G s) (hW : Wd G sh ad σ A H0 H locs) (hA : ∀ q, H0.size ≤ q → A q) {n : Nat} (hn : sh.length = n) (hzz : hz n σ) (hok : okS n sh = true) {C : String} {T : u_T} {N ci index : Nat} (hc : vwCl[ci]? = some (C, T, N)) (huw : ∀ w ∈ u_ws C T N, w ∈ ALL) (ty : Nat → FieldType) (hty : ∀ k, k < N → parseFieldDescriptor (T k).2.2.1 = some (ty k)) (hcl : Cond.classLink own index C ∈ ALL) (hinst : Cond.instantiable C N ∈ ALL) (hini : Cond.initialized C ∈ ALL) (fs : List Fld) (h01 : fs.all (fun f : Nat => decide (f < 2)) = true) (hfs : ∀ j, j < N → defaultValue (ty j) = vp_V (fs.map f0) j) (hcells : cells + 1 ≤ R.cells) (hslots : slots + N ≤ R.slots) (hdg : decode cc pc = .ok (.new index, 3))
    (kk : ∀ (ad' : Nat → Nat) (a : Nat) (H1 : Heap), (∀ i, i < n → ad' i = ad i) → ad' n = a → Wd G (sh ++ [.inr (ci, fs)]) ad' σ A H0 H1 locs → W p l e R s m args below meth c H1 locs (cells + 1) (slots + N) Q (F0 m (pc + 3) ls (.ref a :: rest))) : W p l e R s m args below meth c H locs cells slots Q (F0 m pc ls rest) := by
  subst hn
  refine va_new (ci := ci) (fs := fs.map f0) (C := C) (T := T) (N := N) hexec hb hts (fun w h => List.mem_cons_of_mem _ (huw w h)) ty hty hown (hts _ (List.mem_cons_of_mem _ hcl)) (hts _ (List.mem_cons_of_mem _ hinst)) (hts _ (List.mem_cons_of_mem _ hini)) hK hW.1 hW.2.1 hW.2.2 hA hc hfs hcells hslots hdg (fun q H1 hP hD hS => ?_)
  have ha : ∀ i, i < sh.length → (fun i => if i = sh.length then q else ad i) i = ad i := fun i hi => by simp only; rw [if_neg (by omega)]
  have ew : wl G (fun i => if i = sh.length then q else ad i) σ 0 (sh ++ [.inr (ci, fs)]) = wl G ad σ 0 sh ++ [(q, .inr (ci, fs.map f0))] := by
    rw [wl_snoc, wl_ext ha G σ sh hok 0 (by omega)]
    simp only [Nat.zero_add, if_true, ce]
    rw [fv_zero _ (fun j => hzz _ (Nat.le_refl _) j) fs h01 0]
  refine kk (fun i => if i = sh.length then q else ad i) q H1 ha (by simp only [if_true]) ⟨?_, ?_, hS⟩
  · rw [ew]; exact hP
  · rw [ew]; exact hD
theorem k_newa (hexec : p.tables.exec = Jvm.exec) (hb : c.code = cc) (hts : ∀ w ∈ c0 :: ALL, w.before args s = true) (hK : Kx G s) (hW : Wd G sh ad σ A H0 H locs) (hA : ∀ q, H0.size ≤ q → A q) {n : Nat} (hn : sh.length = n) (hzz : hz n σ) (hok : okS n sh = true) {atype : ArrayType} {ty : FieldType} {t : Nat} (ht : (t = 0 ∧ ty = .int) ∨ (t = 1 ∧ ty = .boolean)) (hty : newarray.typeOf atype = ty) (harr : Cond.arrayClass ty ∈ ALL) {x : Int} (N : Nat) (hx : x = (N : Int)) (hr : rg x) (hbytes : N ≤ 100000) (hcells : cells + 1 ≤ R.cells) (hslots : slots + N ≤ R.slots) (hdg : decode cc pc = .ok (.newarray atype, 2))
    (kk : ∀ (ad' : Nat → Nat) (a : Nat) (H1 : Heap), (∀ i, i < n → ad' i = ad i) → ad' n = a → Wd G (sh ++ [.inl (t, N)]) ad' σ A H0 H1 locs → W p l e R s m args below meth c H1 locs (cells + 1) (slots + N) Q (F0 m (pc + 2) ls (.ref a :: rest))) : W p l e R s m args below meth c H locs cells slots Q (F0 m pc ls (.int (iN x) :: rest)) := by
  subst hn
  have hkt : ([(G.1, FieldType.int), (G.2.1, FieldType.boolean)] : List (ClassId × FieldType))[t]? = some (gA G t, ty) := by
    rcases ht with ⟨rfl, rfl⟩ | ⟨rfl, rfl⟩ <;> rfl
  have hcb : componentBytes ty ≤ 4 := by rcases ht with ⟨-, rfl⟩ | ⟨-, rfl⟩ <;> decide
  refine va_newa (a0 := (N, .inl (fun _ => 0))) (N' := N) hexec hb (by rw [hty]; exact hts _ (List.mem_cons_of_mem _ harr)) hty hK hW.1 hW.2.1 hW.2.2 hA (fun cA => by rcases ht with ⟨-, rfl⟩ | ⟨-, rfl⟩ <;> rfl) (fun h => by have := (iN_lt hr (rg_c 0 rfl)).mp h; omega) (by rw [iN_clamp hr]; omega) (Nat.le_trans (Nat.mul_le_mul_left N hcb) (by omega)) hcells hslots hdg (fun q cA H1 hK1 hP hD hS => ?_)
  have e1 := (hK1.2 2 (cA, ty) rfl).2
  have e2 := (hK.2 t _ hkt).2
  have ecA : cA = gA G t := by
    rcases ht with ⟨-, rfl⟩ | ⟨-, rfl⟩
    · exact Option.some.inj (Eq.trans (Eq.symm e1) e2)
    · exact Option.some.inj (Eq.trans (Eq.symm e1) e2)
  subst ecA
  have ha : ∀ i, i < sh.length → (fun i => if i = sh.length then q else ad i) i = ad i := fun i hi => by simp only; rw [if_neg (by omega)]
  have ew : wl G (fun i => if i = sh.length then q else ad i) σ 0 (sh ++ [.inl (t, N)]) = wl G ad σ 0 sh ++ [(q, .inl (gA G t, N, .inl (fun _ => 0)))] := by
    rw [wl_snoc, wl_ext ha G σ sh hok 0 (by omega)]
    simp only [Nat.zero_add, if_true, ce]
    rw [show (fun j => iN (σ sh.length j)) = (fun _ => (0 : Int32)) from funext (fun j => by rw [hzz _ (Nat.le_refl _) j]; rfl)]
  refine kk (fun i => if i = sh.length then q else ad i) q H1 ha (by simp only [if_true]) ⟨?_, ?_, hS⟩
  · rw [ew]; exact hP
  · rw [ew]; exact hD
theorem k_get {a : Nat} (hexec : p.tables.exec = Jvm.exec) (hb : c.code = cc) (hts : ∀ w ∈ c0 :: ALL, w.before args s = true) (hown : s.vm.findClass own = some m.cls) (hK : Kx G s) (hW : Wd G sh ad σ A H0 H locs) (k : Nat) (ha : ad k = a) {ci : Nat} {fs : List Fld} (hk : sh[k]? = some (.inr (ci, fs))) {C ref : String} {T : u_T} {N index : Nat} (hc : vwCl[ci]? = some (C, T, N)) (huw : ∀ w ∈ u_ws C T N, w ∈ ALL) (j : Nat) (hj : j < N) (hf : fs[j]? = some 0) (hlink : Cond.fieldLink own index ref (T j).2.1 (T j).2.2.1 ∈ ALL) (hsame : ∀ x, s.fieldFound? (T j).1 (T j).2.1 (T j).2.2.1 = some x → s.fieldFound? ref (T j).2.1 (T j).2.2.1 = some x) {v : Int} (hv : σ k j = v) (hdg : decode cc pc = .ok (.getfield index, 3))
    (kk : W p l e R s m args below meth c H locs cells slots Q (F0 m (pc + 3) ls (.int (iN v) :: rest))) : W p l e R s m args below meth c H locs cells slots Q (F0 m pc ls (.ref a :: rest)) := by
  subst ha hv
  exact g_get hexec hb hts hown hK hW k hk hc huw j hj hf hlink hsame hdg kk
theorem k_getr {a b : Nat} (hexec : p.tables.exec = Jvm.exec) (hb : c.code = cc) (hts : ∀ w ∈ c0 :: ALL, w.before args s = true) (hown : s.vm.findClass own = some m.cls) (hK : Kx G s) (hW : Wd G sh ad σ A H0 H locs) (k : Nat) (ha : ad k = a) {ci q : Nat} (hq : ad q = b) {fs : List Fld} (hk : sh[k]? = some (.inr (ci, fs))) {C ref : String} {T : u_T} {N index : Nat} (hc : vwCl[ci]? = some (C, T, N)) (huw : ∀ w ∈ u_ws C T N, w ∈ ALL) (j : Nat) (hj : j < N) (hf : fs[j]? = some (q + 3)) (hlink : Cond.fieldLink own index ref (T j).2.1 (T j).2.2.1 ∈ ALL) (hsame : ∀ x, s.fieldFound? (T j).1 (T j).2.1 (T j).2.2.1 = some x → s.fieldFound? ref (T j).2.1 (T j).2.2.1 = some x) (hdg : decode cc pc = .ok (.getfield index, 3))
    (kk : W p l e R s m args below meth c H locs cells slots Q (F0 m (pc + 3) ls (.ref b :: rest))) : W p l e R s m args below meth c H locs cells slots Q (F0 m pc ls (.ref a :: rest)) := by
  subst ha hq
  exact g_getr hexec hb hts hown hK hW k hk hc huw j hj hf hlink hsame hdg kk
theorem k_ast {a : Nat} (hexec : p.tables.exec = Jvm.exec) (hb : c.code = cc) (hK : Kx G s) (hW : Wd G sh ad σ A H0 H locs) (k : Nat) (ha : ad k = a) {n : Nat} (hk : sh[k]? = some (.inl (0, n))) {i v : Int} (hin : inb i n) (hdg : decode cc pc = .ok (.iastore, 1))
    (kk : ∀ (H1 : Heap) (locs1 : List Loc), Wd G sh ad (up2 σ k i.toNat v) A H0 H1 locs1 → W p l e R s m args below meth c H1 locs1 cells slots Q (F0 m (pc + 1) ls rest)) : W p l e R s m args below meth c H locs cells slots Q (F0 m pc ls (.int (iN v) :: .int (iN i) :: .ref a :: rest)) := by
  subst ha
  exact g_ast hexec hb hK hW k hk hin hdg (fun τ H1 locs1 e h => kk H1 locs1 (by rw [← e]; exact h))
/-- putfield of a number -/
theorem k_put {a : Nat} (hexec : p.tables.exec = Jvm.exec) (hb : c.code = cc) (hts : ∀ w ∈ c0 :: ALL, w.before args s = true) (hown : s.vm.findClass own = some m.cls) (hK : Kx G s) (hW : Wd G sh ad σ A H0 H locs) (k : Nat) (ha : ad k = a) {ci : Nat} {fs : List Fld} (hk : sh[k]? = some (.inr (ci, fs))) {C ref : String} {T : u_T} {N index : Nat} (hc : vwCl[ci]? = some (C, T, N)) (huw : ∀ w ∈ u_ws C T N, w ∈ ALL) (ty0 : Nat → FieldType) (hty : ∀ k, k < N → parseFieldDescriptor (T k).2.2.1 = some (ty0 k)) (hnm : ∀ a, a < N → ∀ b, b < N → a ≠ b → (T a).2.1 ≠ (T b).2.1) (j : Nat) (hj : j < N) (hf : fs[j]? = some 0) (hlink : Cond.fieldLink own index ref (T j).2.1 (T j).2.2.1 ∈ ALL) (hsame : ∀ x, s.fieldFound? (T j).1 (T j).2.1 (T j).2.2.1 = some x → s.fieldFound? ref (T j).2.1 (T j).2.2.1 = some x) (hfin : (T j).2.2.2 = false ∨ ((T j).2.2.2 = true ∧ meth.name = "<init>" ∧ (T j).1 = own)) {v : Int} (hn : narrow (ty0 j) (.int (iN v)) = .int (iN v)) (hfit : fits (ty0 j) (.int (iN v)) = true) (hdg : decode cc pc = .ok (.putfield index, 3))
    (kk : ∀ (H1 : Heap) (locs1 : List Loc), Wd G sh ad (up2 σ k j v) A H0 H1 locs1 → W p l e R s m args below meth c H1 locs1 cells slots Q (F0 m (pc + 3) ls rest)) : W p l e R s m args below meth c H locs cells slots Q (F0 m pc ls (.int (iN v) :: .ref a :: rest)) := by
  subst ha
  rcases hfin with hfin | ⟨hfin, hin2, hdecl⟩
  · exact g_put hexec hb hts hown hK hW k hk hc huw ty0 hty hnm j hj hf hlink hsame hfin hn hfit hdg (fun τ H1 locs1 e h => kk H1 locs1 (by rw [← e]; exact h))
  · exact va_putF (ty := ty0 j) hexec hb hts (fun w h => List.mem_cons_of_mem _ (huw w h)) ty0 hty hnm hown hK hW.1 hW.2.1 hW.2.2 k (hW.at k hk) hc j hj (hts _ (List.mem_cons_of_mem _ hlink)) hsame hfin hin2 hdecl (hty j hj) hn hfit (by rw [fv_len]; exact (List.getElem?_eq_some_iff.mp hf).1) hdg
      (fun H1 locs1 h1 h2 h3 => kk H1 locs1 (hW.upd k hk (fun a ha => up2_k ha) (by simp only [ce]; rw [fv_set ad hf]) h1 h2 h3))
/-- putfield of a reference: the shape changes -/
theorem k_putr {a b : Nat} (hexec : p.tables.exec = Jvm.exec) (hb : c.code = cc) (hts : ∀ w ∈ c0 :: ALL, w.before args s = true) (hown : s.vm.findClass own = some m.cls) (hK : Kx G s) (hW : Wd G sh ad σ A H0 H locs) (k : Nat) (ha : ad k = a) (q : Nat) (hq : ad q = b) {ci : Nat} {fs : List Fld} (hk : sh[k]? = some (.inr (ci, fs))) {C ref : String} {T : u_T} {N index : Nat} (hc : vwCl[ci]? = some (C, T, N)) (huw : ∀ w ∈ u_ws C T N, w ∈ ALL) (ty0 : Nat → FieldType) (hty : ∀ k, k < N → parseFieldDescriptor (T k).2.2.1 = some (ty0 k)) (hnm : ∀ a, a < N → ∀ b, b < N → a ≠ b → (T a).2.1 ≠ (T b).2.1) (j : Nat) (hj : j < N) (hl : j < fs.length) (hlink : Cond.fieldLink own index ref (T j).2.1 (T j).2.2.1 ∈ ALL) (hsame : ∀ x, s.fieldFound? (T j).1 (T j).2.1 (T j).2.2.1 = some x → s.fieldFound? ref (T j).2.1 (T j).2.2.1 = some x) (hfin : (T j).2.2.2 = false ∨ ((T j).2.2.2 = true ∧ meth.name = "<init>" ∧ (T j).1 = own)) (hn : narrow (ty0 j) (.ref b) = .ref b) (hfit : fits (ty0 j) (.ref b) = true) (hdg : decode cc pc = .ok (.putfield index, 3))
    (kk : ∀ (H1 : Heap) (locs1 : List Loc), Wd G (sh.set k (.inr (ci, fs.set j (q + 3)))) ad σ A H0 H1 locs1 → W p l e R s m args below meth c H1 locs1 cells slots Q (F0 m (pc + 3) ls rest)) : W p l e R s m args below meth c H locs cells slots Q (F0 m pc ls (.ref b :: .ref a :: rest)) := by
  subst ha hq
  have go : ∀ (H1 : Heap) (locs1 : List Loc), va_P G.2.2 vwCl ((wl G ad σ 0 sh).set k (ad k, .inr (ci, (fv ad σ k 0 fs).set j (.ref (ad q))))) H1 → va_D A ((wl G ad σ 0 sh).set k (ad k, .inr (ci, (fv ad σ k 0 fs).set j (.ref (ad q))))) → va_S A H0 H1 locs1 → W p l e R s m args below meth c H1 locs1 cells slots Q (F0 m (pc + 3) ls rest) := by
    intro H1 locs1 h1 h2 h3
    have e1 : (fv ad σ k 0 fs).set j (.ref (ad q)) = fv ad σ k 0 (fs.set j (q + 3)) := by
      rw [← fv_setS ad σ k hl (q + 3)]
      congr 1
    have e2 : (wl G ad σ 0 sh).set k (ad k, .inr (ci, (fv ad σ k 0 fs).set j (.ref (ad q)))) = wl G ad σ 0 (sh.set k (.inr (ci, fs.set j (q + 3)))) := by
      rw [← wl_setS G ad σ hk, e1]
      rfl
    rw [e2] at h1 h2
    exact kk H1 locs1 ⟨h1, h2, h3⟩
  rcases hfin with hfin | ⟨hfin, hin2, hdecl⟩
  · exact va_put (ty := ty0 j) hexec hb hts (fun w h => List.mem_cons_of_mem _ (huw w h)) ty0 hty hnm hown hK hW.1 hW.2.1 hW.2.2 k (hW.at k hk) hc j hj (hts _ (List.mem_cons_of_mem _ hlink)) hsame hfin (hty j hj) hn hfit (by rw [fv_len]; exact hl) hdg go
  · exact va_putF (ty := ty0 j) hexec hb hts (fun w h => List.mem_cons_of_mem _ (huw w h)) ty0 hty hnm hown hK hW.1 hW.2.1 hW.2.2 k (hW.at k hk) hc j hj (hts _ (List.mem_cons_of_mem _ hlink)) hsame hfin hin2 hdecl (hty j hj) hn hfit (by rw [fv_len]; exact hl) hdg go
/-- putfield of null where null is -/
theorem k_putnull {a : Nat} (hexec : p.tables.exec = Jvm.exec) (hb : c.code = cc) (hts : ∀ w ∈ c0 :: ALL, w.before args s = true) (hown : s.vm.findClass own = some m.cls) (hK : Kx G s) (hW : Wd G sh ad σ A H0 H locs) (k : Nat) (ha : ad k = a) {ci : Nat} {fs : List Fld} (hk : sh[k]? = some (.inr (ci, fs))) {C ref : String} {T : u_T} {N index : Nat} (hc : vwCl[ci]? = some (C, T, N)) (huw : ∀ w ∈ u_ws C T N, w ∈ ALL) (ty0 : Nat → FieldType) (hty : ∀ k, k < N → parseFieldDescriptor (T k).2.2.1 = some (ty0 k)) (hnm : ∀ a, a < N → ∀ b, b < N → a ≠ b → (T a).2.1 ≠ (T b).2.1) (j : Nat) (hj : j < N) (hf : fs[j]? = some 1) (hlink : Cond.fieldLink own index ref (T j).2.1 (T j).2.2.1 ∈ ALL) (hsame : ∀ x, s.fieldFound? (T j).1 (T j).2.1 (T j).2.2.1 = some x → s.fieldFound? ref (T j).2.1 (T j).2.2.1 = some x) (hfin : (T j).2.2.2 = false) (hn : narrow (ty0 j) .null = .null) (hfit : fits (ty0 j) .null = true) (hdg : decode cc pc = .ok (.putfield index, 3))
    (kk : ∀ (H1 : Heap) (locs1 : List Loc), Wd G sh ad σ A H0 H1 locs1 → W p l e R s m args below meth c H1 locs1 cells slots Q (F0 m (pc + 3) ls rest)) : W p l e R s m args below meth c H locs cells slots Q (F0 m pc ls (.null :: .ref a :: rest)) := by
  subst ha
  have hl : j < fs.length := (List.getElem?_eq_some_iff.mp hf).1
  refine va_put (ty := ty0 j) hexec hb hts (fun w h => List.mem_cons_of_mem _ (huw w h)) ty0 hty hnm hown hK hW.1 hW.2.1 hW.2.2 k (hW.at k hk) hc j hj (hts _ (List.mem_cons_of_mem _ hlink)) hsame hfin (hty j hj) hn hfit (by rw [fv_len]; exact hl) hdg (fun H1 locs1 h1 h2 h3 => ?_)
  have e1 : (fv ad σ k 0 fs).set j .null = fv ad σ k 0 fs := by
    apply List.ext_getElem?
    intro i
    rw [List.getElem?_set, fv_len]
    by_cases hi : j = i
    · subst hi
      rw [if_pos rfl, if_pos hl, fv_get, hf]
      rfl
    · rw [if_neg hi]
  have e2 : (wl G ad σ 0 sh).set k (ad k, .inr (ci, (fv ad σ k 0 fs).set j .null)) = wl G ad σ 0 sh := by
    rw [e1]
    exact wl_set G ad hk (fun _ _ => rfl)
  rw [e2] at h1 h2
  exact kk H1 locs1 ⟨h1, h2, h3⟩
/-- calls from a world that grows -/
theorem fin_CN {a : Array Value} {n mc ms : Nat} {sh' : List Shp} {τ : Mem} (hA : ∀ q, s.heap.size ≤ q → A q) (hW : Wd G sh ad σ A s.heap H locs) (hn : sh.length = n) (hr : va_Run p l e R s m args below meth c H locs cells slots mc ms (F0 m pc ls st) rest (QN G sh.length sh' ad τ (Aw ad sh.length H.size) a) (Aw ad sh.length H.size))
    (kk : ∀ (ad' : Nat → Nat) (H1 : Heap) (locs1 : List Loc), (∀ i, i < n → ad' i = ad i) → Wd G sh' ad' τ A s.heap H1 locs1 → W p l e R s m args below meth c H1 locs1 (cells + mc) (slots + ms) Q (F0 m (pc + 3) ls rest)) : W p l e R s m args below meth c H locs cells slots Q (F0 m pc ls st) := by
  subst hn
  exact va_callv hr hW.2.2 (fun q _ h => AwA hW hA q h) (fun q h => AwA hW hA q h) (fun u t H1 locs1 ht _ hp hB _ _ hS => kk u H1 locs1 hp ⟨by rw [← ht]; exact hB.1, hB.2.2.weaken (fun _ q _ h => AwA hW hA q.1 h), hS⟩)
theorem fin_CR {a : Array Value} {n mc ms : Nat} {sh' : List Shp} {τ : Mem} (hA : ∀ q, s.heap.size ≤ q → A q) (hW : Wd G sh ad σ A s.heap H locs) (hn : sh.length = n) (hr : va_Run p l e R s m args below meth c H locs cells slots mc ms (F0 m pc ls st) rest (QR G sh.length sh' ad τ (Aw ad sh.length H.size) a) (Aw ad sh.length H.size))
    (kk : ∀ (ad' : Nat → Nat) (b : Nat) (H1 : Heap) (locs1 : List Loc), (∀ i, i < n → ad' i = ad i) → ad' n = b → Wd G sh' ad' τ A s.heap H1 locs1 → W p l e R s m args below meth c H1 locs1 (cells + mc) (slots + ms) Q (F0 m (pc + 3) ls (.ref b :: rest))) : W p l e R s m args below meth c H locs cells slots Q (F0 m pc ls st) := by
  subst hn
  exact va_callr hr hW.2.2 (fun q _ h => AwA hW hA q h) (fun q h => AwA hW hA q h) (fun u ra t H1 locs1 ht _ hp hB _ _ hS => kk u ra H1 locs1 hp hB.1 ⟨by rw [← ht]; exact hB.2.1, hB.2.2.2.weaken (fun _ q _ h => AwA hW hA q.1 h), hS⟩)
variable {nL n index maxL : Nat} {y : MethodName} {bytes : ByteArray} {ret : Option FieldType} {rm : Room} {As : List Value} {Qc : Array Value → State → Outcome → State → Prop} {free : Addr → Prop} {mc ms a : Nat}
theorem run_IA (S : CallFix p m c cc nL s args (c0 :: ALL) own) (hK : Kx G s) (hE : Ex A s) (hA : ∀ q, s.heap.size ≤ q → A q) (hW : Wd G sh ad σ A s.heap H locs) (hM : Met l y (Cond.code y bytes maxL none :: ALL) rm (va_Pc (.ref a :: As) (Pst G sh ad σ H.size)) Qc mc ms free)
    (h1 : Cond.methodLink own index y ∈ ALL) (h2 : Cond.instanceMethod y ∈ ALL) (h3 : Cond.initialized y.cls ∈ ALL) (h5 : Cond.code y bytes maxL none ∈ ALL) (hy : y.name = "<init>") (hd : y.cls ≠ "java/lang/invoke/MethodHandle" ∧ y.cls ≠ "java/lang/invoke/VarHandle" ∧ (parseMethodDescriptor y.desc).map (fun d => d.parameters.length) = some n) (hrc : rm.cells = mc) (hrs : rm.slots = ms) (hR : rm.frames + 1 ≤ R.frames ∧ 8 + (maxL + 11) + rm.locals ≤ R.locals) (hn : As.length = n) (hsz : ls.size = nL) (hst : st = As.reverse ++ .ref a :: rest) (hroom : (rest.map fun v => v.category).sum ≤ 8) (hdg : decode cc pc = .ok (.invokespecial index, 3)) (hcs : cells + mc ≤ R.cells ∧ slots + ms ≤ R.slots) :
    va_Run p l e R s m args below meth c H locs cells slots mc ms (F0 m pc ls st) rest (Qc (Value.ref a :: As).toArray) free :=
  va_runI (As := As) (rest := rest) S hM (cwI n S.2.2.2.2 (GoodA h5) rfl hrc hrs (S.2.2.2.2 _ (List.mem_cons_of_mem _ h3)) (S.2.2.2.2 _ (List.mem_cons_of_mem _ h1)) (S.2.2.2.2 _ (List.mem_cons_of_mem _ h2)) hy hd hR) ⟨Pst.blind G sh ad σ H.size _, Pst.preA hK hE hA hW _⟩ rfl hn hsz hst (lv_room hroom) hdg hcs
theorem run_IN {host : String} (i : Nat) (S : CallFix p m c cc nL s args (c0 :: ALL) own) (hK : Kx G s) (hE : Ex A s) (hA : ∀ q, s.heap.size ≤ q → A q) (hW : Wd G sh ad σ A s.heap H locs) (hM : Met l y (Cond.code y bytes maxL none :: ALL) rm (va_Pc (.ref a :: As) (Pst G sh ad σ H.size)) Qc mc ms free)
    (h1 : nestM[i]? = some (own, index, y, host)) (h2 : Cond.instanceMethod y ∈ ALL) (h3 : Cond.initialized y.cls ∈ ALL) (h5 : Cond.code y bytes maxL none ∈ ALL) (hy : y.name = "<init>") (hd : y.cls ≠ "java/lang/invoke/MethodHandle" ∧ y.cls ≠ "java/lang/invoke/VarHandle" ∧ (parseMethodDescriptor y.desc).map (fun d => d.parameters.length) = some n) (hrc : rm.cells = mc) (hrs : rm.slots = ms) (hR : rm.frames + 1 ≤ R.frames ∧ 8 + (maxL + 11) + rm.locals ≤ R.locals) (hn : As.length = n) (hsz : ls.size = nL) (hst : st = As.reverse ++ .ref a :: rest) (hroom : (rest.map fun v => v.category).sum ≤ 8) (hdg : decode cc pc = .ok (.invokespecial index, 3)) (hcs : cells + mc ≤ R.cells ∧ slots + ms ≤ R.slots) :
    va_Run p l e R s m args below meth c H locs cells slots mc ms (F0 m pc ls st) rest (Qc (Value.ref a :: As).toArray) free :=
  va_runIN (As := As) (rest := rest) S hM ⟨va_cnB n S.2.2.2.2 (GoodA h5) rfl hrc hrs (hE.1.2.1 _ (List.mem_of_getElem? h1)) (S.2.2.2.2 _ (List.mem_cons_of_mem _ h3)) hd hR, hy, S.2.2.2.2 _ (List.mem_cons_of_mem _ h2)⟩ ⟨Pst.blind G sh ad σ H.size _, Pst.preA hK hE hA hW _⟩ rfl hn hsz hst (lv_room hroom) hdg hcs
theorem run_SA (S : CallFix p m c cc nL s args (c0 :: ALL) own) (hK : Kx G s) (hE : Ex A s) (hA : ∀ q, s.heap.size ≤ q → A q) (hW : Wd G sh ad σ A s.heap H locs) (hM : Met l y (Cond.code y bytes maxL ret :: ALL) rm (va_Pc As (Pst G sh ad σ H.size)) Qc mc ms free)
    (h1 : Cond.methodLink own index y ∈ ALL) (h2 : Cond.static y ∈ ALL) (h3 : Cond.initialized y.cls ∈ ALL) (h5 : Cond.code y bytes maxL ret ∈ ALL) (hd : y.cls ≠ "java/lang/invoke/MethodHandle" ∧ y.cls ≠ "java/lang/invoke/VarHandle" ∧ (parseMethodDescriptor y.desc).map (fun d => d.parameters.length) = some n) (hrc : rm.cells = mc) (hrs : rm.slots = ms) (hR : rm.frames + 1 ≤ R.frames ∧ 8 + (maxL + 11) + rm.locals ≤ R.locals) (hn : As.length = n) (hsz : ls.size = nL) (hst : st = As.reverse ++ rest) (hroom : (rest.map fun v => v.category).sum ≤ 8) (hdg : decode cc pc = .ok (.invokestatic index, 3)) (hcs : cells + mc ≤ R.cells ∧ slots + ms ≤ R.slots) :
    va_Run p l e R s m args below meth c H locs cells slots mc ms (F0 m pc ls st) rest (Qc As.toArray) free :=
  va_runS (As := As) (rest := rest) S hM (va_cwS n S.2.2.2.2 (GoodAp (GoodB (mem3 h1 h2 h3)) (GoodA h5)) rfl hrc hrs hd hR) ⟨Pst.blind G sh ad σ H.size _, Pst.preA hK hE hA hW _⟩ rfl hn hsz hst (lv_room hroom) hdg hcs
theorem run_VA {k : Nat} (S : CallFix p m c cc nL s args (c0 :: ALL) own) (hK : Kx G s) (hE : Ex A s) (hA : ∀ q, s.heap.size ≤ q → A q) (hW : Wd G sh ad σ A s.heap H locs) (hM : Met l y (Cond.code y bytes maxL ret :: ALL) rm (va_Pc (.ref (ad k) :: As) (Pst G sh ad σ H.size)) Qc mc ms free) {ci : Nat} {fs : List Fld} (hk : sh[k]? = some (.inr (ci, fs))) {C : String} {T : u_T} {N : Nat} (hc : vwCl[ci]? = some (C, T, N))
    (h1 : Cond.methodLink own index y ∈ ALL) (h2 : Cond.instanceMethod y ∈ ALL) (h3 : Cond.selects C y y ∈ ALL) (h4 : Cond.initialized C ∈ ALL) (h5 : Cond.code y bytes maxL ret ∈ ALL) (hd : y.cls = C ∧ y.cls ≠ "java/lang/invoke/MethodHandle" ∧ y.cls ≠ "java/lang/invoke/VarHandle" ∧ (parseMethodDescriptor y.desc).map (fun d => d.parameters.length) = some n) (hrc : rm.cells = mc) (hrs : rm.slots = ms) (hR : rm.frames + 1 ≤ R.frames ∧ 8 + (maxL + 11) + rm.locals ≤ R.locals) (hn : As.length = n) (hsz : ls.size = nL) (hst : st = As.reverse ++ .ref (ad k) :: rest) (hroom : (rest.map fun v => v.category).sum ≤ 8) (hdg : decode cc pc = .ok (.invokevirtual index, 3)) (hcs : cells + mc ≤ R.cells ∧ slots + ms ≤ R.slots) :
    va_Run p l e R s m args below meth c H locs cells slots mc ms (F0 m pc ls st) rest (Qc (Value.ref (ad k) :: As).toArray) free :=
  va_runV (As := As) (rest := rest) S hM (cwV n S.2.2.2.2 (GoodAp (GoodB (mem4 h1 h2 h3 h4)) (GoodA h5)) rfl hrc hrs hd hR) ⟨Pst.blind G sh ad σ H.size _, hW.recv hK hk hc, Pst.preA hK hE hA hW _⟩ rfl hn hsz hst (lv_room hroom) hdg hcs
theorem Wd.backA {τ : Mem} {t : State} {H1 : Heap} {locs1 : List Loc} (hA : ∀ q, s.heap.size ≤ q → A q) (hW : Wd G sh ad σ A s.heap H locs) (ht : t.heap = H1) (hB : Bw G sh ad τ H.size t) (hS : va_S A s.heap H1 locs1) : Wd G sh ad τ A s.heap H1 locs1 :=
  ⟨by rw [← ht]; exact hB.1, hB.2.2.weaken (fun _ q _ h => AwA hW hA q.1 h), hS⟩
theorem fin_CIA {a : Array Value} {post : Int → Prop} (hA : ∀ q, s.heap.size ≤ q → A q) (hW : Wd G sh ad σ A s.heap H locs) (hr : va_Run p l e R s m args below meth c H locs cells slots 0 0 (F0 m pc ls st) rest (va_Qi (fun r (u : Int) => r = iN u ∧ post u) (fun _ t => Bw G sh ad σ H.size t) (Aw ad sh.length H.size) a) (Aw ad sh.length H.size))
    (kk : ∀ (x : Int) (H1 : Heap) (locs1 : List Loc), post x → Wd G sh ad σ A s.heap H1 locs1 → W p l e R s m args below meth c H1 locs1 cells slots Q (F0 m (pc + 3) ls (.int (iN x) :: rest))) : W p l e R s m args below meth c H locs cells slots Q (F0 m pc ls st) :=
  va_calli hr hW.2.2 (fun q _ h => AwA hW hA q h) (fun q h => AwA hW hA q h) (fun r u t H1 locs1 ht _ hp hB _ _ hS => by
    obtain ⟨rfl, hp⟩ := hp
    exact kk u H1 locs1 hp (hW.backA hA ht hB hS))
theorem fin_CMA {a : Array Value} {pp : Int × Mem → Prop} (hA : ∀ q, s.heap.size ≤ q → A q) (hW : Wd G sh ad σ A s.heap H locs) (hr : va_Run p l e R s m args below meth c H locs cells slots 0 0 (F0 m pc ls st) rest (va_Qi (fun r (u : Int × Mem) => r = iN u.1 ∧ pp u) (fun u t => Bw G sh ad u.2 H.size t) (Aw ad sh.length H.size) a) (Aw ad sh.length H.size))
    (kk : ∀ (x : Int) (τ : Mem) (H1 : Heap) (locs1 : List Loc), pp (x, τ) → Wd G sh ad τ A s.heap H1 locs1 → W p l e R s m args below meth c H1 locs1 cells slots Q (F0 m (pc + 3) ls (.int (iN x) :: rest))) : W p l e R s m args below meth c H locs cells slots Q (F0 m pc ls st) :=
  va_calli hr hW.2.2 (fun q _ h => AwA hW hA q h) (fun q h => AwA hW hA q h) (fun r u t H1 locs1 ht _ hp hB _ _ hS => by
    obtain ⟨rfl, hp⟩ := hp
    exact kk u.1 u.2 H1 locs1 hp (hW.backA hA ht hB hS))
/-- a constructor's end -/
theorem r_CN {n : Nat} {sh' : List Shp} {ad' : Nat → Nat} {τ : Mem} {sz : Nat} (hexec : p.tables.exec = Jvm.exec) (hb : c.code = cc) (hr : meth.sig.returnType = none) (hlocks : meth.locks = false) (hK : Kx G s) (hW : Wd G sh' ad' τ A s.heap H locs) (ha : ∀ i, i < n → ad' i = ad i) (hdg : decode cc pc = .ok (.return_, 1)) : W p l e R s m args below meth c H locs cells slots (MQ below (QN G n sh' ad τ A) args s cells slots A) (F0 m pc ls []) :=
  W.vret hexec hb hr (fun t ht hWm => ⟨⟨ad', rfl, ha, by rw [ht]; exact hW.1, va_K.moved hWm.alike hK, hW.2.1⟩, hW.2.2.F ht⟩) hW.2.2.2.2 hdg hlocks
/-- a start -/
theorem s_allN {l : Launch} {y : MethodName} {code : ByteArray} {maxL : Nat} {ret : Option FieldType} {rm : Room} {av : List Value} {mc ms : Nat} {Qc : Nat → Array Value → State → Outcome → State → Prop} (hy : plainName y.cls = true) (hlen : (lg_sl av).length ≤ maxL)
    (body : ∀ (p : Program) (e : Env) (s : State) (m : MethodId) (below : List Frame) (meth : Method) (c : Code), CallFix p m c code maxL s av.toArray (Cond.code y code maxL ret :: ALL) y.cls → meth.sig.returnType = ret → meth.locks = false → (y.name = "<init>" → meth.name = "<init>") → Kx G s → Ex (Aw ad sh.length s.heap.size) s → Wd G sh ad σ (Aw ad sh.length s.heap.size) s.heap s.heap [] → ∀ ls : Array Slot, lv_has ls maxL (lv_args 0 av) →
      W p l e rm s m av.toArray below meth c s.heap [] 0 0 (MQ below (Qc s.heap.size) av.toArray s mc ms (Aw ad sh.length s.heap.size)) (F0 m 0 ls [])) :
    ∀ sz : Nat, Met l y (Cond.code y code maxL ret :: ALL) rm (va_Pc av (Pst G sh ad σ sz)) (Qc sz) mc ms (Aw ad sh.length sz) := by
  intro sz
  refine Met.ofW (cc := code) (maxL := maxL) (ret := ret) hy rfl ?_
  intro p e s m args below meth c s₁ B hml hv
  obtain ⟨rfl, hsz, hP, hK, hD, hE⟩ := hv
  subst hsz
  have hl := lv_entry av (n := maxL) hlen
  rw [lg_entry_eq]
  generalize (lg_sl av ++ List.replicate (maxL - (lg_sl av).length) Slot.unset).toArray = ls at hl ⊢
  exact body p e s m below meth c ⟨B.exec, B.bytes, hml, findClass_of_methodNamed B.named, atoms_spec (ws := Cond.code y code maxL ret :: ALL) B.pre⟩ B.returns B.notSynchronized (fun h => ((name_of_methodNamed B.named B.method).1).trans h) hK hE ⟨hP, Dw hD, va_S.rf⟩ ls hl
end GROW
