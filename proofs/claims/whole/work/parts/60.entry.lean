/-! what holds at the law's entry -/
theorem en_K {s : State} {args : Array Value} (hts : ∀ w ∈ ALL, w.before args s = true) : ∃ G : Gt, Kx G s := by
  have h : ∀ c : Nat, ∃ (cC : ClassId) (iS : Nat → Nat), ∀ q : vw_C, vwCl[c]? = some q → u_Kn s q.1 q.2.1 q.2.2 cC iS := by
    intro c
    match c with
    | 0 =>
      obtain ⟨cC, iS, h⟩ := u_known hts uw_X0 (hts _ al_33)
      exact ⟨cC, iS, fun q hq => by cases hq; exact h⟩
    | 1 =>
      obtain ⟨cC, iS, h⟩ := u_known hts uw_X1 (hts _ al_42)
      exact ⟨cC, iS, fun q hq => by cases hq; exact h⟩
    | 2 =>
      obtain ⟨cC, iS, h⟩ := u_known hts uw_X3 (hts _ al_172)
      exact ⟨cC, iS, fun q hq => by cases hq; exact h⟩
    | 3 =>
      obtain ⟨cC, iS, h⟩ := u_known hts uw_X4 (hts _ al_144)
      exact ⟨cC, iS, fun q hq => by cases hq; exact h⟩
    | 4 =>
      obtain ⟨cC, iS, h⟩ := u_known hts uw_X5 (hts _ al_158)
      exact ⟨cC, iS, fun q hq => by cases hq; exact h⟩
    | 5 =>
      obtain ⟨cC, iS, h⟩ := u_known hts uw_X6 (hts _ al_116)
      exact ⟨cC, iS, fun q hq => by cases hq; exact h⟩
    | 6 =>
      obtain ⟨cC, iS, h⟩ := u_known hts uw_X7 (hts _ al_641)
      exact ⟨cC, iS, fun q hq => by cases hq; exact h⟩
    | 7 =>
      obtain ⟨cC, iS, h⟩ := u_known hts uw_X8 (hts _ al_130)
      exact ⟨cC, iS, fun q hq => by cases hq; exact h⟩
    | 8 =>
      obtain ⟨cC, iS, h⟩ := u_known hts uw_X9 (hts _ al_16)
      exact ⟨cC, iS, fun q hq => by cases hq; exact h⟩
    | 9 =>
      obtain ⟨cC, iS, h⟩ := u_known hts uw_X10 (hts _ al_757)
      exact ⟨cC, iS, fun q hq => by cases hq; exact h⟩
    | n + 10 =>
      obtain ⟨cC, iS, -⟩ := u_known hts uw_X0 (hts _ al_33)
      exact ⟨cC, iS, fun q hq => absurd hq (by simp [vwCl])⟩
  obtain ⟨c1, k1, comp1, f1, g1, e1⟩ := Cond.arrayClass_spec (hts _ al_76)
  obtain ⟨c2, k2, comp2, f2, g2, e2⟩ := Cond.arrayClass_spec (hts _ al_824)
  refine ⟨(c1, c2, (fun c => Classical.choose (h c), fun c => Classical.choose (Classical.choose_spec (h c)))), fun c q hq => Classical.choose_spec (Classical.choose_spec (h c)) q hq, fun k q hq => ?_⟩
  match k with
  | 0 =>
    cases hq
    exact ⟨fun n z => ⟨fun k h => (by cases h), k1, g1, comp1, e1⟩, f1⟩
  | 1 =>
    cases hq
    exact ⟨fun n z => ⟨fun k h => (by cases h), k2, g2, comp2, e2⟩, f2⟩
  | n + 2 => exact absurd hq (by simp)
theorem en_f : ∀ q ∈ nestF, nwF q ∈ tables_1 := by decide +kernel
theorem en_m : ∀ q ∈ nestM, nwM q ∈ tables_1 := by decide +kernel
theorem en_d : ∀ q ∈ nestD, Cond.declares q ∈ tables_1 := by decide +kernel
theorem en_N {s : State} {args : Array Value} (hts : ∀ w ∈ lw_tbl, w.before args s = true) : Nx s :=
  ⟨fun q hq => va_Nw.of rfl (hts _ (List.mem_append_right _ (en_f q hq))), fun q hq => va_Nw.of rfl (hts _ (List.mem_append_right _ (en_m q hq))), fun q hq => va_Nw.of rfl (hts _ (List.mem_append_right _ (en_d q hq)))⟩
theorem en_notes {s : State} {args : Array Value} {A : Nat → Prop} (hts : ∀ w ∈ lw_tbl, w.before args s = true) (hgv : (Jvm.Cond.and given_1 narrow_1).before args s = true) (hA : ∀ a : Nat, a < s.heap.size → ¬ A a) : sx1 "PlaySpans" "NOTES_AT_MOST" 5 tb_notes A s s.heap := by
  have hs := flat_of_before _ hgv
  have harr : (Cond.arrayOf (Term.static "PlaySpans" "NOTES_AT_MOST" "[I") .int).before args s = true := hs _ (by decide +kernel)
  have hlen : (Term.length (Term.static "PlaySpans" "NOTES_AT_MOST" "[I")).eval args s none [] s = some (.int 5) := va_eqt (hs _ (by decide +kernel))
  have e0 : (Term.elem (Term.static "PlaySpans" "NOTES_AT_MOST" "[I") (.int 0)).eval args s none [] s = some (.int 3) := va_eqt (hs _ (by decide +kernel))
  have e1 : (Term.elem (Term.static "PlaySpans" "NOTES_AT_MOST" "[I") (.int 1)).eval args s none [] s = some (.int 3) := va_eqt (hs _ (by decide +kernel))
  have e2 : (Term.elem (Term.static "PlaySpans" "NOTES_AT_MOST" "[I") (.int 2)).eval args s none [] s = some (.int 1) := va_eqt (hs _ (by decide +kernel))
  have e3 : (Term.elem (Term.static "PlaySpans" "NOTES_AT_MOST" "[I") (.int 3)).eval args s none [] s = some (.int 1) := va_eqt (hs _ (by decide +kernel))
  have e4 : (Term.elem (Term.static "PlaySpans" "NOTES_AT_MOST" "[I") (.int 4)).eval args s none [] s = some (.int 2) := va_eqt (hs _ (by decide +kernel))
  obtain ⟨t, ht, hT⟩ := va_Tof (tm := (Term.static "PlaySpans" "NOTES_AT_MOST" "[I")) (ty := .int) (N := 5) (f := fun j => .int (iN (tb_notes j))) (A := A) (by decide) harr hlen (fun j hj => by
    match j, hj with
    | 0, _ => exact e0
    | 1, _ => exact e1
    | 2, _ => exact e2
    | 3, _ => exact e3
    | 4, _ => exact e4
    ) hA
  exact ⟨t, va_Zof (hts _ (List.mem_append_right _ (List.mem_of_getElem? (i := 226) (by decide +kernel)))) (hts _ (al_tbl _ al_1)) ht hA, hT⟩
theorem en_from {s : State} {args : Array Value} {A : Nat → Prop} (hts : ∀ w ∈ lw_tbl, w.before args s = true) (hgv : (Jvm.Cond.and given_1 narrow_1).before args s = true) (hA : ∀ a : Nat, a < s.heap.size → ¬ A a) : sx1 "PlaySpans" "BOUND_FROM" 10 tb_from A s s.heap := by
  have hs := flat_of_before _ hgv
  have harr : (Cond.arrayOf (Term.static "PlaySpans" "BOUND_FROM" "[I") .int).before args s = true := hs _ (by decide +kernel)
  have hlen : (Term.length (Term.static "PlaySpans" "BOUND_FROM" "[I")).eval args s none [] s = some (.int 10) := va_eqt (hs _ (by decide +kernel))
  have e0 : (Term.elem (Term.static "PlaySpans" "BOUND_FROM" "[I") (.int 0)).eval args s none [] s = some (.int 0) := va_eqt (hs _ (by decide +kernel))
  have e1 : (Term.elem (Term.static "PlaySpans" "BOUND_FROM" "[I") (.int 1)).eval args s none [] s = some (.int 1) := va_eqt (hs _ (by decide +kernel))
  have e2 : (Term.elem (Term.static "PlaySpans" "BOUND_FROM" "[I") (.int 2)).eval args s none [] s = some (.int 0) := va_eqt (hs _ (by decide +kernel))
  have e3 : (Term.elem (Term.static "PlaySpans" "BOUND_FROM" "[I") (.int 3)).eval args s none [] s = some (.int 0) := va_eqt (hs _ (by decide +kernel))
  have e4 : (Term.elem (Term.static "PlaySpans" "BOUND_FROM" "[I") (.int 4)).eval args s none [] s = some (.int 0) := va_eqt (hs _ (by decide +kernel))
  have e5 : (Term.elem (Term.static "PlaySpans" "BOUND_FROM" "[I") (.int 5)).eval args s none [] s = some (.int 0) := va_eqt (hs _ (by decide +kernel))
  have e6 : (Term.elem (Term.static "PlaySpans" "BOUND_FROM" "[I") (.int 6)).eval args s none [] s = some (.int 0) := va_eqt (hs _ (by decide +kernel))
  have e7 : (Term.elem (Term.static "PlaySpans" "BOUND_FROM" "[I") (.int 7)).eval args s none [] s = some (.int 0) := va_eqt (hs _ (by decide +kernel))
  have e8 : (Term.elem (Term.static "PlaySpans" "BOUND_FROM" "[I") (.int 8)).eval args s none [] s = some (.int 0) := va_eqt (hs _ (by decide +kernel))
  have e9 : (Term.elem (Term.static "PlaySpans" "BOUND_FROM" "[I") (.int 9)).eval args s none [] s = some (.int 0) := va_eqt (hs _ (by decide +kernel))
  obtain ⟨t, ht, hT⟩ := va_Tof (tm := (Term.static "PlaySpans" "BOUND_FROM" "[I")) (ty := .int) (N := 10) (f := fun j => .int (iN (tb_from j))) (A := A) (by decide) harr hlen (fun j hj => by
    match j, hj with
    | 0, _ => exact e0
    | 1, _ => exact e1
    | 2, _ => exact e2
    | 3, _ => exact e3
    | 4, _ => exact e4
    | 5, _ => exact e5
    | 6, _ => exact e6
    | 7, _ => exact e7
    | 8, _ => exact e8
    | 9, _ => exact e9
    ) hA
  exact ⟨t, va_Zof (hts _ (List.mem_append_right _ (List.mem_of_getElem? (i := 262) (by decide +kernel)))) (hts _ (al_tbl _ al_1)) ht hA, hT⟩
theorem en_to {s : State} {args : Array Value} {A : Nat → Prop} (hts : ∀ w ∈ lw_tbl, w.before args s = true) (hgv : (Jvm.Cond.and given_1 narrow_1).before args s = true) (hA : ∀ a : Nat, a < s.heap.size → ¬ A a) : sx1 "PlaySpans" "BOUND_TO" 10 tb_to A s s.heap := by
  have hs := flat_of_before _ hgv
  have harr : (Cond.arrayOf (Term.static "PlaySpans" "BOUND_TO" "[I") .int).before args s = true := hs _ (by decide +kernel)
  have hlen : (Term.length (Term.static "PlaySpans" "BOUND_TO" "[I")).eval args s none [] s = some (.int 10) := va_eqt (hs _ (by decide +kernel))
  have e0 : (Term.elem (Term.static "PlaySpans" "BOUND_TO" "[I") (.int 0)).eval args s none [] s = some (.int 100) := va_eqt (hs _ (by decide +kernel))
  have e1 : (Term.elem (Term.static "PlaySpans" "BOUND_TO" "[I") (.int 1)).eval args s none [] s = some (.int 2000) := va_eqt (hs _ (by decide +kernel))
  have e2 : (Term.elem (Term.static "PlaySpans" "BOUND_TO" "[I") (.int 2)).eval args s none [] s = some (.int 200) := va_eqt (hs _ (by decide +kernel))
  have e3 : (Term.elem (Term.static "PlaySpans" "BOUND_TO" "[I") (.int 3)).eval args s none [] s = some (.int 127) := va_eqt (hs _ (by decide +kernel))
  have e4 : (Term.elem (Term.static "PlaySpans" "BOUND_TO" "[I") (.int 4)).eval args s none [] s = some (.int 127) := va_eqt (hs _ (by decide +kernel))
  have e5 : (Term.elem (Term.static "PlaySpans" "BOUND_TO" "[I") (.int 5)).eval args s none [] s = some (.int 100) := va_eqt (hs _ (by decide +kernel))
  have e6 : (Term.elem (Term.static "PlaySpans" "BOUND_TO" "[I") (.int 6)).eval args s none [] s = some (.int 127) := va_eqt (hs _ (by decide +kernel))
  have e7 : (Term.elem (Term.static "PlaySpans" "BOUND_TO" "[I") (.int 7)).eval args s none [] s = some (.int 127) := va_eqt (hs _ (by decide +kernel))
  have e8 : (Term.elem (Term.static "PlaySpans" "BOUND_TO" "[I") (.int 8)).eval args s none [] s = some (.int 127) := va_eqt (hs _ (by decide +kernel))
  have e9 : (Term.elem (Term.static "PlaySpans" "BOUND_TO" "[I") (.int 9)).eval args s none [] s = some (.int 127) := va_eqt (hs _ (by decide +kernel))
  obtain ⟨t, ht, hT⟩ := va_Tof (tm := (Term.static "PlaySpans" "BOUND_TO" "[I")) (ty := .int) (N := 10) (f := fun j => .int (iN (tb_to j))) (A := A) (by decide) harr hlen (fun j hj => by
    match j, hj with
    | 0, _ => exact e0
    | 1, _ => exact e1
    | 2, _ => exact e2
    | 3, _ => exact e3
    | 4, _ => exact e4
    | 5, _ => exact e5
    | 6, _ => exact e6
    | 7, _ => exact e7
    | 8, _ => exact e8
    | 9, _ => exact e9
    ) hA
  exact ⟨t, va_Zof (hts _ (List.mem_append_right _ (List.mem_of_getElem? (i := 264) (by decide +kernel)))) (hts _ (al_tbl _ al_1)) ht hA, hT⟩
theorem en_part {s : State} {args : Array Value} {A : Nat → Prop} (hts : ∀ w ∈ lw_tbl, w.before args s = true) (hgv : (Jvm.Cond.and given_1 narrow_1).before args s = true) (hA : ∀ a : Nat, a < s.heap.size → ¬ A a) : sx1 "PlaySpans$Slide" "PARTIALS" 9 tb_part A s s.heap := by
  have hs := flat_of_before _ hgv
  have harr : (Cond.arrayOf (Term.static "PlaySpans$Slide" "PARTIALS" "[I") .int).before args s = true := hs _ (by decide +kernel)
  have hlen : (Term.length (Term.static "PlaySpans$Slide" "PARTIALS" "[I")).eval args s none [] s = some (.int 9) := va_eqt (hs _ (by decide +kernel))
  have e0 : (Term.elem (Term.static "PlaySpans$Slide" "PARTIALS" "[I") (.int 0)).eval args s none [] s = some (.int 12) := va_eqt (hs _ (by decide +kernel))
  have e1 : (Term.elem (Term.static "PlaySpans$Slide" "PARTIALS" "[I") (.int 1)).eval args s none [] s = some (.int 19) := va_eqt (hs _ (by decide +kernel))
  have e2 : (Term.elem (Term.static "PlaySpans$Slide" "PARTIALS" "[I") (.int 2)).eval args s none [] s = some (.int 24) := va_eqt (hs _ (by decide +kernel))
  have e3 : (Term.elem (Term.static "PlaySpans$Slide" "PARTIALS" "[I") (.int 3)).eval args s none [] s = some (.int 28) := va_eqt (hs _ (by decide +kernel))
  have e4 : (Term.elem (Term.static "PlaySpans$Slide" "PARTIALS" "[I") (.int 4)).eval args s none [] s = some (.int 31) := va_eqt (hs _ (by decide +kernel))
  have e5 : (Term.elem (Term.static "PlaySpans$Slide" "PARTIALS" "[I") (.int 5)).eval args s none [] s = some (.int 34) := va_eqt (hs _ (by decide +kernel))
  have e6 : (Term.elem (Term.static "PlaySpans$Slide" "PARTIALS" "[I") (.int 6)).eval args s none [] s = some (.int 36) := va_eqt (hs _ (by decide +kernel))
  have e7 : (Term.elem (Term.static "PlaySpans$Slide" "PARTIALS" "[I") (.int 7)).eval args s none [] s = some (.int 38) := va_eqt (hs _ (by decide +kernel))
  have e8 : (Term.elem (Term.static "PlaySpans$Slide" "PARTIALS" "[I") (.int 8)).eval args s none [] s = some (.int 40) := va_eqt (hs _ (by decide +kernel))
  obtain ⟨t, ht, hT⟩ := va_Tof (tm := (Term.static "PlaySpans$Slide" "PARTIALS" "[I")) (ty := .int) (N := 9) (f := fun j => .int (iN (tb_part j))) (A := A) (by decide) harr hlen (fun j hj => by
    match j, hj with
    | 0, _ => exact e0
    | 1, _ => exact e1
    | 2, _ => exact e2
    | 3, _ => exact e3
    | 4, _ => exact e4
    | 5, _ => exact e5
    | 6, _ => exact e6
    | 7, _ => exact e7
    | 8, _ => exact e8
    ) hA
  exact ⟨t, va_Zof (hts _ (List.mem_append_right _ (List.mem_of_getElem? (i := 374) (by decide +kernel)))) (hts _ (al_tbl _ al_8)) ht hA, hT⟩
theorem en_S {s : State} {args : Array Value} {A : Nat → Prop} (hts : ∀ w ∈ lw_tbl, w.before args s = true) (hgv : (Jvm.Cond.and given_1 narrow_1).before args s = true) (hA : ∀ a : Nat, a < s.heap.size → ¬ A a) : Sx A s s.heap :=
  ⟨en_notes hts hgv hA, en_from hts hgv hA, en_to hts hgv hA, en_part hts hgv hA⟩
theorem Wd_nil {G : Gt} {ad : Nat → Nat} {σ : Mem} {A : Nat → Prop} {H : Heap} : Wd G [] ad σ A H H [] :=
  ⟨fun k q h => absurd h (by simp [wl]), ⟨fun i j p q h => absurd h (by simp [wl]), fun k q h => absurd h (by simp [wl])⟩, va_S.rf⟩
theorem hz_0 : hz 17 (fun _ _ => 0) := fun _ _ _ => rfl
theorem M0_hz (κ : Nat) : hz 17 (M0 κ) :=
  (hz.up (hz.up (hz.up (hz.up (hz.up (hz.up (hz.up (hz.up (hz.up (hz.up (hz.up (hz.up (hz.up (hz.up (hz.up (hz.up (hz.up (hz.up hz_0 (by decide)) (by decide)) (by decide)) (by decide)) (by decide)) (by decide)) (by decide)) (by decide)) (by decide)) (by decide)) (by decide)) (by decide)) (by decide)) (by decide)) (by decide)) (by decide)) (by decide)) (by decide))
