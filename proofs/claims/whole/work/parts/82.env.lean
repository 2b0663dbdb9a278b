/-! What holds at the law's entry, as the small machine wants it: by program (wip/whole/gen82.py). -/
theorem e_mem {w : Cond} (i : Nat) (h : tables_1[i]? = some w) : w ∈ lw_tbl := List.mem_append_right _ (List.mem_of_getElem? h)
theorem e_inst (ci : Nat) (q : vw_C) (h : zCl[ci]? = some q) : Cond.instantiable q.1 q.2.2 ∈ zAll := by
  match ci, h with
  | 0, h => cases h; exact w_177
  | 1, h => cases h; exact w_31
  | 2, h => cases h; exact w_163
  | 3, h => cases h; exact w_243
  | 4, h => cases h; exact w_170
  | 5, h => cases h; exact w_156
  | 6, h => cases h; exact w_149
  | 7, h => cases h; exact w_227
  | 8, h => cases h; exact w_142
  | 9, h => cases h; exact w_115
  | 10, h => cases h; exact w_184
  | 11, h => cases h; exact w_23
  | 12, h => cases h; exact w_833
  | ci + 13, h => simp [zCl] at h
theorem e_D {args : Array Value} {s : State} (hz : ∀ w ∈ zAll, w.before args s = true) : ∃ D : va_G, ∀ (c : Nat) (q : vw_C), zCl[c]? = some q → u_Kn s q.1 q.2.1 q.2.2 (D.1 c) (D.2 c) := by
  have h0 : ∀ c : Nat, ∃ r : ClassId × (Nat → Nat), ∀ q : vw_C, zCl[c]? = some q → u_Kn s q.1 q.2.1 q.2.2 r.1 r.2 := by
    intro c
    obtain ⟨c0, i0, -⟩ := u_known hz (zu 0 (RX0, TX0, 0) rfl) (hz _ (e_inst 0 (RX0, TX0, 0) rfl))
    cases hc : zCl[c]? with
    | none => exact ⟨(c0, i0), fun q hq => by cases hq⟩
    | some q =>
      obtain ⟨c1, i1, h1⟩ := u_known hz (zu c q hc) (hz _ (e_inst c q hc))
      exact ⟨(c1, i1), fun q' hq => by cases hq; exact h1⟩
  exact ⟨(fun c => (Classical.choose (h0 c)).1, fun c => (Classical.choose (h0 c)).2), fun c q hq => Classical.choose_spec (h0 c) q hq⟩
theorem e_ao {args : Array Value} {s : State} {C : String} (h : (Cond.arrayOver (.object C)).before args s = true) : ∃ cA : ClassId, ArrOfT s cA (.object C) ∧ va_RA s cA (.object C) := by
  obtain ⟨comp, cA, kA, f4, -, f2, f3, f1⟩ := Cond.arrayOver_spec h
  exact ⟨cA, fun N z => ⟨(fun k h => by cases h), kA, f2, comp, f3⟩, kA, comp, f2, f3, f4, f1⟩
theorem e_ai {args : Array Value} {s : State} (h : (Cond.arrayClass .int).before args s = true) : ∃ cA : ClassId, ArrOfT s cA .int ∧ va_RA s cA .int := by
  obtain ⟨cA, kA, comp, f1, f2, f3⟩ := Cond.arrayClass_spec h
  exact ⟨cA, fun N z => ⟨(fun k h => by cases h), kA, f2, comp, f3⟩, f1⟩
theorem e_az {args : Array Value} {s : State} (h : (Cond.arrayClass .boolean).before args s = true) : ∃ cA : ClassId, ArrOfT s cA .boolean ∧ va_RA s cA .boolean := by
  obtain ⟨cA, kA, comp, f1, f2, f3⟩ := Cond.arrayClass_spec h
  exact ⟨cA, fun N z => ⟨(fun k h => by cases h), kA, f2, comp, f3⟩, f1⟩
theorem e_K {args : Array Value} {s : State} (hts : ∀ w ∈ lw_tbl, w.before args s = true) (hz : ∀ w ∈ zAll, w.before args s = true) : ∃ (D : va_G) (ids : zIds), va_K D zCl (zTys ids) s := by
  obtain ⟨D, hD⟩ := e_D hz
  obtain ⟨c1, a1, b1⟩ := e_ai (hts _ (e_mem 112 (by decide +kernel)))
  obtain ⟨c2, a2, b2⟩ := e_az (hts _ (e_mem 140 (by decide +kernel)))
  obtain ⟨c3, a3, b3⟩ := e_ao (C := "EveryPew$Church") (hts _ (e_mem 113 (by decide +kernel)))
  obtain ⟨c4, a4, b4⟩ := e_ao (C := "EveryPew$Plain") (hts _ (e_mem 148 (by decide +kernel)))
  refine ⟨D, (c1, c2, c3, c4), hD, fun k q hk => ?_⟩
  match k, hk with
  | 0, hk => cases hk; exact ⟨a1, b1⟩
  | 1, hk => cases hk; exact ⟨a2, b2⟩
  | 2, hk => cases hk; exact ⟨a3, b3⟩
  | 3, hk => cases hk; exact ⟨a4, b4⟩
  | k + 4, hk => simp [zTys] at hk
theorem e_q {args : Array Value} {s : State} {D : va_G} {ids : zIds} (hts : ∀ w ∈ lw_tbl, w.before args s = true) (hK : va_K D zCl (zTys ids) s) : qEnv D ids s :=
  ⟨hK, va_AO.of (hts _ (e_mem 113 (by decide +kernel))), va_AO.of (hts _ (e_mem 148 (by decide +kernel))), (List.forall_mem_cons.mpr ⟨va_Nw.of rfl (hts _ (e_mem 1248 (by decide +kernel))), (List.forall_mem_cons.mpr ⟨va_Nw.of rfl (hts _ (e_mem 1249 (by decide +kernel))), (List.forall_mem_cons.mpr ⟨va_Nw.of rfl (hts _ (e_mem 1250 (by decide +kernel))), (List.forall_mem_cons.mpr ⟨va_Nw.of rfl (hts _ (e_mem 1251 (by decide +kernel))), (List.forall_mem_cons.mpr ⟨va_Nw.of rfl (hts _ (e_mem 1252 (by decide +kernel))), (fun _ h => absurd h List.not_mem_nil)⟩)⟩)⟩)⟩)⟩)⟩
theorem e_nf {args : Array Value} {s : State} (hts : ∀ w ∈ lw_tbl, w.before args s = true) : ∀ q ∈ zNF, va_Nw (.fieldLinkNest q.1 q.2.1 q.2.2.1 q.2.2.2.1 q.2.2.2.2.1 q.2.2.2.2.2) s :=
  (List.forall_mem_cons.mpr ⟨va_Nw.of rfl (hts _ (e_mem 37 (by decide +kernel))), (List.forall_mem_cons.mpr ⟨va_Nw.of rfl (hts _ (e_mem 38 (by decide +kernel))), (List.forall_mem_cons.mpr ⟨va_Nw.of rfl (hts _ (e_mem 40 (by decide +kernel))), (List.forall_mem_cons.mpr ⟨va_Nw.of rfl (hts _ (e_mem 41 (by decide +kernel))), (List.forall_mem_cons.mpr ⟨va_Nw.of rfl (hts _ (e_mem 42 (by decide +kernel))), (List.forall_mem_cons.mpr ⟨va_Nw.of rfl (hts _ (e_mem 43 (by decide +kernel))), (List.forall_mem_cons.mpr ⟨va_Nw.of rfl (hts _ (e_mem 45 (by decide +kernel))), (List.forall_mem_cons.mpr ⟨va_Nw.of rfl (hts _ (e_mem 46 (by decide +kernel))), (List.forall_mem_cons.mpr ⟨va_Nw.of rfl (hts _ (e_mem 48 (by decide +kernel))), (List.forall_mem_cons.mpr ⟨va_Nw.of rfl (hts _ (e_mem 49 (by decide +kernel))), (List.forall_mem_cons.mpr ⟨va_Nw.of rfl (hts _ (e_mem 51 (by decide +kernel))), (List.forall_mem_cons.mpr ⟨va_Nw.of rfl (hts _ (e_mem 52 (by decide +kernel))), (List.forall_mem_cons.mpr ⟨va_Nw.of rfl (hts _ (e_mem 54 (by decide +kernel))), (List.forall_mem_cons.mpr ⟨va_Nw.of rfl (hts _ (e_mem 56 (by decide +kernel))), (List.forall_mem_cons.mpr ⟨va_Nw.of rfl (hts _ (e_mem 58 (by decide +kernel))), (List.forall_mem_cons.mpr ⟨va_Nw.of rfl (hts _ (e_mem 59 (by decide +kernel))), (List.forall_mem_cons.mpr ⟨va_Nw.of rfl (hts _ (e_mem 61 (by decide +kernel))), (List.forall_mem_cons.mpr ⟨va_Nw.of rfl (hts _ (e_mem 62 (by decide +kernel))), (List.forall_mem_cons.mpr ⟨va_Nw.of rfl (hts _ (e_mem 64 (by decide +kernel))), (List.forall_mem_cons.mpr ⟨va_Nw.of rfl (hts _ (e_mem 65 (by decide +kernel))), (List.forall_mem_cons.mpr ⟨va_Nw.of rfl (hts _ (e_mem 67 (by decide +kernel))), (List.forall_mem_cons.mpr ⟨va_Nw.of rfl (hts _ (e_mem 68 (by decide +kernel))), (List.forall_mem_cons.mpr ⟨va_Nw.of rfl (hts _ (e_mem 70 (by decide +kernel))), (List.forall_mem_cons.mpr ⟨va_Nw.of rfl (hts _ (e_mem 71 (by decide +kernel))), (List.forall_mem_cons.mpr ⟨va_Nw.of rfl (hts _ (e_mem 73 (by decide +kernel))), (List.forall_mem_cons.mpr ⟨va_Nw.of rfl (hts _ (e_mem 74 (by decide +kernel))), (List.forall_mem_cons.mpr ⟨va_Nw.of rfl (hts _ (e_mem 76 (by decide +kernel))), (List.forall_mem_cons.mpr ⟨va_Nw.of rfl (hts _ (e_mem 122 (by decide +kernel))), (List.forall_mem_cons.mpr ⟨va_Nw.of rfl (hts _ (e_mem 191 (by decide +kernel))), (List.forall_mem_cons.mpr ⟨va_Nw.of rfl (hts _ (e_mem 195 (by decide +kernel))), (List.forall_mem_cons.mpr ⟨va_Nw.of rfl (hts _ (e_mem 199 (by decide +kernel))), (List.forall_mem_cons.mpr ⟨va_Nw.of rfl (hts _ (e_mem 202 (by decide +kernel))), (List.forall_mem_cons.mpr ⟨va_Nw.of rfl (hts _ (e_mem 204 (by decide +kernel))), (List.forall_mem_cons.mpr ⟨va_Nw.of rfl (hts _ (e_mem 252 (by decide +kernel))), (List.forall_mem_cons.mpr ⟨va_Nw.of rfl (hts _ (e_mem 254 (by decide +kernel))), (List.forall_mem_cons.mpr ⟨va_Nw.of rfl (hts _ (e_mem 256 (by decide +kernel))), (fun _ h => absurd h List.not_mem_nil)⟩)⟩)⟩)⟩)⟩)⟩)⟩)⟩)⟩)⟩)⟩)⟩)⟩)⟩)⟩)⟩)⟩)⟩)⟩)⟩)⟩)⟩)⟩)⟩)⟩)⟩)⟩)⟩)⟩)⟩)⟩)⟩)⟩)⟩)⟩)⟩)
theorem e_nm {args : Array Value} {s : State} (hts : ∀ w ∈ lw_tbl, w.before args s = true) : ∀ q ∈ zNM, va_Nw (.methodLinkNest q.1 q.2.1 q.2.2.1 q.2.2.2) s :=
  (List.forall_mem_cons.mpr ⟨va_Nw.of rfl (hts _ (e_mem 437 (by decide +kernel))), (List.forall_mem_cons.mpr ⟨va_Nw.of rfl (hts _ (e_mem 457 (by decide +kernel))), (List.forall_mem_cons.mpr ⟨va_Nw.of rfl (hts _ (e_mem 520 (by decide +kernel))), (List.forall_mem_cons.mpr ⟨va_Nw.of rfl (hts _ (e_mem 533 (by decide +kernel))), (List.forall_mem_cons.mpr ⟨va_Nw.of rfl (hts _ (e_mem 665 (by decide +kernel))), (fun _ h => absurd h List.not_mem_nil)⟩)⟩)⟩)⟩)⟩)
/-- the static table, the String constants -/
theorem e_X {args : Array Value} {s : State} (hts : ∀ w ∈ lw_tbl, w.before args s = true) (hgv : (Jvm.Cond.and given_1 narrow_1).before args s = true) : ∃ (t : Nat) (adK adV : Nat → Nat), va_Z "EveryPew$Seating" "FIGURE_OF" "[I" (.ref t) (fun q : Nat => s.heap.size ≤ q) s s.heap ∧ va_T .int t 7 (fun j => .int (zfigs.getD j 0)) (fun q : Nat => s.heap.size ≤ q) s s.heap ∧ va_Z "java/lang/String" "COMPACT_STRINGS" "Z" (.int 1) (fun q : Nat => s.heap.size ≤ q) s s.heap ∧ va_Zq "jdk/internal/util/Preconditions" "SIOOBE_FORMATTER" "Ljava/util/function/BiFunction;" (fun q : Nat => s.heap.size ≤ q) s s.heap ∧ vk_S 4 [6, 4, 6, 4] ztxt adK adV (fun q : Nat => s.heap.size ≤ q) s s.heap ∧ ∀ i : Nat, i < 4 → vk_R "EveryPew$TextOfChurch" (zsx.getD i (0, "")).1 (zsx.getD i (0, "")).2 (adK i) s := by
  have hs := flat_of_before _ hgv
  have hA : ∀ a : Nat, a < s.heap.size → ¬ (fun q : Nat => s.heap.size ≤ q) a := fun a h => Nat.not_le.mpr h
  obtain ⟨t, ht, hT⟩ := va_Tof (N := 7) (ty := .int) (tm := (Term.static "EveryPew$Seating" "FIGURE_OF" "[I")) (f := fun j => .int (zfigs.getD j 0)) (by decide) (hs (Cond.arrayOf (Term.static "EveryPew$Seating" "FIGURE_OF" "[I") .int) (by decide +kernel)) (va_eqv (hs (Cond.eq (.length (Term.static "EveryPew$Seating" "FIGURE_OF" "[I")) (.int 7)) (by decide +kernel)) rfl) (fun j hj => by
    match j, hj with
    | 0, _ => exact va_eqv (hs (Cond.eq (.elem (Term.static "EveryPew$Seating" "FIGURE_OF" "[I") (.int 0)) (.int 1000000)) (by decide +kernel)) rfl
    | 1, _ => exact va_eqv (hs (Cond.eq (.elem (Term.static "EveryPew$Seating" "FIGURE_OF" "[I") (.int 1)) (.int 100000)) (by decide +kernel)) rfl
    | 2, _ => exact va_eqv (hs (Cond.eq (.elem (Term.static "EveryPew$Seating" "FIGURE_OF" "[I") (.int 2)) (.int 10000)) (by decide +kernel)) rfl
    | 3, _ => exact va_eqv (hs (Cond.eq (.elem (Term.static "EveryPew$Seating" "FIGURE_OF" "[I") (.int 3)) (.int 1000)) (by decide +kernel)) rfl
    | 4, _ => exact va_eqv (hs (Cond.eq (.elem (Term.static "EveryPew$Seating" "FIGURE_OF" "[I") (.int 4)) (.int 100)) (by decide +kernel)) rfl
    | 5, _ => exact va_eqv (hs (Cond.eq (.elem (Term.static "EveryPew$Seating" "FIGURE_OF" "[I") (.int 5)) (.int 10)) (by decide +kernel)) rfl
    | 6, _ => exact va_eqv (hs (Cond.eq (.elem (Term.static "EveryPew$Seating" "FIGURE_OF" "[I") (.int 6)) (.int 1)) (by decide +kernel)) rfl
    | j + 7, hj => exact absurd hj (by omega)) hA
  obtain ⟨adK, adV, hS, hev⟩ := vk_Sof (N := 4) (tm := fun i => Term.string "EveryPew$TextOfChurch" (zsx.getD i (0, "")).1) (len := [6, 4, 6, 4]) (byt := ztxt) (fun i hi => by
      match i, hi with
      | 0, _ => decide
      | 1, _ => decide
      | 2, _ => decide
      | 3, _ => decide
      | i + 4, hi => exact absurd hi (by omega))
    (fun i hi => by
      match i, hi with
      | 0, _ => exact hs (Cond.exactly (Term.string "EveryPew$TextOfChurch" 25) "java/lang/String") (by decide +kernel)
      | 1, _ => exact hs (Cond.exactly (Term.string "EveryPew$TextOfChurch" 58) "java/lang/String") (by decide +kernel)
      | 2, _ => exact hs (Cond.exactly (Term.string "EveryPew$TextOfChurch" 63) "java/lang/String") (by decide +kernel)
      | 3, _ => exact hs (Cond.exactly (Term.string "EveryPew$TextOfChurch" 68) "java/lang/String") (by decide +kernel)
      | i + 4, hi => exact absurd hi (by omega))
    (fun i hi => by
      match i, hi with
      | 0, _ => exact hs (Cond.eq (.field (Term.string "EveryPew$TextOfChurch" 25) "java/lang/String" "coder" "B") (.int 0)) (by decide +kernel)
      | 1, _ => exact hs (Cond.eq (.field (Term.string "EveryPew$TextOfChurch" 58) "java/lang/String" "coder" "B") (.int 0)) (by decide +kernel)
      | 2, _ => exact hs (Cond.eq (.field (Term.string "EveryPew$TextOfChurch" 63) "java/lang/String" "coder" "B") (.int 0)) (by decide +kernel)
      | 3, _ => exact hs (Cond.eq (.field (Term.string "EveryPew$TextOfChurch" 68) "java/lang/String" "coder" "B") (.int 0)) (by decide +kernel)
      | i + 4, hi => exact absurd hi (by omega))
    (fun i hi => by
      match i, hi with
      | 0, _ => exact hs (Cond.arrayOf (Term.field (Term.string "EveryPew$TextOfChurch" 25) "java/lang/String" "value" "[B") .byte) (by decide +kernel)
      | 1, _ => exact hs (Cond.arrayOf (Term.field (Term.string "EveryPew$TextOfChurch" 58) "java/lang/String" "value" "[B") .byte) (by decide +kernel)
      | 2, _ => exact hs (Cond.arrayOf (Term.field (Term.string "EveryPew$TextOfChurch" 63) "java/lang/String" "value" "[B") .byte) (by decide +kernel)
      | 3, _ => exact hs (Cond.arrayOf (Term.field (Term.string "EveryPew$TextOfChurch" 68) "java/lang/String" "value" "[B") .byte) (by decide +kernel)
      | i + 4, hi => exact absurd hi (by omega))
    (fun i hi => by
      match i, hi with
      | 0, _ => exact hs (Cond.eq (.length (Term.field (Term.string "EveryPew$TextOfChurch" 25) "java/lang/String" "value" "[B")) (.int 6)) (by decide +kernel)
      | 1, _ => exact hs (Cond.eq (.length (Term.field (Term.string "EveryPew$TextOfChurch" 58) "java/lang/String" "value" "[B")) (.int 4)) (by decide +kernel)
      | 2, _ => exact hs (Cond.eq (.length (Term.field (Term.string "EveryPew$TextOfChurch" 63) "java/lang/String" "value" "[B")) (.int 6)) (by decide +kernel)
      | 3, _ => exact hs (Cond.eq (.length (Term.field (Term.string "EveryPew$TextOfChurch" 68) "java/lang/String" "value" "[B")) (.int 4)) (by decide +kernel)
      | i + 4, hi => exact absurd hi (by omega))
    (fun i hi j hj => by
      match i, hi, j, hj with
      | 0, _, 0, _ => exact hs (Cond.eq (.elem (Term.field (Term.string "EveryPew$TextOfChurch" 25) "java/lang/String" "value" "[B") (.int 0)) (.int 99)) (by decide +kernel)
      | 0, _, 1, _ => exact hs (Cond.eq (.elem (Term.field (Term.string "EveryPew$TextOfChurch" 25) "java/lang/String" "value" "[B") (.int 1)) (.int 104)) (by decide +kernel)
      | 0, _, 2, _ => exact hs (Cond.eq (.elem (Term.field (Term.string "EveryPew$TextOfChurch" 25) "java/lang/String" "value" "[B") (.int 2)) (.int 117)) (by decide +kernel)
      | 0, _, 3, _ => exact hs (Cond.eq (.elem (Term.field (Term.string "EveryPew$TextOfChurch" 25) "java/lang/String" "value" "[B") (.int 3)) (.int 114)) (by decide +kernel)
      | 0, _, 4, _ => exact hs (Cond.eq (.elem (Term.field (Term.string "EveryPew$TextOfChurch" 25) "java/lang/String" "value" "[B") (.int 4)) (.int 99)) (by decide +kernel)
      | 0, _, 5, _ => exact hs (Cond.eq (.elem (Term.field (Term.string "EveryPew$TextOfChurch" 25) "java/lang/String" "value" "[B") (.int 5)) (.int 104)) (by decide +kernel)
      | 0, _, j + 6, hj => exact absurd (show j + 6 < 6 from hj) (by omega)
      | 1, _, 0, _ => exact hs (Cond.eq (.elem (Term.field (Term.string "EveryPew$TextOfChurch" 58) "java/lang/String" "value" "[B") (.int 0)) (.int 98)) (by decide +kernel)
      | 1, _, 1, _ => exact hs (Cond.eq (.elem (Term.field (Term.string "EveryPew$TextOfChurch" 58) "java/lang/String" "value" "[B") (.int 1)) (.int 111)) (by decide +kernel)
      | 1, _, 2, _ => exact hs (Cond.eq (.elem (Term.field (Term.string "EveryPew$TextOfChurch" 58) "java/lang/String" "value" "[B") (.int 2)) (.int 111)) (by decide +kernel)
      | 1, _, 3, _ => exact hs (Cond.eq (.elem (Term.field (Term.string "EveryPew$TextOfChurch" 58) "java/lang/String" "value" "[B") (.int 3)) (.int 107)) (by decide +kernel)
      | 1, _, j + 4, hj => exact absurd (show j + 4 < 4 from hj) (by omega)
      | 2, _, 0, _ => exact hs (Cond.eq (.elem (Term.field (Term.string "EveryPew$TextOfChurch" 63) "java/lang/String" "value" "[B") (.int 0)) (.int 102)) (by decide +kernel)
      | 2, _, 1, _ => exact hs (Cond.eq (.elem (Term.field (Term.string "EveryPew$TextOfChurch" 63) "java/lang/String" "value" "[B") (.int 1)) (.int 97)) (by decide +kernel)
      | 2, _, 2, _ => exact hs (Cond.eq (.elem (Term.field (Term.string "EveryPew$TextOfChurch" 63) "java/lang/String" "value" "[B") (.int 2)) (.int 109)) (by decide +kernel)
      | 2, _, 3, _ => exact hs (Cond.eq (.elem (Term.field (Term.string "EveryPew$TextOfChurch" 63) "java/lang/String" "value" "[B") (.int 3)) (.int 105)) (by decide +kernel)
      | 2, _, 4, _ => exact hs (Cond.eq (.elem (Term.field (Term.string "EveryPew$TextOfChurch" 63) "java/lang/String" "value" "[B") (.int 4)) (.int 108)) (by decide +kernel)
      | 2, _, 5, _ => exact hs (Cond.eq (.elem (Term.field (Term.string "EveryPew$TextOfChurch" 63) "java/lang/String" "value" "[B") (.int 5)) (.int 121)) (by decide +kernel)
      | 2, _, j + 6, hj => exact absurd (show j + 6 < 6 from hj) (by omega)
      | 3, _, 0, _ => exact hs (Cond.eq (.elem (Term.field (Term.string "EveryPew$TextOfChurch" 68) "java/lang/String" "value" "[B") (.int 0)) (.int 99)) (by decide +kernel)
      | 3, _, 1, _ => exact hs (Cond.eq (.elem (Term.field (Term.string "EveryPew$TextOfChurch" 68) "java/lang/String" "value" "[B") (.int 1)) (.int 111)) (by decide +kernel)
      | 3, _, 2, _ => exact hs (Cond.eq (.elem (Term.field (Term.string "EveryPew$TextOfChurch" 68) "java/lang/String" "value" "[B") (.int 2)) (.int 108)) (by decide +kernel)
      | 3, _, 3, _ => exact hs (Cond.eq (.elem (Term.field (Term.string "EveryPew$TextOfChurch" 68) "java/lang/String" "value" "[B") (.int 3)) (.int 100)) (by decide +kernel)
      | 3, _, j + 4, hj => exact absurd (show j + 4 < 4 from hj) (by omega)
      | i + 4, hi, _, _ => exact absurd hi (by omega))
    (fun i j hi hj hij => by
      match i, hi, j, hj, hij with
      | 0, _, 0, _, hij => exact absurd rfl hij
      | 0, _, 1, _, _ => exact Or.inl (hs (Cond.not (Cond.eq (Term.string "EveryPew$TextOfChurch" 25) (Term.string "EveryPew$TextOfChurch" 58))) (by decide +kernel))
      | 0, _, 2, _, _ => exact Or.inl (hs (Cond.not (Cond.eq (Term.string "EveryPew$TextOfChurch" 25) (Term.string "EveryPew$TextOfChurch" 63))) (by decide +kernel))
      | 0, _, 3, _, _ => exact Or.inl (hs (Cond.not (Cond.eq (Term.string "EveryPew$TextOfChurch" 25) (Term.string "EveryPew$TextOfChurch" 68))) (by decide +kernel))
      | 0, _, j + 4, hj, _ => exact absurd hj (by omega)
      | 1, _, 0, _, _ => exact Or.inr (hs (Cond.not (Cond.eq (Term.string "EveryPew$TextOfChurch" 25) (Term.string "EveryPew$TextOfChurch" 58))) (by decide +kernel))
      | 1, _, 1, _, hij => exact absurd rfl hij
      | 1, _, 2, _, _ => exact Or.inl (hs (Cond.not (Cond.eq (Term.string "EveryPew$TextOfChurch" 58) (Term.string "EveryPew$TextOfChurch" 63))) (by decide +kernel))
      | 1, _, 3, _, _ => exact Or.inl (hs (Cond.not (Cond.eq (Term.string "EveryPew$TextOfChurch" 58) (Term.string "EveryPew$TextOfChurch" 68))) (by decide +kernel))
      | 1, _, j + 4, hj, _ => exact absurd hj (by omega)
      | 2, _, 0, _, _ => exact Or.inr (hs (Cond.not (Cond.eq (Term.string "EveryPew$TextOfChurch" 25) (Term.string "EveryPew$TextOfChurch" 63))) (by decide +kernel))
      | 2, _, 1, _, _ => exact Or.inr (hs (Cond.not (Cond.eq (Term.string "EveryPew$TextOfChurch" 58) (Term.string "EveryPew$TextOfChurch" 63))) (by decide +kernel))
      | 2, _, 2, _, hij => exact absurd rfl hij
      | 2, _, 3, _, _ => exact Or.inl (hs (Cond.not (Cond.eq (Term.string "EveryPew$TextOfChurch" 63) (Term.string "EveryPew$TextOfChurch" 68))) (by decide +kernel))
      | 2, _, j + 4, hj, _ => exact absurd hj (by omega)
      | 3, _, 0, _, _ => exact Or.inr (hs (Cond.not (Cond.eq (Term.string "EveryPew$TextOfChurch" 25) (Term.string "EveryPew$TextOfChurch" 68))) (by decide +kernel))
      | 3, _, 1, _, _ => exact Or.inr (hs (Cond.not (Cond.eq (Term.string "EveryPew$TextOfChurch" 58) (Term.string "EveryPew$TextOfChurch" 68))) (by decide +kernel))
      | 3, _, 2, _, _ => exact Or.inr (hs (Cond.not (Cond.eq (Term.string "EveryPew$TextOfChurch" 63) (Term.string "EveryPew$TextOfChurch" 68))) (by decide +kernel))
      | 3, _, 3, _, hij => exact absurd rfl hij
      | 3, _, j + 4, hj, _ => exact absurd hj (by omega)
      | i + 4, hi, _, _, _ => exact absurd hi (by omega)) hA
  refine ⟨t, adK, adV, va_Zof (hts _ (e_mem 678 (by decide +kernel))) (hts _ (e_mem 11 (by decide +kernel))) ht hA, hT, va_Zof (hts _ (e_mem 390 (by decide +kernel))) (hts _ (e_mem 15 (by decide +kernel))) (va_eqv (hs (Cond.eq (.static "java/lang/String" "COMPACT_STRINGS" "Z") (.int 1)) (by decide +kernel)) rfl) hA, va_Zqof (hts _ (e_mem 406 (by decide +kernel))) (hts _ (e_mem 17 (by decide +kernel))) (hs (Cond.isRef (.static "jdk/internal/util/Preconditions" "SIOOBE_FORMATTER" "Ljava/util/function/BiFunction;")) (by decide +kernel)) hA, hS, fun i hi => ?_⟩
  have h := hev i hi
  match i, hi, h with
  | 0, _, h => exact vk_R.of (hts _ (e_mem 376 (by decide +kernel))) h
  | 1, _, h => exact vk_R.of (hts _ (e_mem 447 (by decide +kernel))) h
  | 2, _, h => exact vk_R.of (hts _ (e_mem 452 (by decide +kernel))) h
  | 3, _, h => exact vk_R.of (hts _ (e_mem 460 (by decide +kernel))) h
  | i + 4, hi, _ => exact absurd hi (by omega)
/-- the addresses -/
def e_ad (u v adK adV : Nat → Nat) (t b : Nat) : Nat → Nat := fun k => cond (Nat.blt k 75) (u k) (cond (Nat.blt k 91) (v k) (cond (Nat.beq k 91) t (cond (Nat.blt k 96) (adK (k - 92)) (cond (Nat.blt k 100) (adV (k - 96)) b))))
theorem e_adK {u v adK adV : Nat → Nat} {t b : Nat} : ∀ i, i < 4 → e_ad u v adK adV t b (92 + i) = adK i
  | 0, _ => rfl
  | 1, _ => rfl
  | 2, _ => rfl
  | 3, _ => rfl
  | i + 4, h => absurd h (by omega)
theorem e_adV {u v adK adV : Nat → Nat} {t b : Nat} : ∀ i, i < 4 → e_ad u v adK adV t b (96 + i) = adV i
  | 0, _ => rfl
  | 1, _ => rfl
  | 2, _ => rfl
  | 3, _ => rfl
  | i + 4, h => absurd h (by omega)
theorem e_S {u v adK adV : Nat → Nat} {t b : Nat} {A : Nat → Prop} {U : State} {H : Heap} (h : vk_S 4 [6, 4, 6, 4] ztxt adK adV A U H) : vk_S 4 [6, 4, 6, 4] ztxt (fun i => e_ad u v adK adV t b (92 + i)) (fun i => e_ad u v adK adV t b (96 + i)) A U H := by
  refine ⟨fun i hi => ?_, fun i j hi hj hij => ?_⟩
  · show va_O _ (e_ad u v adK adV t b (92 + i)) _ _ _ ∧ va_OF _ _ _ _ (e_ad u v adK adV t b (92 + i)) _ _ _ ∧ va_OF _ _ _ (.ref (e_ad u v adK adV t b (96 + i))) (e_ad u v adK adV t b (92 + i)) _ _ _ ∧ va_T _ (e_ad u v adK adV t b (96 + i)) _ _ _ _ _
    rw [e_adK i hi, e_adV i hi]
    exact h.1 i hi
  · have hij : e_ad u v adK adV t b (92 + i) = e_ad u v adK adV t b (92 + j) := hij
    rw [e_adK i hi, e_adK j hj] at hij
    exact h.2 i j hi hj hij
theorem e_at {ids : zIds} {ad : Nat → Nat} {ks : List Nat} {c : Nat} (h : c ∈ ks) : ∃ i : Nat, (qWo ids ad ks)[i]? = some (ad c, zEnt ad ids zsig0 c) ∧ ks[i]? = some c := by
  obtain ⟨i, hi⟩ := List.getElem?_of_mem h
  exact ⟨i, by unfold qWo; rw [List.getElem?_map, hi]; rfl, hi⟩
theorem e_P {D : va_G} {ids : zIds} {ad : Nat → Nat} {ks : List Nat} {H : Heap} (hP : va_P D zCl (qWo ids ad ks) H) (hk : ∀ k, k < zN → k ∈ ks) : va_P D zCl (zWo ad ids zsig0) H := by
  intro k q hq
  have hl : k < zN := by rw [← zWo_len (ad := ad) (ids := ids) (σ := zsig0)]; exact (List.getElem?_eq_some_iff.mp hq).1
  rw [zWo_get hl] at hq
  cases hq
  obtain ⟨i, h1, -⟩ := e_at (ids := ids) (ad := ad) (hk k hl)
  exact hP i _ h1
theorem e_A {ids : zIds} {ad : Nat → Nat} {ks : List Nat} {A : Nat → Prop} (hD : va_D A (qWo ids ad ks)) (hk : ∀ k, k < zN → k ∈ ks) : zAd ad A := by
  refine ⟨fun i j hi hj hij => ?_, fun k hl => ?_⟩
  · obtain ⟨a, h1, h2⟩ := e_at (ids := ids) (ad := ad) (hk i hi)
    obtain ⟨b, h3, h4⟩ := e_at (ids := ids) (ad := ad) (hk j hj)
    have := hD.1 a b _ _ h1 h3 hij
    subst this
    rw [h2] at h4
    exact Option.some.inj h4
  · obtain ⟨a, h1, -⟩ := e_at (ids := ids) (ad := ad) (hk k hl)
    exact hD.2 a _ h1
abbrev e_k1 : List Nat := [0, 1, 2, 3, 4, 5, 6, 7, 8, 9, 10, 11, 12, 13, 14, 15, 16, 17, 18, 19, 20, 21, 22, 23, 24, 49, 50, 51, 52, 53, 54, 55, 56, 57, 58, 59, 60, 61, 62, 63, 64, 65, 66, 67, 68, 69, 70, 71, 72, 73, 74, 25, 26, 27, 28, 29, 30, 31, 32, 33, 34, 35, 36, 37, 38, 39, 40, 41, 42, 43, 44, 45, 46, 47, 48]
abbrev e_k2 : List Nat := [75, 77, 78, 79, 80, 81, 82, 83, 84, 85, 86, 87, 88, 89, 90, 76]
theorem e_W {ids : zIds} {u v adK adV : Nat → Nat} {t b : Nat} : qWo ids u e_k1 ++ qWo ids v e_k2 = qWo ids (e_ad u v adK adV t b) (e_k1 ++ e_k2) := by
  rw [qWo_ad (u := u) (v := e_ad u v adK adV t b) (ks := e_k1) (by decide +kernel) (fun k hk => by
    have h : Nat.blt k 75 = true := (by decide +kernel : ∀ k ∈ e_k1, Nat.blt k 75 = true) k hk
    show u k = cond (Nat.blt k 75) _ _
    rw [h]
    rfl), qWo_ad (u := v) (v := e_ad u v adK adV t b) (ks := e_k2) (by decide +kernel) (fun k hk => by
    have h : Nat.blt k 75 = false := (by decide +kernel : ∀ k ∈ e_k2, Nat.blt k 75 = false) k hk
    have h2 : Nat.blt k 91 = true := (by decide +kernel : ∀ k ∈ e_k2, Nat.blt k 91 = true) k hk
    show v k = cond (Nat.blt k 75) _ (cond (Nat.blt k 91) _ _)
    rw [h, h2]
    rfl)]
  exact (List.map_append).symm
theorem e_all : ∀ k, k < zN → k ∈ e_k1 ++ e_k2 := by decide +kernel
