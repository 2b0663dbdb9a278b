/-! The law's loop: by program (wip/whole/genlaw.py). -/
def i_sld (L : Nat) (xs : Nat → Int32) (k : zK) : zK := fun ls st σ => match st with | .int i :: .ref o :: r => cond (Nat.beq o 100) (vp_in i L ∧ k ls (.int (xs i.toNatClampNeg) :: r) σ) False | _ => False
def i_sln (L : Nat) (k : zK) : zK := fun ls st σ => match st with | .ref o :: r => cond (Nat.beq o 100) (k ls (.int (nI L) :: r) σ) False | _ => False
def i_lw : zK := fun _ st _ => st = [.int 1]
def zTw (T : zTy) : zTy := fun vs σ Q => ∃ Q0 : zQ, T vs σ Q0 ∧ ∀ v τ, Q0 v τ → Q v τ
def zSX (ad : Nat → Nat) (A : Nat → Prop) (s : State) (b L : Nat) (xs : Nat → Int32) : Prop := ad 100 = b ∧ va_X b L xs s s.heap ∧ b < s.heap.size ∧ ¬ A b
section
variable {p : Program} {l : Launch} {e : Env} {R : Room} {s : State} {m : MethodId} {args : Array Value} {below : List Frame} {meth : Method} {c : Code} {cells slots : Nat} {QQ : State → Prop} {D : va_G} {ids : zIds} {ad : Nat → Nat} {A : Nat → Prop} {own : String} {cc : ByteArray} {nL : Nat} {b L : Nat} {xs : Nat → Int32}
variable {pc : Nat} {K K2 : zK}
theorem z_sld (C : zCx p R s m args c cells slots D ids ad A own cc nL) (X : zSX ad A s b L xs) (hd : decode cc pc = .ok (.iaload, 1)) (k : zGo p l e R s m args below meth c cells slots QQ D ids ad A nL (pc + 1) K) : zGo p l e R s m args below meth c cells slots QQ D ids ad A nL (pc) (i_sld L xs K) := by
  intro ls st σ h H locs lsr hP hS hl
  obtain ⟨rfl, x2, x3, x4⟩ := X
  unfold i_sld at h
  split at h
  · rename_i i o r
    obtain ⟨ho, h⟩ := zcd h
    have ho := Nat.eq_of_beq_eq_true ho
    subst ho
    exact va_sld C.1 C.2.1 x2 x3 x4 hS h.1 hd (k ls _ σ h.2 H locs lsr hP hS hl)
  · exact h.elim
theorem z_sln (C : zCx p R s m args c cells slots D ids ad A own cc nL) (X : zSX ad A s b L xs) (hd : decode cc pc = .ok (.arraylength, 1)) (k : zGo p l e R s m args below meth c cells slots QQ D ids ad A nL (pc + 1) K) : zGo p l e R s m args below meth c cells slots QQ D ids ad A nL (pc) (i_sln L K) := by
  intro ls st σ h H locs lsr hP hS hl
  obtain ⟨rfl, x2, x3, x4⟩ := X
  unfold i_sln at h
  split at h
  · rename_i o r
    obtain ⟨ho, h⟩ := zcd h
    have ho := Nat.eq_of_beq_eq_true ho
    subst ho
    exact va_slen C.1 C.2.1 x2 x3 x4 hS hd (k ls _ σ h H locs lsr hP hS hl)
  · exact h.elim
/-- behind a call whose end says more than is asked -/
theorem z_contW {ls r st0 : List Value} {lsr : Array Slot} {H : Heap} {locs : List Loc} {ret : Option FieldType} {a : Array Value} {Q0 : zQ} (hq : ∀ v τ, Q0 v τ → K ls (zvl v r) τ) (hr : va_Run p l e R s m args below meth c H locs cells slots 0 0 (F0 m pc lsr st0) (r.map (zreal ad)) (zQc D ids ad A Q0 ret a) A) (hS : va_S A s.heap H locs) (hl : zLs ad nL ls lsr) (k : zGo p l e R s m args below meth c cells slots QQ D ids ad A nL (pc + 3) K) : W p l e R s m args below meth c H locs cells slots QQ (F0 m pc lsr st0) := by
  cases ret with
  | none => exact va_callv (a := a) hr hS (fun _ _ h => h) (fun _ h => h) (fun u t H1 locs1 ht _ hp hB _ _ hS1 => k ls r u (hq _ _ hp) H1 locs1 lsr (by rw [← ht]; exact hB) hS1 hl)
  | some ty =>
    cases ty with
    | long => exact va_calll (a := a) hr hS (fun _ _ h => h) (fun _ h => h) (fun v u t H1 locs1 ht _ hp hB _ _ hS1 => k ls (.long v :: r) u (hq _ _ hp) H1 locs1 lsr (by rw [← ht]; exact hB) hS1 hl)
    | _ => exact va_calli (a := a) hr hS (fun _ _ h => h) (fun _ h => h) (fun v u t H1 locs1 ht _ hp hB _ _ hS1 => k ls (.int v :: r) u (hq _ _ hp) H1 locs1 lsr (by rw [← ht]; exact hB) hS1 hl)
theorem z_cVw (C : zCx p R s m args c cells slots D ids ad A own cc nL) {idx ci n nL' N : Nat} {y : MethodName} {cc' : ByteArray} {ret : Option FieldType} {rm : Room} {T : zTy} {TT : u_T} (hd : decode cc pc = .ok (.invokevirtual idx, 3)) (hM : zSd y cc' nL' ret rm T) (hc : zCl[ci]? = some (y.cls, TT, N)) (hw : ∀ w ∈ ([.methodLink own idx y, .instanceMethod y, .selects y.cls y y, .initialized y.cls] : List Cond), w ∈ zAll) (hcd : Cond.code y cc' nL' ret ∈ zAll) (hy : zDs y n) (hR : zRm rm R nL') (k : zGo p l e R s m args below meth c cells slots QQ D ids ad A nL (pc + 3) K) : zGo p l e R s m args below meth c cells slots QQ D ids ad A nL pc (i_cv ci (n + 1) (zTw T) K) := by
  intro ls st σ h H locs lsr hP hS hl
  unfold i_cv at h
  split at h
  · rename_i o vs r hsp
    obtain ⟨h0, h1', Q0, h2', hq⟩ := zcd2 h
    have h0 := zbe h0
    obtain ⟨h1, h2⟩ := zsp_st hsp
    have hG : GoodIn zAll (wsV own idx y.cls y (.code y cc' nL' ret :: zAll)) := zgl hw hcd
    have hrun := va_runV (p := p) (e := e) (below := below) (meth := meth) (cells := cells) (slots := slots) (locs := locs) (H := H) (g := F0 m pc lsr (st.map (zreal ad))) (b := ad o) (As := vs.map (zreal ad)) (rest := r.map (zreal ad)) ⟨C.1, C.2.1, C.2.2.1, C.2.2.2.1, C.2.2.2.2.1⟩ (hM l D ids ad A (.ref o :: vs) σ _ h2') (cwV n C.2.2.2.2.1 hG rfl hR.1 hR.2.1 ⟨rfl, hy⟩ hR.2.2) ⟨zblind, z_recv C hP (by rw [h0]; exact hc), z_pre C hP hS⟩ rfl (by rw [List.length_map]; simpa using h2) hl.1 (by show st.map _ = _; rw [h1]; simp [zreal]) (lv_room (zsm_le h1')) hd ⟨C.2.2.2.2.2.2.2.1, C.2.2.2.2.2.2.2.2⟩
    exact z_contW hq hrun hS hl k
  · exact h.elim
theorem z_lw {bb : Nat} (hx : p.tables.exec = Jvm.exec) (hb : c.code = code) (hr : meth.sig.returnType = ret) (hk : meth.locks = false) (hc : cells ≤ 600000) (hs : slots ≤ 7302250) (hd : decode code pc = .ok (.ireturn, 1)) : zGo p l e room_1 s m #[Value.ref bb] below meth c cells slots (lw_Z below #[Value.ref bb] s) D ids ad (fun q : Nat => s.heap.size ≤ q) 4 pc i_lw := by
  intro ls st σ h H locs lsr hP hS hl
  have h : st = [.int 1] := h
  subst h
  refine va_forget (fun q hq => hS.2.2 q hq) ?_
  refine W.widen (k := 600000) (n := 7302250) hc hs ?_
  exact lw_ret hx hb hr hk hd
end
theorem w_304 : Cond.methodLink "EveryPewLaw" 13 yX11_church ∈ zAll := zti 304 (by decide +kernel) (by decide +kernel)
theorem w_305 : Cond.instanceMethod yX11_church ∈ zAll := zti 305 (by decide +kernel) (by decide +kernel)
theorem w_306 : Cond.selects "EveryPew" yX11_church yX11_church ∈ zAll := zti 306 (by decide +kernel) (by decide +kernel)
theorem w_307 : Cond.code yX11_church prog_1_method_2_code 3 (Option.some Jvm.ClassFile.FieldType.int) ∈ zAll := zti 307 (by decide +kernel) (by decide +kernel)
theorem w_322 : Cond.methodLink "EveryPewLaw" 18 yX11_book ∈ zAll := zti 322 (by decide +kernel) (by decide +kernel)
theorem w_323 : Cond.instanceMethod yX11_book ∈ zAll := zti 323 (by decide +kernel) (by decide +kernel)
theorem w_324 : Cond.selects "EveryPew" yX11_book yX11_book ∈ zAll := zti 324 (by decide +kernel) (by decide +kernel)
theorem w_325 : Cond.code yX11_book prog_1_method_3_code 4 (Option.some Jvm.ClassFile.FieldType.int) ∈ zAll := zti 325 (by decide +kernel) (by decide +kernel)
theorem w_330 : Cond.methodLink "EveryPewLaw" 23 yX11_family ∈ zAll := zti 330 (by decide +kernel) (by decide +kernel)
theorem w_331 : Cond.instanceMethod yX11_family ∈ zAll := zti 331 (by decide +kernel) (by decide +kernel)
theorem w_332 : Cond.selects "EveryPew" yX11_family yX11_family ∈ zAll := zti 332 (by decide +kernel) (by decide +kernel)
theorem w_333 : Cond.code yX11_family prog_1_method_4_code 6 (Option.some Jvm.ClassFile.FieldType.int) ∈ zAll := zti 333 (by decide +kernel) (by decide +kernel)
theorem w_345 : Cond.methodLink "EveryPewLaw" 28 yX11_type ∈ zAll := zti 345 (by decide +kernel) (by decide +kernel)
theorem w_346 : Cond.instanceMethod yX11_type ∈ zAll := zti 346 (by decide +kernel) (by decide +kernel)
theorem w_347 : Cond.selects "EveryPew" yX11_type yX11_type ∈ zAll := zti 347 (by decide +kernel) (by decide +kernel)
theorem w_348 : Cond.code yX11_type prog_1_method_5_code 2 (Option.some Jvm.ClassFile.FieldType.int) ∈ zAll := zti 348 (by decide +kernel) (by decide +kernel)
theorem w_353 : Cond.methodLink "EveryPewLaw" 32 yX11_clear ∈ zAll := zti 353 (by decide +kernel) (by decide +kernel)
theorem w_354 : Cond.instanceMethod yX11_clear ∈ zAll := zti 354 (by decide +kernel) (by decide +kernel)
theorem w_355 : Cond.selects "EveryPew" yX11_clear yX11_clear ∈ zAll := zti 355 (by decide +kernel) (by decide +kernel)
theorem w_356 : Cond.code yX11_clear prog_1_method_6_code 2 (Option.some Jvm.ClassFile.FieldType.int) ∈ zAll := zti 356 (by decide +kernel) (by decide +kernel)
theorem w_357 : Cond.methodLink "EveryPewLaw" 37 yX11_read ∈ zAll := zti 357 (by decide +kernel) (by decide +kernel)
theorem w_358 : Cond.instanceMethod yX11_read ∈ zAll := zti 358 (by decide +kernel) (by decide +kernel)
theorem w_359 : Cond.selects "EveryPew" yX11_read yX11_read ∈ zAll := zti 359 (by decide +kernel) (by decide +kernel)
theorem w_360 : Cond.code yX11_read prog_1_method_7_code 2 (Option.some Jvm.ClassFile.FieldType.int) ∈ zAll := zti 360 (by decide +kernel) (by decide +kernel)
theorem w_479 : Cond.methodLink "EveryPewLaw" 41 yX11_move ∈ zAll := zti 479 (by decide +kernel) (by decide +kernel)
theorem w_480 : Cond.instanceMethod yX11_move ∈ zAll := zti 480 (by decide +kernel) (by decide +kernel)
theorem w_481 : Cond.selects "EveryPew" yX11_move yX11_move ∈ zAll := zti 481 (by decide +kernel) (by decide +kernel)
theorem w_482 : Cond.code yX11_move prog_1_method_8_code 4 (Option.some Jvm.ClassFile.FieldType.int) ∈ zAll := zti 482 (by decide +kernel) (by decide +kernel)
theorem w_491 : Cond.methodLink "EveryPewLaw" 45 yX11_cold ∈ zAll := zti 491 (by decide +kernel) (by decide +kernel)
theorem w_492 : Cond.instanceMethod yX11_cold ∈ zAll := zti 492 (by decide +kernel) (by decide +kernel)
theorem w_493 : Cond.selects "EveryPew" yX11_cold yX11_cold ∈ zAll := zti 493 (by decide +kernel) (by decide +kernel)
theorem w_494 : Cond.code yX11_cold prog_1_method_9_code 4 (Option.some Jvm.ClassFile.FieldType.int) ∈ zAll := zti 494 (by decide +kernel) (by decide +kernel)
theorem w_498 : Cond.methodLink "EveryPewLaw" 49 yX11_undo ∈ zAll := zti 498 (by decide +kernel) (by decide +kernel)
theorem w_499 : Cond.instanceMethod yX11_undo ∈ zAll := zti 499 (by decide +kernel) (by decide +kernel)
theorem w_500 : Cond.selects "EveryPew" yX11_undo yX11_undo ∈ zAll := zti 500 (by decide +kernel) (by decide +kernel)
theorem w_501 : Cond.code yX11_undo prog_1_method_10_code 1 (Option.some Jvm.ClassFile.FieldType.int) ∈ zAll := zti 501 (by decide +kernel) (by decide +kernel)
theorem w_512 : Cond.methodLink "EveryPewLaw" 53 yX11_of ∈ zAll := zti 512 (by decide +kernel) (by decide +kernel)
theorem w_513 : Cond.instanceMethod yX11_of ∈ zAll := zti 513 (by decide +kernel) (by decide +kernel)
theorem w_514 : Cond.selects "EveryPew" yX11_of yX11_of ∈ zAll := zti 514 (by decide +kernel) (by decide +kernel)
theorem w_515 : Cond.code yX11_of prog_1_method_11_code 3 (Option.some Jvm.ClassFile.FieldType.int) ∈ zAll := zti 515 (by decide +kernel) (by decide +kernel)
theorem w_521 : Cond.methodLink "EveryPewLaw" 57 yX11_at ∈ zAll := zti 521 (by decide +kernel) (by decide +kernel)
theorem w_522 : Cond.instanceMethod yX11_at ∈ zAll := zti 522 (by decide +kernel) (by decide +kernel)
theorem w_523 : Cond.selects "EveryPew" yX11_at yX11_at ∈ zAll := zti 523 (by decide +kernel) (by decide +kernel)
theorem w_524 : Cond.code yX11_at prog_1_method_12_code 4 (Option.some Jvm.ClassFile.FieldType.int) ∈ zAll := zti 524 (by decide +kernel) (by decide +kernel)
theorem w_611 : Cond.methodLink "EveryPewLaw" 62 yX11_up ∈ zAll := zti 611 (by decide +kernel) (by decide +kernel)
theorem w_612 : Cond.instanceMethod yX11_up ∈ zAll := zti 612 (by decide +kernel) (by decide +kernel)
theorem w_613 : Cond.selects "EveryPew" yX11_up yX11_up ∈ zAll := zti 613 (by decide +kernel) (by decide +kernel)
theorem w_614 : Cond.code yX11_up prog_1_method_13_code 4 (Option.some Jvm.ClassFile.FieldType.int) ∈ zAll := zti 614 (by decide +kernel) (by decide +kernel)
theorem w_615 : Cond.methodLink "EveryPewLaw" 66 yX11_seers ∈ zAll := zti 615 (by decide +kernel) (by decide +kernel)
theorem w_616 : Cond.instanceMethod yX11_seers ∈ zAll := zti 616 (by decide +kernel) (by decide +kernel)
theorem w_617 : Cond.selects "EveryPew" yX11_seers yX11_seers ∈ zAll := zti 617 (by decide +kernel) (by decide +kernel)
theorem w_618 : Cond.code yX11_seers prog_1_method_14_code 4 (Option.some Jvm.ClassFile.FieldType.int) ∈ zAll := zti 618 (by decide +kernel) (by decide +kernel)
theorem w_619 : Cond.methodLink "EveryPewLaw" 70 yX11_loud ∈ zAll := zti 619 (by decide +kernel) (by decide +kernel)
theorem w_620 : Cond.instanceMethod yX11_loud ∈ zAll := zti 620 (by decide +kernel) (by decide +kernel)
theorem w_621 : Cond.selects "EveryPew" yX11_loud yX11_loud ∈ zAll := zti 621 (by decide +kernel) (by decide +kernel)
theorem w_622 : Cond.code yX11_loud prog_1_method_15_code 3 (Option.some Jvm.ClassFile.FieldType.int) ∈ zAll := zti 622 (by decide +kernel) (by decide +kernel)
theorem w_631 : Cond.methodLink "EveryPewLaw" 74 yX11_breach ∈ zAll := zti 631 (by decide +kernel) (by decide +kernel)
theorem w_632 : Cond.instanceMethod yX11_breach ∈ zAll := zti 632 (by decide +kernel) (by decide +kernel)
theorem w_633 : Cond.selects "EveryPew" yX11_breach yX11_breach ∈ zAll := zti 633 (by decide +kernel) (by decide +kernel)
theorem w_634 : Cond.code yX11_breach prog_1_method_16_code 3 (Option.some Jvm.ClassFile.FieldType.int) ∈ zAll := zti 634 (by decide +kernel) (by decide +kernel)
theorem w_646 : Cond.methodLink "EveryPewLaw" 78 yX11_canNot ∈ zAll := zti 646 (by decide +kernel) (by decide +kernel)
theorem w_647 : Cond.instanceMethod yX11_canNot ∈ zAll := zti 647 (by decide +kernel) (by decide +kernel)
theorem w_648 : Cond.selects "EveryPew" yX11_canNot yX11_canNot ∈ zAll := zti 648 (by decide +kernel) (by decide +kernel)
theorem w_649 : Cond.code yX11_canNot prog_1_method_17_code 1 (Option.some Jvm.ClassFile.FieldType.int) ∈ zAll := zti 649 (by decide +kernel) (by decide +kernel)
theorem w_650 : Cond.methodLink "EveryPewLaw" 82 yX11_seats ∈ zAll := zti 650 (by decide +kernel) (by decide +kernel)
theorem w_651 : Cond.instanceMethod yX11_seats ∈ zAll := zti 651 (by decide +kernel) (by decide +kernel)
theorem w_652 : Cond.selects "EveryPew" yX11_seats yX11_seats ∈ zAll := zti 652 (by decide +kernel) (by decide +kernel)
theorem w_653 : Cond.code yX11_seats prog_1_method_18_code 2 (Option.some Jvm.ClassFile.FieldType.int) ∈ zAll := zti 653 (by decide +kernel) (by decide +kernel)
theorem w_687 : Cond.methodLink "EveryPewLaw" 86 yX11_change ∈ zAll := zti 687 (by decide +kernel) (by decide +kernel)
theorem w_688 : Cond.instanceMethod yX11_change ∈ zAll := zti 688 (by decide +kernel) (by decide +kernel)
theorem w_689 : Cond.selects "EveryPew" yX11_change yX11_change ∈ zAll := zti 689 (by decide +kernel) (by decide +kernel)
theorem w_690 : Cond.code yX11_change prog_1_method_19_code 6 (Option.some Jvm.ClassFile.FieldType.int) ∈ zAll := zti 690 (by decide +kernel) (by decide +kernel)
theorem w_696 : Cond.methodLink "EveryPewLaw" 90 yX11_still ∈ zAll := zti 696 (by decide +kernel) (by decide +kernel)
theorem w_697 : Cond.instanceMethod yX11_still ∈ zAll := zti 697 (by decide +kernel) (by decide +kernel)
theorem w_698 : Cond.selects "EveryPew" yX11_still yX11_still ∈ zAll := zti 698 (by decide +kernel) (by decide +kernel)
theorem w_699 : Cond.code yX11_still prog_1_method_20_code 4 (Option.some Jvm.ClassFile.FieldType.int) ∈ zAll := zti 699 (by decide +kernel) (by decide +kernel)
theorem w_708 : Cond.methodLink "EveryPewLaw" 94 yX11_heard ∈ zAll := zti 708 (by decide +kernel) (by decide +kernel)
theorem w_709 : Cond.instanceMethod yX11_heard ∈ zAll := zti 709 (by decide +kernel) (by decide +kernel)
theorem w_710 : Cond.selects "EveryPew" yX11_heard yX11_heard ∈ zAll := zti 710 (by decide +kernel) (by decide +kernel)
theorem w_711 : Cond.code yX11_heard prog_1_method_21_code 4 (Option.some Jvm.ClassFile.FieldType.int) ∈ zAll := zti 711 (by decide +kernel) (by decide +kernel)
theorem w_716 : Cond.methodLink "EveryPewLaw" 98 yX11_forget ∈ zAll := zti 716 (by decide +kernel) (by decide +kernel)
theorem w_717 : Cond.instanceMethod yX11_forget ∈ zAll := zti 717 (by decide +kernel) (by decide +kernel)
theorem w_718 : Cond.selects "EveryPew" yX11_forget yX11_forget ∈ zAll := zti 718 (by decide +kernel) (by decide +kernel)
theorem w_719 : Cond.code yX11_forget prog_1_method_22_code 2 (Option.some Jvm.ClassFile.FieldType.int) ∈ zAll := zti 719 (by decide +kernel) (by decide +kernel)
theorem w_720 : Cond.methodLink "EveryPewLaw" 102 yX11_coughed ∈ zAll := zti 720 (by decide +kernel) (by decide +kernel)
theorem w_721 : Cond.instanceMethod yX11_coughed ∈ zAll := zti 721 (by decide +kernel) (by decide +kernel)
theorem w_722 : Cond.selects "EveryPew" yX11_coughed yX11_coughed ∈ zAll := zti 722 (by decide +kernel) (by decide +kernel)
theorem w_723 : Cond.code yX11_coughed prog_1_method_23_code 2 (Option.some Jvm.ClassFile.FieldType.int) ∈ zAll := zti 723 (by decide +kernel) (by decide +kernel)
theorem w_734 : Cond.methodLink "EveryPewLaw" 106 yX11_next ∈ zAll := zti 734 (by decide +kernel) (by decide +kernel)
theorem w_735 : Cond.instanceMethod yX11_next ∈ zAll := zti 735 (by decide +kernel) (by decide +kernel)
theorem w_736 : Cond.selects "EveryPew" yX11_next yX11_next ∈ zAll := zti 736 (by decide +kernel) (by decide +kernel)
theorem w_737 : Cond.code yX11_next prog_1_method_24_code 1 (Option.some Jvm.ClassFile.FieldType.int) ∈ zAll := zti 737 (by decide +kernel) (by decide +kernel)
theorem w_752 : Cond.methodLink "EveryPewLaw" 110 yX11_is ∈ zAll := zti 752 (by decide +kernel) (by decide +kernel)
theorem w_753 : Cond.instanceMethod yX11_is ∈ zAll := zti 753 (by decide +kernel) (by decide +kernel)
theorem w_754 : Cond.selects "EveryPew" yX11_is yX11_is ∈ zAll := zti 754 (by decide +kernel) (by decide +kernel)
theorem w_755 : Cond.code yX11_is prog_1_method_25_code 4 (Option.some Jvm.ClassFile.FieldType.int) ∈ zAll := zti 755 (by decide +kernel) (by decide +kernel)
theorem w_757 : Cond.methodLink "EveryPewLaw" 114 yX11_deacons ∈ zAll := zti 757 (by decide +kernel) (by decide +kernel)
theorem w_758 : Cond.instanceMethod yX11_deacons ∈ zAll := zti 758 (by decide +kernel) (by decide +kernel)
theorem w_759 : Cond.selects "EveryPew" yX11_deacons yX11_deacons ∈ zAll := zti 759 (by decide +kernel) (by decide +kernel)
theorem w_760 : Cond.code yX11_deacons prog_1_method_26_code 5 (Option.some Jvm.ClassFile.FieldType.int) ∈ zAll := zti 760 (by decide +kernel) (by decide +kernel)
theorem w_769 : Cond.methodLink "EveryPewLaw" 118 yX11_feasts ∈ zAll := zti 769 (by decide +kernel) (by decide +kernel)
theorem w_770 : Cond.instanceMethod yX11_feasts ∈ zAll := zti 770 (by decide +kernel) (by decide +kernel)
theorem w_771 : Cond.selects "EveryPew" yX11_feasts yX11_feasts ∈ zAll := zti 771 (by decide +kernel) (by decide +kernel)
theorem w_772 : Cond.code yX11_feasts prog_1_method_27_code 7 (Option.some Jvm.ClassFile.FieldType.int) ∈ zAll := zti 772 (by decide +kernel) (by decide +kernel)
theorem w_774 : Cond.methodLink "EveryPewLaw" 123 yX11_colds ∈ zAll := zti 774 (by decide +kernel) (by decide +kernel)
theorem w_775 : Cond.instanceMethod yX11_colds ∈ zAll := zti 775 (by decide +kernel) (by decide +kernel)
theorem w_776 : Cond.selects "EveryPew" yX11_colds yX11_colds ∈ zAll := zti 776 (by decide +kernel) (by decide +kernel)
theorem w_777 : Cond.code yX11_colds prog_1_method_28_code 6 (Option.some Jvm.ClassFile.FieldType.int) ∈ zAll := zti 777 (by decide +kernel) (by decide +kernel)
theorem w_792 : Cond.methodLink "EveryPewLaw" 127 yX11_sundays ∈ zAll := zti 792 (by decide +kernel) (by decide +kernel)
theorem w_793 : Cond.instanceMethod yX11_sundays ∈ zAll := zti 793 (by decide +kernel) (by decide +kernel)
theorem w_794 : Cond.selects "EveryPew" yX11_sundays yX11_sundays ∈ zAll := zti 794 (by decide +kernel) (by decide +kernel)
theorem w_795 : Cond.code yX11_sundays prog_1_method_29_code 9 (Option.some Jvm.ClassFile.FieldType.int) ∈ zAll := zti 795 (by decide +kernel) (by decide +kernel)
theorem w_802 : Cond.methodLink "EveryPewLaw" 131 yX11_part ∈ zAll := zti 802 (by decide +kernel) (by decide +kernel)
theorem w_803 : Cond.instanceMethod yX11_part ∈ zAll := zti 803 (by decide +kernel) (by decide +kernel)
theorem w_804 : Cond.selects "EveryPew" yX11_part yX11_part ∈ zAll := zti 804 (by decide +kernel) (by decide +kernel)
theorem w_805 : Cond.code yX11_part prog_1_method_30_code 2 (Option.some Jvm.ClassFile.FieldType.long) ∈ zAll := zti 805 (by decide +kernel) (by decide +kernel)
theorem w_806 : Cond.methodLink "EveryPewLaw" 136 yX11_image ∈ zAll := zti 806 (by decide +kernel) (by decide +kernel)
theorem w_807 : Cond.instanceMethod yX11_image ∈ zAll := zti 807 (by decide +kernel) (by decide +kernel)
theorem w_808 : Cond.selects "EveryPew" yX11_image yX11_image ∈ zAll := zti 808 (by decide +kernel) (by decide +kernel)
theorem w_809 : Cond.code yX11_image prog_1_method_31_code 2 (Option.some Jvm.ClassFile.FieldType.int) ∈ zAll := zti 809 (by decide +kernel) (by decide +kernel)
theorem w_810 : Cond.methodLink "EveryPewLaw" 140 yX11_from ∈ zAll := zti 810 (by decide +kernel) (by decide +kernel)
theorem w_811 : Cond.instanceMethod yX11_from ∈ zAll := zti 811 (by decide +kernel) (by decide +kernel)
theorem w_812 : Cond.selects "EveryPew" yX11_from yX11_from ∈ zAll := zti 812 (by decide +kernel) (by decide +kernel)
theorem w_813 : Cond.code yX11_from prog_1_method_32_code 2 (Option.some Jvm.ClassFile.FieldType.int) ∈ zAll := zti 813 (by decide +kernel) (by decide +kernel)
theorem w_814 : Cond.methodLink "EveryPewLaw" 144 yX11_status ∈ zAll := zti 814 (by decide +kernel) (by decide +kernel)
theorem w_815 : Cond.instanceMethod yX11_status ∈ zAll := zti 815 (by decide +kernel) (by decide +kernel)
theorem w_816 : Cond.selects "EveryPew" yX11_status yX11_status ∈ zAll := zti 816 (by decide +kernel) (by decide +kernel)
theorem w_817 : Cond.code yX11_status prog_1_method_33_code 2 (Option.some Jvm.ClassFile.FieldType.int) ∈ zAll := zti 817 (by decide +kernel) (by decide +kernel)
theorem w_818 : Cond.methodLink "EveryPewLaw" 148 yX11_count ∈ zAll := zti 818 (by decide +kernel) (by decide +kernel)
theorem w_819 : Cond.instanceMethod yX11_count ∈ zAll := zti 819 (by decide +kernel) (by decide +kernel)
theorem w_820 : Cond.selects "EveryPew" yX11_count yX11_count ∈ zAll := zti 820 (by decide +kernel) (by decide +kernel)
theorem w_821 : Cond.code yX11_count prog_1_method_34_code 2 (Option.some Jvm.ClassFile.FieldType.int) ∈ zAll := zti 821 (by decide +kernel) (by decide +kernel)
theorem w_826 : Cond.methodLink "EveryPewLaw" 152 yX11_digest ∈ zAll := zti 826 (by decide +kernel) (by decide +kernel)
theorem w_827 : Cond.instanceMethod yX11_digest ∈ zAll := zti 827 (by decide +kernel) (by decide +kernel)
theorem w_828 : Cond.selects "EveryPew" yX11_digest yX11_digest ∈ zAll := zti 828 (by decide +kernel) (by decide +kernel)
theorem w_829 : Cond.code yX11_digest prog_1_method_35_code 5 (Option.some Jvm.ClassFile.FieldType.long) ∈ zAll := zti 829 (by decide +kernel) (by decide +kernel)
theorem w_917 : Cond.methodLink "EveryPewLaw" 17 yX12_church ∈ zAll := zti 917 (by decide +kernel) (by decide +kernel)
theorem w_918 : Cond.instanceMethod yX12_church ∈ zAll := zti 918 (by decide +kernel) (by decide +kernel)
theorem w_919 : Cond.selects "EveryPewModel" yX12_church yX12_church ∈ zAll := zti 919 (by decide +kernel) (by decide +kernel)
theorem w_920 : Cond.code yX12_church prog_14_method_17_code 3 (Option.some Jvm.ClassFile.FieldType.int) ∈ zAll := zti 920 (by decide +kernel) (by decide +kernel)
theorem w_933 : Cond.methodLink "EveryPewLaw" 22 yX12_book ∈ zAll := zti 933 (by decide +kernel) (by decide +kernel)
theorem w_934 : Cond.instanceMethod yX12_book ∈ zAll := zti 934 (by decide +kernel) (by decide +kernel)
theorem w_935 : Cond.selects "EveryPewModel" yX12_book yX12_book ∈ zAll := zti 935 (by decide +kernel) (by decide +kernel)
theorem w_936 : Cond.code yX12_book prog_14_method_18_code 4 (Option.some Jvm.ClassFile.FieldType.int) ∈ zAll := zti 936 (by decide +kernel) (by decide +kernel)
theorem w_941 : Cond.methodLink "EveryPewLaw" 27 yX12_family ∈ zAll := zti 941 (by decide +kernel) (by decide +kernel)
theorem w_942 : Cond.instanceMethod yX12_family ∈ zAll := zti 942 (by decide +kernel) (by decide +kernel)
theorem w_943 : Cond.selects "EveryPewModel" yX12_family yX12_family ∈ zAll := zti 943 (by decide +kernel) (by decide +kernel)
theorem w_944 : Cond.code yX12_family prog_14_method_20_code 6 (Option.some Jvm.ClassFile.FieldType.int) ∈ zAll := zti 944 (by decide +kernel) (by decide +kernel)
theorem w_965 : Cond.methodLink "EveryPewLaw" 44 yX12_move ∈ zAll := zti 965 (by decide +kernel) (by decide +kernel)
theorem w_966 : Cond.instanceMethod yX12_move ∈ zAll := zti 966 (by decide +kernel) (by decide +kernel)
theorem w_967 : Cond.selects "EveryPewModel" yX12_move yX12_move ∈ zAll := zti 967 (by decide +kernel) (by decide +kernel)
theorem w_968 : Cond.code yX12_move prog_14_method_30_code 4 (Option.some Jvm.ClassFile.FieldType.int) ∈ zAll := zti 968 (by decide +kernel) (by decide +kernel)
theorem w_981 : Cond.methodLink "EveryPewLaw" 48 yX12_cold ∈ zAll := zti 981 (by decide +kernel) (by decide +kernel)
theorem w_982 : Cond.instanceMethod yX12_cold ∈ zAll := zti 982 (by decide +kernel) (by decide +kernel)
theorem w_983 : Cond.selects "EveryPewModel" yX12_cold yX12_cold ∈ zAll := zti 983 (by decide +kernel) (by decide +kernel)
theorem w_984 : Cond.code yX12_cold prog_14_method_31_code 4 (Option.some Jvm.ClassFile.FieldType.int) ∈ zAll := zti 984 (by decide +kernel) (by decide +kernel)
theorem w_985 : Cond.methodLink "EveryPewLaw" 52 yX12_undo ∈ zAll := zti 985 (by decide +kernel) (by decide +kernel)
theorem w_986 : Cond.instanceMethod yX12_undo ∈ zAll := zti 986 (by decide +kernel) (by decide +kernel)
theorem w_987 : Cond.selects "EveryPewModel" yX12_undo yX12_undo ∈ zAll := zti 987 (by decide +kernel) (by decide +kernel)
theorem w_988 : Cond.code yX12_undo prog_14_method_33_code 3 (Option.some Jvm.ClassFile.FieldType.int) ∈ zAll := zti 988 (by decide +kernel) (by decide +kernel)
theorem w_993 : Cond.methodLink "EveryPewLaw" 56 yX12_of ∈ zAll := zti 993 (by decide +kernel) (by decide +kernel)
theorem w_994 : Cond.instanceMethod yX12_of ∈ zAll := zti 994 (by decide +kernel) (by decide +kernel)
theorem w_995 : Cond.selects "EveryPewModel" yX12_of yX12_of ∈ zAll := zti 995 (by decide +kernel) (by decide +kernel)
theorem w_996 : Cond.code yX12_of prog_14_method_34_code 3 (Option.some Jvm.ClassFile.FieldType.int) ∈ zAll := zti 996 (by decide +kernel) (by decide +kernel)
theorem w_997 : Cond.methodLink "EveryPewLaw" 61 yX12_at ∈ zAll := zti 997 (by decide +kernel) (by decide +kernel)
theorem w_998 : Cond.instanceMethod yX12_at ∈ zAll := zti 998 (by decide +kernel) (by decide +kernel)
theorem w_999 : Cond.selects "EveryPewModel" yX12_at yX12_at ∈ zAll := zti 999 (by decide +kernel) (by decide +kernel)
theorem w_1000 : Cond.code yX12_at prog_14_method_35_code 4 (Option.some Jvm.ClassFile.FieldType.int) ∈ zAll := zti 1000 (by decide +kernel) (by decide +kernel)
theorem w_1029 : Cond.methodLink "EveryPewLaw" 65 yX12_up ∈ zAll := zti 1029 (by decide +kernel) (by decide +kernel)
theorem w_1030 : Cond.instanceMethod yX12_up ∈ zAll := zti 1030 (by decide +kernel) (by decide +kernel)
theorem w_1031 : Cond.selects "EveryPewModel" yX12_up yX12_up ∈ zAll := zti 1031 (by decide +kernel) (by decide +kernel)
theorem w_1032 : Cond.code yX12_up prog_14_method_36_code 4 (Option.some Jvm.ClassFile.FieldType.int) ∈ zAll := zti 1032 (by decide +kernel) (by decide +kernel)
theorem w_1033 : Cond.methodLink "EveryPewLaw" 69 yX12_seers ∈ zAll := zti 1033 (by decide +kernel) (by decide +kernel)
theorem w_1034 : Cond.instanceMethod yX12_seers ∈ zAll := zti 1034 (by decide +kernel) (by decide +kernel)
theorem w_1035 : Cond.selects "EveryPewModel" yX12_seers yX12_seers ∈ zAll := zti 1035 (by decide +kernel) (by decide +kernel)
theorem w_1036 : Cond.code yX12_seers prog_14_method_37_code 4 (Option.some Jvm.ClassFile.FieldType.int) ∈ zAll := zti 1036 (by decide +kernel) (by decide +kernel)
theorem w_1037 : Cond.methodLink "EveryPewLaw" 73 yX12_loud ∈ zAll := zti 1037 (by decide +kernel) (by decide +kernel)
theorem w_1038 : Cond.instanceMethod yX12_loud ∈ zAll := zti 1038 (by decide +kernel) (by decide +kernel)
theorem w_1039 : Cond.selects "EveryPewModel" yX12_loud yX12_loud ∈ zAll := zti 1039 (by decide +kernel) (by decide +kernel)
theorem w_1040 : Cond.code yX12_loud prog_14_method_38_code 3 (Option.some Jvm.ClassFile.FieldType.int) ∈ zAll := zti 1040 (by decide +kernel) (by decide +kernel)
theorem w_1045 : Cond.methodLink "EveryPewLaw" 77 yX12_breach ∈ zAll := zti 1045 (by decide +kernel) (by decide +kernel)
theorem w_1046 : Cond.instanceMethod yX12_breach ∈ zAll := zti 1046 (by decide +kernel) (by decide +kernel)
theorem w_1047 : Cond.selects "EveryPewModel" yX12_breach yX12_breach ∈ zAll := zti 1047 (by decide +kernel) (by decide +kernel)
theorem w_1048 : Cond.code yX12_breach prog_14_method_39_code 3 (Option.some Jvm.ClassFile.FieldType.int) ∈ zAll := zti 1048 (by decide +kernel) (by decide +kernel)
theorem w_1053 : Cond.methodLink "EveryPewLaw" 81 yX12_canNot ∈ zAll := zti 1053 (by decide +kernel) (by decide +kernel)
theorem w_1054 : Cond.instanceMethod yX12_canNot ∈ zAll := zti 1054 (by decide +kernel) (by decide +kernel)
theorem w_1055 : Cond.selects "EveryPewModel" yX12_canNot yX12_canNot ∈ zAll := zti 1055 (by decide +kernel) (by decide +kernel)
theorem w_1056 : Cond.code yX12_canNot prog_14_method_40_code 1 (Option.some Jvm.ClassFile.FieldType.int) ∈ zAll := zti 1056 (by decide +kernel) (by decide +kernel)
theorem w_1057 : Cond.methodLink "EveryPewLaw" 85 yX12_seats ∈ zAll := zti 1057 (by decide +kernel) (by decide +kernel)
theorem w_1058 : Cond.instanceMethod yX12_seats ∈ zAll := zti 1058 (by decide +kernel) (by decide +kernel)
theorem w_1059 : Cond.selects "EveryPewModel" yX12_seats yX12_seats ∈ zAll := zti 1059 (by decide +kernel) (by decide +kernel)
theorem w_1060 : Cond.code yX12_seats prog_14_method_44_code 2 (Option.some Jvm.ClassFile.FieldType.int) ∈ zAll := zti 1060 (by decide +kernel) (by decide +kernel)
theorem w_1074 : Cond.methodLink "EveryPewLaw" 89 yX12_change ∈ zAll := zti 1074 (by decide +kernel) (by decide +kernel)
theorem w_1075 : Cond.instanceMethod yX12_change ∈ zAll := zti 1075 (by decide +kernel) (by decide +kernel)
theorem w_1076 : Cond.selects "EveryPewModel" yX12_change yX12_change ∈ zAll := zti 1076 (by decide +kernel) (by decide +kernel)
theorem w_1077 : Cond.code yX12_change prog_14_method_45_code 6 (Option.some Jvm.ClassFile.FieldType.int) ∈ zAll := zti 1077 (by decide +kernel) (by decide +kernel)
theorem w_1082 : Cond.methodLink "EveryPewLaw" 93 yX12_still ∈ zAll := zti 1082 (by decide +kernel) (by decide +kernel)
theorem w_1083 : Cond.instanceMethod yX12_still ∈ zAll := zti 1083 (by decide +kernel) (by decide +kernel)
theorem w_1084 : Cond.selects "EveryPewModel" yX12_still yX12_still ∈ zAll := zti 1084 (by decide +kernel) (by decide +kernel)
theorem w_1085 : Cond.code yX12_still prog_14_method_46_code 5 (Option.some Jvm.ClassFile.FieldType.int) ∈ zAll := zti 1085 (by decide +kernel) (by decide +kernel)
theorem w_1089 : Cond.methodLink "EveryPewLaw" 97 yX12_heard ∈ zAll := zti 1089 (by decide +kernel) (by decide +kernel)
theorem w_1090 : Cond.instanceMethod yX12_heard ∈ zAll := zti 1090 (by decide +kernel) (by decide +kernel)
theorem w_1091 : Cond.selects "EveryPewModel" yX12_heard yX12_heard ∈ zAll := zti 1091 (by decide +kernel) (by decide +kernel)
theorem w_1092 : Cond.code yX12_heard prog_14_method_47_code 5 (Option.some Jvm.ClassFile.FieldType.int) ∈ zAll := zti 1092 (by decide +kernel) (by decide +kernel)
theorem w_1094 : Cond.methodLink "EveryPewLaw" 101 yX12_forget ∈ zAll := zti 1094 (by decide +kernel) (by decide +kernel)
theorem w_1095 : Cond.instanceMethod yX12_forget ∈ zAll := zti 1095 (by decide +kernel) (by decide +kernel)
theorem w_1096 : Cond.selects "EveryPewModel" yX12_forget yX12_forget ∈ zAll := zti 1096 (by decide +kernel) (by decide +kernel)
theorem w_1097 : Cond.code yX12_forget prog_14_method_48_code 2 (Option.some Jvm.ClassFile.FieldType.int) ∈ zAll := zti 1097 (by decide +kernel) (by decide +kernel)
theorem w_1098 : Cond.methodLink "EveryPewLaw" 105 yX12_coughed ∈ zAll := zti 1098 (by decide +kernel) (by decide +kernel)
theorem w_1099 : Cond.instanceMethod yX12_coughed ∈ zAll := zti 1099 (by decide +kernel) (by decide +kernel)
theorem w_1100 : Cond.selects "EveryPewModel" yX12_coughed yX12_coughed ∈ zAll := zti 1100 (by decide +kernel) (by decide +kernel)
theorem w_1101 : Cond.code yX12_coughed prog_14_method_51_code 5 (Option.some Jvm.ClassFile.FieldType.int) ∈ zAll := zti 1101 (by decide +kernel) (by decide +kernel)
theorem w_1111 : Cond.methodLink "EveryPewLaw" 109 yX12_next ∈ zAll := zti 1111 (by decide +kernel) (by decide +kernel)
theorem w_1112 : Cond.instanceMethod yX12_next ∈ zAll := zti 1112 (by decide +kernel) (by decide +kernel)
theorem w_1113 : Cond.selects "EveryPewModel" yX12_next yX12_next ∈ zAll := zti 1113 (by decide +kernel) (by decide +kernel)
theorem w_1114 : Cond.code yX12_next prog_14_method_52_code 7 (Option.some Jvm.ClassFile.FieldType.int) ∈ zAll := zti 1114 (by decide +kernel) (by decide +kernel)
theorem w_1116 : Cond.methodLink "EveryPewLaw" 113 yX12_is ∈ zAll := zti 1116 (by decide +kernel) (by decide +kernel)
theorem w_1117 : Cond.instanceMethod yX12_is ∈ zAll := zti 1117 (by decide +kernel) (by decide +kernel)
theorem w_1118 : Cond.selects "EveryPewModel" yX12_is yX12_is ∈ zAll := zti 1118 (by decide +kernel) (by decide +kernel)
theorem w_1119 : Cond.code yX12_is prog_14_method_53_code 4 (Option.some Jvm.ClassFile.FieldType.int) ∈ zAll := zti 1119 (by decide +kernel) (by decide +kernel)
theorem w_1120 : Cond.methodLink "EveryPewLaw" 117 yX12_deacons ∈ zAll := zti 1120 (by decide +kernel) (by decide +kernel)
theorem w_1121 : Cond.instanceMethod yX12_deacons ∈ zAll := zti 1121 (by decide +kernel) (by decide +kernel)
theorem w_1122 : Cond.selects "EveryPewModel" yX12_deacons yX12_deacons ∈ zAll := zti 1122 (by decide +kernel) (by decide +kernel)
theorem w_1123 : Cond.code yX12_deacons prog_14_method_55_code 6 (Option.some Jvm.ClassFile.FieldType.int) ∈ zAll := zti 1123 (by decide +kernel) (by decide +kernel)
theorem w_1128 : Cond.methodLink "EveryPewLaw" 122 yX12_feasts ∈ zAll := zti 1128 (by decide +kernel) (by decide +kernel)
theorem w_1129 : Cond.instanceMethod yX12_feasts ∈ zAll := zti 1129 (by decide +kernel) (by decide +kernel)
theorem w_1130 : Cond.selects "EveryPewModel" yX12_feasts yX12_feasts ∈ zAll := zti 1130 (by decide +kernel) (by decide +kernel)
theorem w_1131 : Cond.code yX12_feasts prog_14_method_56_code 7 (Option.some Jvm.ClassFile.FieldType.int) ∈ zAll := zti 1131 (by decide +kernel) (by decide +kernel)
theorem w_1134 : Cond.methodLink "EveryPewLaw" 126 yX12_colds ∈ zAll := zti 1134 (by decide +kernel) (by decide +kernel)
theorem w_1135 : Cond.instanceMethod yX12_colds ∈ zAll := zti 1135 (by decide +kernel) (by decide +kernel)
theorem w_1136 : Cond.selects "EveryPewModel" yX12_colds yX12_colds ∈ zAll := zti 1136 (by decide +kernel) (by decide +kernel)
theorem w_1137 : Cond.code yX12_colds prog_14_method_58_code 12 (Option.some Jvm.ClassFile.FieldType.int) ∈ zAll := zti 1137 (by decide +kernel) (by decide +kernel)
theorem w_1143 : Cond.methodLink "EveryPewLaw" 130 yX12_sundays ∈ zAll := zti 1143 (by decide +kernel) (by decide +kernel)
theorem w_1144 : Cond.instanceMethod yX12_sundays ∈ zAll := zti 1144 (by decide +kernel) (by decide +kernel)
theorem w_1145 : Cond.selects "EveryPewModel" yX12_sundays yX12_sundays ∈ zAll := zti 1145 (by decide +kernel) (by decide +kernel)
theorem w_1146 : Cond.code yX12_sundays prog_14_method_59_code 8 (Option.some Jvm.ClassFile.FieldType.int) ∈ zAll := zti 1146 (by decide +kernel) (by decide +kernel)
theorem w_1154 : Cond.methodLink "EveryPewLaw" 31 yX12_type ∈ zAll := zti 1154 (by decide +kernel) (by decide +kernel)
theorem w_1155 : Cond.instanceMethod yX12_type ∈ zAll := zti 1155 (by decide +kernel) (by decide +kernel)
theorem w_1156 : Cond.selects "EveryPewModel" yX12_type yX12_type ∈ zAll := zti 1156 (by decide +kernel) (by decide +kernel)
theorem w_1157 : Cond.code yX12_type prog_14_method_60_code 2 (Option.some Jvm.ClassFile.FieldType.int) ∈ zAll := zti 1157 (by decide +kernel) (by decide +kernel)
theorem w_1159 : Cond.methodLink "EveryPewLaw" 36 yX12_clear ∈ zAll := zti 1159 (by decide +kernel) (by decide +kernel)
theorem w_1160 : Cond.instanceMethod yX12_clear ∈ zAll := zti 1160 (by decide +kernel) (by decide +kernel)
theorem w_1161 : Cond.selects "EveryPewModel" yX12_clear yX12_clear ∈ zAll := zti 1161 (by decide +kernel) (by decide +kernel)
theorem w_1162 : Cond.code yX12_clear prog_14_method_61_code 2 (Option.some Jvm.ClassFile.FieldType.int) ∈ zAll := zti 1162 (by decide +kernel) (by decide +kernel)
theorem w_1163 : Cond.methodLink "EveryPewLaw" 40 yX12_read ∈ zAll := zti 1163 (by decide +kernel) (by decide +kernel)
theorem w_1164 : Cond.instanceMethod yX12_read ∈ zAll := zti 1164 (by decide +kernel) (by decide +kernel)
theorem w_1165 : Cond.selects "EveryPewModel" yX12_read yX12_read ∈ zAll := zti 1165 (by decide +kernel) (by decide +kernel)
theorem w_1166 : Cond.code yX12_read prog_14_method_73_code 3 (Option.some Jvm.ClassFile.FieldType.int) ∈ zAll := zti 1166 (by decide +kernel) (by decide +kernel)
theorem w_1213 : Cond.methodLink "EveryPewLaw" 135 yX12_part ∈ zAll := zti 1213 (by decide +kernel) (by decide +kernel)
theorem w_1214 : Cond.instanceMethod yX12_part ∈ zAll := zti 1214 (by decide +kernel) (by decide +kernel)
theorem w_1215 : Cond.selects "EveryPewModel" yX12_part yX12_part ∈ zAll := zti 1215 (by decide +kernel) (by decide +kernel)
theorem w_1216 : Cond.code yX12_part prog_14_method_74_code 2 (Option.some Jvm.ClassFile.FieldType.long) ∈ zAll := zti 1216 (by decide +kernel) (by decide +kernel)
theorem w_1217 : Cond.methodLink "EveryPewLaw" 139 yX12_image ∈ zAll := zti 1217 (by decide +kernel) (by decide +kernel)
theorem w_1218 : Cond.instanceMethod yX12_image ∈ zAll := zti 1218 (by decide +kernel) (by decide +kernel)
theorem w_1219 : Cond.selects "EveryPewModel" yX12_image yX12_image ∈ zAll := zti 1219 (by decide +kernel) (by decide +kernel)
theorem w_1220 : Cond.code yX12_image prog_14_method_75_code 3 (Option.some Jvm.ClassFile.FieldType.int) ∈ zAll := zti 1220 (by decide +kernel) (by decide +kernel)
theorem w_1221 : Cond.methodLink "EveryPewLaw" 143 yX12_from ∈ zAll := zti 1221 (by decide +kernel) (by decide +kernel)
theorem w_1222 : Cond.instanceMethod yX12_from ∈ zAll := zti 1222 (by decide +kernel) (by decide +kernel)
theorem w_1223 : Cond.selects "EveryPewModel" yX12_from yX12_from ∈ zAll := zti 1223 (by decide +kernel) (by decide +kernel)
theorem w_1224 : Cond.code yX12_from prog_14_method_76_code 3 (Option.some Jvm.ClassFile.FieldType.int) ∈ zAll := zti 1224 (by decide +kernel) (by decide +kernel)
theorem w_1225 : Cond.methodLink "EveryPewLaw" 147 yX12_status ∈ zAll := zti 1225 (by decide +kernel) (by decide +kernel)
theorem w_1226 : Cond.instanceMethod yX12_status ∈ zAll := zti 1226 (by decide +kernel) (by decide +kernel)
theorem w_1227 : Cond.selects "EveryPewModel" yX12_status yX12_status ∈ zAll := zti 1227 (by decide +kernel) (by decide +kernel)
theorem w_1228 : Cond.code yX12_status prog_14_method_77_code 2 (Option.some Jvm.ClassFile.FieldType.int) ∈ zAll := zti 1228 (by decide +kernel) (by decide +kernel)
theorem w_1229 : Cond.methodLink "EveryPewLaw" 151 yX12_count ∈ zAll := zti 1229 (by decide +kernel) (by decide +kernel)
theorem w_1230 : Cond.instanceMethod yX12_count ∈ zAll := zti 1230 (by decide +kernel) (by decide +kernel)
theorem w_1231 : Cond.selects "EveryPewModel" yX12_count yX12_count ∈ zAll := zti 1231 (by decide +kernel) (by decide +kernel)
theorem w_1232 : Cond.code yX12_count prog_14_method_79_code 2 (Option.some Jvm.ClassFile.FieldType.int) ∈ zAll := zti 1232 (by decide +kernel) (by decide +kernel)
theorem w_1238 : Cond.methodLink "EveryPewLaw" 156 yX12_digest ∈ zAll := zti 1238 (by decide +kernel) (by decide +kernel)
theorem w_1239 : Cond.instanceMethod yX12_digest ∈ zAll := zti 1239 (by decide +kernel) (by decide +kernel)
theorem w_1240 : Cond.selects "EveryPewModel" yX12_digest yX12_digest ∈ zAll := zti 1240 (by decide +kernel) (by decide +kernel)
theorem w_1241 : Cond.code yX12_digest prog_14_method_81_code 4 (Option.some Jvm.ClassFile.FieldType.long) ∈ zAll := zti 1241 (by decide +kernel) (by decide +kernel)
def k_L_law_0 (L : Nat) (xs : Nat → Int32) (X : Nat → zK) : zK := i_il 3 <| i_al 0 <| i_sln L <| i_ic 6 <| i_isub <| i_cmpgt (i_ic 1 <| i_lw) <| i_al 0 <| i_il 3 <| i_sld L xs <| i_ic 63 <| i_iand <| i_sw [(0, i_al 1 <| i_al 0 <| i_il 3 <| i_ic 1 <| i_iadd <| i_sld L xs <| i_cv 11 2 (zTw T_X11_church) <| i_al 2 <| i_al 0 <| i_il 3 <| i_ic 1 <| i_iadd <| i_sld L xs <| i_cv 12 2 (zTw T_X12_church) <| i_cmpeq (i_jmp X 1 [true, true, true, true]) <| i_ic 0 <| i_lw), (1, i_al 1 <| i_al 0 <| i_il 3 <| i_ic 1 <| i_iadd <| i_sld L xs <| i_al 0 <| i_il 3 <| i_ic 2 <| i_iadd <| i_sld L xs <| i_cv 11 3 (zTw T_X11_book) <| i_al 2 <| i_al 0 <| i_il 3 <| i_ic 1 <| i_iadd <| i_sld L xs <| i_al 0 <| i_il 3 <| i_ic 2 <| i_iadd <| i_sld L xs <| i_cv 12 3 (zTw T_X12_book) <| i_cmpeq (i_jmp X 1 [true, true, true, true]) <| i_ic 0 <| i_lw), (2, i_al 1 <| i_al 0 <| i_il 3 <| i_ic 1 <| i_iadd <| i_sld L xs <| i_al 0 <| i_il 3 <| i_ic 2 <| i_iadd <| i_sld L xs <| i_al 0 <| i_il 3 <| i_ic 3 <| i_iadd <| i_sld L xs <| i_al 0 <| i_il 3 <| i_ic 4 <| i_iadd <| i_sld L xs <| i_al 0 <| i_il 3 <| i_ic 5 <| i_iadd <| i_sld L xs <| i_cv 11 6 (zTw T_X11_family) <| i_al 2 <| i_al 0 <| i_il 3 <| i_ic 1 <| i_iadd <| i_sld L xs <| i_al 0 <| i_il 3 <| i_ic 2 <| i_iadd <| i_sld L xs <| i_al 0 <| i_il 3 <| i_ic 3 <| i_iadd <| i_sld L xs <| i_al 0 <| i_il 3 <| i_ic 4 <| i_iadd <| i_sld L xs <| i_al 0 <| i_il 3 <| i_ic 5 <| i_iadd <| i_sld L xs <| i_cv 12 6 (zTw T_X12_family) <| i_cmpeq (i_jmp X 1 [true, true, true, true]) <| i_ic 0 <| i_lw), (3, i_al 1 <| i_al 0 <| i_il 3 <| i_ic 1 <| i_iadd <| i_sld L xs <| i_cv 11 2 (zTw T_X11_type) <| i_al 2 <| i_al 0 <| i_il 3 <| i_ic 1 <| i_iadd <| i_sld L xs <| i_cv 12 2 (zTw T_X12_type) <| i_cmpeq (i_jmp X 1 [true, true, true, true]) <| i_ic 0 <| i_lw), (4, i_al 1 <| i_cv 11 1 (zTw T_X11_clear) <| i_al 2 <| i_cv 12 1 (zTw T_X12_clear) <| i_cmpeq (i_jmp X 1 [true, true, true, true]) <| i_ic 0 <| i_lw), (5, i_al 1 <| i_cv 11 1 (zTw T_X11_read) <| i_al 2 <| i_cv 12 1 (zTw T_X12_read) <| i_cmpeq (i_jmp X 1 [true, true, true, true]) <| i_ic 0 <| i_lw), (6, i_al 1 <| i_al 0 <| i_il 3 <| i_ic 1 <| i_iadd <| i_sld L xs <| i_al 0 <| i_il 3 <| i_ic 2 <| i_iadd <| i_sld L xs <| i_cv 11 3 (zTw T_X11_move) <| i_al 2 <| i_al 0 <| i_il 3 <| i_ic 1 <| i_iadd <| i_sld L xs <| i_al 0 <| i_il 3 <| i_ic 2 <| i_iadd <| i_sld L xs <| i_cv 12 3 (zTw T_X12_move) <| i_cmpeq (i_jmp X 1 [true, true, true, true]) <| i_ic 0 <| i_lw), (7, i_al 1 <| i_al 0 <| i_il 3 <| i_ic 1 <| i_iadd <| i_sld L xs <| i_al 0 <| i_il 3 <| i_ic 2 <| i_iadd <| i_sld L xs <| i_cv 11 3 (zTw T_X11_cold) <| i_al 2 <| i_al 0 <| i_il 3 <| i_ic 1 <| i_iadd <| i_sld L xs <| i_al 0 <| i_il 3 <| i_ic 2 <| i_iadd <| i_sld L xs <| i_cv 12 3 (zTw T_X12_cold) <| i_cmpeq (i_jmp X 1 [true, true, true, true]) <| i_ic 0 <| i_lw), (8, i_al 1 <| i_cv 11 1 (zTw T_X11_undo) <| i_al 2 <| i_cv 12 1 (zTw T_X12_undo) <| i_cmpeq (i_jmp X 1 [true, true, true, true]) <| i_ic 0 <| i_lw), (9, i_al 1 <| i_al 0 <| i_il 3 <| i_ic 1 <| i_iadd <| i_sld L xs <| i_al 0 <| i_il 3 <| i_ic 2 <| i_iadd <| i_sld L xs <| i_cv 11 3 (zTw T_X11_of) <| i_al 2 <| i_al 0 <| i_il 3 <| i_ic 1 <| i_iadd <| i_sld L xs <| i_al 0 <| i_il 3 <| i_ic 2 <| i_iadd <| i_sld L xs <| i_cv 12 3 (zTw T_X12_of) <| i_cmpeq (i_jmp X 1 [true, true, true, true]) <| i_ic 0 <| i_lw), (10, i_al 1 <| i_al 0 <| i_il 3 <| i_ic 1 <| i_iadd <| i_sld L xs <| i_al 0 <| i_il 3 <| i_ic 2 <| i_iadd <| i_sld L xs <| i_al 0 <| i_il 3 <| i_ic 3 <| i_iadd <| i_sld L xs <| i_cv 11 4 (zTw T_X11_at) <| i_al 2 <| i_al 0 <| i_il 3 <| i_ic 1 <| i_iadd <| i_sld L xs <| i_al 0 <| i_il 3 <| i_ic 2 <| i_iadd <| i_sld L xs <| i_al 0 <| i_il 3 <| i_ic 3 <| i_iadd <| i_sld L xs <| i_cv 12 4 (zTw T_X12_at) <| i_cmpeq (i_jmp X 1 [true, true, true, true]) <| i_ic 0 <| i_lw), (11, i_al 1 <| i_al 0 <| i_il 3 <| i_ic 1 <| i_iadd <| i_sld L xs <| i_cv 11 2 (zTw T_X11_up) <| i_al 2 <| i_al 0 <| i_il 3 <| i_ic 1 <| i_iadd <| i_sld L xs <| i_cv 12 2 (zTw T_X12_up) <| i_cmpeq (i_jmp X 1 [true, true, true, true]) <| i_ic 0 <| i_lw), (12, i_al 1 <| i_al 0 <| i_il 3 <| i_ic 1 <| i_iadd <| i_sld L xs <| i_cv 11 2 (zTw T_X11_seers) <| i_al 2 <| i_al 0 <| i_il 3 <| i_ic 1 <| i_iadd <| i_sld L xs <| i_cv 12 2 (zTw T_X12_seers) <| i_cmpeq (i_jmp X 1 [true, true, true, true]) <| i_ic 0 <| i_lw), (13, i_al 1 <| i_al 0 <| i_il 3 <| i_ic 1 <| i_iadd <| i_sld L xs <| i_al 0 <| i_il 3 <| i_ic 2 <| i_iadd <| i_sld L xs <| i_cv 11 3 (zTw T_X11_loud) <| i_al 2 <| i_al 0 <| i_il 3 <| i_ic 1 <| i_iadd <| i_sld L xs <| i_al 0 <| i_il 3 <| i_ic 2 <| i_iadd <| i_sld L xs <| i_cv 12 3 (zTw T_X12_loud) <| i_cmpeq (i_jmp X 1 [true, true, true, true]) <| i_ic 0 <| i_lw), (14, i_al 1 <| i_al 0 <| i_il 3 <| i_ic 1 <| i_iadd <| i_sld L xs <| i_cv 11 2 (zTw T_X11_breach) <| i_al 2 <| i_al 0 <| i_il 3 <| i_ic 1 <| i_iadd <| i_sld L xs <| i_cv 12 2 (zTw T_X12_breach) <| i_cmpeq (i_jmp X 1 [true, true, true, true]) <| i_ic 0 <| i_lw), (15, i_al 1 <| i_cv 11 1 (zTw T_X11_canNot) <| i_al 2 <| i_cv 12 1 (zTw T_X12_canNot) <| i_cmpeq (i_jmp X 1 [true, true, true, true]) <| i_ic 0 <| i_lw), (16, i_al 1 <| i_al 0 <| i_il 3 <| i_ic 1 <| i_iadd <| i_sld L xs <| i_cv 11 2 (zTw T_X11_seats) <| i_al 2 <| i_al 0 <| i_il 3 <| i_ic 1 <| i_iadd <| i_sld L xs <| i_cv 12 2 (zTw T_X12_seats) <| i_cmpeq (i_jmp X 1 [true, true, true, true]) <| i_ic 0 <| i_lw), (17, i_al 1 <| i_al 0 <| i_il 3 <| i_ic 1 <| i_iadd <| i_sld L xs <| i_cv 11 2 (zTw T_X11_change) <| i_al 2 <| i_al 0 <| i_il 3 <| i_ic 1 <| i_iadd <| i_sld L xs <| i_cv 12 2 (zTw T_X12_change) <| i_cmpeq (i_jmp X 1 [true, true, true, true]) <| i_ic 0 <| i_lw), (18, i_al 1 <| i_cv 11 1 (zTw T_X11_still) <| i_al 2 <| i_cv 12 1 (zTw T_X12_still) <| i_cmpeq (i_jmp X 1 [true, true, true, true]) <| i_ic 0 <| i_lw), (19, i_al 1 <| i_al 0 <| i_il 3 <| i_ic 1 <| i_iadd <| i_sld L xs <| i_al 0 <| i_il 3 <| i_ic 2 <| i_iadd <| i_sld L xs <| i_al 0 <| i_il 3 <| i_ic 3 <| i_iadd <| i_sld L xs <| i_cv 11 4 (zTw T_X11_heard) <| i_al 2 <| i_al 0 <| i_il 3 <| i_ic 1 <| i_iadd <| i_sld L xs <| i_al 0 <| i_il 3 <| i_ic 2 <| i_iadd <| i_sld L xs <| i_al 0 <| i_il 3 <| i_ic 3 <| i_iadd <| i_sld L xs <| i_cv 12 4 (zTw T_X12_heard) <| i_cmpeq (i_jmp X 1 [true, true, true, true]) <| i_ic 0 <| i_lw), (20, i_al 1 <| i_cv 11 1 (zTw T_X11_forget) <| i_al 2 <| i_cv 12 1 (zTw T_X12_forget) <| i_cmpeq (i_jmp X 1 [true, true, true, true]) <| i_ic 0 <| i_lw), (21, i_al 1 <| i_al 0 <| i_il 3 <| i_ic 1 <| i_iadd <| i_sld L xs <| i_cv 11 2 (zTw T_X11_coughed) <| i_al 2 <| i_al 0 <| i_il 3 <| i_ic 1 <| i_iadd <| i_sld L xs <| i_cv 12 2 (zTw T_X12_coughed) <| i_cmpeq (i_jmp X 1 [true, true, true, true]) <| i_ic 0 <| i_lw), (22, i_al 1 <| i_cv 11 1 (zTw T_X11_next) <| i_al 2 <| i_cv 12 1 (zTw T_X12_next) <| i_cmpeq (i_jmp X 1 [true, true, true, true]) <| i_ic 0 <| i_lw), (23, i_al 1 <| i_al 0 <| i_il 3 <| i_ic 1 <| i_iadd <| i_sld L xs <| i_cv 11 2 (zTw T_X11_is) <| i_al 2 <| i_al 0 <| i_il 3 <| i_ic 1 <| i_iadd <| i_sld L xs <| i_cv 12 2 (zTw T_X12_is) <| i_cmpeq (i_jmp X 1 [true, true, true, true]) <| i_ic 0 <| i_lw), (24, i_al 1 <| i_al 0 <| i_il 3 <| i_ic 1 <| i_iadd <| i_sld L xs <| i_cv 11 2 (zTw T_X11_deacons) <| i_al 2 <| i_al 0 <| i_il 3 <| i_ic 1 <| i_iadd <| i_sld L xs <| i_cv 12 2 (zTw T_X12_deacons) <| i_cmpeq (i_jmp X 1 [true, true, true, true]) <| i_ic 0 <| i_lw), (25, i_al 1 <| i_al 0 <| i_il 3 <| i_ic 1 <| i_iadd <| i_sld L xs <| i_al 0 <| i_il 3 <| i_ic 2 <| i_iadd <| i_sld L xs <| i_al 0 <| i_il 3 <| i_ic 3 <| i_iadd <| i_sld L xs <| i_al 0 <| i_il 3 <| i_ic 4 <| i_iadd <| i_sld L xs <| i_cv 11 5 (zTw T_X11_feasts) <| i_al 2 <| i_al 0 <| i_il 3 <| i_ic 1 <| i_iadd <| i_sld L xs <| i_al 0 <| i_il 3 <| i_ic 2 <| i_iadd <| i_sld L xs <| i_al 0 <| i_il 3 <| i_ic 3 <| i_iadd <| i_sld L xs <| i_al 0 <| i_il 3 <| i_ic 4 <| i_iadd <| i_sld L xs <| i_cv 12 5 (zTw T_X12_feasts) <| i_cmpeq (i_jmp X 1 [true, true, true, true]) <| i_ic 0 <| i_lw), (26, i_al 1 <| i_al 0 <| i_il 3 <| i_ic 1 <| i_iadd <| i_sld L xs <| i_al 0 <| i_il 3 <| i_ic 2 <| i_iadd <| i_sld L xs <| i_cv 11 3 (zTw T_X11_colds) <| i_al 2 <| i_al 0 <| i_il 3 <| i_ic 1 <| i_iadd <| i_sld L xs <| i_al 0 <| i_il 3 <| i_ic 2 <| i_iadd <| i_sld L xs <| i_cv 12 3 (zTw T_X12_colds) <| i_cmpeq (i_jmp X 1 [true, true, true, true]) <| i_ic 0 <| i_lw), (27, i_al 1 <| i_al 0 <| i_il 3 <| i_ic 1 <| i_iadd <| i_sld L xs <| i_al 0 <| i_il 3 <| i_ic 2 <| i_iadd <| i_sld L xs <| i_cv 11 3 (zTw T_X11_sundays) <| i_al 2 <| i_al 0 <| i_il 3 <| i_ic 1 <| i_iadd <| i_sld L xs <| i_al 0 <| i_il 3 <| i_ic 2 <| i_iadd <| i_sld L xs <| i_cv 12 3 (zTw T_X12_sundays) <| i_cmpeq (i_jmp X 1 [true, true, true, true]) <| i_ic 0 <| i_lw), (28, i_al 1 <| i_al 0 <| i_il 3 <| i_ic 1 <| i_iadd <| i_sld L xs <| i_cv 11 2 (zTw T_X11_part) <| i_al 2 <| i_al 0 <| i_il 3 <| i_ic 1 <| i_iadd <| i_sld L xs <| i_cv 12 2 (zTw T_X12_part) <| i_lcmp <| i_ifeq (i_jmp X 1 [true, true, true, true]) <| i_ic 0 <| i_lw), (29, i_al 1 <| i_al 0 <| i_il 3 <| i_ic 1 <| i_iadd <| i_sld L xs <| i_cv 11 2 (zTw T_X11_image) <| i_al 2 <| i_al 0 <| i_il 3 <| i_ic 1 <| i_iadd <| i_sld L xs <| i_cv 12 2 (zTw T_X12_image) <| i_cmpeq (i_jmp X 1 [true, true, true, true]) <| i_ic 0 <| i_lw), (30, i_al 1 <| i_al 0 <| i_il 3 <| i_ic 1 <| i_iadd <| i_sld L xs <| i_cv 11 2 (zTw T_X11_from) <| i_al 2 <| i_al 0 <| i_il 3 <| i_ic 1 <| i_iadd <| i_sld L xs <| i_cv 12 2 (zTw T_X12_from) <| i_cmpeq (i_jmp X 1 [true, true, true, true]) <| i_ic 0 <| i_lw), (31, i_al 1 <| i_al 0 <| i_il 3 <| i_ic 1 <| i_iadd <| i_sld L xs <| i_cv 11 2 (zTw T_X11_status) <| i_al 2 <| i_al 0 <| i_il 3 <| i_ic 1 <| i_iadd <| i_sld L xs <| i_cv 12 2 (zTw T_X12_status) <| i_cmpeq (i_jmp X 1 [true, true, true, true]) <| i_ic 0 <| i_lw), (32, i_al 1 <| i_al 0 <| i_il 3 <| i_ic 1 <| i_iadd <| i_sld L xs <| i_cv 11 2 (zTw T_X11_count) <| i_al 2 <| i_al 0 <| i_il 3 <| i_ic 1 <| i_iadd <| i_sld L xs <| i_cv 12 2 (zTw T_X12_count) <| i_cmpeq (i_jmp X 1 [true, true, true, true]) <| i_ic 0 <| i_lw), (33, i_al 1 <| i_cv 11 1 (zTw T_X11_digest) <| i_al 2 <| i_cv 12 1 (zTw T_X12_digest) <| i_lcmp <| i_ifeq (i_jmp X 1 [true, true, true, true]) <| i_ic 0 <| i_lw)] (i_jmp X 1 [true, true, true, true])
def k_L_law_1 (L : Nat) (xs : Nat → Int32) (X : Nat → zK) : zK := i_inc 3 6 <| i_jmp X 0 [true, true, true, true]
def F_L_law (L : Nat) (xs : Nat → Int32) (X : Nat → zK) : Nat → zK
  | 0 => k_L_law_0 L xs X
  | 1 => k_L_law_1 L xs X
  | _ => fun _ _ _ => False
theorem dL_law_0 : decode cL_law 0 = .ok (.new 7, 3) := by decide +kernel
theorem dL_law_3 : decode cL_law 3 = .ok (.dup, 1) := by decide +kernel
theorem dL_law_4 : decode cL_law 4 = .ok (.invokespecial 9, 3) := by decide +kernel
theorem dL_law_7 : decode cL_law 7 = .ok (.astore_n 1, 1) := by decide +kernel
theorem dL_law_8 : decode cL_law 8 = .ok (.new 10, 3) := by decide +kernel
theorem dL_law_11 : decode cL_law 11 = .ok (.dup, 1) := by decide +kernel
theorem dL_law_12 : decode cL_law 12 = .ok (.invokespecial 12, 3) := by decide +kernel
theorem dL_law_15 : decode cL_law 15 = .ok (.astore_n 2, 1) := by decide +kernel
theorem dL_law_16 : decode cL_law 16 = .ok (.iconst 0, 1) := by decide +kernel
theorem dL_law_17 : decode cL_law 17 = .ok (.istore_n 3, 1) := by decide +kernel
theorem dL_law_18 : decode cL_law 18 = .ok (.iload_n 3, 1) := by decide +kernel
theorem dL_law_19 : decode cL_law 19 = .ok (.aload_n 0, 1) := by decide +kernel
theorem dL_law_20 : decode cL_law 20 = .ok (.arraylength, 1) := by decide +kernel
theorem dL_law_21 : decode cL_law 21 = .ok (.bipush 6, 2) := by decide +kernel
theorem dL_law_23 : decode cL_law 23 = .ok (.isub, 1) := by decide +kernel
theorem dL_law_24 : decode cL_law 24 = .ok (.if_icmp .gt 1050, 3) := by decide +kernel
theorem dL_law_27 : decode cL_law 27 = .ok (.aload_n 0, 1) := by decide +kernel
theorem dL_law_28 : decode cL_law 28 = .ok (.iload_n 3, 1) := by decide +kernel
theorem dL_law_29 : decode cL_law 29 = .ok (.iaload, 1) := by decide +kernel
theorem dL_law_30 : decode cL_law 30 = .ok (.bipush 63, 2) := by decide +kernel
theorem dL_law_32 : decode cL_law 32 = .ok (.iand, 1) := by decide +kernel
theorem dL_law_33 : decode cL_law 33 = .ok (.tableswitch 1035 0 33 #[151, 174, 207, 270, 293, 306, 319, 352, 385, 398, 431, 474, 497, 520, 553, 576, 589, 612, 635, 648, 691, 704, 727, 740, 763, 786, 839, 872, 905, 929, 952, 975, 998, 1021], 151) := by decide +kernel
theorem dL_law_184 : decode cL_law 184 = .ok (.aload_n 1, 1) := by decide +kernel
theorem dL_law_185 : decode cL_law 185 = .ok (.aload_n 0, 1) := by decide +kernel
theorem dL_law_186 : decode cL_law 186 = .ok (.iload_n 3, 1) := by decide +kernel
theorem dL_law_187 : decode cL_law 187 = .ok (.iconst 1, 1) := by decide +kernel
theorem dL_law_188 : decode cL_law 188 = .ok (.iadd, 1) := by decide +kernel
theorem dL_law_189 : decode cL_law 189 = .ok (.iaload, 1) := by decide +kernel
theorem dL_law_190 : decode cL_law 190 = .ok (.invokevirtual 13, 3) := by decide +kernel
theorem dL_law_193 : decode cL_law 193 = .ok (.aload_n 2, 1) := by decide +kernel
theorem dL_law_194 : decode cL_law 194 = .ok (.aload_n 0, 1) := by decide +kernel
theorem dL_law_195 : decode cL_law 195 = .ok (.iload_n 3, 1) := by decide +kernel
theorem dL_law_196 : decode cL_law 196 = .ok (.iconst 1, 1) := by decide +kernel
theorem dL_law_197 : decode cL_law 197 = .ok (.iadd, 1) := by decide +kernel
theorem dL_law_198 : decode cL_law 198 = .ok (.iaload, 1) := by decide +kernel
theorem dL_law_199 : decode cL_law 199 = .ok (.invokevirtual 17, 3) := by decide +kernel
theorem dL_law_202 : decode cL_law 202 = .ok (.if_icmp .eq 866, 3) := by decide +kernel
theorem dL_law_205 : decode cL_law 205 = .ok (.iconst 0, 1) := by decide +kernel
theorem dL_law_206 : decode cL_law 206 = .ok (.ireturn, 1) := by decide +kernel
theorem dL_law_207 : decode cL_law 207 = .ok (.aload_n 1, 1) := by decide +kernel
theorem dL_law_208 : decode cL_law 208 = .ok (.aload_n 0, 1) := by decide +kernel
theorem dL_law_209 : decode cL_law 209 = .ok (.iload_n 3, 1) := by decide +kernel
theorem dL_law_210 : decode cL_law 210 = .ok (.iconst 1, 1) := by decide +kernel
theorem dL_law_211 : decode cL_law 211 = .ok (.iadd, 1) := by decide +kernel
theorem dL_law_212 : decode cL_law 212 = .ok (.iaload, 1) := by decide +kernel
theorem dL_law_213 : decode cL_law 213 = .ok (.aload_n 0, 1) := by decide +kernel
theorem dL_law_214 : decode cL_law 214 = .ok (.iload_n 3, 1) := by decide +kernel
theorem dL_law_215 : decode cL_law 215 = .ok (.iconst 2, 1) := by decide +kernel
theorem dL_law_216 : decode cL_law 216 = .ok (.iadd, 1) := by decide +kernel
theorem dL_law_217 : decode cL_law 217 = .ok (.iaload, 1) := by decide +kernel
theorem dL_law_218 : decode cL_law 218 = .ok (.invokevirtual 18, 3) := by decide +kernel
theorem dL_law_221 : decode cL_law 221 = .ok (.aload_n 2, 1) := by decide +kernel
theorem dL_law_222 : decode cL_law 222 = .ok (.aload_n 0, 1) := by decide +kernel
theorem dL_law_223 : decode cL_law 223 = .ok (.iload_n 3, 1) := by decide +kernel
theorem dL_law_224 : decode cL_law 224 = .ok (.iconst 1, 1) := by decide +kernel
theorem dL_law_225 : decode cL_law 225 = .ok (.iadd, 1) := by decide +kernel
theorem dL_law_226 : decode cL_law 226 = .ok (.iaload, 1) := by decide +kernel
theorem dL_law_227 : decode cL_law 227 = .ok (.aload_n 0, 1) := by decide +kernel
theorem dL_law_228 : decode cL_law 228 = .ok (.iload_n 3, 1) := by decide +kernel
theorem dL_law_229 : decode cL_law 229 = .ok (.iconst 2, 1) := by decide +kernel
theorem dL_law_230 : decode cL_law 230 = .ok (.iadd, 1) := by decide +kernel
theorem dL_law_231 : decode cL_law 231 = .ok (.iaload, 1) := by decide +kernel
theorem dL_law_232 : decode cL_law 232 = .ok (.invokevirtual 22, 3) := by decide +kernel
theorem dL_law_235 : decode cL_law 235 = .ok (.if_icmp .eq 833, 3) := by decide +kernel
theorem dL_law_238 : decode cL_law 238 = .ok (.iconst 0, 1) := by decide +kernel
theorem dL_law_239 : decode cL_law 239 = .ok (.ireturn, 1) := by decide +kernel
theorem dL_law_240 : decode cL_law 240 = .ok (.aload_n 1, 1) := by decide +kernel
theorem dL_law_241 : decode cL_law 241 = .ok (.aload_n 0, 1) := by decide +kernel
theorem dL_law_242 : decode cL_law 242 = .ok (.iload_n 3, 1) := by decide +kernel
theorem dL_law_243 : decode cL_law 243 = .ok (.iconst 1, 1) := by decide +kernel
theorem dL_law_244 : decode cL_law 244 = .ok (.iadd, 1) := by decide +kernel
theorem dL_law_245 : decode cL_law 245 = .ok (.iaload, 1) := by decide +kernel
theorem dL_law_246 : decode cL_law 246 = .ok (.aload_n 0, 1) := by decide +kernel
theorem dL_law_247 : decode cL_law 247 = .ok (.iload_n 3, 1) := by decide +kernel
theorem dL_law_248 : decode cL_law 248 = .ok (.iconst 2, 1) := by decide +kernel
theorem dL_law_249 : decode cL_law 249 = .ok (.iadd, 1) := by decide +kernel
theorem dL_law_250 : decode cL_law 250 = .ok (.iaload, 1) := by decide +kernel
theorem dL_law_251 : decode cL_law 251 = .ok (.aload_n 0, 1) := by decide +kernel
theorem dL_law_252 : decode cL_law 252 = .ok (.iload_n 3, 1) := by decide +kernel
theorem dL_law_253 : decode cL_law 253 = .ok (.iconst 3, 1) := by decide +kernel
theorem dL_law_254 : decode cL_law 254 = .ok (.iadd, 1) := by decide +kernel
theorem dL_law_255 : decode cL_law 255 = .ok (.iaload, 1) := by decide +kernel
theorem dL_law_256 : decode cL_law 256 = .ok (.aload_n 0, 1) := by decide +kernel
theorem dL_law_257 : decode cL_law 257 = .ok (.iload_n 3, 1) := by decide +kernel
theorem dL_law_258 : decode cL_law 258 = .ok (.iconst 4, 1) := by decide +kernel
theorem dL_law_259 : decode cL_law 259 = .ok (.iadd, 1) := by decide +kernel
theorem dL_law_260 : decode cL_law 260 = .ok (.iaload, 1) := by decide +kernel
theorem dL_law_261 : decode cL_law 261 = .ok (.aload_n 0, 1) := by decide +kernel
theorem dL_law_262 : decode cL_law 262 = .ok (.iload_n 3, 1) := by decide +kernel
theorem dL_law_263 : decode cL_law 263 = .ok (.iconst 5, 1) := by decide +kernel
theorem dL_law_264 : decode cL_law 264 = .ok (.iadd, 1) := by decide +kernel
theorem dL_law_265 : decode cL_law 265 = .ok (.iaload, 1) := by decide +kernel
theorem dL_law_266 : decode cL_law 266 = .ok (.invokevirtual 23, 3) := by decide +kernel
theorem dL_law_269 : decode cL_law 269 = .ok (.aload_n 2, 1) := by decide +kernel
theorem dL_law_270 : decode cL_law 270 = .ok (.aload_n 0, 1) := by decide +kernel
theorem dL_law_271 : decode cL_law 271 = .ok (.iload_n 3, 1) := by decide +kernel
theorem dL_law_272 : decode cL_law 272 = .ok (.iconst 1, 1) := by decide +kernel
theorem dL_law_273 : decode cL_law 273 = .ok (.iadd, 1) := by decide +kernel
theorem dL_law_274 : decode cL_law 274 = .ok (.iaload, 1) := by decide +kernel
theorem dL_law_275 : decode cL_law 275 = .ok (.aload_n 0, 1) := by decide +kernel
theorem dL_law_276 : decode cL_law 276 = .ok (.iload_n 3, 1) := by decide +kernel
theorem dL_law_277 : decode cL_law 277 = .ok (.iconst 2, 1) := by decide +kernel
theorem dL_law_278 : decode cL_law 278 = .ok (.iadd, 1) := by decide +kernel
theorem dL_law_279 : decode cL_law 279 = .ok (.iaload, 1) := by decide +kernel
theorem dL_law_280 : decode cL_law 280 = .ok (.aload_n 0, 1) := by decide +kernel
theorem dL_law_281 : decode cL_law 281 = .ok (.iload_n 3, 1) := by decide +kernel
theorem dL_law_282 : decode cL_law 282 = .ok (.iconst 3, 1) := by decide +kernel
theorem dL_law_283 : decode cL_law 283 = .ok (.iadd, 1) := by decide +kernel
theorem dL_law_284 : decode cL_law 284 = .ok (.iaload, 1) := by decide +kernel
theorem dL_law_285 : decode cL_law 285 = .ok (.aload_n 0, 1) := by decide +kernel
theorem dL_law_286 : decode cL_law 286 = .ok (.iload_n 3, 1) := by decide +kernel
theorem dL_law_287 : decode cL_law 287 = .ok (.iconst 4, 1) := by decide +kernel
theorem dL_law_288 : decode cL_law 288 = .ok (.iadd, 1) := by decide +kernel
theorem dL_law_289 : decode cL_law 289 = .ok (.iaload, 1) := by decide +kernel
theorem dL_law_290 : decode cL_law 290 = .ok (.aload_n 0, 1) := by decide +kernel
theorem dL_law_291 : decode cL_law 291 = .ok (.iload_n 3, 1) := by decide +kernel
theorem dL_law_292 : decode cL_law 292 = .ok (.iconst 5, 1) := by decide +kernel
theorem dL_law_293 : decode cL_law 293 = .ok (.iadd, 1) := by decide +kernel
theorem dL_law_294 : decode cL_law 294 = .ok (.iaload, 1) := by decide +kernel
theorem dL_law_295 : decode cL_law 295 = .ok (.invokevirtual 27, 3) := by decide +kernel
theorem dL_law_298 : decode cL_law 298 = .ok (.if_icmp .eq 770, 3) := by decide +kernel
theorem dL_law_301 : decode cL_law 301 = .ok (.iconst 0, 1) := by decide +kernel
theorem dL_law_302 : decode cL_law 302 = .ok (.ireturn, 1) := by decide +kernel
theorem dL_law_303 : decode cL_law 303 = .ok (.aload_n 1, 1) := by decide +kernel
theorem dL_law_304 : decode cL_law 304 = .ok (.aload_n 0, 1) := by decide +kernel
theorem dL_law_305 : decode cL_law 305 = .ok (.iload_n 3, 1) := by decide +kernel
theorem dL_law_306 : decode cL_law 306 = .ok (.iconst 1, 1) := by decide +kernel
theorem dL_law_307 : decode cL_law 307 = .ok (.iadd, 1) := by decide +kernel
theorem dL_law_308 : decode cL_law 308 = .ok (.iaload, 1) := by decide +kernel
theorem dL_law_309 : decode cL_law 309 = .ok (.invokevirtual 28, 3) := by decide +kernel
theorem dL_law_312 : decode cL_law 312 = .ok (.aload_n 2, 1) := by decide +kernel
theorem dL_law_313 : decode cL_law 313 = .ok (.aload_n 0, 1) := by decide +kernel
theorem dL_law_314 : decode cL_law 314 = .ok (.iload_n 3, 1) := by decide +kernel
theorem dL_law_315 : decode cL_law 315 = .ok (.iconst 1, 1) := by decide +kernel
theorem dL_law_316 : decode cL_law 316 = .ok (.iadd, 1) := by decide +kernel
theorem dL_law_317 : decode cL_law 317 = .ok (.iaload, 1) := by decide +kernel
theorem dL_law_318 : decode cL_law 318 = .ok (.invokevirtual 31, 3) := by decide +kernel
theorem dL_law_321 : decode cL_law 321 = .ok (.if_icmp .eq 747, 3) := by decide +kernel
theorem dL_law_324 : decode cL_law 324 = .ok (.iconst 0, 1) := by decide +kernel
theorem dL_law_325 : decode cL_law 325 = .ok (.ireturn, 1) := by decide +kernel
theorem dL_law_326 : decode cL_law 326 = .ok (.aload_n 1, 1) := by decide +kernel
theorem dL_law_327 : decode cL_law 327 = .ok (.invokevirtual 32, 3) := by decide +kernel
theorem dL_law_330 : decode cL_law 330 = .ok (.aload_n 2, 1) := by decide +kernel
theorem dL_law_331 : decode cL_law 331 = .ok (.invokevirtual 36, 3) := by decide +kernel
theorem dL_law_334 : decode cL_law 334 = .ok (.if_icmp .eq 734, 3) := by decide +kernel
theorem dL_law_337 : decode cL_law 337 = .ok (.iconst 0, 1) := by decide +kernel
theorem dL_law_338 : decode cL_law 338 = .ok (.ireturn, 1) := by decide +kernel
theorem dL_law_339 : decode cL_law 339 = .ok (.aload_n 1, 1) := by decide +kernel
theorem dL_law_340 : decode cL_law 340 = .ok (.invokevirtual 37, 3) := by decide +kernel
theorem dL_law_343 : decode cL_law 343 = .ok (.aload_n 2, 1) := by decide +kernel
theorem dL_law_344 : decode cL_law 344 = .ok (.invokevirtual 40, 3) := by decide +kernel
theorem dL_law_347 : decode cL_law 347 = .ok (.if_icmp .eq 721, 3) := by decide +kernel
theorem dL_law_350 : decode cL_law 350 = .ok (.iconst 0, 1) := by decide +kernel
theorem dL_law_351 : decode cL_law 351 = .ok (.ireturn, 1) := by decide +kernel
theorem dL_law_352 : decode cL_law 352 = .ok (.aload_n 1, 1) := by decide +kernel
theorem dL_law_353 : decode cL_law 353 = .ok (.aload_n 0, 1) := by decide +kernel
theorem dL_law_354 : decode cL_law 354 = .ok (.iload_n 3, 1) := by decide +kernel
theorem dL_law_355 : decode cL_law 355 = .ok (.iconst 1, 1) := by decide +kernel
theorem dL_law_356 : decode cL_law 356 = .ok (.iadd, 1) := by decide +kernel
theorem dL_law_357 : decode cL_law 357 = .ok (.iaload, 1) := by decide +kernel
theorem dL_law_358 : decode cL_law 358 = .ok (.aload_n 0, 1) := by decide +kernel
theorem dL_law_359 : decode cL_law 359 = .ok (.iload_n 3, 1) := by decide +kernel
theorem dL_law_360 : decode cL_law 360 = .ok (.iconst 2, 1) := by decide +kernel
theorem dL_law_361 : decode cL_law 361 = .ok (.iadd, 1) := by decide +kernel
theorem dL_law_362 : decode cL_law 362 = .ok (.iaload, 1) := by decide +kernel
theorem dL_law_363 : decode cL_law 363 = .ok (.invokevirtual 41, 3) := by decide +kernel
theorem dL_law_366 : decode cL_law 366 = .ok (.aload_n 2, 1) := by decide +kernel
theorem dL_law_367 : decode cL_law 367 = .ok (.aload_n 0, 1) := by decide +kernel
theorem dL_law_368 : decode cL_law 368 = .ok (.iload_n 3, 1) := by decide +kernel
theorem dL_law_369 : decode cL_law 369 = .ok (.iconst 1, 1) := by decide +kernel
theorem dL_law_370 : decode cL_law 370 = .ok (.iadd, 1) := by decide +kernel
theorem dL_law_371 : decode cL_law 371 = .ok (.iaload, 1) := by decide +kernel
theorem dL_law_372 : decode cL_law 372 = .ok (.aload_n 0, 1) := by decide +kernel
theorem dL_law_373 : decode cL_law 373 = .ok (.iload_n 3, 1) := by decide +kernel
theorem dL_law_374 : decode cL_law 374 = .ok (.iconst 2, 1) := by decide +kernel
theorem dL_law_375 : decode cL_law 375 = .ok (.iadd, 1) := by decide +kernel
theorem dL_law_376 : decode cL_law 376 = .ok (.iaload, 1) := by decide +kernel
theorem dL_law_377 : decode cL_law 377 = .ok (.invokevirtual 44, 3) := by decide +kernel
theorem dL_law_380 : decode cL_law 380 = .ok (.if_icmp .eq 688, 3) := by decide +kernel
theorem dL_law_383 : decode cL_law 383 = .ok (.iconst 0, 1) := by decide +kernel
theorem dL_law_384 : decode cL_law 384 = .ok (.ireturn, 1) := by decide +kernel
theorem dL_law_385 : decode cL_law 385 = .ok (.aload_n 1, 1) := by decide +kernel
theorem dL_law_386 : decode cL_law 386 = .ok (.aload_n 0, 1) := by decide +kernel
theorem dL_law_387 : decode cL_law 387 = .ok (.iload_n 3, 1) := by decide +kernel
theorem dL_law_388 : decode cL_law 388 = .ok (.iconst 1, 1) := by decide +kernel
theorem dL_law_389 : decode cL_law 389 = .ok (.iadd, 1) := by decide +kernel
theorem dL_law_390 : decode cL_law 390 = .ok (.iaload, 1) := by decide +kernel
theorem dL_law_391 : decode cL_law 391 = .ok (.aload_n 0, 1) := by decide +kernel
theorem dL_law_392 : decode cL_law 392 = .ok (.iload_n 3, 1) := by decide +kernel
theorem dL_law_393 : decode cL_law 393 = .ok (.iconst 2, 1) := by decide +kernel
theorem dL_law_394 : decode cL_law 394 = .ok (.iadd, 1) := by decide +kernel
theorem dL_law_395 : decode cL_law 395 = .ok (.iaload, 1) := by decide +kernel
theorem dL_law_396 : decode cL_law 396 = .ok (.invokevirtual 45, 3) := by decide +kernel
theorem dL_law_399 : decode cL_law 399 = .ok (.aload_n 2, 1) := by decide +kernel
theorem dL_law_400 : decode cL_law 400 = .ok (.aload_n 0, 1) := by decide +kernel
theorem dL_law_401 : decode cL_law 401 = .ok (.iload_n 3, 1) := by decide +kernel
theorem dL_law_402 : decode cL_law 402 = .ok (.iconst 1, 1) := by decide +kernel
theorem dL_law_403 : decode cL_law 403 = .ok (.iadd, 1) := by decide +kernel
theorem dL_law_404 : decode cL_law 404 = .ok (.iaload, 1) := by decide +kernel
theorem dL_law_405 : decode cL_law 405 = .ok (.aload_n 0, 1) := by decide +kernel
theorem dL_law_406 : decode cL_law 406 = .ok (.iload_n 3, 1) := by decide +kernel
theorem dL_law_407 : decode cL_law 407 = .ok (.iconst 2, 1) := by decide +kernel
theorem dL_law_408 : decode cL_law 408 = .ok (.iadd, 1) := by decide +kernel
theorem dL_law_409 : decode cL_law 409 = .ok (.iaload, 1) := by decide +kernel
theorem dL_law_410 : decode cL_law 410 = .ok (.invokevirtual 48, 3) := by decide +kernel
theorem dL_law_413 : decode cL_law 413 = .ok (.if_icmp .eq 655, 3) := by decide +kernel
theorem dL_law_416 : decode cL_law 416 = .ok (.iconst 0, 1) := by decide +kernel
theorem dL_law_417 : decode cL_law 417 = .ok (.ireturn, 1) := by decide +kernel
theorem dL_law_418 : decode cL_law 418 = .ok (.aload_n 1, 1) := by decide +kernel
theorem dL_law_419 : decode cL_law 419 = .ok (.invokevirtual 49, 3) := by decide +kernel
theorem dL_law_422 : decode cL_law 422 = .ok (.aload_n 2, 1) := by decide +kernel
theorem dL_law_423 : decode cL_law 423 = .ok (.invokevirtual 52, 3) := by decide +kernel
theorem dL_law_426 : decode cL_law 426 = .ok (.if_icmp .eq 642, 3) := by decide +kernel
theorem dL_law_429 : decode cL_law 429 = .ok (.iconst 0, 1) := by decide +kernel
theorem dL_law_430 : decode cL_law 430 = .ok (.ireturn, 1) := by decide +kernel
theorem dL_law_431 : decode cL_law 431 = .ok (.aload_n 1, 1) := by decide +kernel
theorem dL_law_432 : decode cL_law 432 = .ok (.aload_n 0, 1) := by decide +kernel
theorem dL_law_433 : decode cL_law 433 = .ok (.iload_n 3, 1) := by decide +kernel
theorem dL_law_434 : decode cL_law 434 = .ok (.iconst 1, 1) := by decide +kernel
theorem dL_law_435 : decode cL_law 435 = .ok (.iadd, 1) := by decide +kernel
theorem dL_law_436 : decode cL_law 436 = .ok (.iaload, 1) := by decide +kernel
theorem dL_law_437 : decode cL_law 437 = .ok (.aload_n 0, 1) := by decide +kernel
theorem dL_law_438 : decode cL_law 438 = .ok (.iload_n 3, 1) := by decide +kernel
theorem dL_law_439 : decode cL_law 439 = .ok (.iconst 2, 1) := by decide +kernel
theorem dL_law_440 : decode cL_law 440 = .ok (.iadd, 1) := by decide +kernel
theorem dL_law_441 : decode cL_law 441 = .ok (.iaload, 1) := by decide +kernel
theorem dL_law_442 : decode cL_law 442 = .ok (.invokevirtual 53, 3) := by decide +kernel
theorem dL_law_445 : decode cL_law 445 = .ok (.aload_n 2, 1) := by decide +kernel
theorem dL_law_446 : decode cL_law 446 = .ok (.aload_n 0, 1) := by decide +kernel
theorem dL_law_447 : decode cL_law 447 = .ok (.iload_n 3, 1) := by decide +kernel
theorem dL_law_448 : decode cL_law 448 = .ok (.iconst 1, 1) := by decide +kernel
theorem dL_law_449 : decode cL_law 449 = .ok (.iadd, 1) := by decide +kernel
theorem dL_law_450 : decode cL_law 450 = .ok (.iaload, 1) := by decide +kernel
theorem dL_law_451 : decode cL_law 451 = .ok (.aload_n 0, 1) := by decide +kernel
theorem dL_law_452 : decode cL_law 452 = .ok (.iload_n 3, 1) := by decide +kernel
theorem dL_law_453 : decode cL_law 453 = .ok (.iconst 2, 1) := by decide +kernel
theorem dL_law_454 : decode cL_law 454 = .ok (.iadd, 1) := by decide +kernel
theorem dL_law_455 : decode cL_law 455 = .ok (.iaload, 1) := by decide +kernel
theorem dL_law_456 : decode cL_law 456 = .ok (.invokevirtual 56, 3) := by decide +kernel
theorem dL_law_459 : decode cL_law 459 = .ok (.if_icmp .eq 609, 3) := by decide +kernel
theorem dL_law_462 : decode cL_law 462 = .ok (.iconst 0, 1) := by decide +kernel
theorem dL_law_463 : decode cL_law 463 = .ok (.ireturn, 1) := by decide +kernel
theorem dL_law_464 : decode cL_law 464 = .ok (.aload_n 1, 1) := by decide +kernel
theorem dL_law_465 : decode cL_law 465 = .ok (.aload_n 0, 1) := by decide +kernel
theorem dL_law_466 : decode cL_law 466 = .ok (.iload_n 3, 1) := by decide +kernel
theorem dL_law_467 : decode cL_law 467 = .ok (.iconst 1, 1) := by decide +kernel
theorem dL_law_468 : decode cL_law 468 = .ok (.iadd, 1) := by decide +kernel
theorem dL_law_469 : decode cL_law 469 = .ok (.iaload, 1) := by decide +kernel
theorem dL_law_470 : decode cL_law 470 = .ok (.aload_n 0, 1) := by decide +kernel
theorem dL_law_471 : decode cL_law 471 = .ok (.iload_n 3, 1) := by decide +kernel
theorem dL_law_472 : decode cL_law 472 = .ok (.iconst 2, 1) := by decide +kernel
theorem dL_law_473 : decode cL_law 473 = .ok (.iadd, 1) := by decide +kernel
theorem dL_law_474 : decode cL_law 474 = .ok (.iaload, 1) := by decide +kernel
theorem dL_law_475 : decode cL_law 475 = .ok (.aload_n 0, 1) := by decide +kernel
theorem dL_law_476 : decode cL_law 476 = .ok (.iload_n 3, 1) := by decide +kernel
theorem dL_law_477 : decode cL_law 477 = .ok (.iconst 3, 1) := by decide +kernel
theorem dL_law_478 : decode cL_law 478 = .ok (.iadd, 1) := by decide +kernel
theorem dL_law_479 : decode cL_law 479 = .ok (.iaload, 1) := by decide +kernel
theorem dL_law_480 : decode cL_law 480 = .ok (.invokevirtual 57, 3) := by decide +kernel
theorem dL_law_483 : decode cL_law 483 = .ok (.aload_n 2, 1) := by decide +kernel
theorem dL_law_484 : decode cL_law 484 = .ok (.aload_n 0, 1) := by decide +kernel
theorem dL_law_485 : decode cL_law 485 = .ok (.iload_n 3, 1) := by decide +kernel
theorem dL_law_486 : decode cL_law 486 = .ok (.iconst 1, 1) := by decide +kernel
theorem dL_law_487 : decode cL_law 487 = .ok (.iadd, 1) := by decide +kernel
theorem dL_law_488 : decode cL_law 488 = .ok (.iaload, 1) := by decide +kernel
theorem dL_law_489 : decode cL_law 489 = .ok (.aload_n 0, 1) := by decide +kernel
theorem dL_law_490 : decode cL_law 490 = .ok (.iload_n 3, 1) := by decide +kernel
theorem dL_law_491 : decode cL_law 491 = .ok (.iconst 2, 1) := by decide +kernel
theorem dL_law_492 : decode cL_law 492 = .ok (.iadd, 1) := by decide +kernel
theorem dL_law_493 : decode cL_law 493 = .ok (.iaload, 1) := by decide +kernel
theorem dL_law_494 : decode cL_law 494 = .ok (.aload_n 0, 1) := by decide +kernel
theorem dL_law_495 : decode cL_law 495 = .ok (.iload_n 3, 1) := by decide +kernel
theorem dL_law_496 : decode cL_law 496 = .ok (.iconst 3, 1) := by decide +kernel
theorem dL_law_497 : decode cL_law 497 = .ok (.iadd, 1) := by decide +kernel
theorem dL_law_498 : decode cL_law 498 = .ok (.iaload, 1) := by decide +kernel
theorem dL_law_499 : decode cL_law 499 = .ok (.invokevirtual 61, 3) := by decide +kernel
theorem dL_law_502 : decode cL_law 502 = .ok (.if_icmp .eq 566, 3) := by decide +kernel
theorem dL_law_505 : decode cL_law 505 = .ok (.iconst 0, 1) := by decide +kernel
theorem dL_law_506 : decode cL_law 506 = .ok (.ireturn, 1) := by decide +kernel
theorem dL_law_507 : decode cL_law 507 = .ok (.aload_n 1, 1) := by decide +kernel
theorem dL_law_508 : decode cL_law 508 = .ok (.aload_n 0, 1) := by decide +kernel
theorem dL_law_509 : decode cL_law 509 = .ok (.iload_n 3, 1) := by decide +kernel
theorem dL_law_510 : decode cL_law 510 = .ok (.iconst 1, 1) := by decide +kernel
theorem dL_law_511 : decode cL_law 511 = .ok (.iadd, 1) := by decide +kernel
theorem dL_law_512 : decode cL_law 512 = .ok (.iaload, 1) := by decide +kernel
theorem dL_law_513 : decode cL_law 513 = .ok (.invokevirtual 62, 3) := by decide +kernel
theorem dL_law_516 : decode cL_law 516 = .ok (.aload_n 2, 1) := by decide +kernel
theorem dL_law_517 : decode cL_law 517 = .ok (.aload_n 0, 1) := by decide +kernel
theorem dL_law_518 : decode cL_law 518 = .ok (.iload_n 3, 1) := by decide +kernel
theorem dL_law_519 : decode cL_law 519 = .ok (.iconst 1, 1) := by decide +kernel
theorem dL_law_520 : decode cL_law 520 = .ok (.iadd, 1) := by decide +kernel
theorem dL_law_521 : decode cL_law 521 = .ok (.iaload, 1) := by decide +kernel
theorem dL_law_522 : decode cL_law 522 = .ok (.invokevirtual 65, 3) := by decide +kernel
theorem dL_law_525 : decode cL_law 525 = .ok (.if_icmp .eq 543, 3) := by decide +kernel
theorem dL_law_528 : decode cL_law 528 = .ok (.iconst 0, 1) := by decide +kernel
theorem dL_law_529 : decode cL_law 529 = .ok (.ireturn, 1) := by decide +kernel
theorem dL_law_530 : decode cL_law 530 = .ok (.aload_n 1, 1) := by decide +kernel
theorem dL_law_531 : decode cL_law 531 = .ok (.aload_n 0, 1) := by decide +kernel
theorem dL_law_532 : decode cL_law 532 = .ok (.iload_n 3, 1) := by decide +kernel
theorem dL_law_533 : decode cL_law 533 = .ok (.iconst 1, 1) := by decide +kernel
theorem dL_law_534 : decode cL_law 534 = .ok (.iadd, 1) := by decide +kernel
theorem dL_law_535 : decode cL_law 535 = .ok (.iaload, 1) := by decide +kernel
theorem dL_law_536 : decode cL_law 536 = .ok (.invokevirtual 66, 3) := by decide +kernel
theorem dL_law_539 : decode cL_law 539 = .ok (.aload_n 2, 1) := by decide +kernel
theorem dL_law_540 : decode cL_law 540 = .ok (.aload_n 0, 1) := by decide +kernel
theorem dL_law_541 : decode cL_law 541 = .ok (.iload_n 3, 1) := by decide +kernel
theorem dL_law_542 : decode cL_law 542 = .ok (.iconst 1, 1) := by decide +kernel
theorem dL_law_543 : decode cL_law 543 = .ok (.iadd, 1) := by decide +kernel
theorem dL_law_544 : decode cL_law 544 = .ok (.iaload, 1) := by decide +kernel
theorem dL_law_545 : decode cL_law 545 = .ok (.invokevirtual 69, 3) := by decide +kernel
theorem dL_law_548 : decode cL_law 548 = .ok (.if_icmp .eq 520, 3) := by decide +kernel
theorem dL_law_551 : decode cL_law 551 = .ok (.iconst 0, 1) := by decide +kernel
theorem dL_law_552 : decode cL_law 552 = .ok (.ireturn, 1) := by decide +kernel
theorem dL_law_553 : decode cL_law 553 = .ok (.aload_n 1, 1) := by decide +kernel
theorem dL_law_554 : decode cL_law 554 = .ok (.aload_n 0, 1) := by decide +kernel
theorem dL_law_555 : decode cL_law 555 = .ok (.iload_n 3, 1) := by decide +kernel
theorem dL_law_556 : decode cL_law 556 = .ok (.iconst 1, 1) := by decide +kernel
theorem dL_law_557 : decode cL_law 557 = .ok (.iadd, 1) := by decide +kernel
theorem dL_law_558 : decode cL_law 558 = .ok (.iaload, 1) := by decide +kernel
theorem dL_law_559 : decode cL_law 559 = .ok (.aload_n 0, 1) := by decide +kernel
theorem dL_law_560 : decode cL_law 560 = .ok (.iload_n 3, 1) := by decide +kernel
theorem dL_law_561 : decode cL_law 561 = .ok (.iconst 2, 1) := by decide +kernel
theorem dL_law_562 : decode cL_law 562 = .ok (.iadd, 1) := by decide +kernel
theorem dL_law_563 : decode cL_law 563 = .ok (.iaload, 1) := by decide +kernel
theorem dL_law_564 : decode cL_law 564 = .ok (.invokevirtual 70, 3) := by decide +kernel
theorem dL_law_567 : decode cL_law 567 = .ok (.aload_n 2, 1) := by decide +kernel
theorem dL_law_568 : decode cL_law 568 = .ok (.aload_n 0, 1) := by decide +kernel
theorem dL_law_569 : decode cL_law 569 = .ok (.iload_n 3, 1) := by decide +kernel
theorem dL_law_570 : decode cL_law 570 = .ok (.iconst 1, 1) := by decide +kernel
theorem dL_law_571 : decode cL_law 571 = .ok (.iadd, 1) := by decide +kernel
theorem dL_law_572 : decode cL_law 572 = .ok (.iaload, 1) := by decide +kernel
theorem dL_law_573 : decode cL_law 573 = .ok (.aload_n 0, 1) := by decide +kernel
theorem dL_law_574 : decode cL_law 574 = .ok (.iload_n 3, 1) := by decide +kernel
theorem dL_law_575 : decode cL_law 575 = .ok (.iconst 2, 1) := by decide +kernel
theorem dL_law_576 : decode cL_law 576 = .ok (.iadd, 1) := by decide +kernel
theorem dL_law_577 : decode cL_law 577 = .ok (.iaload, 1) := by decide +kernel
theorem dL_law_578 : decode cL_law 578 = .ok (.invokevirtual 73, 3) := by decide +kernel
theorem dL_law_581 : decode cL_law 581 = .ok (.if_icmp .eq 487, 3) := by decide +kernel
theorem dL_law_584 : decode cL_law 584 = .ok (.iconst 0, 1) := by decide +kernel
theorem dL_law_585 : decode cL_law 585 = .ok (.ireturn, 1) := by decide +kernel
theorem dL_law_586 : decode cL_law 586 = .ok (.aload_n 1, 1) := by decide +kernel
theorem dL_law_587 : decode cL_law 587 = .ok (.aload_n 0, 1) := by decide +kernel
theorem dL_law_588 : decode cL_law 588 = .ok (.iload_n 3, 1) := by decide +kernel
theorem dL_law_589 : decode cL_law 589 = .ok (.iconst 1, 1) := by decide +kernel
theorem dL_law_590 : decode cL_law 590 = .ok (.iadd, 1) := by decide +kernel
theorem dL_law_591 : decode cL_law 591 = .ok (.iaload, 1) := by decide +kernel
theorem dL_law_592 : decode cL_law 592 = .ok (.invokevirtual 74, 3) := by decide +kernel
theorem dL_law_595 : decode cL_law 595 = .ok (.aload_n 2, 1) := by decide +kernel
theorem dL_law_596 : decode cL_law 596 = .ok (.aload_n 0, 1) := by decide +kernel
theorem dL_law_597 : decode cL_law 597 = .ok (.iload_n 3, 1) := by decide +kernel
theorem dL_law_598 : decode cL_law 598 = .ok (.iconst 1, 1) := by decide +kernel
theorem dL_law_599 : decode cL_law 599 = .ok (.iadd, 1) := by decide +kernel
theorem dL_law_600 : decode cL_law 600 = .ok (.iaload, 1) := by decide +kernel
theorem dL_law_601 : decode cL_law 601 = .ok (.invokevirtual 77, 3) := by decide +kernel
theorem dL_law_604 : decode cL_law 604 = .ok (.if_icmp .eq 464, 3) := by decide +kernel
theorem dL_law_607 : decode cL_law 607 = .ok (.iconst 0, 1) := by decide +kernel
theorem dL_law_608 : decode cL_law 608 = .ok (.ireturn, 1) := by decide +kernel
theorem dL_law_609 : decode cL_law 609 = .ok (.aload_n 1, 1) := by decide +kernel
theorem dL_law_610 : decode cL_law 610 = .ok (.invokevirtual 78, 3) := by decide +kernel
theorem dL_law_613 : decode cL_law 613 = .ok (.aload_n 2, 1) := by decide +kernel
theorem dL_law_614 : decode cL_law 614 = .ok (.invokevirtual 81, 3) := by decide +kernel
theorem dL_law_617 : decode cL_law 617 = .ok (.if_icmp .eq 451, 3) := by decide +kernel
theorem dL_law_620 : decode cL_law 620 = .ok (.iconst 0, 1) := by decide +kernel
theorem dL_law_621 : decode cL_law 621 = .ok (.ireturn, 1) := by decide +kernel
theorem dL_law_622 : decode cL_law 622 = .ok (.aload_n 1, 1) := by decide +kernel
theorem dL_law_623 : decode cL_law 623 = .ok (.aload_n 0, 1) := by decide +kernel
theorem dL_law_624 : decode cL_law 624 = .ok (.iload_n 3, 1) := by decide +kernel
theorem dL_law_625 : decode cL_law 625 = .ok (.iconst 1, 1) := by decide +kernel
theorem dL_law_626 : decode cL_law 626 = .ok (.iadd, 1) := by decide +kernel
theorem dL_law_627 : decode cL_law 627 = .ok (.iaload, 1) := by decide +kernel
theorem dL_law_628 : decode cL_law 628 = .ok (.invokevirtual 82, 3) := by decide +kernel
theorem dL_law_631 : decode cL_law 631 = .ok (.aload_n 2, 1) := by decide +kernel
theorem dL_law_632 : decode cL_law 632 = .ok (.aload_n 0, 1) := by decide +kernel
theorem dL_law_633 : decode cL_law 633 = .ok (.iload_n 3, 1) := by decide +kernel
theorem dL_law_634 : decode cL_law 634 = .ok (.iconst 1, 1) := by decide +kernel
theorem dL_law_635 : decode cL_law 635 = .ok (.iadd, 1) := by decide +kernel
theorem dL_law_636 : decode cL_law 636 = .ok (.iaload, 1) := by decide +kernel
theorem dL_law_637 : decode cL_law 637 = .ok (.invokevirtual 85, 3) := by decide +kernel
theorem dL_law_640 : decode cL_law 640 = .ok (.if_icmp .eq 428, 3) := by decide +kernel
theorem dL_law_643 : decode cL_law 643 = .ok (.iconst 0, 1) := by decide +kernel
theorem dL_law_644 : decode cL_law 644 = .ok (.ireturn, 1) := by decide +kernel
theorem dL_law_645 : decode cL_law 645 = .ok (.aload_n 1, 1) := by decide +kernel
theorem dL_law_646 : decode cL_law 646 = .ok (.aload_n 0, 1) := by decide +kernel
theorem dL_law_647 : decode cL_law 647 = .ok (.iload_n 3, 1) := by decide +kernel
theorem dL_law_648 : decode cL_law 648 = .ok (.iconst 1, 1) := by decide +kernel
theorem dL_law_649 : decode cL_law 649 = .ok (.iadd, 1) := by decide +kernel
theorem dL_law_650 : decode cL_law 650 = .ok (.iaload, 1) := by decide +kernel
theorem dL_law_651 : decode cL_law 651 = .ok (.invokevirtual 86, 3) := by decide +kernel
theorem dL_law_654 : decode cL_law 654 = .ok (.aload_n 2, 1) := by decide +kernel
theorem dL_law_655 : decode cL_law 655 = .ok (.aload_n 0, 1) := by decide +kernel
theorem dL_law_656 : decode cL_law 656 = .ok (.iload_n 3, 1) := by decide +kernel
theorem dL_law_657 : decode cL_law 657 = .ok (.iconst 1, 1) := by decide +kernel
theorem dL_law_658 : decode cL_law 658 = .ok (.iadd, 1) := by decide +kernel
theorem dL_law_659 : decode cL_law 659 = .ok (.iaload, 1) := by decide +kernel
theorem dL_law_660 : decode cL_law 660 = .ok (.invokevirtual 89, 3) := by decide +kernel
theorem dL_law_663 : decode cL_law 663 = .ok (.if_icmp .eq 405, 3) := by decide +kernel
theorem dL_law_666 : decode cL_law 666 = .ok (.iconst 0, 1) := by decide +kernel
theorem dL_law_667 : decode cL_law 667 = .ok (.ireturn, 1) := by decide +kernel
theorem dL_law_668 : decode cL_law 668 = .ok (.aload_n 1, 1) := by decide +kernel
theorem dL_law_669 : decode cL_law 669 = .ok (.invokevirtual 90, 3) := by decide +kernel
theorem dL_law_672 : decode cL_law 672 = .ok (.aload_n 2, 1) := by decide +kernel
theorem dL_law_673 : decode cL_law 673 = .ok (.invokevirtual 93, 3) := by decide +kernel
theorem dL_law_676 : decode cL_law 676 = .ok (.if_icmp .eq 392, 3) := by decide +kernel
theorem dL_law_679 : decode cL_law 679 = .ok (.iconst 0, 1) := by decide +kernel
theorem dL_law_680 : decode cL_law 680 = .ok (.ireturn, 1) := by decide +kernel
theorem dL_law_681 : decode cL_law 681 = .ok (.aload_n 1, 1) := by decide +kernel
theorem dL_law_682 : decode cL_law 682 = .ok (.aload_n 0, 1) := by decide +kernel
theorem dL_law_683 : decode cL_law 683 = .ok (.iload_n 3, 1) := by decide +kernel
theorem dL_law_684 : decode cL_law 684 = .ok (.iconst 1, 1) := by decide +kernel
theorem dL_law_685 : decode cL_law 685 = .ok (.iadd, 1) := by decide +kernel
theorem dL_law_686 : decode cL_law 686 = .ok (.iaload, 1) := by decide +kernel
theorem dL_law_687 : decode cL_law 687 = .ok (.aload_n 0, 1) := by decide +kernel
theorem dL_law_688 : decode cL_law 688 = .ok (.iload_n 3, 1) := by decide +kernel
theorem dL_law_689 : decode cL_law 689 = .ok (.iconst 2, 1) := by decide +kernel
theorem dL_law_690 : decode cL_law 690 = .ok (.iadd, 1) := by decide +kernel
theorem dL_law_691 : decode cL_law 691 = .ok (.iaload, 1) := by decide +kernel
theorem dL_law_692 : decode cL_law 692 = .ok (.aload_n 0, 1) := by decide +kernel
theorem dL_law_693 : decode cL_law 693 = .ok (.iload_n 3, 1) := by decide +kernel
theorem dL_law_694 : decode cL_law 694 = .ok (.iconst 3, 1) := by decide +kernel
theorem dL_law_695 : decode cL_law 695 = .ok (.iadd, 1) := by decide +kernel
theorem dL_law_696 : decode cL_law 696 = .ok (.iaload, 1) := by decide +kernel
theorem dL_law_697 : decode cL_law 697 = .ok (.invokevirtual 94, 3) := by decide +kernel
theorem dL_law_700 : decode cL_law 700 = .ok (.aload_n 2, 1) := by decide +kernel
theorem dL_law_701 : decode cL_law 701 = .ok (.aload_n 0, 1) := by decide +kernel
theorem dL_law_702 : decode cL_law 702 = .ok (.iload_n 3, 1) := by decide +kernel
theorem dL_law_703 : decode cL_law 703 = .ok (.iconst 1, 1) := by decide +kernel
theorem dL_law_704 : decode cL_law 704 = .ok (.iadd, 1) := by decide +kernel
theorem dL_law_705 : decode cL_law 705 = .ok (.iaload, 1) := by decide +kernel
theorem dL_law_706 : decode cL_law 706 = .ok (.aload_n 0, 1) := by decide +kernel
theorem dL_law_707 : decode cL_law 707 = .ok (.iload_n 3, 1) := by decide +kernel
theorem dL_law_708 : decode cL_law 708 = .ok (.iconst 2, 1) := by decide +kernel
theorem dL_law_709 : decode cL_law 709 = .ok (.iadd, 1) := by decide +kernel
theorem dL_law_710 : decode cL_law 710 = .ok (.iaload, 1) := by decide +kernel
theorem dL_law_711 : decode cL_law 711 = .ok (.aload_n 0, 1) := by decide +kernel
theorem dL_law_712 : decode cL_law 712 = .ok (.iload_n 3, 1) := by decide +kernel
theorem dL_law_713 : decode cL_law 713 = .ok (.iconst 3, 1) := by decide +kernel
theorem dL_law_714 : decode cL_law 714 = .ok (.iadd, 1) := by decide +kernel
theorem dL_law_715 : decode cL_law 715 = .ok (.iaload, 1) := by decide +kernel
theorem dL_law_716 : decode cL_law 716 = .ok (.invokevirtual 97, 3) := by decide +kernel
theorem dL_law_719 : decode cL_law 719 = .ok (.if_icmp .eq 349, 3) := by decide +kernel
theorem dL_law_722 : decode cL_law 722 = .ok (.iconst 0, 1) := by decide +kernel
theorem dL_law_723 : decode cL_law 723 = .ok (.ireturn, 1) := by decide +kernel
theorem dL_law_724 : decode cL_law 724 = .ok (.aload_n 1, 1) := by decide +kernel
theorem dL_law_725 : decode cL_law 725 = .ok (.invokevirtual 98, 3) := by decide +kernel
theorem dL_law_728 : decode cL_law 728 = .ok (.aload_n 2, 1) := by decide +kernel
theorem dL_law_729 : decode cL_law 729 = .ok (.invokevirtual 101, 3) := by decide +kernel
theorem dL_law_732 : decode cL_law 732 = .ok (.if_icmp .eq 336, 3) := by decide +kernel
theorem dL_law_735 : decode cL_law 735 = .ok (.iconst 0, 1) := by decide +kernel
theorem dL_law_736 : decode cL_law 736 = .ok (.ireturn, 1) := by decide +kernel
theorem dL_law_737 : decode cL_law 737 = .ok (.aload_n 1, 1) := by decide +kernel
theorem dL_law_738 : decode cL_law 738 = .ok (.aload_n 0, 1) := by decide +kernel
theorem dL_law_739 : decode cL_law 739 = .ok (.iload_n 3, 1) := by decide +kernel
theorem dL_law_740 : decode cL_law 740 = .ok (.iconst 1, 1) := by decide +kernel
theorem dL_law_741 : decode cL_law 741 = .ok (.iadd, 1) := by decide +kernel
theorem dL_law_742 : decode cL_law 742 = .ok (.iaload, 1) := by decide +kernel
theorem dL_law_743 : decode cL_law 743 = .ok (.invokevirtual 102, 3) := by decide +kernel
theorem dL_law_746 : decode cL_law 746 = .ok (.aload_n 2, 1) := by decide +kernel
theorem dL_law_747 : decode cL_law 747 = .ok (.aload_n 0, 1) := by decide +kernel
theorem dL_law_748 : decode cL_law 748 = .ok (.iload_n 3, 1) := by decide +kernel
theorem dL_law_749 : decode cL_law 749 = .ok (.iconst 1, 1) := by decide +kernel
theorem dL_law_750 : decode cL_law 750 = .ok (.iadd, 1) := by decide +kernel
theorem dL_law_751 : decode cL_law 751 = .ok (.iaload, 1) := by decide +kernel
theorem dL_law_752 : decode cL_law 752 = .ok (.invokevirtual 105, 3) := by decide +kernel
theorem dL_law_755 : decode cL_law 755 = .ok (.if_icmp .eq 313, 3) := by decide +kernel
theorem dL_law_758 : decode cL_law 758 = .ok (.iconst 0, 1) := by decide +kernel
theorem dL_law_759 : decode cL_law 759 = .ok (.ireturn, 1) := by decide +kernel
theorem dL_law_760 : decode cL_law 760 = .ok (.aload_n 1, 1) := by decide +kernel
theorem dL_law_761 : decode cL_law 761 = .ok (.invokevirtual 106, 3) := by decide +kernel
theorem dL_law_764 : decode cL_law 764 = .ok (.aload_n 2, 1) := by decide +kernel
theorem dL_law_765 : decode cL_law 765 = .ok (.invokevirtual 109, 3) := by decide +kernel
theorem dL_law_768 : decode cL_law 768 = .ok (.if_icmp .eq 300, 3) := by decide +kernel
theorem dL_law_771 : decode cL_law 771 = .ok (.iconst 0, 1) := by decide +kernel
theorem dL_law_772 : decode cL_law 772 = .ok (.ireturn, 1) := by decide +kernel
theorem dL_law_773 : decode cL_law 773 = .ok (.aload_n 1, 1) := by decide +kernel
theorem dL_law_774 : decode cL_law 774 = .ok (.aload_n 0, 1) := by decide +kernel
theorem dL_law_775 : decode cL_law 775 = .ok (.iload_n 3, 1) := by decide +kernel
theorem dL_law_776 : decode cL_law 776 = .ok (.iconst 1, 1) := by decide +kernel
theorem dL_law_777 : decode cL_law 777 = .ok (.iadd, 1) := by decide +kernel
theorem dL_law_778 : decode cL_law 778 = .ok (.iaload, 1) := by decide +kernel
theorem dL_law_779 : decode cL_law 779 = .ok (.invokevirtual 110, 3) := by decide +kernel
theorem dL_law_782 : decode cL_law 782 = .ok (.aload_n 2, 1) := by decide +kernel
theorem dL_law_783 : decode cL_law 783 = .ok (.aload_n 0, 1) := by decide +kernel
theorem dL_law_784 : decode cL_law 784 = .ok (.iload_n 3, 1) := by decide +kernel
theorem dL_law_785 : decode cL_law 785 = .ok (.iconst 1, 1) := by decide +kernel
theorem dL_law_786 : decode cL_law 786 = .ok (.iadd, 1) := by decide +kernel
theorem dL_law_787 : decode cL_law 787 = .ok (.iaload, 1) := by decide +kernel
theorem dL_law_788 : decode cL_law 788 = .ok (.invokevirtual 113, 3) := by decide +kernel
theorem dL_law_791 : decode cL_law 791 = .ok (.if_icmp .eq 277, 3) := by decide +kernel
theorem dL_law_794 : decode cL_law 794 = .ok (.iconst 0, 1) := by decide +kernel
theorem dL_law_795 : decode cL_law 795 = .ok (.ireturn, 1) := by decide +kernel
theorem dL_law_796 : decode cL_law 796 = .ok (.aload_n 1, 1) := by decide +kernel
theorem dL_law_797 : decode cL_law 797 = .ok (.aload_n 0, 1) := by decide +kernel
theorem dL_law_798 : decode cL_law 798 = .ok (.iload_n 3, 1) := by decide +kernel
theorem dL_law_799 : decode cL_law 799 = .ok (.iconst 1, 1) := by decide +kernel
theorem dL_law_800 : decode cL_law 800 = .ok (.iadd, 1) := by decide +kernel
theorem dL_law_801 : decode cL_law 801 = .ok (.iaload, 1) := by decide +kernel
theorem dL_law_802 : decode cL_law 802 = .ok (.invokevirtual 114, 3) := by decide +kernel
theorem dL_law_805 : decode cL_law 805 = .ok (.aload_n 2, 1) := by decide +kernel
theorem dL_law_806 : decode cL_law 806 = .ok (.aload_n 0, 1) := by decide +kernel
theorem dL_law_807 : decode cL_law 807 = .ok (.iload_n 3, 1) := by decide +kernel
theorem dL_law_808 : decode cL_law 808 = .ok (.iconst 1, 1) := by decide +kernel
theorem dL_law_809 : decode cL_law 809 = .ok (.iadd, 1) := by decide +kernel
theorem dL_law_810 : decode cL_law 810 = .ok (.iaload, 1) := by decide +kernel
theorem dL_law_811 : decode cL_law 811 = .ok (.invokevirtual 117, 3) := by decide +kernel
theorem dL_law_814 : decode cL_law 814 = .ok (.if_icmp .eq 254, 3) := by decide +kernel
theorem dL_law_817 : decode cL_law 817 = .ok (.iconst 0, 1) := by decide +kernel
theorem dL_law_818 : decode cL_law 818 = .ok (.ireturn, 1) := by decide +kernel
theorem dL_law_819 : decode cL_law 819 = .ok (.aload_n 1, 1) := by decide +kernel
theorem dL_law_820 : decode cL_law 820 = .ok (.aload_n 0, 1) := by decide +kernel
theorem dL_law_821 : decode cL_law 821 = .ok (.iload_n 3, 1) := by decide +kernel
theorem dL_law_822 : decode cL_law 822 = .ok (.iconst 1, 1) := by decide +kernel
theorem dL_law_823 : decode cL_law 823 = .ok (.iadd, 1) := by decide +kernel
theorem dL_law_824 : decode cL_law 824 = .ok (.iaload, 1) := by decide +kernel
theorem dL_law_825 : decode cL_law 825 = .ok (.aload_n 0, 1) := by decide +kernel
theorem dL_law_826 : decode cL_law 826 = .ok (.iload_n 3, 1) := by decide +kernel
theorem dL_law_827 : decode cL_law 827 = .ok (.iconst 2, 1) := by decide +kernel
theorem dL_law_828 : decode cL_law 828 = .ok (.iadd, 1) := by decide +kernel
theorem dL_law_829 : decode cL_law 829 = .ok (.iaload, 1) := by decide +kernel
theorem dL_law_830 : decode cL_law 830 = .ok (.aload_n 0, 1) := by decide +kernel
theorem dL_law_831 : decode cL_law 831 = .ok (.iload_n 3, 1) := by decide +kernel
theorem dL_law_832 : decode cL_law 832 = .ok (.iconst 3, 1) := by decide +kernel
theorem dL_law_833 : decode cL_law 833 = .ok (.iadd, 1) := by decide +kernel
theorem dL_law_834 : decode cL_law 834 = .ok (.iaload, 1) := by decide +kernel
theorem dL_law_835 : decode cL_law 835 = .ok (.aload_n 0, 1) := by decide +kernel
theorem dL_law_836 : decode cL_law 836 = .ok (.iload_n 3, 1) := by decide +kernel
theorem dL_law_837 : decode cL_law 837 = .ok (.iconst 4, 1) := by decide +kernel
theorem dL_law_838 : decode cL_law 838 = .ok (.iadd, 1) := by decide +kernel
theorem dL_law_839 : decode cL_law 839 = .ok (.iaload, 1) := by decide +kernel
theorem dL_law_840 : decode cL_law 840 = .ok (.invokevirtual 118, 3) := by decide +kernel
theorem dL_law_843 : decode cL_law 843 = .ok (.aload_n 2, 1) := by decide +kernel
theorem dL_law_844 : decode cL_law 844 = .ok (.aload_n 0, 1) := by decide +kernel
theorem dL_law_845 : decode cL_law 845 = .ok (.iload_n 3, 1) := by decide +kernel
theorem dL_law_846 : decode cL_law 846 = .ok (.iconst 1, 1) := by decide +kernel
theorem dL_law_847 : decode cL_law 847 = .ok (.iadd, 1) := by decide +kernel
theorem dL_law_848 : decode cL_law 848 = .ok (.iaload, 1) := by decide +kernel
theorem dL_law_849 : decode cL_law 849 = .ok (.aload_n 0, 1) := by decide +kernel
theorem dL_law_850 : decode cL_law 850 = .ok (.iload_n 3, 1) := by decide +kernel
theorem dL_law_851 : decode cL_law 851 = .ok (.iconst 2, 1) := by decide +kernel
theorem dL_law_852 : decode cL_law 852 = .ok (.iadd, 1) := by decide +kernel
theorem dL_law_853 : decode cL_law 853 = .ok (.iaload, 1) := by decide +kernel
theorem dL_law_854 : decode cL_law 854 = .ok (.aload_n 0, 1) := by decide +kernel
theorem dL_law_855 : decode cL_law 855 = .ok (.iload_n 3, 1) := by decide +kernel
theorem dL_law_856 : decode cL_law 856 = .ok (.iconst 3, 1) := by decide +kernel
theorem dL_law_857 : decode cL_law 857 = .ok (.iadd, 1) := by decide +kernel
theorem dL_law_858 : decode cL_law 858 = .ok (.iaload, 1) := by decide +kernel
theorem dL_law_859 : decode cL_law 859 = .ok (.aload_n 0, 1) := by decide +kernel
theorem dL_law_860 : decode cL_law 860 = .ok (.iload_n 3, 1) := by decide +kernel
theorem dL_law_861 : decode cL_law 861 = .ok (.iconst 4, 1) := by decide +kernel
theorem dL_law_862 : decode cL_law 862 = .ok (.iadd, 1) := by decide +kernel
theorem dL_law_863 : decode cL_law 863 = .ok (.iaload, 1) := by decide +kernel
theorem dL_law_864 : decode cL_law 864 = .ok (.invokevirtual 122, 3) := by decide +kernel
theorem dL_law_867 : decode cL_law 867 = .ok (.if_icmp .eq 201, 3) := by decide +kernel
theorem dL_law_870 : decode cL_law 870 = .ok (.iconst 0, 1) := by decide +kernel
theorem dL_law_871 : decode cL_law 871 = .ok (.ireturn, 1) := by decide +kernel
theorem dL_law_872 : decode cL_law 872 = .ok (.aload_n 1, 1) := by decide +kernel
theorem dL_law_873 : decode cL_law 873 = .ok (.aload_n 0, 1) := by decide +kernel
theorem dL_law_874 : decode cL_law 874 = .ok (.iload_n 3, 1) := by decide +kernel
theorem dL_law_875 : decode cL_law 875 = .ok (.iconst 1, 1) := by decide +kernel
theorem dL_law_876 : decode cL_law 876 = .ok (.iadd, 1) := by decide +kernel
theorem dL_law_877 : decode cL_law 877 = .ok (.iaload, 1) := by decide +kernel
theorem dL_law_878 : decode cL_law 878 = .ok (.aload_n 0, 1) := by decide +kernel
theorem dL_law_879 : decode cL_law 879 = .ok (.iload_n 3, 1) := by decide +kernel
theorem dL_law_880 : decode cL_law 880 = .ok (.iconst 2, 1) := by decide +kernel
theorem dL_law_881 : decode cL_law 881 = .ok (.iadd, 1) := by decide +kernel
theorem dL_law_882 : decode cL_law 882 = .ok (.iaload, 1) := by decide +kernel
theorem dL_law_883 : decode cL_law 883 = .ok (.invokevirtual 123, 3) := by decide +kernel
theorem dL_law_886 : decode cL_law 886 = .ok (.aload_n 2, 1) := by decide +kernel
theorem dL_law_887 : decode cL_law 887 = .ok (.aload_n 0, 1) := by decide +kernel
theorem dL_law_888 : decode cL_law 888 = .ok (.iload_n 3, 1) := by decide +kernel
theorem dL_law_889 : decode cL_law 889 = .ok (.iconst 1, 1) := by decide +kernel
theorem dL_law_890 : decode cL_law 890 = .ok (.iadd, 1) := by decide +kernel
theorem dL_law_891 : decode cL_law 891 = .ok (.iaload, 1) := by decide +kernel
theorem dL_law_892 : decode cL_law 892 = .ok (.aload_n 0, 1) := by decide +kernel
theorem dL_law_893 : decode cL_law 893 = .ok (.iload_n 3, 1) := by decide +kernel
theorem dL_law_894 : decode cL_law 894 = .ok (.iconst 2, 1) := by decide +kernel
theorem dL_law_895 : decode cL_law 895 = .ok (.iadd, 1) := by decide +kernel
theorem dL_law_896 : decode cL_law 896 = .ok (.iaload, 1) := by decide +kernel
theorem dL_law_897 : decode cL_law 897 = .ok (.invokevirtual 126, 3) := by decide +kernel
theorem dL_law_900 : decode cL_law 900 = .ok (.if_icmp .eq 168, 3) := by decide +kernel
theorem dL_law_903 : decode cL_law 903 = .ok (.iconst 0, 1) := by decide +kernel
theorem dL_law_904 : decode cL_law 904 = .ok (.ireturn, 1) := by decide +kernel
theorem dL_law_905 : decode cL_law 905 = .ok (.aload_n 1, 1) := by decide +kernel
theorem dL_law_906 : decode cL_law 906 = .ok (.aload_n 0, 1) := by decide +kernel
theorem dL_law_907 : decode cL_law 907 = .ok (.iload_n 3, 1) := by decide +kernel
theorem dL_law_908 : decode cL_law 908 = .ok (.iconst 1, 1) := by decide +kernel
theorem dL_law_909 : decode cL_law 909 = .ok (.iadd, 1) := by decide +kernel
theorem dL_law_910 : decode cL_law 910 = .ok (.iaload, 1) := by decide +kernel
theorem dL_law_911 : decode cL_law 911 = .ok (.aload_n 0, 1) := by decide +kernel
theorem dL_law_912 : decode cL_law 912 = .ok (.iload_n 3, 1) := by decide +kernel
theorem dL_law_913 : decode cL_law 913 = .ok (.iconst 2, 1) := by decide +kernel
theorem dL_law_914 : decode cL_law 914 = .ok (.iadd, 1) := by decide +kernel
theorem dL_law_915 : decode cL_law 915 = .ok (.iaload, 1) := by decide +kernel
theorem dL_law_916 : decode cL_law 916 = .ok (.invokevirtual 127, 3) := by decide +kernel
theorem dL_law_919 : decode cL_law 919 = .ok (.aload_n 2, 1) := by decide +kernel
theorem dL_law_920 : decode cL_law 920 = .ok (.aload_n 0, 1) := by decide +kernel
theorem dL_law_921 : decode cL_law 921 = .ok (.iload_n 3, 1) := by decide +kernel
theorem dL_law_922 : decode cL_law 922 = .ok (.iconst 1, 1) := by decide +kernel
theorem dL_law_923 : decode cL_law 923 = .ok (.iadd, 1) := by decide +kernel
theorem dL_law_924 : decode cL_law 924 = .ok (.iaload, 1) := by decide +kernel
theorem dL_law_925 : decode cL_law 925 = .ok (.aload_n 0, 1) := by decide +kernel
theorem dL_law_926 : decode cL_law 926 = .ok (.iload_n 3, 1) := by decide +kernel
theorem dL_law_927 : decode cL_law 927 = .ok (.iconst 2, 1) := by decide +kernel
theorem dL_law_928 : decode cL_law 928 = .ok (.iadd, 1) := by decide +kernel
theorem dL_law_929 : decode cL_law 929 = .ok (.iaload, 1) := by decide +kernel
theorem dL_law_930 : decode cL_law 930 = .ok (.invokevirtual 130, 3) := by decide +kernel
theorem dL_law_933 : decode cL_law 933 = .ok (.if_icmp .eq 135, 3) := by decide +kernel
theorem dL_law_936 : decode cL_law 936 = .ok (.iconst 0, 1) := by decide +kernel
theorem dL_law_937 : decode cL_law 937 = .ok (.ireturn, 1) := by decide +kernel
theorem dL_law_938 : decode cL_law 938 = .ok (.aload_n 1, 1) := by decide +kernel
theorem dL_law_939 : decode cL_law 939 = .ok (.aload_n 0, 1) := by decide +kernel
theorem dL_law_940 : decode cL_law 940 = .ok (.iload_n 3, 1) := by decide +kernel
theorem dL_law_941 : decode cL_law 941 = .ok (.iconst 1, 1) := by decide +kernel
theorem dL_law_942 : decode cL_law 942 = .ok (.iadd, 1) := by decide +kernel
theorem dL_law_943 : decode cL_law 943 = .ok (.iaload, 1) := by decide +kernel
theorem dL_law_944 : decode cL_law 944 = .ok (.invokevirtual 131, 3) := by decide +kernel
theorem dL_law_947 : decode cL_law 947 = .ok (.aload_n 2, 1) := by decide +kernel
theorem dL_law_948 : decode cL_law 948 = .ok (.aload_n 0, 1) := by decide +kernel
theorem dL_law_949 : decode cL_law 949 = .ok (.iload_n 3, 1) := by decide +kernel
theorem dL_law_950 : decode cL_law 950 = .ok (.iconst 1, 1) := by decide +kernel
theorem dL_law_951 : decode cL_law 951 = .ok (.iadd, 1) := by decide +kernel
theorem dL_law_952 : decode cL_law 952 = .ok (.iaload, 1) := by decide +kernel
theorem dL_law_953 : decode cL_law 953 = .ok (.invokevirtual 135, 3) := by decide +kernel
theorem dL_law_956 : decode cL_law 956 = .ok (.lcmp, 1) := by decide +kernel
theorem dL_law_957 : decode cL_law 957 = .ok (.ifCond .eq 111, 3) := by decide +kernel
theorem dL_law_960 : decode cL_law 960 = .ok (.iconst 0, 1) := by decide +kernel
theorem dL_law_961 : decode cL_law 961 = .ok (.ireturn, 1) := by decide +kernel
theorem dL_law_962 : decode cL_law 962 = .ok (.aload_n 1, 1) := by decide +kernel
theorem dL_law_963 : decode cL_law 963 = .ok (.aload_n 0, 1) := by decide +kernel
theorem dL_law_964 : decode cL_law 964 = .ok (.iload_n 3, 1) := by decide +kernel
theorem dL_law_965 : decode cL_law 965 = .ok (.iconst 1, 1) := by decide +kernel
theorem dL_law_966 : decode cL_law 966 = .ok (.iadd, 1) := by decide +kernel
theorem dL_law_967 : decode cL_law 967 = .ok (.iaload, 1) := by decide +kernel
theorem dL_law_968 : decode cL_law 968 = .ok (.invokevirtual 136, 3) := by decide +kernel
theorem dL_law_971 : decode cL_law 971 = .ok (.aload_n 2, 1) := by decide +kernel
theorem dL_law_972 : decode cL_law 972 = .ok (.aload_n 0, 1) := by decide +kernel
theorem dL_law_973 : decode cL_law 973 = .ok (.iload_n 3, 1) := by decide +kernel
theorem dL_law_974 : decode cL_law 974 = .ok (.iconst 1, 1) := by decide +kernel
theorem dL_law_975 : decode cL_law 975 = .ok (.iadd, 1) := by decide +kernel
theorem dL_law_976 : decode cL_law 976 = .ok (.iaload, 1) := by decide +kernel
theorem dL_law_977 : decode cL_law 977 = .ok (.invokevirtual 139, 3) := by decide +kernel
theorem dL_law_980 : decode cL_law 980 = .ok (.if_icmp .eq 88, 3) := by decide +kernel
theorem dL_law_983 : decode cL_law 983 = .ok (.iconst 0, 1) := by decide +kernel
theorem dL_law_984 : decode cL_law 984 = .ok (.ireturn, 1) := by decide +kernel
theorem dL_law_985 : decode cL_law 985 = .ok (.aload_n 1, 1) := by decide +kernel
theorem dL_law_986 : decode cL_law 986 = .ok (.aload_n 0, 1) := by decide +kernel
theorem dL_law_987 : decode cL_law 987 = .ok (.iload_n 3, 1) := by decide +kernel
theorem dL_law_988 : decode cL_law 988 = .ok (.iconst 1, 1) := by decide +kernel
theorem dL_law_989 : decode cL_law 989 = .ok (.iadd, 1) := by decide +kernel
theorem dL_law_990 : decode cL_law 990 = .ok (.iaload, 1) := by decide +kernel
theorem dL_law_991 : decode cL_law 991 = .ok (.invokevirtual 140, 3) := by decide +kernel
theorem dL_law_994 : decode cL_law 994 = .ok (.aload_n 2, 1) := by decide +kernel
theorem dL_law_995 : decode cL_law 995 = .ok (.aload_n 0, 1) := by decide +kernel
theorem dL_law_996 : decode cL_law 996 = .ok (.iload_n 3, 1) := by decide +kernel
theorem dL_law_997 : decode cL_law 997 = .ok (.iconst 1, 1) := by decide +kernel
theorem dL_law_998 : decode cL_law 998 = .ok (.iadd, 1) := by decide +kernel
theorem dL_law_999 : decode cL_law 999 = .ok (.iaload, 1) := by decide +kernel
theorem dL_law_1000 : decode cL_law 1000 = .ok (.invokevirtual 143, 3) := by decide +kernel
theorem dL_law_1003 : decode cL_law 1003 = .ok (.if_icmp .eq 65, 3) := by decide +kernel
theorem dL_law_1006 : decode cL_law 1006 = .ok (.iconst 0, 1) := by decide +kernel
theorem dL_law_1007 : decode cL_law 1007 = .ok (.ireturn, 1) := by decide +kernel
theorem dL_law_1008 : decode cL_law 1008 = .ok (.aload_n 1, 1) := by decide +kernel
theorem dL_law_1009 : decode cL_law 1009 = .ok (.aload_n 0, 1) := by decide +kernel
theorem dL_law_1010 : decode cL_law 1010 = .ok (.iload_n 3, 1) := by decide +kernel
theorem dL_law_1011 : decode cL_law 1011 = .ok (.iconst 1, 1) := by decide +kernel
theorem dL_law_1012 : decode cL_law 1012 = .ok (.iadd, 1) := by decide +kernel
theorem dL_law_1013 : decode cL_law 1013 = .ok (.iaload, 1) := by decide +kernel
theorem dL_law_1014 : decode cL_law 1014 = .ok (.invokevirtual 144, 3) := by decide +kernel
theorem dL_law_1017 : decode cL_law 1017 = .ok (.aload_n 2, 1) := by decide +kernel
theorem dL_law_1018 : decode cL_law 1018 = .ok (.aload_n 0, 1) := by decide +kernel
theorem dL_law_1019 : decode cL_law 1019 = .ok (.iload_n 3, 1) := by decide +kernel
theorem dL_law_1020 : decode cL_law 1020 = .ok (.iconst 1, 1) := by decide +kernel
theorem dL_law_1021 : decode cL_law 1021 = .ok (.iadd, 1) := by decide +kernel
theorem dL_law_1022 : decode cL_law 1022 = .ok (.iaload, 1) := by decide +kernel
theorem dL_law_1023 : decode cL_law 1023 = .ok (.invokevirtual 147, 3) := by decide +kernel
theorem dL_law_1026 : decode cL_law 1026 = .ok (.if_icmp .eq 42, 3) := by decide +kernel
theorem dL_law_1029 : decode cL_law 1029 = .ok (.iconst 0, 1) := by decide +kernel
theorem dL_law_1030 : decode cL_law 1030 = .ok (.ireturn, 1) := by decide +kernel
theorem dL_law_1031 : decode cL_law 1031 = .ok (.aload_n 1, 1) := by decide +kernel
theorem dL_law_1032 : decode cL_law 1032 = .ok (.aload_n 0, 1) := by decide +kernel
theorem dL_law_1033 : decode cL_law 1033 = .ok (.iload_n 3, 1) := by decide +kernel
theorem dL_law_1034 : decode cL_law 1034 = .ok (.iconst 1, 1) := by decide +kernel
theorem dL_law_1035 : decode cL_law 1035 = .ok (.iadd, 1) := by decide +kernel
theorem dL_law_1036 : decode cL_law 1036 = .ok (.iaload, 1) := by decide +kernel
theorem dL_law_1037 : decode cL_law 1037 = .ok (.invokevirtual 148, 3) := by decide +kernel
theorem dL_law_1040 : decode cL_law 1040 = .ok (.aload_n 2, 1) := by decide +kernel
theorem dL_law_1041 : decode cL_law 1041 = .ok (.aload_n 0, 1) := by decide +kernel
theorem dL_law_1042 : decode cL_law 1042 = .ok (.iload_n 3, 1) := by decide +kernel
theorem dL_law_1043 : decode cL_law 1043 = .ok (.iconst 1, 1) := by decide +kernel
theorem dL_law_1044 : decode cL_law 1044 = .ok (.iadd, 1) := by decide +kernel
theorem dL_law_1045 : decode cL_law 1045 = .ok (.iaload, 1) := by decide +kernel
theorem dL_law_1046 : decode cL_law 1046 = .ok (.invokevirtual 151, 3) := by decide +kernel
theorem dL_law_1049 : decode cL_law 1049 = .ok (.if_icmp .eq 19, 3) := by decide +kernel
theorem dL_law_1052 : decode cL_law 1052 = .ok (.iconst 0, 1) := by decide +kernel
theorem dL_law_1053 : decode cL_law 1053 = .ok (.ireturn, 1) := by decide +kernel
theorem dL_law_1054 : decode cL_law 1054 = .ok (.aload_n 1, 1) := by decide +kernel
theorem dL_law_1055 : decode cL_law 1055 = .ok (.invokevirtual 152, 3) := by decide +kernel
theorem dL_law_1058 : decode cL_law 1058 = .ok (.aload_n 2, 1) := by decide +kernel
theorem dL_law_1059 : decode cL_law 1059 = .ok (.invokevirtual 156, 3) := by decide +kernel
theorem dL_law_1062 : decode cL_law 1062 = .ok (.lcmp, 1) := by decide +kernel
theorem dL_law_1063 : decode cL_law 1063 = .ok (.ifCond .eq 5, 3) := by decide +kernel
theorem dL_law_1066 : decode cL_law 1066 = .ok (.iconst 0, 1) := by decide +kernel
theorem dL_law_1067 : decode cL_law 1067 = .ok (.ireturn, 1) := by decide +kernel
theorem dL_law_1068 : decode cL_law 1068 = .ok (.iinc 3 6, 3) := by decide +kernel
theorem dL_law_1071 : decode cL_law 1071 = .ok (.goto (-1053), 3) := by decide +kernel
theorem dL_law_1074 : decode cL_law 1074 = .ok (.iconst 1, 1) := by decide +kernel
theorem dL_law_1075 : decode cL_law 1075 = .ok (.ireturn, 1) := by decide +kernel
def P_L_law : Nat → Nat
  | 1 => 1068
  | _ => 18
set_option maxRecDepth 100000 in
set_option maxHeartbeats 8000000 in
theorem G_law {p : Program} {l : Launch} {e : Env} {s : State} {m : MethodId} {below : List Frame} {meth : Method} {c : Code} {cells slots : Nat} {D : va_G} {ids : zIds} {ad : Nat → Nat} {bb L : Nat} {xs : Nat → Int32} (C : zCx p room_1 s m #[Value.ref bb] c cells slots D ids ad (fun q : Nat => s.heap.size ≤ q) "EveryPewLaw" code 4) (SX : zSX ad (fun q : Nat => s.heap.size ≤ q) s bb L xs) (hr : meth.sig.returnType = ret) (hk : meth.locks = false) (hc : cells ≤ 600000) (hs : slots ≤ 7302250) (Y : Nat → zK) (hY : ∀ b ls st σ, Y b ls st σ → zW p l e room_1 s m #[Value.ref bb] below meth c cells slots (lw_Z below #[Value.ref bb] s) D ids ad (fun q : Nat => s.heap.size ≤ q) 4 (P_L_law b) ls st σ) : ∀ b, zGo p l e room_1 s m #[Value.ref bb] below meth c cells slots (lw_Z below #[Value.ref bb] s) D ids ad (fun q : Nat => s.heap.size ≤ q) 4 (P_L_law b) (F_L_law L xs Y b) := by
  intro b
  match b with
  | 0 => exact (z_iln (pc := 18) C dL_law_18 rfl <| z_aln (pc := 19) C dL_law_19 rfl <| z_sln (pc := 20) C SX dL_law_20 <| z_bi (pc := 21) C dL_law_21 (by decide +kernel) <| z_isub (pc := 23) C dL_law_23 <| z_cmpgt (tgt := 1074) (pc := 24) C dL_law_24 (by decide) (z_ic (pc := 1074) C dL_law_1074 (by decide +kernel) <| z_lw C.1 C.2.1 hr hk hc hs dL_law_1075) <| z_aln (pc := 27) C dL_law_27 rfl <| z_iln (pc := 28) C dL_law_28 rfl <| z_sld (pc := 29) C SX dL_law_29 <| z_bi (pc := 30) C dL_law_30 (by decide +kernel) <| z_iand (pc := 32) C dL_law_32 <| z_table (pc := 33) (tgts := [184, 207, 240, 303, 326, 339, 352, 385, 418, 431, 464, 507, 530, 553, 586, 609, 622, 645, 668, 681, 724, 737, 760, 773, 796, 819, 872, 905, 938, 962, 985, 1008, 1031, 1054]) (td := 1068) C dL_law_33 (keys := [0, 1, 2, 3, 4, 5, 6, 7, 8, 9, 10, 11, 12, 13, 14, 15, 16, 17, 18, 19, 20, 21, 22, 23, 24, 25, 26, 27, 28, 29, 30, 31, 32, 33]) rfl (by decide +kernel) rfl (by decide) (by decide +kernel) (by decide) (fun j q t h1 h2 => match j, q, t, h1, h2 with
  | 0, _, _, h1, h2 => by cases h1; cases h2; exact (z_aln (pc := 184) C dL_law_184 rfl <| z_aln (pc := 185) C dL_law_185 rfl <| z_iln (pc := 186) C dL_law_186 rfl <| z_ic (pc := 187) C dL_law_187 (by decide +kernel) <| z_iadd (pc := 188) C dL_law_188 <| z_sld (pc := 189) C SX dL_law_189 <| z_cVw (pc := 190) C dL_law_190 S_X11_church rfl (zl4 w_304 w_305 w_306 w_1) w_307 ds_X11_church (zrm rfl rfl (by decide) (by decide)) <| z_aln (pc := 193) C dL_law_193 rfl <| z_aln (pc := 194) C dL_law_194 rfl <| z_iln (pc := 195) C dL_law_195 rfl <| z_ic (pc := 196) C dL_law_196 (by decide +kernel) <| z_iadd (pc := 197) C dL_law_197 <| z_sld (pc := 198) C SX dL_law_198 <| z_cVw (pc := 199) C dL_law_199 S_X12_church rfl (zl4 w_917 w_918 w_919 w_13) w_920 ds_X12_church (zrm rfl rfl (by decide) (by decide)) <| z_cmpeq (tgt := 1068) (pc := 202) C dL_law_202 (by decide) (z_jmp (hY 1)) <| z_ic (pc := 205) C dL_law_205 (by decide +kernel) <| z_lw C.1 C.2.1 hr hk hc hs dL_law_206)
  | 1, _, _, h1, h2 => by cases h1; cases h2; exact (z_aln (pc := 207) C dL_law_207 rfl <| z_aln (pc := 208) C dL_law_208 rfl <| z_iln (pc := 209) C dL_law_209 rfl <| z_ic (pc := 210) C dL_law_210 (by decide +kernel) <| z_iadd (pc := 211) C dL_law_211 <| z_sld (pc := 212) C SX dL_law_212 <| z_aln (pc := 213) C dL_law_213 rfl <| z_iln (pc := 214) C dL_law_214 rfl <| z_ic (pc := 215) C dL_law_215 (by decide +kernel) <| z_iadd (pc := 216) C dL_law_216 <| z_sld (pc := 217) C SX dL_law_217 <| z_cVw (pc := 218) C dL_law_218 S_X11_book rfl (zl4 w_322 w_323 w_324 w_1) w_325 ds_X11_book (zrm rfl rfl (by decide) (by decide)) <| z_aln (pc := 221) C dL_law_221 rfl <| z_aln (pc := 222) C dL_law_222 rfl <| z_iln (pc := 223) C dL_law_223 rfl <| z_ic (pc := 224) C dL_law_224 (by decide +kernel) <| z_iadd (pc := 225) C dL_law_225 <| z_sld (pc := 226) C SX dL_law_226 <| z_aln (pc := 227) C dL_law_227 rfl <| z_iln (pc := 228) C dL_law_228 rfl <| z_ic (pc := 229) C dL_law_229 (by decide +kernel) <| z_iadd (pc := 230) C dL_law_230 <| z_sld (pc := 231) C SX dL_law_231 <| z_cVw (pc := 232) C dL_law_232 S_X12_book rfl (zl4 w_933 w_934 w_935 w_13) w_936 ds_X12_book (zrm rfl rfl (by decide) (by decide)) <| z_cmpeq (tgt := 1068) (pc := 235) C dL_law_235 (by decide) (z_jmp (hY 1)) <| z_ic (pc := 238) C dL_law_238 (by decide +kernel) <| z_lw C.1 C.2.1 hr hk hc hs dL_law_239)
  | 2, _, _, h1, h2 => by cases h1; cases h2; exact (z_aln (pc := 240) C dL_law_240 rfl <| z_aln (pc := 241) C dL_law_241 rfl <| z_iln (pc := 242) C dL_law_242 rfl <| z_ic (pc := 243) C dL_law_243 (by decide +kernel) <| z_iadd (pc := 244) C dL_law_244 <| z_sld (pc := 245) C SX dL_law_245 <| z_aln (pc := 246) C dL_law_246 rfl <| z_iln (pc := 247) C dL_law_247 rfl <| z_ic (pc := 248) C dL_law_248 (by decide +kernel) <| z_iadd (pc := 249) C dL_law_249 <| z_sld (pc := 250) C SX dL_law_250 <| z_aln (pc := 251) C dL_law_251 rfl <| z_iln (pc := 252) C dL_law_252 rfl <| z_ic (pc := 253) C dL_law_253 (by decide +kernel) <| z_iadd (pc := 254) C dL_law_254 <| z_sld (pc := 255) C SX dL_law_255 <| z_aln (pc := 256) C dL_law_256 rfl <| z_iln (pc := 257) C dL_law_257 rfl <| z_ic (pc := 258) C dL_law_258 (by decide +kernel) <| z_iadd (pc := 259) C dL_law_259 <| z_sld (pc := 260) C SX dL_law_260 <| z_aln (pc := 261) C dL_law_261 rfl <| z_iln (pc := 262) C dL_law_262 rfl <| z_ic (pc := 263) C dL_law_263 (by decide +kernel) <| z_iadd (pc := 264) C dL_law_264 <| z_sld (pc := 265) C SX dL_law_265 <| z_cVw (pc := 266) C dL_law_266 S_X11_family rfl (zl4 w_330 w_331 w_332 w_1) w_333 ds_X11_family (zrm rfl rfl (by decide) (by decide)) <| z_aln (pc := 269) C dL_law_269 rfl <| z_aln (pc := 270) C dL_law_270 rfl <| z_iln (pc := 271) C dL_law_271 rfl <| z_ic (pc := 272) C dL_law_272 (by decide +kernel) <| z_iadd (pc := 273) C dL_law_273 <| z_sld (pc := 274) C SX dL_law_274 <| z_aln (pc := 275) C dL_law_275 rfl <| z_iln (pc := 276) C dL_law_276 rfl <| z_ic (pc := 277) C dL_law_277 (by decide +kernel) <| z_iadd (pc := 278) C dL_law_278 <| z_sld (pc := 279) C SX dL_law_279 <| z_aln (pc := 280) C dL_law_280 rfl <| z_iln (pc := 281) C dL_law_281 rfl <| z_ic (pc := 282) C dL_law_282 (by decide +kernel) <| z_iadd (pc := 283) C dL_law_283 <| z_sld (pc := 284) C SX dL_law_284 <| z_aln (pc := 285) C dL_law_285 rfl <| z_iln (pc := 286) C dL_law_286 rfl <| z_ic (pc := 287) C dL_law_287 (by decide +kernel) <| z_iadd (pc := 288) C dL_law_288 <| z_sld (pc := 289) C SX dL_law_289 <| z_aln (pc := 290) C dL_law_290 rfl <| z_iln (pc := 291) C dL_law_291 rfl <| z_ic (pc := 292) C dL_law_292 (by decide +kernel) <| z_iadd (pc := 293) C dL_law_293 <| z_sld (pc := 294) C SX dL_law_294 <| z_cVw (pc := 295) C dL_law_295 S_X12_family rfl (zl4 w_941 w_942 w_943 w_13) w_944 ds_X12_family (zrm rfl rfl (by decide) (by decide)) <| z_cmpeq (tgt := 1068) (pc := 298) C dL_law_298 (by decide) (z_jmp (hY 1)) <| z_ic (pc := 301) C dL_law_301 (by decide +kernel) <| z_lw C.1 C.2.1 hr hk hc hs dL_law_302)
  | 3, _, _, h1, h2 => by cases h1; cases h2; exact (z_aln (pc := 303) C dL_law_303 rfl <| z_aln (pc := 304) C dL_law_304 rfl <| z_iln (pc := 305) C dL_law_305 rfl <| z_ic (pc := 306) C dL_law_306 (by decide +kernel) <| z_iadd (pc := 307) C dL_law_307 <| z_sld (pc := 308) C SX dL_law_308 <| z_cVw (pc := 309) C dL_law_309 S_X11_type rfl (zl4 w_345 w_346 w_347 w_1) w_348 ds_X11_type (zrm rfl rfl (by decide) (by decide)) <| z_aln (pc := 312) C dL_law_312 rfl <| z_aln (pc := 313) C dL_law_313 rfl <| z_iln (pc := 314) C dL_law_314 rfl <| z_ic (pc := 315) C dL_law_315 (by decide +kernel) <| z_iadd (pc := 316) C dL_law_316 <| z_sld (pc := 317) C SX dL_law_317 <| z_cVw (pc := 318) C dL_law_318 S_X12_type rfl (zl4 w_1154 w_1155 w_1156 w_13) w_1157 ds_X12_type (zrm rfl rfl (by decide) (by decide)) <| z_cmpeq (tgt := 1068) (pc := 321) C dL_law_321 (by decide) (z_jmp (hY 1)) <| z_ic (pc := 324) C dL_law_324 (by decide +kernel) <| z_lw C.1 C.2.1 hr hk hc hs dL_law_325)
  | 4, _, _, h1, h2 => by cases h1; cases h2; exact (z_aln (pc := 326) C dL_law_326 rfl <| z_cVw (pc := 327) C dL_law_327 S_X11_clear rfl (zl4 w_353 w_354 w_355 w_1) w_356 ds_X11_clear (zrm rfl rfl (by decide) (by decide)) <| z_aln (pc := 330) C dL_law_330 rfl <| z_cVw (pc := 331) C dL_law_331 S_X12_clear rfl (zl4 w_1159 w_1160 w_1161 w_13) w_1162 ds_X12_clear (zrm rfl rfl (by decide) (by decide)) <| z_cmpeq (tgt := 1068) (pc := 334) C dL_law_334 (by decide) (z_jmp (hY 1)) <| z_ic (pc := 337) C dL_law_337 (by decide +kernel) <| z_lw C.1 C.2.1 hr hk hc hs dL_law_338)
  | 5, _, _, h1, h2 => by cases h1; cases h2; exact (z_aln (pc := 339) C dL_law_339 rfl <| z_cVw (pc := 340) C dL_law_340 S_X11_read rfl (zl4 w_357 w_358 w_359 w_1) w_360 ds_X11_read (zrm rfl rfl (by decide) (by decide)) <| z_aln (pc := 343) C dL_law_343 rfl <| z_cVw (pc := 344) C dL_law_344 S_X12_read rfl (zl4 w_1163 w_1164 w_1165 w_13) w_1166 ds_X12_read (zrm rfl rfl (by decide) (by decide)) <| z_cmpeq (tgt := 1068) (pc := 347) C dL_law_347 (by decide) (z_jmp (hY 1)) <| z_ic (pc := 350) C dL_law_350 (by decide +kernel) <| z_lw C.1 C.2.1 hr hk hc hs dL_law_351)
  | 6, _, _, h1, h2 => by cases h1; cases h2; exact (z_aln (pc := 352) C dL_law_352 rfl <| z_aln (pc := 353) C dL_law_353 rfl <| z_iln (pc := 354) C dL_law_354 rfl <| z_ic (pc := 355) C dL_law_355 (by decide +kernel) <| z_iadd (pc := 356) C dL_law_356 <| z_sld (pc := 357) C SX dL_law_357 <| z_aln (pc := 358) C dL_law_358 rfl <| z_iln (pc := 359) C dL_law_359 rfl <| z_ic (pc := 360) C dL_law_360 (by decide +kernel) <| z_iadd (pc := 361) C dL_law_361 <| z_sld (pc := 362) C SX dL_law_362 <| z_cVw (pc := 363) C dL_law_363 S_X11_move rfl (zl4 w_479 w_480 w_481 w_1) w_482 ds_X11_move (zrm rfl rfl (by decide) (by decide)) <| z_aln (pc := 366) C dL_law_366 rfl <| z_aln (pc := 367) C dL_law_367 rfl <| z_iln (pc := 368) C dL_law_368 rfl <| z_ic (pc := 369) C dL_law_369 (by decide +kernel) <| z_iadd (pc := 370) C dL_law_370 <| z_sld (pc := 371) C SX dL_law_371 <| z_aln (pc := 372) C dL_law_372 rfl <| z_iln (pc := 373) C dL_law_373 rfl <| z_ic (pc := 374) C dL_law_374 (by decide +kernel) <| z_iadd (pc := 375) C dL_law_375 <| z_sld (pc := 376) C SX dL_law_376 <| z_cVw (pc := 377) C dL_law_377 S_X12_move rfl (zl4 w_965 w_966 w_967 w_13) w_968 ds_X12_move (zrm rfl rfl (by decide) (by decide)) <| z_cmpeq (tgt := 1068) (pc := 380) C dL_law_380 (by decide) (z_jmp (hY 1)) <| z_ic (pc := 383) C dL_law_383 (by decide +kernel) <| z_lw C.1 C.2.1 hr hk hc hs dL_law_384)
  | 7, _, _, h1, h2 => by cases h1; cases h2; exact (z_aln (pc := 385) C dL_law_385 rfl <| z_aln (pc := 386) C dL_law_386 rfl <| z_iln (pc := 387) C dL_law_387 rfl <| z_ic (pc := 388) C dL_law_388 (by decide +kernel) <| z_iadd (pc := 389) C dL_law_389 <| z_sld (pc := 390) C SX dL_law_390 <| z_aln (pc := 391) C dL_law_391 rfl <| z_iln (pc := 392) C dL_law_392 rfl <| z_ic (pc := 393) C dL_law_393 (by decide +kernel) <| z_iadd (pc := 394) C dL_law_394 <| z_sld (pc := 395) C SX dL_law_395 <| z_cVw (pc := 396) C dL_law_396 S_X11_cold rfl (zl4 w_491 w_492 w_493 w_1) w_494 ds_X11_cold (zrm rfl rfl (by decide) (by decide)) <| z_aln (pc := 399) C dL_law_399 rfl <| z_aln (pc := 400) C dL_law_400 rfl <| z_iln (pc := 401) C dL_law_401 rfl <| z_ic (pc := 402) C dL_law_402 (by decide +kernel) <| z_iadd (pc := 403) C dL_law_403 <| z_sld (pc := 404) C SX dL_law_404 <| z_aln (pc := 405) C dL_law_405 rfl <| z_iln (pc := 406) C dL_law_406 rfl <| z_ic (pc := 407) C dL_law_407 (by decide +kernel) <| z_iadd (pc := 408) C dL_law_408 <| z_sld (pc := 409) C SX dL_law_409 <| z_cVw (pc := 410) C dL_law_410 S_X12_cold rfl (zl4 w_981 w_982 w_983 w_13) w_984 ds_X12_cold (zrm rfl rfl (by decide) (by decide)) <| z_cmpeq (tgt := 1068) (pc := 413) C dL_law_413 (by decide) (z_jmp (hY 1)) <| z_ic (pc := 416) C dL_law_416 (by decide +kernel) <| z_lw C.1 C.2.1 hr hk hc hs dL_law_417)
  | 8, _, _, h1, h2 => by cases h1; cases h2; exact (z_aln (pc := 418) C dL_law_418 rfl <| z_cVw (pc := 419) C dL_law_419 S_X11_undo rfl (zl4 w_498 w_499 w_500 w_1) w_501 ds_X11_undo (zrm rfl rfl (by decide) (by decide)) <| z_aln (pc := 422) C dL_law_422 rfl <| z_cVw (pc := 423) C dL_law_423 S_X12_undo rfl (zl4 w_985 w_986 w_987 w_13) w_988 ds_X12_undo (zrm rfl rfl (by decide) (by decide)) <| z_cmpeq (tgt := 1068) (pc := 426) C dL_law_426 (by decide) (z_jmp (hY 1)) <| z_ic (pc := 429) C dL_law_429 (by decide +kernel) <| z_lw C.1 C.2.1 hr hk hc hs dL_law_430)
  | 9, _, _, h1, h2 => by cases h1; cases h2; exact (z_aln (pc := 431) C dL_law_431 rfl <| z_aln (pc := 432) C dL_law_432 rfl <| z_iln (pc := 433) C dL_law_433 rfl <| z_ic (pc := 434) C dL_law_434 (by decide +kernel) <| z_iadd (pc := 435) C dL_law_435 <| z_sld (pc := 436) C SX dL_law_436 <| z_aln (pc := 437) C dL_law_437 rfl <| z_iln (pc := 438) C dL_law_438 rfl <| z_ic (pc := 439) C dL_law_439 (by decide +kernel) <| z_iadd (pc := 440) C dL_law_440 <| z_sld (pc := 441) C SX dL_law_441 <| z_cVw (pc := 442) C dL_law_442 S_X11_of rfl (zl4 w_512 w_513 w_514 w_1) w_515 ds_X11_of (zrm rfl rfl (by decide) (by decide)) <| z_aln (pc := 445) C dL_law_445 rfl <| z_aln (pc := 446) C dL_law_446 rfl <| z_iln (pc := 447) C dL_law_447 rfl <| z_ic (pc := 448) C dL_law_448 (by decide +kernel) <| z_iadd (pc := 449) C dL_law_449 <| z_sld (pc := 450) C SX dL_law_450 <| z_aln (pc := 451) C dL_law_451 rfl <| z_iln (pc := 452) C dL_law_452 rfl <| z_ic (pc := 453) C dL_law_453 (by decide +kernel) <| z_iadd (pc := 454) C dL_law_454 <| z_sld (pc := 455) C SX dL_law_455 <| z_cVw (pc := 456) C dL_law_456 S_X12_of rfl (zl4 w_993 w_994 w_995 w_13) w_996 ds_X12_of (zrm rfl rfl (by decide) (by decide)) <| z_cmpeq (tgt := 1068) (pc := 459) C dL_law_459 (by decide) (z_jmp (hY 1)) <| z_ic (pc := 462) C dL_law_462 (by decide +kernel) <| z_lw C.1 C.2.1 hr hk hc hs dL_law_463)
  | 10, _, _, h1, h2 => by cases h1; cases h2; exact (z_aln (pc := 464) C dL_law_464 rfl <| z_aln (pc := 465) C dL_law_465 rfl <| z_iln (pc := 466) C dL_law_466 rfl <| z_ic (pc := 467) C dL_law_467 (by decide +kernel) <| z_iadd (pc := 468) C dL_law_468 <| z_sld (pc := 469) C SX dL_law_469 <| z_aln (pc := 470) C dL_law_470 rfl <| z_iln (pc := 471) C dL_law_471 rfl <| z_ic (pc := 472) C dL_law_472 (by decide +kernel) <| z_iadd (pc := 473) C dL_law_473 <| z_sld (pc := 474) C SX dL_law_474 <| z_aln (pc := 475) C dL_law_475 rfl <| z_iln (pc := 476) C dL_law_476 rfl <| z_ic (pc := 477) C dL_law_477 (by decide +kernel) <| z_iadd (pc := 478) C dL_law_478 <| z_sld (pc := 479) C SX dL_law_479 <| z_cVw (pc := 480) C dL_law_480 S_X11_at rfl (zl4 w_521 w_522 w_523 w_1) w_524 ds_X11_at (zrm rfl rfl (by decide) (by decide)) <| z_aln (pc := 483) C dL_law_483 rfl <| z_aln (pc := 484) C dL_law_484 rfl <| z_iln (pc := 485) C dL_law_485 rfl <| z_ic (pc := 486) C dL_law_486 (by decide +kernel) <| z_iadd (pc := 487) C dL_law_487 <| z_sld (pc := 488) C SX dL_law_488 <| z_aln (pc := 489) C dL_law_489 rfl <| z_iln (pc := 490) C dL_law_490 rfl <| z_ic (pc := 491) C dL_law_491 (by decide +kernel) <| z_iadd (pc := 492) C dL_law_492 <| z_sld (pc := 493) C SX dL_law_493 <| z_aln (pc := 494) C dL_law_494 rfl <| z_iln (pc := 495) C dL_law_495 rfl <| z_ic (pc := 496) C dL_law_496 (by decide +kernel) <| z_iadd (pc := 497) C dL_law_497 <| z_sld (pc := 498) C SX dL_law_498 <| z_cVw (pc := 499) C dL_law_499 S_X12_at rfl (zl4 w_997 w_998 w_999 w_13) w_1000 ds_X12_at (zrm rfl rfl (by decide) (by decide)) <| z_cmpeq (tgt := 1068) (pc := 502) C dL_law_502 (by decide) (z_jmp (hY 1)) <| z_ic (pc := 505) C dL_law_505 (by decide +kernel) <| z_lw C.1 C.2.1 hr hk hc hs dL_law_506)
  | 11, _, _, h1, h2 => by cases h1; cases h2; exact (z_aln (pc := 507) C dL_law_507 rfl <| z_aln (pc := 508) C dL_law_508 rfl <| z_iln (pc := 509) C dL_law_509 rfl <| z_ic (pc := 510) C dL_law_510 (by decide +kernel) <| z_iadd (pc := 511) C dL_law_511 <| z_sld (pc := 512) C SX dL_law_512 <| z_cVw (pc := 513) C dL_law_513 S_X11_up rfl (zl4 w_611 w_612 w_613 w_1) w_614 ds_X11_up (zrm rfl rfl (by decide) (by decide)) <| z_aln (pc := 516) C dL_law_516 rfl <| z_aln (pc := 517) C dL_law_517 rfl <| z_iln (pc := 518) C dL_law_518 rfl <| z_ic (pc := 519) C dL_law_519 (by decide +kernel) <| z_iadd (pc := 520) C dL_law_520 <| z_sld (pc := 521) C SX dL_law_521 <| z_cVw (pc := 522) C dL_law_522 S_X12_up rfl (zl4 w_1029 w_1030 w_1031 w_13) w_1032 ds_X12_up (zrm rfl rfl (by decide) (by decide)) <| z_cmpeq (tgt := 1068) (pc := 525) C dL_law_525 (by decide) (z_jmp (hY 1)) <| z_ic (pc := 528) C dL_law_528 (by decide +kernel) <| z_lw C.1 C.2.1 hr hk hc hs dL_law_529)
  | 12, _, _, h1, h2 => by cases h1; cases h2; exact (z_aln (pc := 530) C dL_law_530 rfl <| z_aln (pc := 531) C dL_law_531 rfl <| z_iln (pc := 532) C dL_law_532 rfl <| z_ic (pc := 533) C dL_law_533 (by decide +kernel) <| z_iadd (pc := 534) C dL_law_534 <| z_sld (pc := 535) C SX dL_law_535 <| z_cVw (pc := 536) C dL_law_536 S_X11_seers rfl (zl4 w_615 w_616 w_617 w_1) w_618 ds_X11_seers (zrm rfl rfl (by decide) (by decide)) <| z_aln (pc := 539) C dL_law_539 rfl <| z_aln (pc := 540) C dL_law_540 rfl <| z_iln (pc := 541) C dL_law_541 rfl <| z_ic (pc := 542) C dL_law_542 (by decide +kernel) <| z_iadd (pc := 543) C dL_law_543 <| z_sld (pc := 544) C SX dL_law_544 <| z_cVw (pc := 545) C dL_law_545 S_X12_seers rfl (zl4 w_1033 w_1034 w_1035 w_13) w_1036 ds_X12_seers (zrm rfl rfl (by decide) (by decide)) <| z_cmpeq (tgt := 1068) (pc := 548) C dL_law_548 (by decide) (z_jmp (hY 1)) <| z_ic (pc := 551) C dL_law_551 (by decide +kernel) <| z_lw C.1 C.2.1 hr hk hc hs dL_law_552)
  | 13, _, _, h1, h2 => by cases h1; cases h2; exact (z_aln (pc := 553) C dL_law_553 rfl <| z_aln (pc := 554) C dL_law_554 rfl <| z_iln (pc := 555) C dL_law_555 rfl <| z_ic (pc := 556) C dL_law_556 (by decide +kernel) <| z_iadd (pc := 557) C dL_law_557 <| z_sld (pc := 558) C SX dL_law_558 <| z_aln (pc := 559) C dL_law_559 rfl <| z_iln (pc := 560) C dL_law_560 rfl <| z_ic (pc := 561) C dL_law_561 (by decide +kernel) <| z_iadd (pc := 562) C dL_law_562 <| z_sld (pc := 563) C SX dL_law_563 <| z_cVw (pc := 564) C dL_law_564 S_X11_loud rfl (zl4 w_619 w_620 w_621 w_1) w_622 ds_X11_loud (zrm rfl rfl (by decide) (by decide)) <| z_aln (pc := 567) C dL_law_567 rfl <| z_aln (pc := 568) C dL_law_568 rfl <| z_iln (pc := 569) C dL_law_569 rfl <| z_ic (pc := 570) C dL_law_570 (by decide +kernel) <| z_iadd (pc := 571) C dL_law_571 <| z_sld (pc := 572) C SX dL_law_572 <| z_aln (pc := 573) C dL_law_573 rfl <| z_iln (pc := 574) C dL_law_574 rfl <| z_ic (pc := 575) C dL_law_575 (by decide +kernel) <| z_iadd (pc := 576) C dL_law_576 <| z_sld (pc := 577) C SX dL_law_577 <| z_cVw (pc := 578) C dL_law_578 S_X12_loud rfl (zl4 w_1037 w_1038 w_1039 w_13) w_1040 ds_X12_loud (zrm rfl rfl (by decide) (by decide)) <| z_cmpeq (tgt := 1068) (pc := 581) C dL_law_581 (by decide) (z_jmp (hY 1)) <| z_ic (pc := 584) C dL_law_584 (by decide +kernel) <| z_lw C.1 C.2.1 hr hk hc hs dL_law_585)
  | 14, _, _, h1, h2 => by cases h1; cases h2; exact (z_aln (pc := 586) C dL_law_586 rfl <| z_aln (pc := 587) C dL_law_587 rfl <| z_iln (pc := 588) C dL_law_588 rfl <| z_ic (pc := 589) C dL_law_589 (by decide +kernel) <| z_iadd (pc := 590) C dL_law_590 <| z_sld (pc := 591) C SX dL_law_591 <| z_cVw (pc := 592) C dL_law_592 S_X11_breach rfl (zl4 w_631 w_632 w_633 w_1) w_634 ds_X11_breach (zrm rfl rfl (by decide) (by decide)) <| z_aln (pc := 595) C dL_law_595 rfl <| z_aln (pc := 596) C dL_law_596 rfl <| z_iln (pc := 597) C dL_law_597 rfl <| z_ic (pc := 598) C dL_law_598 (by decide +kernel) <| z_iadd (pc := 599) C dL_law_599 <| z_sld (pc := 600) C SX dL_law_600 <| z_cVw (pc := 601) C dL_law_601 S_X12_breach rfl (zl4 w_1045 w_1046 w_1047 w_13) w_1048 ds_X12_breach (zrm rfl rfl (by decide) (by decide)) <| z_cmpeq (tgt := 1068) (pc := 604) C dL_law_604 (by decide) (z_jmp (hY 1)) <| z_ic (pc := 607) C dL_law_607 (by decide +kernel) <| z_lw C.1 C.2.1 hr hk hc hs dL_law_608)
  | 15, _, _, h1, h2 => by cases h1; cases h2; exact (z_aln (pc := 609) C dL_law_609 rfl <| z_cVw (pc := 610) C dL_law_610 S_X11_canNot rfl (zl4 w_646 w_647 w_648 w_1) w_649 ds_X11_canNot (zrm rfl rfl (by decide) (by decide)) <| z_aln (pc := 613) C dL_law_613 rfl <| z_cVw (pc := 614) C dL_law_614 S_X12_canNot rfl (zl4 w_1053 w_1054 w_1055 w_13) w_1056 ds_X12_canNot (zrm rfl rfl (by decide) (by decide)) <| z_cmpeq (tgt := 1068) (pc := 617) C dL_law_617 (by decide) (z_jmp (hY 1)) <| z_ic (pc := 620) C dL_law_620 (by decide +kernel) <| z_lw C.1 C.2.1 hr hk hc hs dL_law_621)
  | 16, _, _, h1, h2 => by cases h1; cases h2; exact (z_aln (pc := 622) C dL_law_622 rfl <| z_aln (pc := 623) C dL_law_623 rfl <| z_iln (pc := 624) C dL_law_624 rfl <| z_ic (pc := 625) C dL_law_625 (by decide +kernel) <| z_iadd (pc := 626) C dL_law_626 <| z_sld (pc := 627) C SX dL_law_627 <| z_cVw (pc := 628) C dL_law_628 S_X11_seats rfl (zl4 w_650 w_651 w_652 w_1) w_653 ds_X11_seats (zrm rfl rfl (by decide) (by decide)) <| z_aln (pc := 631) C dL_law_631 rfl <| z_aln (pc := 632) C dL_law_632 rfl <| z_iln (pc := 633) C dL_law_633 rfl <| z_ic (pc := 634) C dL_law_634 (by decide +kernel) <| z_iadd (pc := 635) C dL_law_635 <| z_sld (pc := 636) C SX dL_law_636 <| z_cVw (pc := 637) C dL_law_637 S_X12_seats rfl (zl4 w_1057 w_1058 w_1059 w_13) w_1060 ds_X12_seats (zrm rfl rfl (by decide) (by decide)) <| z_cmpeq (tgt := 1068) (pc := 640) C dL_law_640 (by decide) (z_jmp (hY 1)) <| z_ic (pc := 643) C dL_law_643 (by decide +kernel) <| z_lw C.1 C.2.1 hr hk hc hs dL_law_644)
  | 17, _, _, h1, h2 => by cases h1; cases h2; exact (z_aln (pc := 645) C dL_law_645 rfl <| z_aln (pc := 646) C dL_law_646 rfl <| z_iln (pc := 647) C dL_law_647 rfl <| z_ic (pc := 648) C dL_law_648 (by decide +kernel) <| z_iadd (pc := 649) C dL_law_649 <| z_sld (pc := 650) C SX dL_law_650 <| z_cVw (pc := 651) C dL_law_651 S_X11_change rfl (zl4 w_687 w_688 w_689 w_1) w_690 ds_X11_change (zrm rfl rfl (by decide) (by decide)) <| z_aln (pc := 654) C dL_law_654 rfl <| z_aln (pc := 655) C dL_law_655 rfl <| z_iln (pc := 656) C dL_law_656 rfl <| z_ic (pc := 657) C dL_law_657 (by decide +kernel) <| z_iadd (pc := 658) C dL_law_658 <| z_sld (pc := 659) C SX dL_law_659 <| z_cVw (pc := 660) C dL_law_660 S_X12_change rfl (zl4 w_1074 w_1075 w_1076 w_13) w_1077 ds_X12_change (zrm rfl rfl (by decide) (by decide)) <| z_cmpeq (tgt := 1068) (pc := 663) C dL_law_663 (by decide) (z_jmp (hY 1)) <| z_ic (pc := 666) C dL_law_666 (by decide +kernel) <| z_lw C.1 C.2.1 hr hk hc hs dL_law_667)
  | 18, _, _, h1, h2 => by cases h1; cases h2; exact (z_aln (pc := 668) C dL_law_668 rfl <| z_cVw (pc := 669) C dL_law_669 S_X11_still rfl (zl4 w_696 w_697 w_698 w_1) w_699 ds_X11_still (zrm rfl rfl (by decide) (by decide)) <| z_aln (pc := 672) C dL_law_672 rfl <| z_cVw (pc := 673) C dL_law_673 S_X12_still rfl (zl4 w_1082 w_1083 w_1084 w_13) w_1085 ds_X12_still (zrm rfl rfl (by decide) (by decide)) <| z_cmpeq (tgt := 1068) (pc := 676) C dL_law_676 (by decide) (z_jmp (hY 1)) <| z_ic (pc := 679) C dL_law_679 (by decide +kernel) <| z_lw C.1 C.2.1 hr hk hc hs dL_law_680)
  | 19, _, _, h1, h2 => by cases h1; cases h2; exact (z_aln (pc := 681) C dL_law_681 rfl <| z_aln (pc := 682) C dL_law_682 rfl <| z_iln (pc := 683) C dL_law_683 rfl <| z_ic (pc := 684) C dL_law_684 (by decide +kernel) <| z_iadd (pc := 685) C dL_law_685 <| z_sld (pc := 686) C SX dL_law_686 <| z_aln (pc := 687) C dL_law_687 rfl <| z_iln (pc := 688) C dL_law_688 rfl <| z_ic (pc := 689) C dL_law_689 (by decide +kernel) <| z_iadd (pc := 690) C dL_law_690 <| z_sld (pc := 691) C SX dL_law_691 <| z_aln (pc := 692) C dL_law_692 rfl <| z_iln (pc := 693) C dL_law_693 rfl <| z_ic (pc := 694) C dL_law_694 (by decide +kernel) <| z_iadd (pc := 695) C dL_law_695 <| z_sld (pc := 696) C SX dL_law_696 <| z_cVw (pc := 697) C dL_law_697 S_X11_heard rfl (zl4 w_708 w_709 w_710 w_1) w_711 ds_X11_heard (zrm rfl rfl (by decide) (by decide)) <| z_aln (pc := 700) C dL_law_700 rfl <| z_aln (pc := 701) C dL_law_701 rfl <| z_iln (pc := 702) C dL_law_702 rfl <| z_ic (pc := 703) C dL_law_703 (by decide +kernel) <| z_iadd (pc := 704) C dL_law_704 <| z_sld (pc := 705) C SX dL_law_705 <| z_aln (pc := 706) C dL_law_706 rfl <| z_iln (pc := 707) C dL_law_707 rfl <| z_ic (pc := 708) C dL_law_708 (by decide +kernel) <| z_iadd (pc := 709) C dL_law_709 <| z_sld (pc := 710) C SX dL_law_710 <| z_aln (pc := 711) C dL_law_711 rfl <| z_iln (pc := 712) C dL_law_712 rfl <| z_ic (pc := 713) C dL_law_713 (by decide +kernel) <| z_iadd (pc := 714) C dL_law_714 <| z_sld (pc := 715) C SX dL_law_715 <| z_cVw (pc := 716) C dL_law_716 S_X12_heard rfl (zl4 w_1089 w_1090 w_1091 w_13) w_1092 ds_X12_heard (zrm rfl rfl (by decide) (by decide)) <| z_cmpeq (tgt := 1068) (pc := 719) C dL_law_719 (by decide) (z_jmp (hY 1)) <| z_ic (pc := 722) C dL_law_722 (by decide +kernel) <| z_lw C.1 C.2.1 hr hk hc hs dL_law_723)
  | 20, _, _, h1, h2 => by cases h1; cases h2; exact (z_aln (pc := 724) C dL_law_724 rfl <| z_cVw (pc := 725) C dL_law_725 S_X11_forget rfl (zl4 w_716 w_717 w_718 w_1) w_719 ds_X11_forget (zrm rfl rfl (by decide) (by decide)) <| z_aln (pc := 728) C dL_law_728 rfl <| z_cVw (pc := 729) C dL_law_729 S_X12_forget rfl (zl4 w_1094 w_1095 w_1096 w_13) w_1097 ds_X12_forget (zrm rfl rfl (by decide) (by decide)) <| z_cmpeq (tgt := 1068) (pc := 732) C dL_law_732 (by decide) (z_jmp (hY 1)) <| z_ic (pc := 735) C dL_law_735 (by decide +kernel) <| z_lw C.1 C.2.1 hr hk hc hs dL_law_736)
  | 21, _, _, h1, h2 => by cases h1; cases h2; exact (z_aln (pc := 737) C dL_law_737 rfl <| z_aln (pc := 738) C dL_law_738 rfl <| z_iln (pc := 739) C dL_law_739 rfl <| z_ic (pc := 740) C dL_law_740 (by decide +kernel) <| z_iadd (pc := 741) C dL_law_741 <| z_sld (pc := 742) C SX dL_law_742 <| z_cVw (pc := 743) C dL_law_743 S_X11_coughed rfl (zl4 w_720 w_721 w_722 w_1) w_723 ds_X11_coughed (zrm rfl rfl (by decide) (by decide)) <| z_aln (pc := 746) C dL_law_746 rfl <| z_aln (pc := 747) C dL_law_747 rfl <| z_iln (pc := 748) C dL_law_748 rfl <| z_ic (pc := 749) C dL_law_749 (by decide +kernel) <| z_iadd (pc := 750) C dL_law_750 <| z_sld (pc := 751) C SX dL_law_751 <| z_cVw (pc := 752) C dL_law_752 S_X12_coughed rfl (zl4 w_1098 w_1099 w_1100 w_13) w_1101 ds_X12_coughed (zrm rfl rfl (by decide) (by decide)) <| z_cmpeq (tgt := 1068) (pc := 755) C dL_law_755 (by decide) (z_jmp (hY 1)) <| z_ic (pc := 758) C dL_law_758 (by decide +kernel) <| z_lw C.1 C.2.1 hr hk hc hs dL_law_759)
  | 22, _, _, h1, h2 => by cases h1; cases h2; exact (z_aln (pc := 760) C dL_law_760 rfl <| z_cVw (pc := 761) C dL_law_761 S_X11_next rfl (zl4 w_734 w_735 w_736 w_1) w_737 ds_X11_next (zrm rfl rfl (by decide) (by decide)) <| z_aln (pc := 764) C dL_law_764 rfl <| z_cVw (pc := 765) C dL_law_765 S_X12_next rfl (zl4 w_1111 w_1112 w_1113 w_13) w_1114 ds_X12_next (zrm rfl rfl (by decide) (by decide)) <| z_cmpeq (tgt := 1068) (pc := 768) C dL_law_768 (by decide) (z_jmp (hY 1)) <| z_ic (pc := 771) C dL_law_771 (by decide +kernel) <| z_lw C.1 C.2.1 hr hk hc hs dL_law_772)
  | 23, _, _, h1, h2 => by cases h1; cases h2; exact (z_aln (pc := 773) C dL_law_773 rfl <| z_aln (pc := 774) C dL_law_774 rfl <| z_iln (pc := 775) C dL_law_775 rfl <| z_ic (pc := 776) C dL_law_776 (by decide +kernel) <| z_iadd (pc := 777) C dL_law_777 <| z_sld (pc := 778) C SX dL_law_778 <| z_cVw (pc := 779) C dL_law_779 S_X11_is rfl (zl4 w_752 w_753 w_754 w_1) w_755 ds_X11_is (zrm rfl rfl (by decide) (by decide)) <| z_aln (pc := 782) C dL_law_782 rfl <| z_aln (pc := 783) C dL_law_783 rfl <| z_iln (pc := 784) C dL_law_784 rfl <| z_ic (pc := 785) C dL_law_785 (by decide +kernel) <| z_iadd (pc := 786) C dL_law_786 <| z_sld (pc := 787) C SX dL_law_787 <| z_cVw (pc := 788) C dL_law_788 S_X12_is rfl (zl4 w_1116 w_1117 w_1118 w_13) w_1119 ds_X12_is (zrm rfl rfl (by decide) (by decide)) <| z_cmpeq (tgt := 1068) (pc := 791) C dL_law_791 (by decide) (z_jmp (hY 1)) <| z_ic (pc := 794) C dL_law_794 (by decide +kernel) <| z_lw C.1 C.2.1 hr hk hc hs dL_law_795)
  | 24, _, _, h1, h2 => by cases h1; cases h2; exact (z_aln (pc := 796) C dL_law_796 rfl <| z_aln (pc := 797) C dL_law_797 rfl <| z_iln (pc := 798) C dL_law_798 rfl <| z_ic (pc := 799) C dL_law_799 (by decide +kernel) <| z_iadd (pc := 800) C dL_law_800 <| z_sld (pc := 801) C SX dL_law_801 <| z_cVw (pc := 802) C dL_law_802 S_X11_deacons rfl (zl4 w_757 w_758 w_759 w_1) w_760 ds_X11_deacons (zrm rfl rfl (by decide) (by decide)) <| z_aln (pc := 805) C dL_law_805 rfl <| z_aln (pc := 806) C dL_law_806 rfl <| z_iln (pc := 807) C dL_law_807 rfl <| z_ic (pc := 808) C dL_law_808 (by decide +kernel) <| z_iadd (pc := 809) C dL_law_809 <| z_sld (pc := 810) C SX dL_law_810 <| z_cVw (pc := 811) C dL_law_811 S_X12_deacons rfl (zl4 w_1120 w_1121 w_1122 w_13) w_1123 ds_X12_deacons (zrm rfl rfl (by decide) (by decide)) <| z_cmpeq (tgt := 1068) (pc := 814) C dL_law_814 (by decide) (z_jmp (hY 1)) <| z_ic (pc := 817) C dL_law_817 (by decide +kernel) <| z_lw C.1 C.2.1 hr hk hc hs dL_law_818)
  | 25, _, _, h1, h2 => by cases h1; cases h2; exact (z_aln (pc := 819) C dL_law_819 rfl <| z_aln (pc := 820) C dL_law_820 rfl <| z_iln (pc := 821) C dL_law_821 rfl <| z_ic (pc := 822) C dL_law_822 (by decide +kernel) <| z_iadd (pc := 823) C dL_law_823 <| z_sld (pc := 824) C SX dL_law_824 <| z_aln (pc := 825) C dL_law_825 rfl <| z_iln (pc := 826) C dL_law_826 rfl <| z_ic (pc := 827) C dL_law_827 (by decide +kernel) <| z_iadd (pc := 828) C dL_law_828 <| z_sld (pc := 829) C SX dL_law_829 <| z_aln (pc := 830) C dL_law_830 rfl <| z_iln (pc := 831) C dL_law_831 rfl <| z_ic (pc := 832) C dL_law_832 (by decide +kernel) <| z_iadd (pc := 833) C dL_law_833 <| z_sld (pc := 834) C SX dL_law_834 <| z_aln (pc := 835) C dL_law_835 rfl <| z_iln (pc := 836) C dL_law_836 rfl <| z_ic (pc := 837) C dL_law_837 (by decide +kernel) <| z_iadd (pc := 838) C dL_law_838 <| z_sld (pc := 839) C SX dL_law_839 <| z_cVw (pc := 840) C dL_law_840 S_X11_feasts rfl (zl4 w_769 w_770 w_771 w_1) w_772 ds_X11_feasts (zrm rfl rfl (by decide) (by decide)) <| z_aln (pc := 843) C dL_law_843 rfl <| z_aln (pc := 844) C dL_law_844 rfl <| z_iln (pc := 845) C dL_law_845 rfl <| z_ic (pc := 846) C dL_law_846 (by decide +kernel) <| z_iadd (pc := 847) C dL_law_847 <| z_sld (pc := 848) C SX dL_law_848 <| z_aln (pc := 849) C dL_law_849 rfl <| z_iln (pc := 850) C dL_law_850 rfl <| z_ic (pc := 851) C dL_law_851 (by decide +kernel) <| z_iadd (pc := 852) C dL_law_852 <| z_sld (pc := 853) C SX dL_law_853 <| z_aln (pc := 854) C dL_law_854 rfl <| z_iln (pc := 855) C dL_law_855 rfl <| z_ic (pc := 856) C dL_law_856 (by decide +kernel) <| z_iadd (pc := 857) C dL_law_857 <| z_sld (pc := 858) C SX dL_law_858 <| z_aln (pc := 859) C dL_law_859 rfl <| z_iln (pc := 860) C dL_law_860 rfl <| z_ic (pc := 861) C dL_law_861 (by decide +kernel) <| z_iadd (pc := 862) C dL_law_862 <| z_sld (pc := 863) C SX dL_law_863 <| z_cVw (pc := 864) C dL_law_864 S_X12_feasts rfl (zl4 w_1128 w_1129 w_1130 w_13) w_1131 ds_X12_feasts (zrm rfl rfl (by decide) (by decide)) <| z_cmpeq (tgt := 1068) (pc := 867) C dL_law_867 (by decide) (z_jmp (hY 1)) <| z_ic (pc := 870) C dL_law_870 (by decide +kernel) <| z_lw C.1 C.2.1 hr hk hc hs dL_law_871)
  | 26, _, _, h1, h2 => by cases h1; cases h2; exact (z_aln (pc := 872) C dL_law_872 rfl <| z_aln (pc := 873) C dL_law_873 rfl <| z_iln (pc := 874) C dL_law_874 rfl <| z_ic (pc := 875) C dL_law_875 (by decide +kernel) <| z_iadd (pc := 876) C dL_law_876 <| z_sld (pc := 877) C SX dL_law_877 <| z_aln (pc := 878) C dL_law_878 rfl <| z_iln (pc := 879) C dL_law_879 rfl <| z_ic (pc := 880) C dL_law_880 (by decide +kernel) <| z_iadd (pc := 881) C dL_law_881 <| z_sld (pc := 882) C SX dL_law_882 <| z_cVw (pc := 883) C dL_law_883 S_X11_colds rfl (zl4 w_774 w_775 w_776 w_1) w_777 ds_X11_colds (zrm rfl rfl (by decide) (by decide)) <| z_aln (pc := 886) C dL_law_886 rfl <| z_aln (pc := 887) C dL_law_887 rfl <| z_iln (pc := 888) C dL_law_888 rfl <| z_ic (pc := 889) C dL_law_889 (by decide +kernel) <| z_iadd (pc := 890) C dL_law_890 <| z_sld (pc := 891) C SX dL_law_891 <| z_aln (pc := 892) C dL_law_892 rfl <| z_iln (pc := 893) C dL_law_893 rfl <| z_ic (pc := 894) C dL_law_894 (by decide +kernel) <| z_iadd (pc := 895) C dL_law_895 <| z_sld (pc := 896) C SX dL_law_896 <| z_cVw (pc := 897) C dL_law_897 S_X12_colds rfl (zl4 w_1134 w_1135 w_1136 w_13) w_1137 ds_X12_colds (zrm rfl rfl (by decide) (by decide)) <| z_cmpeq (tgt := 1068) (pc := 900) C dL_law_900 (by decide) (z_jmp (hY 1)) <| z_ic (pc := 903) C dL_law_903 (by decide +kernel) <| z_lw C.1 C.2.1 hr hk hc hs dL_law_904)
  | 27, _, _, h1, h2 => by cases h1; cases h2; exact (z_aln (pc := 905) C dL_law_905 rfl <| z_aln (pc := 906) C dL_law_906 rfl <| z_iln (pc := 907) C dL_law_907 rfl <| z_ic (pc := 908) C dL_law_908 (by decide +kernel) <| z_iadd (pc := 909) C dL_law_909 <| z_sld (pc := 910) C SX dL_law_910 <| z_aln (pc := 911) C dL_law_911 rfl <| z_iln (pc := 912) C dL_law_912 rfl <| z_ic (pc := 913) C dL_law_913 (by decide +kernel) <| z_iadd (pc := 914) C dL_law_914 <| z_sld (pc := 915) C SX dL_law_915 <| z_cVw (pc := 916) C dL_law_916 S_X11_sundays rfl (zl4 w_792 w_793 w_794 w_1) w_795 ds_X11_sundays (zrm rfl rfl (by decide) (by decide)) <| z_aln (pc := 919) C dL_law_919 rfl <| z_aln (pc := 920) C dL_law_920 rfl <| z_iln (pc := 921) C dL_law_921 rfl <| z_ic (pc := 922) C dL_law_922 (by decide +kernel) <| z_iadd (pc := 923) C dL_law_923 <| z_sld (pc := 924) C SX dL_law_924 <| z_aln (pc := 925) C dL_law_925 rfl <| z_iln (pc := 926) C dL_law_926 rfl <| z_ic (pc := 927) C dL_law_927 (by decide +kernel) <| z_iadd (pc := 928) C dL_law_928 <| z_sld (pc := 929) C SX dL_law_929 <| z_cVw (pc := 930) C dL_law_930 S_X12_sundays rfl (zl4 w_1143 w_1144 w_1145 w_13) w_1146 ds_X12_sundays (zrm rfl rfl (by decide) (by decide)) <| z_cmpeq (tgt := 1068) (pc := 933) C dL_law_933 (by decide) (z_jmp (hY 1)) <| z_ic (pc := 936) C dL_law_936 (by decide +kernel) <| z_lw C.1 C.2.1 hr hk hc hs dL_law_937)
  | 28, _, _, h1, h2 => by cases h1; cases h2; exact (z_aln (pc := 938) C dL_law_938 rfl <| z_aln (pc := 939) C dL_law_939 rfl <| z_iln (pc := 940) C dL_law_940 rfl <| z_ic (pc := 941) C dL_law_941 (by decide +kernel) <| z_iadd (pc := 942) C dL_law_942 <| z_sld (pc := 943) C SX dL_law_943 <| z_cVw (pc := 944) C dL_law_944 S_X11_part rfl (zl4 w_802 w_803 w_804 w_1) w_805 ds_X11_part (zrm rfl rfl (by decide) (by decide)) <| z_aln (pc := 947) C dL_law_947 rfl <| z_aln (pc := 948) C dL_law_948 rfl <| z_iln (pc := 949) C dL_law_949 rfl <| z_ic (pc := 950) C dL_law_950 (by decide +kernel) <| z_iadd (pc := 951) C dL_law_951 <| z_sld (pc := 952) C SX dL_law_952 <| z_cVw (pc := 953) C dL_law_953 S_X12_part rfl (zl4 w_1213 w_1214 w_1215 w_13) w_1216 ds_X12_part (zrm rfl rfl (by decide) (by decide)) <| z_lcmp (pc := 956) C dL_law_956 <| z_ifeq (tgt := 1068) (pc := 957) C dL_law_957 (by decide) (z_jmp (hY 1)) <| z_ic (pc := 960) C dL_law_960 (by decide +kernel) <| z_lw C.1 C.2.1 hr hk hc hs dL_law_961)
  | 29, _, _, h1, h2 => by cases h1; cases h2; exact (z_aln (pc := 962) C dL_law_962 rfl <| z_aln (pc := 963) C dL_law_963 rfl <| z_iln (pc := 964) C dL_law_964 rfl <| z_ic (pc := 965) C dL_law_965 (by decide +kernel) <| z_iadd (pc := 966) C dL_law_966 <| z_sld (pc := 967) C SX dL_law_967 <| z_cVw (pc := 968) C dL_law_968 S_X11_image rfl (zl4 w_806 w_807 w_808 w_1) w_809 ds_X11_image (zrm rfl rfl (by decide) (by decide)) <| z_aln (pc := 971) C dL_law_971 rfl <| z_aln (pc := 972) C dL_law_972 rfl <| z_iln (pc := 973) C dL_law_973 rfl <| z_ic (pc := 974) C dL_law_974 (by decide +kernel) <| z_iadd (pc := 975) C dL_law_975 <| z_sld (pc := 976) C SX dL_law_976 <| z_cVw (pc := 977) C dL_law_977 S_X12_image rfl (zl4 w_1217 w_1218 w_1219 w_13) w_1220 ds_X12_image (zrm rfl rfl (by decide) (by decide)) <| z_cmpeq (tgt := 1068) (pc := 980) C dL_law_980 (by decide) (z_jmp (hY 1)) <| z_ic (pc := 983) C dL_law_983 (by decide +kernel) <| z_lw C.1 C.2.1 hr hk hc hs dL_law_984)
  | 30, _, _, h1, h2 => by cases h1; cases h2; exact (z_aln (pc := 985) C dL_law_985 rfl <| z_aln (pc := 986) C dL_law_986 rfl <| z_iln (pc := 987) C dL_law_987 rfl <| z_ic (pc := 988) C dL_law_988 (by decide +kernel) <| z_iadd (pc := 989) C dL_law_989 <| z_sld (pc := 990) C SX dL_law_990 <| z_cVw (pc := 991) C dL_law_991 S_X11_from rfl (zl4 w_810 w_811 w_812 w_1) w_813 ds_X11_from (zrm rfl rfl (by decide) (by decide)) <| z_aln (pc := 994) C dL_law_994 rfl <| z_aln (pc := 995) C dL_law_995 rfl <| z_iln (pc := 996) C dL_law_996 rfl <| z_ic (pc := 997) C dL_law_997 (by decide +kernel) <| z_iadd (pc := 998) C dL_law_998 <| z_sld (pc := 999) C SX dL_law_999 <| z_cVw (pc := 1000) C dL_law_1000 S_X12_from rfl (zl4 w_1221 w_1222 w_1223 w_13) w_1224 ds_X12_from (zrm rfl rfl (by decide) (by decide)) <| z_cmpeq (tgt := 1068) (pc := 1003) C dL_law_1003 (by decide) (z_jmp (hY 1)) <| z_ic (pc := 1006) C dL_law_1006 (by decide +kernel) <| z_lw C.1 C.2.1 hr hk hc hs dL_law_1007)
  | 31, _, _, h1, h2 => by cases h1; cases h2; exact (z_aln (pc := 1008) C dL_law_1008 rfl <| z_aln (pc := 1009) C dL_law_1009 rfl <| z_iln (pc := 1010) C dL_law_1010 rfl <| z_ic (pc := 1011) C dL_law_1011 (by decide +kernel) <| z_iadd (pc := 1012) C dL_law_1012 <| z_sld (pc := 1013) C SX dL_law_1013 <| z_cVw (pc := 1014) C dL_law_1014 S_X11_status rfl (zl4 w_814 w_815 w_816 w_1) w_817 ds_X11_status (zrm rfl rfl (by decide) (by decide)) <| z_aln (pc := 1017) C dL_law_1017 rfl <| z_aln (pc := 1018) C dL_law_1018 rfl <| z_iln (pc := 1019) C dL_law_1019 rfl <| z_ic (pc := 1020) C dL_law_1020 (by decide +kernel) <| z_iadd (pc := 1021) C dL_law_1021 <| z_sld (pc := 1022) C SX dL_law_1022 <| z_cVw (pc := 1023) C dL_law_1023 S_X12_status rfl (zl4 w_1225 w_1226 w_1227 w_13) w_1228 ds_X12_status (zrm rfl rfl (by decide) (by decide)) <| z_cmpeq (tgt := 1068) (pc := 1026) C dL_law_1026 (by decide) (z_jmp (hY 1)) <| z_ic (pc := 1029) C dL_law_1029 (by decide +kernel) <| z_lw C.1 C.2.1 hr hk hc hs dL_law_1030)
  | 32, _, _, h1, h2 => by cases h1; cases h2; exact (z_aln (pc := 1031) C dL_law_1031 rfl <| z_aln (pc := 1032) C dL_law_1032 rfl <| z_iln (pc := 1033) C dL_law_1033 rfl <| z_ic (pc := 1034) C dL_law_1034 (by decide +kernel) <| z_iadd (pc := 1035) C dL_law_1035 <| z_sld (pc := 1036) C SX dL_law_1036 <| z_cVw (pc := 1037) C dL_law_1037 S_X11_count rfl (zl4 w_818 w_819 w_820 w_1) w_821 ds_X11_count (zrm rfl rfl (by decide) (by decide)) <| z_aln (pc := 1040) C dL_law_1040 rfl <| z_aln (pc := 1041) C dL_law_1041 rfl <| z_iln (pc := 1042) C dL_law_1042 rfl <| z_ic (pc := 1043) C dL_law_1043 (by decide +kernel) <| z_iadd (pc := 1044) C dL_law_1044 <| z_sld (pc := 1045) C SX dL_law_1045 <| z_cVw (pc := 1046) C dL_law_1046 S_X12_count rfl (zl4 w_1229 w_1230 w_1231 w_13) w_1232 ds_X12_count (zrm rfl rfl (by decide) (by decide)) <| z_cmpeq (tgt := 1068) (pc := 1049) C dL_law_1049 (by decide) (z_jmp (hY 1)) <| z_ic (pc := 1052) C dL_law_1052 (by decide +kernel) <| z_lw C.1 C.2.1 hr hk hc hs dL_law_1053)
  | 33, _, _, h1, h2 => by cases h1; cases h2; exact (z_aln (pc := 1054) C dL_law_1054 rfl <| z_cVw (pc := 1055) C dL_law_1055 S_X11_digest rfl (zl4 w_826 w_827 w_828 w_1) w_829 ds_X11_digest (zrm rfl rfl (by decide) (by decide)) <| z_aln (pc := 1058) C dL_law_1058 rfl <| z_cVw (pc := 1059) C dL_law_1059 S_X12_digest rfl (zl4 w_1238 w_1239 w_1240 w_13) w_1241 ds_X12_digest (zrm rfl rfl (by decide) (by decide)) <| z_lcmp (pc := 1062) C dL_law_1062 <| z_ifeq (tgt := 1068) (pc := 1063) C dL_law_1063 (by decide) (z_jmp (hY 1)) <| z_ic (pc := 1066) C dL_law_1066 (by decide +kernel) <| z_lw C.1 C.2.1 hr hk hc hs dL_law_1067)
  | j + 34, _, _, h1, _ => by simp at h1) (z_jmp (hY 1)))
  | 1 => exact (z_inc (pc := 1068) C dL_law_1068 (by decide +kernel) (by decide) <| z_goto (tgt := 18) (pc := 1071) C dL_law_1071 (by decide) <| z_jmp (hY 0))
  | b + 2 => exact fun _ _ _ h => h.elim
