/-! The constructors' contracts: by program (wip/whole/genctor.py). -/
def q_at (l : List Nat) (b : Nat) : Nat → Nat := fun k => l.getD (k - b) 0
theorem q_up2 {a b : Nat} {u : Nat → Nat} (h1 : u 25 = a) (h2 : u 37 = b) : va_up (va_up (fun _ => none) 0 (some a)) 1 (some b) = fun j => (([25, 37] : List Nat)[j]?).map u := by
  subst h1; subst h2
  funext j
  match j with
  | 0 => rfl
  | 1 => rfl
  | j + 2 => simp [va_up]
theorem q_up6 {a b c d e f : Nat} {u : Nat → Nat} (h1 : u 55 = a) (h2 : u 56 = b) (h3 : u 57 = c) (h4 : u 58 = d) (h5 : u 59 = e) (h6 : u 60 = f) : va_up (va_up (va_up (va_up (va_up (va_up (fun _ => none) 0 (some a)) 1 (some b)) 2 (some c)) 3 (some d)) 4 (some e)) 5 (some f) = fun j => (([55, 56, 57, 58, 59, 60] : List Nat)[j]?).map u := by
  subst h1; subst h2; subst h3; subst h4; subst h5; subst h6
  funext j
  match j with
  | 0 => rfl
  | 1 => rfl
  | 2 => rfl
  | 3 => rfl
  | 4 => rfl
  | 5 => rfl
  | j + 6 => simp [va_up]
theorem q_now : upd (fun _ => 0) 1 9 = zsig0.1 76 := by
  funext j
  simp [upd, zsig0]
section QBEG
variable {p : Program} {l : Launch} {e : Env} {R : Room} {s : State} {m : MethodId} {args : Array Value} {below : List Frame} {meth : Method} {c : Code} {cells slots : Nat} {QQ : State → Prop} {D : va_G} {ids : zIds} {A : Nat → Prop} {own : String} {cc : ByteArray} {nL : Nat}
variable {pc : Nat} {lv : List (Nat × Value)} {ws : va_W} {st : List Value}
theorem q_iast (C : qX p s m args c D ids A own cc nL) {q0 a n j : Nat} {f : Nat → Int32} {i x : Int32} (hd : decode cc pc = .ok (.iastore, 1)) (ha : ws[q0]? = some (a, .inl (ids.1, n, .inl f))) (hin : vp_in i n) (hj : i.toNatClampNeg = j) {ws' : va_W} (hs : ws.set q0 (a, .inl (ids.1, n, .inl (upd f j x))) = ws') (k : qW p l e R s m args below meth c QQ D A nL cells slots (pc + 1) lv ws' st) : qW p l e R s m args below meth c QQ D A nL cells slots pc lv ws (.int x :: .int i :: .ref a :: st) :=
  fun H locs ls h hP hD hS => va_iast C.1 C.2.1 C.2.2.2.2.2.1.1 hP hD hS q0 0 ha rfl hin hd (fun H1 locs1 hP1 hD1 hS1 => by
    rw [hj, hs] at hP1 hD1
    exact k H1 locs1 ls h hP1 hD1 hS1)
theorem q_perm (is : List Nat) {ws' : va_W} (hn : va_nd is = true) (h1 : is.filterMap (fun i => ws[i]?) = ws') (h2 : is.map (fun i => ws[i]?) = ws'.map some) (k : qW p l e R s m args below meth c QQ D A nL cells slots pc lv ws' st) : qW p l e R s m args below meth c QQ D A nL cells slots pc lv ws st :=
  fun H locs ls h hP hD hS => k H locs ls h (hP.sub is h1) (hD.sub is hn h2) hS
theorem q_bloop (C : qX p s m args c D ids A "EveryPewModel" cX12_begin 3) {a : Nat} (hr : meth.sig.returnType = none) (hk : meth.locks = false) (rm : Room) (hrc : rm.cells = 0) (hrs : rm.slots = 0) : ∀ n i : Nat, i + n = 66 → qW p l e rm s m args below meth c (MQ below (va_Qv (fun _ : Unit => True) (fun _ t => va_P D zCl [(a, .inl (ids.1, 178, .inl (zsig0.1 76)))] t.heap ∧ va_D A [(a, .inl (ids.1, 178, .inl (zsig0.1 76)))]) A) args s 0 0 A) D A 3 0 0 2 [(2, .int (nI i)), (0, .ref a), (1, .int 9)] [(a, .inl (ids.1, 178, .inl (fun _ => 0)))] [] := by
  intro n
  induction n with
  | zero =>
    intro i hi
    have hi : i = 66 := by omega
    subst hi
    refine q_il C dX12_begin_2 rfl (List.mem_cons_self) ?_
    refine q_bi (v := 66) C dX12_begin_3 (by decide) ?_
    refine q_geT (tgt := 18) C dX12_begin_5 (by decide) (by decide) ?_
    refine q_al C dX12_begin_18 rfl (List.mem_cons_of_mem _ List.mem_cons_self) ?_
    refine q_ic (v := 1) C dX12_begin_19 (by decide) ?_
    refine q_il (a := 9) C dX12_begin_20 rfl (List.mem_cons_of_mem _ (List.mem_cons_of_mem _ List.mem_cons_self)) ?_
    refine q_iast (q0 := 0) (j := 1) (ws' := [(a, .inl (ids.1, 178, .inl (zsig0.1 76)))]) C dX12_begin_21 rfl (vp_in_nI (n := 1) (by decide) (by decide)) (by decide) (by rw [q_now]; rfl) ?_
    intro H locs ls h hP hD hS
    exact W.vret C.1 C.2.1 hr (fun t ht hW => ⟨⟨(), rfl, trivial, by rw [ht]; exact hP, hD⟩, hS.F ht⟩) hS.2.2 dX12_begin_22 hk
  | succ n ih =>
    intro i hi
    have e0 : (nI i).toNatClampNeg = i := nI_clamp (by omega)
    refine q_il C dX12_begin_2 rfl (List.mem_cons_self) ?_
    refine q_bi (v := 66) C dX12_begin_3 (by decide) ?_
    refine q_geF (tgt := 18) C dX12_begin_5 (by decide) (fun h => ?_) ?_
    · have h : nI 66 ≤ nI i := h
      have h2 := (Int32.ofNat_le_ofNat (by decide) (by omega)).mp h
      omega
    refine q_al C dX12_begin_8 rfl (List.mem_cons_of_mem _ List.mem_cons_self) ?_
    refine q_il C dX12_begin_9 rfl (List.mem_cons_self) ?_
    refine q_ic (v := 0) C dX12_begin_10 (by decide) ?_
    refine q_iast (q0 := 0) (j := i) (ws' := [(a, .inl (ids.1, 178, .inl (fun _ => 0)))]) C dX12_begin_11 rfl (vp_in_nI (by omega) (by decide)) e0 (by rw [show upd (fun _ => 0) i 0 = (fun _ => (0 : Int32)) from by funext j; simp [upd]]; rfl) ?_
    refine q_inc (k := 0) (x := nI i) (v := nI (i + 1)) (lv' := [(2, .int (nI (i + 1))), (0, .ref a), (1, .int 9)]) C dX12_begin_12 rfl (by rw [nI_succ]; rfl) (by decide) rfl ?_
    refine q_goto (tgt := 2) C dX12_begin_15 (by decide) ?_
    exact ih (i + 1) (by omega)
theorem q_bmet (l : Launch) (D : va_G) (ids : zIds) (a sz : Nat) : Met l yX12_begin (.code yX12_begin cX12_begin 3 none :: zAll) { frames := 0, cells := 0, slots := 0, locals := 0 } (va_Pc [.ref a, .int 9] (fun U => U.heap.size = sz ∧ va_P D zCl [(a, .inl (ids.1, 178, .inl (fun _ => 0)))] U.heap ∧ qEnv D ids U ∧ va_D (fun _ => True) [(a, .inl (ids.1, 178, .inl (fun _ => 0)))])) (va_Qv (fun _ : Unit => True) (fun _ t => va_P D zCl [(a, .inl (ids.1, 178, .inl (zsig0.1 76)))] t.heap ∧ va_D (va_A [(a, .inl (ids.1, 178, .inl (fun _ => 0)))] sz) [(a, .inl (ids.1, 178, .inl (zsig0.1 76)))]) (va_A [(a, .inl (ids.1, 178, .inl (fun _ => 0)))] sz)) 0 0 (va_A [(a, .inl (ids.1, 178, .inl (fun _ => 0)))] sz) := by
  refine Met.ofW (cc := cX12_begin) (maxL := 3) (ret := none) (by decide) rfl ?_
  intro p e s m args below meth c s₁ B hml hv
  obtain ⟨ha, hsz, hP, hE, hD0⟩ := hv
  have hts := atoms_spec (ws := .code yX12_begin cX12_begin 3 none :: zAll) B.pre
  subst hsz
  have hD := hD0.self (sz := s.heap.size)
  generalize hAe : va_A [(a, Sum.inl (ids.1, 178, Sum.inl (fun _ => (0 : Int32))))] s.heap.size = A at hD ⊢
  have hA : ∀ q : Nat, s.heap.size ≤ q → A q := fun q h => by rw [← hAe]; exact Or.inr h
  have C : qX p s m args c D ids A "EveryPewModel" cX12_begin 3 := ⟨B.exec, B.bytes, hml, findClass_of_methodNamed B.named, fun w hw => hts w (List.mem_cons_of_mem _ hw), hE, hA⟩
  subst ha
  have hl := lv_entry ([.ref a, .int 9]) (n := 3) (Nat.le_of_ble_eq_true rfl)
  rw [lg_entry_eq]
  generalize (lg_sl ([.ref a, .int 9]) ++ List.replicate (3 - (lg_sl ([.ref a, .int 9])).length) Slot.unset).toArray = ls at hl ⊢
  have hl : lv_has ls 3 [(0, .ref a), (1, .int 9)] := hl
  have key : qW p l e { frames := 0, cells := 0, slots := 0, locals := 0 } s m [.ref a, .int 9].toArray below meth c (MQ below (va_Qv (fun _ : Unit => True) (fun _ t => va_P D zCl [(a, .inl (ids.1, 178, .inl (zsig0.1 76)))] t.heap ∧ va_D A [(a, .inl (ids.1, 178, .inl (zsig0.1 76)))]) A) [.ref a, .int 9].toArray s 0 0 A) D A 3 0 0 0 [(0, .ref a), (1, .int 9)] [(a, .inl (ids.1, 178, .inl (fun _ => 0)))] [] := by
    refine q_ic (v := 0) C dX12_begin_0 (by decide) ?_
    refine q_is (lv' := [(2, .int 0), (0, .ref a), (1, .int 9)]) C dX12_begin_1 rfl (by decide) rfl ?_
    exact q_bloop C B.returns B.notSynchronized _ rfl rfl 66 0 rfl
  exact key s.heap [] ls hl hP hD va_S.rf
theorem q_beg (C : qX p s m args c D ids A own cc nL) {idx a : Nat} (hd : decode cc pc = .ok (.invokestatic idx, 3)) (hw : ∀ w ∈ ([.methodLink own idx yX12_begin, .static yX12_begin, .initialized yX12_begin.cls] : List Cond), w ∈ zAll) (hcd : Cond.code yX12_begin cX12_begin 3 none ∈ zAll) (hR : 1 ≤ R.frames ∧ 22 ≤ R.locals) (hcells : cells ≤ R.cells) (hslots : slots ≤ R.slots) (hst : (st.map fun v => v.category).sum ≤ 8) (k : qW p l e R s m args below meth c QQ D A nL cells slots (pc + 3) lv (ws ++ [(a, .inl (ids.1, 178, .inl (zsig0.1 76)))]) st) : qW p l e R s m args below meth c QQ D A nL cells slots pc lv (ws ++ [(a, .inl (ids.1, 178, .inl (fun _ => 0)))]) (.int 9 :: .ref a :: st) := by
  intro H locs ls h hP hD hS
  have hFc := qFree hD hS C.2.2.2.2.2.2
  have hG : GoodIn zAll (va_wsS own idx yX12_begin (.code yX12_begin cX12_begin 3 none :: zAll)) := zgl hw hcd
  refine va_callv (va_runS (As := [.ref a, .int 9]) (rest := st) ⟨C.1, C.2.1, C.2.2.1, C.2.2.2.1, C.2.2.2.2.1⟩ (q_bmet l D ids a H.size) (va_cwS 2 C.2.2.2.2.1 hG rfl rfl rfl ds_X12_begin ⟨hR.1, hR.2⟩) ⟨fun a U g mk q => by obtain ⟨q0, q1, qP, qK, qD⟩ := q; exact ⟨q0, q1, qP, qK.same rfl, qD⟩, fun U hU hW => ⟨rfl, by rw [hU], by rw [hU]; exact qP_r hP, C.2.2.2.2.2.1.moved hW, (qD_r hD).weaken (fun _ _ _ _ => trivial)⟩⟩ rfl rfl h.1 rfl (lv_room hst) hd ⟨hcells, hslots⟩) hS (fun q _ h => hFc q h) hFc (fun u t H1 locs1 ht hvm hu hB hz1 hk1 hS1 => ?_)
  obtain ⟨hP1, hD1⟩ := hB
  rw [ht] at hP1
  obtain ⟨hP2, hD2⟩ := qJoin hP hD hk1 hFc hP1 hD1
  exact k H1 locs1 ls h hP2 hD2 hS1
end QBEG
theorem dX0_init_0 : decode cX0_init 0 = .ok (.aload_n 0, 1) := by decide +kernel
theorem dX0_init_1 : decode cX0_init 1 = .ok (.invokespecial 1, 3) := by decide +kernel
theorem dX0_init_4 : decode cX0_init 4 = .ok (.return_, 1) := by decide +kernel
theorem dX1_init_0 : decode cX1_init 0 = .ok (.aload_n 0, 1) := by decide +kernel
theorem dX1_init_1 : decode cX1_init 1 = .ok (.invokespecial 3, 3) := by decide +kernel
theorem dX1_init_4 : decode cX1_init 4 = .ok (.aload_n 0, 1) := by decide +kernel
theorem dX1_init_5 : decode cX1_init 5 = .ok (.bipush 9, 2) := by decide +kernel
theorem dX1_init_7 : decode cX1_init 7 = .ok (.putfield 9, 3) := by decide +kernel
theorem dX1_init_10 : decode cX1_init 10 = .ok (.aload_n 0, 1) := by decide +kernel
theorem dX1_init_11 : decode cX1_init 11 = .ok (.iconst 2, 1) := by decide +kernel
theorem dX1_init_12 : decode cX1_init 12 = .ok (.newarray .int, 2) := by decide +kernel
theorem dX1_init_14 : decode cX1_init 14 = .ok (.putfield 15, 3) := by decide +kernel
theorem dX1_init_17 : decode cX1_init 17 = .ok (.aload_n 0, 1) := by decide +kernel
theorem dX1_init_18 : decode cX1_init 18 = .ok (.bipush 7, 2) := by decide +kernel
theorem dX1_init_20 : decode cX1_init 20 = .ok (.newarray .int, 2) := by decide +kernel
theorem dX1_init_22 : decode cX1_init 22 = .ok (.putfield 19, 3) := by decide +kernel
theorem dX1_init_25 : decode cX1_init 25 = .ok (.aload_n 0, 1) := by decide +kernel
theorem dX1_init_26 : decode cX1_init 26 = .ok (.bipush 7, 2) := by decide +kernel
theorem dX1_init_28 : decode cX1_init 28 = .ok (.newarray .int, 2) := by decide +kernel
theorem dX1_init_30 : decode cX1_init 30 = .ok (.putfield 22, 3) := by decide +kernel
theorem dX1_init_33 : decode cX1_init 33 = .ok (.aload_n 0, 1) := by decide +kernel
theorem dX1_init_34 : decode cX1_init 34 = .ok (.bipush 7, 2) := by decide +kernel
theorem dX1_init_36 : decode cX1_init 36 = .ok (.newarray .int, 2) := by decide +kernel
theorem dX1_init_38 : decode cX1_init 38 = .ok (.putfield 25, 3) := by decide +kernel
theorem dX1_init_41 : decode cX1_init 41 = .ok (.aload_n 0, 1) := by decide +kernel
theorem dX1_init_42 : decode cX1_init 42 = .ok (.bipush 7, 2) := by decide +kernel
theorem dX1_init_44 : decode cX1_init 44 = .ok (.newarray .int, 2) := by decide +kernel
theorem dX1_init_46 : decode cX1_init 46 = .ok (.putfield 28, 3) := by decide +kernel
theorem dX1_init_49 : decode cX1_init 49 = .ok (.aload_n 0, 1) := by decide +kernel
theorem dX1_init_50 : decode cX1_init 50 = .ok (.bipush 7, 2) := by decide +kernel
theorem dX1_init_52 : decode cX1_init 52 = .ok (.newarray .int, 2) := by decide +kernel
theorem dX1_init_54 : decode cX1_init 54 = .ok (.putfield 31, 3) := by decide +kernel
theorem dX1_init_57 : decode cX1_init 57 = .ok (.aload_n 0, 1) := by decide +kernel
theorem dX1_init_58 : decode cX1_init 58 = .ok (.bipush 6, 2) := by decide +kernel
theorem dX1_init_60 : decode cX1_init 60 = .ok (.newarray .int, 2) := by decide +kernel
theorem dX1_init_62 : decode cX1_init 62 = .ok (.putfield 34, 3) := by decide +kernel
theorem dX1_init_65 : decode cX1_init 65 = .ok (.aload_n 0, 1) := by decide +kernel
theorem dX1_init_66 : decode cX1_init 66 = .ok (.bipush 6, 2) := by decide +kernel
theorem dX1_init_68 : decode cX1_init 68 = .ok (.newarray .int, 2) := by decide +kernel
theorem dX1_init_70 : decode cX1_init 70 = .ok (.putfield 37, 3) := by decide +kernel
theorem dX1_init_73 : decode cX1_init 73 = .ok (.aload_n 0, 1) := by decide +kernel
theorem dX1_init_74 : decode cX1_init 74 = .ok (.bipush 6, 2) := by decide +kernel
theorem dX1_init_76 : decode cX1_init 76 = .ok (.newarray .int, 2) := by decide +kernel
theorem dX1_init_78 : decode cX1_init 78 = .ok (.putfield 40, 3) := by decide +kernel
theorem dX1_init_81 : decode cX1_init 81 = .ok (.aload_n 0, 1) := by decide +kernel
theorem dX1_init_82 : decode cX1_init 82 = .ok (.bipush 56, 2) := by decide +kernel
theorem dX1_init_84 : decode cX1_init 84 = .ok (.newarray .int, 2) := by decide +kernel
theorem dX1_init_86 : decode cX1_init 86 = .ok (.putfield 43, 3) := by decide +kernel
theorem dX1_init_89 : decode cX1_init 89 = .ok (.aload_n 0, 1) := by decide +kernel
theorem dX1_init_90 : decode cX1_init 90 = .ok (.bipush 8, 2) := by decide +kernel
theorem dX1_init_92 : decode cX1_init 92 = .ok (.newarray .int, 2) := by decide +kernel
theorem dX1_init_94 : decode cX1_init 94 = .ok (.putfield 46, 3) := by decide +kernel
theorem dX1_init_97 : decode cX1_init 97 = .ok (.return_, 1) := by decide +kernel
theorem dX2_init_0 : decode cX2_init 0 = .ok (.aload_n 0, 1) := by decide +kernel
theorem dX2_init_1 : decode cX2_init 1 = .ok (.invokespecial 1, 3) := by decide +kernel
theorem dX2_init_4 : decode cX2_init 4 = .ok (.return_, 1) := by decide +kernel
theorem dX3_init_0 : decode cX3_init 0 = .ok (.aload_n 0, 1) := by decide +kernel
theorem dX3_init_1 : decode cX3_init 1 = .ok (.invokespecial 3, 3) := by decide +kernel
theorem dX3_init_4 : decode cX3_init 4 = .ok (.aload_n 0, 1) := by decide +kernel
theorem dX3_init_5 : decode cX3_init 5 = .ok (.sipush 128, 3) := by decide +kernel
theorem dX3_init_8 : decode cX3_init 8 = .ok (.newarray .boolean, 2) := by decide +kernel
theorem dX3_init_10 : decode cX3_init 10 = .ok (.putfield 9, 3) := by decide +kernel
theorem dX3_init_13 : decode cX3_init 13 = .ok (.aload_n 0, 1) := by decide +kernel
theorem dX3_init_14 : decode cX3_init 14 = .ok (.sipush 141, 3) := by decide +kernel
theorem dX3_init_17 : decode cX3_init 17 = .ok (.newarray .int, 2) := by decide +kernel
theorem dX3_init_19 : decode cX3_init 19 = .ok (.putfield 15, 3) := by decide +kernel
theorem dX3_init_22 : decode cX3_init 22 = .ok (.return_, 1) := by decide +kernel
theorem dX4_init_0 : decode cX4_init 0 = .ok (.aload_n 0, 1) := by decide +kernel
theorem dX4_init_1 : decode cX4_init 1 = .ok (.invokespecial 1, 3) := by decide +kernel
theorem dX4_init_4 : decode cX4_init 4 = .ok (.return_, 1) := by decide +kernel
theorem dX5_init_0 : decode cX5_init 0 = .ok (.aload_n 0, 1) := by decide +kernel
theorem dX5_init_1 : decode cX5_init 1 = .ok (.invokespecial 1, 3) := by decide +kernel
theorem dX5_init_4 : decode cX5_init 4 = .ok (.return_, 1) := by decide +kernel
theorem dX6_init_0 : decode cX6_init 0 = .ok (.aload_n 0, 1) := by decide +kernel
theorem dX6_init_1 : decode cX6_init 1 = .ok (.invokespecial 1, 3) := by decide +kernel
theorem dX6_init_4 : decode cX6_init 4 = .ok (.return_, 1) := by decide +kernel
theorem dX7_init_0 : decode cX7_init 0 = .ok (.aload_n 0, 1) := by decide +kernel
theorem dX7_init_1 : decode cX7_init 1 = .ok (.invokespecial 3, 3) := by decide +kernel
theorem dX7_init_4 : decode cX7_init 4 = .ok (.aload_n 0, 1) := by decide +kernel
theorem dX7_init_5 : decode cX7_init 5 = .ok (.sipush 128, 3) := by decide +kernel
theorem dX7_init_8 : decode cX7_init 8 = .ok (.newarray .int, 2) := by decide +kernel
theorem dX7_init_10 : decode cX7_init 10 = .ok (.putfield 9, 3) := by decide +kernel
theorem dX7_init_13 : decode cX7_init 13 = .ok (.aload_n 0, 1) := by decide +kernel
theorem dX7_init_14 : decode cX7_init 14 = .ok (.sipush 512, 3) := by decide +kernel
theorem dX7_init_17 : decode cX7_init 17 = .ok (.newarray .int, 2) := by decide +kernel
theorem dX7_init_19 : decode cX7_init 19 = .ok (.putfield 15, 3) := by decide +kernel
theorem dX7_init_22 : decode cX7_init 22 = .ok (.return_, 1) := by decide +kernel
theorem dX8_init_0 : decode cX8_init 0 = .ok (.aload_n 0, 1) := by decide +kernel
theorem dX8_init_1 : decode cX8_init 1 = .ok (.invokespecial 3, 3) := by decide +kernel
theorem dX8_init_4 : decode cX8_init 4 = .ok (.aload_n 0, 1) := by decide +kernel
theorem dX8_init_5 : decode cX8_init 5 = .ok (.bipush 6, 2) := by decide +kernel
theorem dX8_init_7 : decode cX8_init 7 = .ok (.anewarray 9, 3) := by decide +kernel
theorem dX8_init_10 : decode cX8_init 10 = .ok (.dup, 1) := by decide +kernel
theorem dX8_init_11 : decode cX8_init 11 = .ok (.iconst 0, 1) := by decide +kernel
theorem dX8_init_12 : decode cX8_init 12 = .ok (.new 9, 3) := by decide +kernel
theorem dX8_init_15 : decode cX8_init 15 = .ok (.dup, 1) := by decide +kernel
theorem dX8_init_16 : decode cX8_init 16 = .ok (.invokespecial 11, 3) := by decide +kernel
theorem dX8_init_19 : decode cX8_init 19 = .ok (.aastore, 1) := by decide +kernel
theorem dX8_init_20 : decode cX8_init 20 = .ok (.dup, 1) := by decide +kernel
theorem dX8_init_21 : decode cX8_init 21 = .ok (.iconst 1, 1) := by decide +kernel
theorem dX8_init_22 : decode cX8_init 22 = .ok (.new 12, 3) := by decide +kernel
theorem dX8_init_25 : decode cX8_init 25 = .ok (.dup, 1) := by decide +kernel
theorem dX8_init_26 : decode cX8_init 26 = .ok (.invokespecial 14, 3) := by decide +kernel
theorem dX8_init_29 : decode cX8_init 29 = .ok (.aastore, 1) := by decide +kernel
theorem dX8_init_30 : decode cX8_init 30 = .ok (.dup, 1) := by decide +kernel
theorem dX8_init_31 : decode cX8_init 31 = .ok (.iconst 2, 1) := by decide +kernel
theorem dX8_init_32 : decode cX8_init 32 = .ok (.new 15, 3) := by decide +kernel
theorem dX8_init_35 : decode cX8_init 35 = .ok (.dup, 1) := by decide +kernel
theorem dX8_init_36 : decode cX8_init 36 = .ok (.invokespecial 17, 3) := by decide +kernel
theorem dX8_init_39 : decode cX8_init 39 = .ok (.aastore, 1) := by decide +kernel
theorem dX8_init_40 : decode cX8_init 40 = .ok (.dup, 1) := by decide +kernel
theorem dX8_init_41 : decode cX8_init 41 = .ok (.iconst 3, 1) := by decide +kernel
theorem dX8_init_42 : decode cX8_init 42 = .ok (.new 18, 3) := by decide +kernel
theorem dX8_init_45 : decode cX8_init 45 = .ok (.dup, 1) := by decide +kernel
theorem dX8_init_46 : decode cX8_init 46 = .ok (.invokespecial 20, 3) := by decide +kernel
theorem dX8_init_49 : decode cX8_init 49 = .ok (.aastore, 1) := by decide +kernel
theorem dX8_init_50 : decode cX8_init 50 = .ok (.dup, 1) := by decide +kernel
theorem dX8_init_51 : decode cX8_init 51 = .ok (.iconst 4, 1) := by decide +kernel
theorem dX8_init_52 : decode cX8_init 52 = .ok (.new 21, 3) := by decide +kernel
theorem dX8_init_55 : decode cX8_init 55 = .ok (.dup, 1) := by decide +kernel
theorem dX8_init_56 : decode cX8_init 56 = .ok (.invokespecial 23, 3) := by decide +kernel
theorem dX8_init_59 : decode cX8_init 59 = .ok (.aastore, 1) := by decide +kernel
theorem dX8_init_60 : decode cX8_init 60 = .ok (.dup, 1) := by decide +kernel
theorem dX8_init_61 : decode cX8_init 61 = .ok (.iconst 5, 1) := by decide +kernel
theorem dX8_init_62 : decode cX8_init 62 = .ok (.new 24, 3) := by decide +kernel
theorem dX8_init_65 : decode cX8_init 65 = .ok (.dup, 1) := by decide +kernel
theorem dX8_init_66 : decode cX8_init 66 = .ok (.invokespecial 26, 3) := by decide +kernel
theorem dX8_init_69 : decode cX8_init 69 = .ok (.aastore, 1) := by decide +kernel
theorem dX8_init_70 : decode cX8_init 70 = .ok (.putfield 27, 3) := by decide +kernel
theorem dX8_init_73 : decode cX8_init 73 = .ok (.aload_n 0, 1) := by decide +kernel
theorem dX8_init_74 : decode cX8_init 74 = .ok (.bipush 7, 2) := by decide +kernel
theorem dX8_init_76 : decode cX8_init 76 = .ok (.newarray .int, 2) := by decide +kernel
theorem dX8_init_78 : decode cX8_init 78 = .ok (.putfield 33, 3) := by decide +kernel
theorem dX8_init_81 : decode cX8_init 81 = .ok (.aload_n 0, 1) := by decide +kernel
theorem dX8_init_82 : decode cX8_init 82 = .ok (.bipush 7, 2) := by decide +kernel
theorem dX8_init_84 : decode cX8_init 84 = .ok (.newarray .int, 2) := by decide +kernel
theorem dX8_init_86 : decode cX8_init 86 = .ok (.putfield 37, 3) := by decide +kernel
theorem dX8_init_89 : decode cX8_init 89 = .ok (.aload_n 0, 1) := by decide +kernel
theorem dX8_init_90 : decode cX8_init 90 = .ok (.bipush 28, 2) := by decide +kernel
theorem dX8_init_92 : decode cX8_init 92 = .ok (.newarray .boolean, 2) := by decide +kernel
theorem dX8_init_94 : decode cX8_init 94 = .ok (.putfield 40, 3) := by decide +kernel
theorem dX8_init_97 : decode cX8_init 97 = .ok (.aload_n 0, 1) := by decide +kernel
theorem dX8_init_98 : decode cX8_init 98 = .ok (.bipush 28, 2) := by decide +kernel
theorem dX8_init_100 : decode cX8_init 100 = .ok (.newarray .int, 2) := by decide +kernel
theorem dX8_init_102 : decode cX8_init 102 = .ok (.putfield 44, 3) := by decide +kernel
theorem dX8_init_105 : decode cX8_init 105 = .ok (.aload_n 0, 1) := by decide +kernel
theorem dX8_init_106 : decode cX8_init 106 = .ok (.bipush 28, 2) := by decide +kernel
theorem dX8_init_108 : decode cX8_init 108 = .ok (.newarray .int, 2) := by decide +kernel
theorem dX8_init_110 : decode cX8_init 110 = .ok (.putfield 47, 3) := by decide +kernel
theorem dX8_init_113 : decode cX8_init 113 = .ok (.aload_n 0, 1) := by decide +kernel
theorem dX8_init_114 : decode cX8_init 114 = .ok (.bipush 16, 2) := by decide +kernel
theorem dX8_init_116 : decode cX8_init 116 = .ok (.newarray .int, 2) := by decide +kernel
theorem dX8_init_118 : decode cX8_init 118 = .ok (.putfield 50, 3) := by decide +kernel
theorem dX8_init_121 : decode cX8_init 121 = .ok (.aload_n 0, 1) := by decide +kernel
theorem dX8_init_122 : decode cX8_init 122 = .ok (.iconst 4, 1) := by decide +kernel
theorem dX8_init_123 : decode cX8_init 123 = .ok (.newarray .int, 2) := by decide +kernel
theorem dX8_init_125 : decode cX8_init 125 = .ok (.putfield 53, 3) := by decide +kernel
theorem dX8_init_128 : decode cX8_init 128 = .ok (.return_, 1) := by decide +kernel
theorem dX9_init_0 : decode cX9_init 0 = .ok (.aload_n 0, 1) := by decide +kernel
theorem dX9_init_1 : decode cX9_init 1 = .ok (.invokespecial 3, 3) := by decide +kernel
theorem dX9_init_4 : decode cX9_init 4 = .ok (.aload_n 0, 1) := by decide +kernel
theorem dX9_init_5 : decode cX9_init 5 = .ok (.sipush 150, 3) := by decide +kernel
theorem dX9_init_8 : decode cX9_init 8 = .ok (.newarray .int, 2) := by decide +kernel
theorem dX9_init_10 : decode cX9_init 10 = .ok (.putfield 9, 3) := by decide +kernel
theorem dX9_init_13 : decode cX9_init 13 = .ok (.return_, 1) := by decide +kernel
theorem dX10_init_0 : decode cX10_init 0 = .ok (.aload_n 0, 1) := by decide +kernel
theorem dX10_init_1 : decode cX10_init 1 = .ok (.invokespecial 1, 3) := by decide +kernel
theorem dX10_init_4 : decode cX10_init 4 = .ok (.return_, 1) := by decide +kernel
theorem dX11_init_0 : decode cX11_init 0 = .ok (.aload_n 0, 1) := by decide +kernel
theorem dX11_init_1 : decode cX11_init 1 = .ok (.invokespecial 3, 3) := by decide +kernel
theorem dX11_init_4 : decode cX11_init 4 = .ok (.aload_n 0, 1) := by decide +kernel
theorem dX11_init_5 : decode cX11_init 5 = .ok (.new 9, 3) := by decide +kernel
theorem dX11_init_8 : decode cX11_init 8 = .ok (.dup, 1) := by decide +kernel
theorem dX11_init_9 : decode cX11_init 9 = .ok (.invokespecial 11, 3) := by decide +kernel
theorem dX11_init_12 : decode cX11_init 12 = .ok (.putfield 12, 3) := by decide +kernel
theorem dX11_init_15 : decode cX11_init 15 = .ok (.aload_n 0, 1) := by decide +kernel
theorem dX11_init_16 : decode cX11_init 16 = .ok (.new 9, 3) := by decide +kernel
theorem dX11_init_19 : decode cX11_init 19 = .ok (.dup, 1) := by decide +kernel
theorem dX11_init_20 : decode cX11_init 20 = .ok (.invokespecial 11, 3) := by decide +kernel
theorem dX11_init_23 : decode cX11_init 23 = .ok (.putfield 16, 3) := by decide +kernel
theorem dX11_init_26 : decode cX11_init 26 = .ok (.aload_n 0, 1) := by decide +kernel
theorem dX11_init_27 : decode cX11_init 27 = .ok (.iconst 2, 1) := by decide +kernel
theorem dX11_init_28 : decode cX11_init 28 = .ok (.anewarray 9, 3) := by decide +kernel
theorem dX11_init_31 : decode cX11_init 31 = .ok (.putfield 19, 3) := by decide +kernel
theorem dX11_init_34 : decode cX11_init 34 = .ok (.aload_n 0, 1) := by decide +kernel
theorem dX11_init_35 : decode cX11_init 35 = .ok (.iconst 2, 1) := by decide +kernel
theorem dX11_init_36 : decode cX11_init 36 = .ok (.newarray .boolean, 2) := by decide +kernel
theorem dX11_init_38 : decode cX11_init 38 = .ok (.putfield 23, 3) := by decide +kernel
theorem dX11_init_41 : decode cX11_init 41 = .ok (.aload_n 0, 1) := by decide +kernel
theorem dX11_init_42 : decode cX11_init 42 = .ok (.new 27, 3) := by decide +kernel
theorem dX11_init_45 : decode cX11_init 45 = .ok (.dup, 1) := by decide +kernel
theorem dX11_init_46 : decode cX11_init 46 = .ok (.invokespecial 29, 3) := by decide +kernel
theorem dX11_init_49 : decode cX11_init 49 = .ok (.putfield 30, 3) := by decide +kernel
theorem dX11_init_52 : decode cX11_init 52 = .ok (.aload_n 0, 1) := by decide +kernel
theorem dX11_init_53 : decode cX11_init 53 = .ok (.new 34, 3) := by decide +kernel
theorem dX11_init_56 : decode cX11_init 56 = .ok (.dup, 1) := by decide +kernel
theorem dX11_init_57 : decode cX11_init 57 = .ok (.invokespecial 36, 3) := by decide +kernel
theorem dX11_init_60 : decode cX11_init 60 = .ok (.putfield 37, 3) := by decide +kernel
theorem dX11_init_63 : decode cX11_init 63 = .ok (.aload_n 0, 1) := by decide +kernel
theorem dX11_init_64 : decode cX11_init 64 = .ok (.new 41, 3) := by decide +kernel
theorem dX11_init_67 : decode cX11_init 67 = .ok (.dup, 1) := by decide +kernel
theorem dX11_init_68 : decode cX11_init 68 = .ok (.invokespecial 43, 3) := by decide +kernel
theorem dX11_init_71 : decode cX11_init 71 = .ok (.putfield 44, 3) := by decide +kernel
theorem dX11_init_74 : decode cX11_init 74 = .ok (.aload_n 0, 1) := by decide +kernel
theorem dX11_init_75 : decode cX11_init 75 = .ok (.new 48, 3) := by decide +kernel
theorem dX11_init_78 : decode cX11_init 78 = .ok (.dup, 1) := by decide +kernel
theorem dX11_init_79 : decode cX11_init 79 = .ok (.invokespecial 50, 3) := by decide +kernel
theorem dX11_init_82 : decode cX11_init 82 = .ok (.putfield 51, 3) := by decide +kernel
theorem dX11_init_85 : decode cX11_init 85 = .ok (.aload_n 0, 1) := by decide +kernel
theorem dX11_init_86 : decode cX11_init 86 = .ok (.iconst 3, 1) := by decide +kernel
theorem dX11_init_87 : decode cX11_init 87 = .ok (.newarray .int, 2) := by decide +kernel
theorem dX11_init_89 : decode cX11_init 89 = .ok (.putfield 55, 3) := by decide +kernel
theorem dX11_init_92 : decode cX11_init 92 = .ok (.aload_n 0, 1) := by decide +kernel
theorem dX11_init_93 : decode cX11_init 93 = .ok (.lconst 0, 1) := by decide +kernel
theorem dX11_init_94 : decode cX11_init 94 = .ok (.putfield 59, 3) := by decide +kernel
theorem dX11_init_97 : decode cX11_init 97 = .ok (.aload_n 0, 1) := by decide +kernel
theorem dX11_init_98 : decode cX11_init 98 = .ok (.lconst 1, 1) := by decide +kernel
theorem dX11_init_99 : decode cX11_init 99 = .ok (.putfield 63, 3) := by decide +kernel
theorem dX11_init_102 : decode cX11_init 102 = .ok (.iconst 0, 1) := by decide +kernel
theorem dX11_init_103 : decode cX11_init 103 = .ok (.istore_n 1, 1) := by decide +kernel
theorem dX11_init_104 : decode cX11_init 104 = .ok (.iload_n 1, 1) := by decide +kernel
theorem dX11_init_105 : decode cX11_init 105 = .ok (.iconst 2, 1) := by decide +kernel
theorem dX11_init_106 : decode cX11_init 106 = .ok (.if_icmp .ge 22, 3) := by decide +kernel
theorem dX11_init_109 : decode cX11_init 109 = .ok (.aload_n 0, 1) := by decide +kernel
theorem dX11_init_110 : decode cX11_init 110 = .ok (.getfield 19, 3) := by decide +kernel
theorem dX11_init_113 : decode cX11_init 113 = .ok (.iload_n 1, 1) := by decide +kernel
theorem dX11_init_114 : decode cX11_init 114 = .ok (.new 9, 3) := by decide +kernel
theorem dX11_init_117 : decode cX11_init 117 = .ok (.dup, 1) := by decide +kernel
theorem dX11_init_118 : decode cX11_init 118 = .ok (.invokespecial 11, 3) := by decide +kernel
theorem dX11_init_121 : decode cX11_init 121 = .ok (.aastore, 1) := by decide +kernel
theorem dX11_init_122 : decode cX11_init 122 = .ok (.iinc 1 1, 3) := by decide +kernel
theorem dX11_init_125 : decode cX11_init 125 = .ok (.goto (-21), 3) := by decide +kernel
theorem dX11_init_128 : decode cX11_init 128 = .ok (.return_, 1) := by decide +kernel
theorem dX12_init_0 : decode cX12_init 0 = .ok (.aload_n 0, 1) := by decide +kernel
theorem dX12_init_1 : decode cX12_init 1 = .ok (.invokespecial 1, 3) := by decide +kernel
theorem dX12_init_4 : decode cX12_init 4 = .ok (.aload_n 0, 1) := by decide +kernel
theorem dX12_init_5 : decode cX12_init 5 = .ok (.sipush 178, 3) := by decide +kernel
theorem dX12_init_8 : decode cX12_init 8 = .ok (.newarray .int, 2) := by decide +kernel
theorem dX12_init_10 : decode cX12_init 10 = .ok (.putfield 7, 3) := by decide +kernel
theorem dX12_init_13 : decode cX12_init 13 = .ok (.aload_n 0, 1) := by decide +kernel
theorem dX12_init_14 : decode cX12_init 14 = .ok (.sipush 356, 3) := by decide +kernel
theorem dX12_init_17 : decode cX12_init 17 = .ok (.newarray .int, 2) := by decide +kernel
theorem dX12_init_19 : decode cX12_init 19 = .ok (.putfield 13, 3) := by decide +kernel
theorem dX12_init_22 : decode cX12_init 22 = .ok (.aload_n 0, 1) := by decide +kernel
theorem dX12_init_23 : decode cX12_init 23 = .ok (.iconst 2, 1) := by decide +kernel
theorem dX12_init_24 : decode cX12_init 24 = .ok (.newarray .boolean, 2) := by decide +kernel
theorem dX12_init_26 : decode cX12_init 26 = .ok (.putfield 16, 3) := by decide +kernel
theorem dX12_init_29 : decode cX12_init 29 = .ok (.aload_n 0, 1) := by decide +kernel
theorem dX12_init_30 : decode cX12_init 30 = .ok (.iconst 3, 1) := by decide +kernel
theorem dX12_init_31 : decode cX12_init 31 = .ok (.newarray .int, 2) := by decide +kernel
theorem dX12_init_33 : decode cX12_init 33 = .ok (.putfield 20, 3) := by decide +kernel
theorem dX12_init_36 : decode cX12_init 36 = .ok (.aload_n 0, 1) := by decide +kernel
theorem dX12_init_37 : decode cX12_init 37 = .ok (.lconst 1, 1) := by decide +kernel
theorem dX12_init_38 : decode cX12_init 38 = .ok (.putfield 23, 3) := by decide +kernel
theorem dX12_init_41 : decode cX12_init 41 = .ok (.aload_n 0, 1) := by decide +kernel
theorem dX12_init_42 : decode cX12_init 42 = .ok (.bipush 7, 2) := by decide +kernel
theorem dX12_init_44 : decode cX12_init 44 = .ok (.newarray .int, 2) := by decide +kernel
theorem dX12_init_46 : decode cX12_init 46 = .ok (.putfield 27, 3) := by decide +kernel
theorem dX12_init_49 : decode cX12_init 49 = .ok (.aload_n 0, 1) := by decide +kernel
theorem dX12_init_50 : decode cX12_init 50 = .ok (.bipush 7, 2) := by decide +kernel
theorem dX12_init_52 : decode cX12_init 52 = .ok (.newarray .int, 2) := by decide +kernel
theorem dX12_init_54 : decode cX12_init 54 = .ok (.putfield 30, 3) := by decide +kernel
theorem dX12_init_57 : decode cX12_init 57 = .ok (.aload_n 0, 1) := by decide +kernel
theorem dX12_init_58 : decode cX12_init 58 = .ok (.bipush 7, 2) := by decide +kernel
theorem dX12_init_60 : decode cX12_init 60 = .ok (.newarray .int, 2) := by decide +kernel
theorem dX12_init_62 : decode cX12_init 62 = .ok (.putfield 33, 3) := by decide +kernel
theorem dX12_init_65 : decode cX12_init 65 = .ok (.aload_n 0, 1) := by decide +kernel
theorem dX12_init_66 : decode cX12_init 66 = .ok (.bipush 112, 2) := by decide +kernel
theorem dX12_init_68 : decode cX12_init 68 = .ok (.newarray .int, 2) := by decide +kernel
theorem dX12_init_70 : decode cX12_init 70 = .ok (.putfield 36, 3) := by decide +kernel
theorem dX12_init_73 : decode cX12_init 73 = .ok (.aload_n 0, 1) := by decide +kernel
theorem dX12_init_74 : decode cX12_init 74 = .ok (.bipush 7, 2) := by decide +kernel
theorem dX12_init_76 : decode cX12_init 76 = .ok (.newarray .int, 2) := by decide +kernel
theorem dX12_init_78 : decode cX12_init 78 = .ok (.putfield 39, 3) := by decide +kernel
theorem dX12_init_81 : decode cX12_init 81 = .ok (.aload_n 0, 1) := by decide +kernel
theorem dX12_init_82 : decode cX12_init 82 = .ok (.sipush 128, 3) := by decide +kernel
theorem dX12_init_85 : decode cX12_init 85 = .ok (.newarray .boolean, 2) := by decide +kernel
theorem dX12_init_87 : decode cX12_init 87 = .ok (.putfield 42, 3) := by decide +kernel
theorem dX12_init_90 : decode cX12_init 90 = .ok (.aload_n 0, 1) := by decide +kernel
theorem dX12_init_91 : decode cX12_init 91 = .ok (.sipush 141, 3) := by decide +kernel
theorem dX12_init_94 : decode cX12_init 94 = .ok (.newarray .int, 2) := by decide +kernel
theorem dX12_init_96 : decode cX12_init 96 = .ok (.putfield 45, 3) := by decide +kernel
theorem dX12_init_99 : decode cX12_init 99 = .ok (.aload_n 0, 1) := by decide +kernel
theorem dX12_init_100 : decode cX12_init 100 = .ok (.iconst 4, 1) := by decide +kernel
theorem dX12_init_101 : decode cX12_init 101 = .ok (.newarray .int, 2) := by decide +kernel
theorem dX12_init_103 : decode cX12_init 103 = .ok (.putfield 48, 3) := by decide +kernel
theorem dX12_init_106 : decode cX12_init 106 = .ok (.aload_n 0, 1) := by decide +kernel
theorem dX12_init_107 : decode cX12_init 107 = .ok (.sipush 150, 3) := by decide +kernel
theorem dX12_init_110 : decode cX12_init 110 = .ok (.newarray .int, 2) := by decide +kernel
theorem dX12_init_112 : decode cX12_init 112 = .ok (.putfield 51, 3) := by decide +kernel
theorem dX12_init_115 : decode cX12_init 115 = .ok (.aload_n 0, 1) := by decide +kernel
theorem dX12_init_116 : decode cX12_init 116 = .ok (.bipush 66, 2) := by decide +kernel
theorem dX12_init_118 : decode cX12_init 118 = .ok (.newarray .int, 2) := by decide +kernel
theorem dX12_init_120 : decode cX12_init 120 = .ok (.putfield 54, 3) := by decide +kernel
theorem dX12_init_123 : decode cX12_init 123 = .ok (.aload_n 0, 1) := by decide +kernel
theorem dX12_init_124 : decode cX12_init 124 = .ok (.iconst 5, 1) := by decide +kernel
theorem dX12_init_125 : decode cX12_init 125 = .ok (.newarray .int, 2) := by decide +kernel
theorem dX12_init_127 : decode cX12_init 127 = .ok (.putfield 57, 3) := by decide +kernel
theorem dX12_init_130 : decode cX12_init 130 = .ok (.aload_n 0, 1) := by decide +kernel
theorem dX12_init_131 : decode cX12_init 131 = .ok (.getfield 7, 3) := by decide +kernel
theorem dX12_init_134 : decode cX12_init 134 = .ok (.bipush 9, 2) := by decide +kernel
theorem dX12_init_136 : decode cX12_init 136 = .ok (.invokestatic 60, 3) := by decide +kernel
theorem dX12_init_139 : decode cX12_init 139 = .ok (.return_, 1) := by decide +kernel
theorem w_22 : Cond.classLink "EveryPewLaw" 7 "EveryPew" ∈ zAll := zti 22 (by decide +kernel) (by decide +kernel)
theorem w_23 : Cond.instantiable "EveryPew" 11 ∈ zAll := zti 23 (by decide +kernel) (by decide +kernel)
theorem w_24 : Cond.methodLink "EveryPewLaw" 9 yX11_init ∈ zAll := zti 24 (by decide +kernel) (by decide +kernel)
theorem w_25 : Cond.instanceMethod yX11_init ∈ zAll := zti 25 (by decide +kernel) (by decide +kernel)
theorem w_26 : Cond.code yX11_init prog_1_method_1_code 2 (Option.none : Option Jvm.ClassFile.FieldType) ∈ zAll := zti 26 (by decide +kernel) (by decide +kernel)
theorem w_27 : Cond.methodLink "EveryPew" 3 ⟨"java/lang/Object", "<init>", "()V"⟩ ∈ zAll := zti 27 (by decide +kernel) (by decide +kernel)
theorem w_28 : Cond.instanceMethod ⟨"java/lang/Object", "<init>", "()V"⟩ ∈ zAll := zti 28 (by decide +kernel) (by decide +kernel)
theorem w_29 : Cond.code ⟨"java/lang/Object", "<init>", "()V"⟩ object_method_1_code 1 (Option.none : Option Jvm.ClassFile.FieldType) ∈ zAll := zti 29 (by decide +kernel) (by decide +kernel)
theorem w_30 : Cond.classLink "EveryPew" 9 "EveryPew$Church" ∈ zAll := zti 30 (by decide +kernel) (by decide +kernel)
theorem w_31 : Cond.instantiable "EveryPew$Church" 16 ∈ zAll := zti 31 (by decide +kernel) (by decide +kernel)
theorem w_32 : Cond.methodLink "EveryPew" 11 yX1_init ∈ zAll := zti 32 (by decide +kernel) (by decide +kernel)
theorem w_33 : Cond.instanceMethod yX1_init ∈ zAll := zti 33 (by decide +kernel) (by decide +kernel)
theorem w_34 : Cond.code yX1_init prog_3_method_1_code 1 (Option.none : Option Jvm.ClassFile.FieldType) ∈ zAll := zti 34 (by decide +kernel) (by decide +kernel)
theorem w_35 : Cond.methodLink "EveryPew$Church" 3 ⟨"java/lang/Object", "<init>", "()V"⟩ ∈ zAll := zti 35 (by decide +kernel) (by decide +kernel)
theorem w_112 : Cond.arrayClass Jvm.ClassFile.FieldType.int ∈ zAll := zti 112 (by decide +kernel) (by decide +kernel)
theorem w_114 : Cond.classLink "EveryPew" 27 "EveryPew$TextOfChurch" ∈ zAll := zti 114 (by decide +kernel) (by decide +kernel)
theorem w_115 : Cond.instantiable "EveryPew$TextOfChurch" 6 ∈ zAll := zti 115 (by decide +kernel) (by decide +kernel)
theorem w_116 : Cond.methodLink "EveryPew" 29 yX9_init ∈ zAll := zti 116 (by decide +kernel) (by decide +kernel)
theorem w_117 : Cond.instanceMethod yX9_init ∈ zAll := zti 117 (by decide +kernel) (by decide +kernel)
theorem w_118 : Cond.code yX9_init prog_11_method_1_code 1 (Option.none : Option Jvm.ClassFile.FieldType) ∈ zAll := zti 118 (by decide +kernel) (by decide +kernel)
theorem w_119 : Cond.methodLink "EveryPew$TextOfChurch" 3 ⟨"java/lang/Object", "<init>", "()V"⟩ ∈ zAll := zti 119 (by decide +kernel) (by decide +kernel)
theorem w_140 : Cond.arrayClass Jvm.ClassFile.FieldType.boolean ∈ zAll := zti 140 (by decide +kernel) (by decide +kernel)
theorem w_141 : Cond.classLink "EveryPew" 34 "EveryPew$Service" ∈ zAll := zti 141 (by decide +kernel) (by decide +kernel)
theorem w_142 : Cond.instantiable "EveryPew$Service" 10 ∈ zAll := zti 142 (by decide +kernel) (by decide +kernel)
theorem w_143 : Cond.methodLink "EveryPew" 36 yX8_init ∈ zAll := zti 143 (by decide +kernel) (by decide +kernel)
theorem w_144 : Cond.instanceMethod yX8_init ∈ zAll := zti 144 (by decide +kernel) (by decide +kernel)
theorem w_145 : Cond.code yX8_init prog_10_method_1_code 1 (Option.none : Option Jvm.ClassFile.FieldType) ∈ zAll := zti 145 (by decide +kernel) (by decide +kernel)
theorem w_146 : Cond.methodLink "EveryPew$Service" 3 ⟨"java/lang/Object", "<init>", "()V"⟩ ∈ zAll := zti 146 (by decide +kernel) (by decide +kernel)
theorem w_147 : Cond.classLink "EveryPew$Service" 9 "EveryPew$Plain" ∈ zAll := zti 147 (by decide +kernel) (by decide +kernel)
theorem w_149 : Cond.instantiable "EveryPew$Plain" 0 ∈ zAll := zti 149 (by decide +kernel) (by decide +kernel)
theorem w_150 : Cond.methodLink "EveryPew$Service" 11 yX6_init ∈ zAll := zti 150 (by decide +kernel) (by decide +kernel)
theorem w_151 : Cond.instanceMethod yX6_init ∈ zAll := zti 151 (by decide +kernel) (by decide +kernel)
theorem w_152 : Cond.code yX6_init prog_8_method_1_code 1 (Option.none : Option Jvm.ClassFile.FieldType) ∈ zAll := zti 152 (by decide +kernel) (by decide +kernel)
theorem w_153 : Cond.methodLink "EveryPew$Plain" 1 ⟨"java/lang/Object", "<init>", "()V"⟩ ∈ zAll := zti 153 (by decide +kernel) (by decide +kernel)
theorem w_155 : Cond.classLink "EveryPew$Service" 12 "EveryPew$Hoarse" ∈ zAll := zti 155 (by decide +kernel) (by decide +kernel)
theorem w_156 : Cond.instantiable "EveryPew$Hoarse" 0 ∈ zAll := zti 156 (by decide +kernel) (by decide +kernel)
theorem w_157 : Cond.methodLink "EveryPew$Service" 14 yX5_init ∈ zAll := zti 157 (by decide +kernel) (by decide +kernel)
theorem w_158 : Cond.instanceMethod yX5_init ∈ zAll := zti 158 (by decide +kernel) (by decide +kernel)
theorem w_159 : Cond.code yX5_init prog_7_method_1_code 1 (Option.none : Option Jvm.ClassFile.FieldType) ∈ zAll := zti 159 (by decide +kernel) (by decide +kernel)
theorem w_160 : Cond.methodLink "EveryPew$Hoarse" 1 yX6_init ∈ zAll := zti 160 (by decide +kernel) (by decide +kernel)
theorem w_162 : Cond.classLink "EveryPew$Service" 15 "EveryPew$Convert" ∈ zAll := zti 162 (by decide +kernel) (by decide +kernel)
theorem w_163 : Cond.instantiable "EveryPew$Convert" 0 ∈ zAll := zti 163 (by decide +kernel) (by decide +kernel)
theorem w_164 : Cond.methodLink "EveryPew$Service" 17 yX2_init ∈ zAll := zti 164 (by decide +kernel) (by decide +kernel)
theorem w_165 : Cond.instanceMethod yX2_init ∈ zAll := zti 165 (by decide +kernel) (by decide +kernel)
theorem w_166 : Cond.code yX2_init prog_4_method_1_code 1 (Option.none : Option Jvm.ClassFile.FieldType) ∈ zAll := zti 166 (by decide +kernel) (by decide +kernel)
theorem w_167 : Cond.methodLink "EveryPew$Convert" 1 yX6_init ∈ zAll := zti 167 (by decide +kernel) (by decide +kernel)
theorem w_169 : Cond.classLink "EveryPew$Service" 18 "EveryPew$Deacon" ∈ zAll := zti 169 (by decide +kernel) (by decide +kernel)
theorem w_170 : Cond.instantiable "EveryPew$Deacon" 0 ∈ zAll := zti 170 (by decide +kernel) (by decide +kernel)
theorem w_171 : Cond.methodLink "EveryPew$Service" 20 yX4_init ∈ zAll := zti 171 (by decide +kernel) (by decide +kernel)
theorem w_172 : Cond.instanceMethod yX4_init ∈ zAll := zti 172 (by decide +kernel) (by decide +kernel)
theorem w_173 : Cond.code yX4_init prog_6_method_1_code 1 (Option.none : Option Jvm.ClassFile.FieldType) ∈ zAll := zti 173 (by decide +kernel) (by decide +kernel)
theorem w_174 : Cond.methodLink "EveryPew$Deacon" 1 yX6_init ∈ zAll := zti 174 (by decide +kernel) (by decide +kernel)
theorem w_176 : Cond.classLink "EveryPew$Service" 21 "EveryPew$Children" ∈ zAll := zti 176 (by decide +kernel) (by decide +kernel)
theorem w_177 : Cond.instantiable "EveryPew$Children" 0 ∈ zAll := zti 177 (by decide +kernel) (by decide +kernel)
theorem w_178 : Cond.methodLink "EveryPew$Service" 23 yX0_init ∈ zAll := zti 178 (by decide +kernel) (by decide +kernel)
theorem w_179 : Cond.instanceMethod yX0_init ∈ zAll := zti 179 (by decide +kernel) (by decide +kernel)
theorem w_180 : Cond.code yX0_init prog_2_method_1_code 1 (Option.none : Option Jvm.ClassFile.FieldType) ∈ zAll := zti 180 (by decide +kernel) (by decide +kernel)
theorem w_181 : Cond.methodLink "EveryPew$Children" 1 yX5_init ∈ zAll := zti 181 (by decide +kernel) (by decide +kernel)
theorem w_183 : Cond.classLink "EveryPew$Service" 24 "EveryPew$Waverers" ∈ zAll := zti 183 (by decide +kernel) (by decide +kernel)
theorem w_184 : Cond.instantiable "EveryPew$Waverers" 0 ∈ zAll := zti 184 (by decide +kernel) (by decide +kernel)
theorem w_185 : Cond.methodLink "EveryPew$Service" 26 yX10_init ∈ zAll := zti 185 (by decide +kernel) (by decide +kernel)
theorem w_186 : Cond.instanceMethod yX10_init ∈ zAll := zti 186 (by decide +kernel) (by decide +kernel)
theorem w_187 : Cond.code yX10_init prog_12_method_1_code 1 (Option.none : Option Jvm.ClassFile.FieldType) ∈ zAll := zti 187 (by decide +kernel) (by decide +kernel)
theorem w_188 : Cond.methodLink "EveryPew$Waverers" 1 yX2_init ∈ zAll := zti 188 (by decide +kernel) (by decide +kernel)
theorem w_226 : Cond.classLink "EveryPew" 41 "EveryPew$Seating" ∈ zAll := zti 226 (by decide +kernel) (by decide +kernel)
theorem w_227 : Cond.instantiable "EveryPew$Seating" 3 ∈ zAll := zti 227 (by decide +kernel) (by decide +kernel)
theorem w_228 : Cond.methodLink "EveryPew" 43 yX7_init ∈ zAll := zti 228 (by decide +kernel) (by decide +kernel)
theorem w_229 : Cond.instanceMethod yX7_init ∈ zAll := zti 229 (by decide +kernel) (by decide +kernel)
theorem w_230 : Cond.code yX7_init prog_9_method_1_code 1 (Option.none : Option Jvm.ClassFile.FieldType) ∈ zAll := zti 230 (by decide +kernel) (by decide +kernel)
theorem w_231 : Cond.methodLink "EveryPew$Seating" 3 ⟨"java/lang/Object", "<init>", "()V"⟩ ∈ zAll := zti 231 (by decide +kernel) (by decide +kernel)
theorem w_242 : Cond.classLink "EveryPew" 48 "EveryPew$Coughs" ∈ zAll := zti 242 (by decide +kernel) (by decide +kernel)
theorem w_243 : Cond.instantiable "EveryPew$Coughs" 6 ∈ zAll := zti 243 (by decide +kernel) (by decide +kernel)
theorem w_244 : Cond.methodLink "EveryPew" 50 yX3_init ∈ zAll := zti 244 (by decide +kernel) (by decide +kernel)
theorem w_245 : Cond.instanceMethod yX3_init ∈ zAll := zti 245 (by decide +kernel) (by decide +kernel)
theorem w_246 : Cond.code yX3_init prog_5_method_1_code 1 (Option.none : Option Jvm.ClassFile.FieldType) ∈ zAll := zti 246 (by decide +kernel) (by decide +kernel)
theorem w_247 : Cond.methodLink "EveryPew$Coughs" 3 ⟨"java/lang/Object", "<init>", "()V"⟩ ∈ zAll := zti 247 (by decide +kernel) (by decide +kernel)
theorem w_832 : Cond.classLink "EveryPewLaw" 10 "EveryPewModel" ∈ zAll := zti 832 (by decide +kernel) (by decide +kernel)
theorem w_833 : Cond.instantiable "EveryPewModel" 25 ∈ zAll := zti 833 (by decide +kernel) (by decide +kernel)
theorem w_834 : Cond.methodLink "EveryPewLaw" 12 yX12_init ∈ zAll := zti 834 (by decide +kernel) (by decide +kernel)
theorem w_835 : Cond.instanceMethod yX12_init ∈ zAll := zti 835 (by decide +kernel) (by decide +kernel)
theorem w_836 : Cond.code yX12_init prog_14_method_1_code 1 (Option.none : Option Jvm.ClassFile.FieldType) ∈ zAll := zti 836 (by decide +kernel) (by decide +kernel)
theorem w_837 : Cond.methodLink "EveryPewModel" 1 ⟨"java/lang/Object", "<init>", "()V"⟩ ∈ zAll := zti 837 (by decide +kernel) (by decide +kernel)
theorem ds_X0_init : zDs yX0_init 0 := ⟨by decide, by decide, by decide +kernel⟩
theorem ds_X1_init : zDs yX1_init 0 := ⟨by decide, by decide, by decide +kernel⟩
theorem ds_X2_init : zDs yX2_init 0 := ⟨by decide, by decide, by decide +kernel⟩
theorem ds_X3_init : zDs yX3_init 0 := ⟨by decide, by decide, by decide +kernel⟩
theorem ds_X4_init : zDs yX4_init 0 := ⟨by decide, by decide, by decide +kernel⟩
theorem ds_X5_init : zDs yX5_init 0 := ⟨by decide, by decide, by decide +kernel⟩
theorem ds_X6_init : zDs yX6_init 0 := ⟨by decide, by decide, by decide +kernel⟩
theorem ds_X7_init : zDs yX7_init 0 := ⟨by decide, by decide, by decide +kernel⟩
theorem ds_X8_init : zDs yX8_init 0 := ⟨by decide, by decide, by decide +kernel⟩
theorem ds_X9_init : zDs yX9_init 0 := ⟨by decide, by decide, by decide +kernel⟩
theorem ds_X10_init : zDs yX10_init 0 := ⟨by decide, by decide, by decide +kernel⟩
theorem ds_X11_init : zDs yX11_init 0 := ⟨by decide, by decide, by decide +kernel⟩
theorem ds_X12_init : zDs yX12_init 0 := ⟨by decide, by decide, by decide +kernel⟩
set_option maxRecDepth 100000 in
set_option maxHeartbeats 4000000 in
theorem S_X6_init (ci : Nat) : qSd yX6_init cX6_init 1 { frames := 1, cells := 0, slots := 0, locals := 12 } ci [] 0 (fun _ u => [(u 0, .inr (ci, []))]) := qMet (by decide) rfl (by decide) (fun {p l e s m args below meth c D ids A} h0 C hr hk hin => by
  refine q_al C dX6_init_0 rfl (List.mem_cons_self) ?_
  refine q_obj C dX6_init_1 w_153 w_28 w_29 (by decide) (by decide) ?_
  exact q_vr C hr hk dX6_init_4 (by decide) (by decide) (fun _ => h0) rfl rfl)
set_option maxRecDepth 100000 in
set_option maxHeartbeats 4000000 in
theorem S_X5_init (ci : Nat) : qSd yX5_init cX5_init 1 { frames := 2, cells := 0, slots := 0, locals := 32 } ci [] 0 (fun _ u => [(u 0, .inr (ci, []))]) := qMet (by decide) rfl (by decide) (fun {p l e s m args below meth c D ids A} h0 C hr hk hin => by
  refine q_al C dX5_init_0 rfl (List.mem_cons_self) ?_
  refine q_init (ws := []) C dX5_init_1 (S_X6_init ci) w_160 w_151 w_5 w_152 ds_X6_init rfl ⟨by decide, by decide⟩ (by decide) (by decide) (Nat.le_of_ble_eq_true rfl) (fun u1_1 hu1_1 => ?_)
  subst hu1_1
  exact q_vr C hr hk dX5_init_4 (by decide) (by decide) (fun _ => u1_1 0) rfl rfl)
set_option maxRecDepth 100000 in
set_option maxHeartbeats 4000000 in
theorem S_X2_init (ci : Nat) : qSd yX2_init cX2_init 1 { frames := 2, cells := 0, slots := 0, locals := 32 } ci [] 0 (fun _ u => [(u 0, .inr (ci, []))]) := qMet (by decide) rfl (by decide) (fun {p l e s m args below meth c D ids A} h0 C hr hk hin => by
  refine q_al C dX2_init_0 rfl (List.mem_cons_self) ?_
  refine q_init (ws := []) C dX2_init_1 (S_X6_init ci) w_167 w_151 w_5 w_152 ds_X6_init rfl ⟨by decide, by decide⟩ (by decide) (by decide) (Nat.le_of_ble_eq_true rfl) (fun u1_1 hu1_1 => ?_)
  subst hu1_1
  exact q_vr C hr hk dX2_init_4 (by decide) (by decide) (fun _ => u1_1 0) rfl rfl)
set_option maxRecDepth 100000 in
set_option maxHeartbeats 4000000 in
theorem S_X4_init (ci : Nat) : qSd yX4_init cX4_init 1 { frames := 2, cells := 0, slots := 0, locals := 32 } ci [] 0 (fun _ u => [(u 0, .inr (ci, []))]) := qMet (by decide) rfl (by decide) (fun {p l e s m args below meth c D ids A} h0 C hr hk hin => by
  refine q_al C dX4_init_0 rfl (List.mem_cons_self) ?_
  refine q_init (ws := []) C dX4_init_1 (S_X6_init ci) w_174 w_151 w_5 w_152 ds_X6_init rfl ⟨by decide, by decide⟩ (by decide) (by decide) (Nat.le_of_ble_eq_true rfl) (fun u1_1 hu1_1 => ?_)
  subst hu1_1
  exact q_vr C hr hk dX4_init_4 (by decide) (by decide) (fun _ => u1_1 0) rfl rfl)
set_option maxRecDepth 100000 in
set_option maxHeartbeats 4000000 in
theorem S_X0_init (ci : Nat) : qSd yX0_init cX0_init 1 { frames := 3, cells := 0, slots := 0, locals := 52 } ci [] 0 (fun _ u => [(u 0, .inr (ci, []))]) := qMet (by decide) rfl (by decide) (fun {p l e s m args below meth c D ids A} h0 C hr hk hin => by
  refine q_al C dX0_init_0 rfl (List.mem_cons_self) ?_
  refine q_init (ws := []) C dX0_init_1 (S_X5_init ci) w_181 w_158 w_6 w_159 ds_X5_init rfl ⟨by decide, by decide⟩ (by decide) (by decide) (Nat.le_of_ble_eq_true rfl) (fun u1_1 hu1_1 => ?_)
  subst hu1_1
  exact q_vr C hr hk dX0_init_4 (by decide) (by decide) (fun _ => u1_1 0) rfl rfl)
set_option maxRecDepth 100000 in
set_option maxHeartbeats 4000000 in
theorem S_X10_init (ci : Nat) : qSd yX10_init cX10_init 1 { frames := 3, cells := 0, slots := 0, locals := 52 } ci [] 0 (fun _ u => [(u 0, .inr (ci, []))]) := qMet (by decide) rfl (by decide) (fun {p l e s m args below meth c D ids A} h0 C hr hk hin => by
  refine q_al C dX10_init_0 rfl (List.mem_cons_self) ?_
  refine q_init (ws := []) C dX10_init_1 (S_X2_init ci) w_188 w_165 w_7 w_166 ds_X2_init rfl ⟨by decide, by decide⟩ (by decide) (by decide) (Nat.le_of_ble_eq_true rfl) (fun u1_1 hu1_1 => ?_)
  subst hu1_1
  exact q_vr C hr hk dX10_init_4 (by decide) (by decide) (fun _ => u1_1 0) rfl rfl)
set_option maxRecDepth 100000 in
set_option maxHeartbeats 4000000 in
theorem S_X1_init : qSd yX1_init cX1_init 1 { frames := 1, cells := 11, slots := 119, locals := 12 } 1 [.int 0, .null, .int 0, .null, .null, .null, .null, .null, .int 0, .int 0, .null, .null, .null, .int 0, .null, .null] 1 (fun ids u => qWo ids u [1, 2, 3, 4, 5, 6, 7, 8, 9, 10, 11, 12]) := qMet (by decide) rfl (by decide) (fun {p l e s m args below meth c D ids A} h0 C hr hk hin => by
  refine q_al C dX1_init_0 rfl (List.mem_cons_self) ?_
  refine q_obj C dX1_init_1 w_35 w_28 w_29 (by decide) (by decide) ?_
  refine q_al C dX1_init_4 rfl (List.mem_cons_self) ?_
  refine q_bi (v := 9) C dX1_init_5 (by decide) ?_
  refine q_put (ci := 1) (j := 0) (N := 16) (Cn := RX1) (T := TX1) (ty0 := tyX1) (ty := .int) C dX1_init_7 rfl tyX1_ok nmX1 (by decide) w_36 rfl (by decide +kernel) rfl rfl (Nat.le_of_ble_eq_true rfl) ?_
  refine q_al C dX1_init_10 rfl (List.mem_cons_self) ?_
  refine q_ic (v := 2) C dX1_init_11 (by decide) ?_
  refine q_newi (N := 2) C dX1_init_12 w_112 (by decide) (by decide) (by decide) (by decide) (by decide) (fun q12 => ?_)
  refine q_putF (ci := 1) (j := 1) (N := 16) (Cn := RX1) (T := TX1) (ty0 := tyX1) (ty := (.array .int)) C hin dX1_init_14 rfl tyX1_ok nmX1 (by decide) w_39 rfl rfl (by decide +kernel) rfl rfl (Nat.le_of_ble_eq_true rfl) ?_
  refine q_al C dX1_init_17 rfl (List.mem_cons_self) ?_
  refine q_bi (v := 7) C dX1_init_18 (by decide) ?_
  refine q_newi (N := 7) C dX1_init_20 w_112 (by decide) (by decide) (by decide) (by decide) (by decide) (fun q20 => ?_)
  refine q_putF (ci := 1) (j := 3) (N := 16) (Cn := RX1) (T := TX1) (ty0 := tyX1) (ty := (.array .int)) C hin dX1_init_22 rfl tyX1_ok nmX1 (by decide) w_47 rfl rfl (by decide +kernel) rfl rfl (Nat.le_of_ble_eq_true rfl) ?_
  refine q_al C dX1_init_25 rfl (List.mem_cons_self) ?_
  refine q_bi (v := 7) C dX1_init_26 (by decide) ?_
  refine q_newi (N := 7) C dX1_init_28 w_112 (by decide) (by decide) (by decide) (by decide) (by decide) (fun q28 => ?_)
  refine q_putF (ci := 1) (j := 4) (N := 16) (Cn := RX1) (T := TX1) (ty0 := tyX1) (ty := (.array .int)) C hin dX1_init_30 rfl tyX1_ok nmX1 (by decide) w_50 rfl rfl (by decide +kernel) rfl rfl (Nat.le_of_ble_eq_true rfl) ?_
  refine q_al C dX1_init_33 rfl (List.mem_cons_self) ?_
  refine q_bi (v := 7) C dX1_init_34 (by decide) ?_
  refine q_newi (N := 7) C dX1_init_36 w_112 (by decide) (by decide) (by decide) (by decide) (by decide) (fun q36 => ?_)
  refine q_putF (ci := 1) (j := 5) (N := 16) (Cn := RX1) (T := TX1) (ty0 := tyX1) (ty := (.array .int)) C hin dX1_init_38 rfl tyX1_ok nmX1 (by decide) w_53 rfl rfl (by decide +kernel) rfl rfl (Nat.le_of_ble_eq_true rfl) ?_
  refine q_al C dX1_init_41 rfl (List.mem_cons_self) ?_
  refine q_bi (v := 7) C dX1_init_42 (by decide) ?_
  refine q_newi (N := 7) C dX1_init_44 w_112 (by decide) (by decide) (by decide) (by decide) (by decide) (fun q44 => ?_)
  refine q_putF (ci := 1) (j := 6) (N := 16) (Cn := RX1) (T := TX1) (ty0 := tyX1) (ty := (.array .int)) C hin dX1_init_46 rfl tyX1_ok nmX1 (by decide) w_55 rfl rfl (by decide +kernel) rfl rfl (Nat.le_of_ble_eq_true rfl) ?_
  refine q_al C dX1_init_49 rfl (List.mem_cons_self) ?_
  refine q_bi (v := 7) C dX1_init_50 (by decide) ?_
  refine q_newi (N := 7) C dX1_init_52 w_112 (by decide) (by decide) (by decide) (by decide) (by decide) (fun q52 => ?_)
  refine q_putF (ci := 1) (j := 7) (N := 16) (Cn := RX1) (T := TX1) (ty0 := tyX1) (ty := (.array .int)) C hin dX1_init_54 rfl tyX1_ok nmX1 (by decide) w_57 rfl rfl (by decide +kernel) rfl rfl (Nat.le_of_ble_eq_true rfl) ?_
  refine q_al C dX1_init_57 rfl (List.mem_cons_self) ?_
  refine q_bi (v := 6) C dX1_init_58 (by decide) ?_
  refine q_newi (N := 6) C dX1_init_60 w_112 (by decide) (by decide) (by decide) (by decide) (by decide) (fun q60 => ?_)
  refine q_putF (ci := 1) (j := 10) (N := 16) (Cn := RX1) (T := TX1) (ty0 := tyX1) (ty := (.array .int)) C hin dX1_init_62 rfl tyX1_ok nmX1 (by decide) w_66 rfl rfl (by decide +kernel) rfl rfl (Nat.le_of_ble_eq_true rfl) ?_
  refine q_al C dX1_init_65 rfl (List.mem_cons_self) ?_
  refine q_bi (v := 6) C dX1_init_66 (by decide) ?_
  refine q_newi (N := 6) C dX1_init_68 w_112 (by decide) (by decide) (by decide) (by decide) (by decide) (fun q68 => ?_)
  refine q_putF (ci := 1) (j := 11) (N := 16) (Cn := RX1) (T := TX1) (ty0 := tyX1) (ty := (.array .int)) C hin dX1_init_70 rfl tyX1_ok nmX1 (by decide) w_69 rfl rfl (by decide +kernel) rfl rfl (Nat.le_of_ble_eq_true rfl) ?_
  refine q_al C dX1_init_73 rfl (List.mem_cons_self) ?_
  refine q_bi (v := 6) C dX1_init_74 (by decide) ?_
  refine q_newi (N := 6) C dX1_init_76 w_112 (by decide) (by decide) (by decide) (by decide) (by decide) (fun q76 => ?_)
  refine q_putF (ci := 1) (j := 12) (N := 16) (Cn := RX1) (T := TX1) (ty0 := tyX1) (ty := (.array .int)) C hin dX1_init_78 rfl tyX1_ok nmX1 (by decide) w_72 rfl rfl (by decide +kernel) rfl rfl (Nat.le_of_ble_eq_true rfl) ?_
  refine q_al C dX1_init_81 rfl (List.mem_cons_self) ?_
  refine q_bi (v := 56) C dX1_init_82 (by decide) ?_
  refine q_newi (N := 56) C dX1_init_84 w_112 (by decide) (by decide) (by decide) (by decide) (by decide) (fun q84 => ?_)
  refine q_putF (ci := 1) (j := 14) (N := 16) (Cn := RX1) (T := TX1) (ty0 := tyX1) (ty := (.array .int)) C hin dX1_init_86 rfl tyX1_ok nmX1 (by decide) w_77 rfl rfl (by decide +kernel) rfl rfl (Nat.le_of_ble_eq_true rfl) ?_
  refine q_al C dX1_init_89 rfl (List.mem_cons_self) ?_
  refine q_bi (v := 8) C dX1_init_90 (by decide) ?_
  refine q_newi (N := 8) C dX1_init_92 w_112 (by decide) (by decide) (by decide) (by decide) (by decide) (fun q92 => ?_)
  refine q_putF (ci := 1) (j := 15) (N := 16) (Cn := RX1) (T := TX1) (ty0 := tyX1) (ty := (.array .int)) C hin dX1_init_94 rfl tyX1_ok nmX1 (by decide) w_78 rfl rfl (by decide +kernel) rfl rfl (Nat.le_of_ble_eq_true rfl) ?_
  refine q_vr C hr hk dX1_init_97 (by decide) (by decide) (q_at [h0, q12, q20, q28, q36, q44, q52, q60, q68, q76, q84, q92] 1) rfl ?_
  rfl)
set_option maxRecDepth 100000 in
set_option maxHeartbeats 4000000 in
theorem S_X9_init : qSd yX9_init cX9_init 1 { frames := 1, cells := 1, slots := 150, locals := 12 } 9 [.null, .int 0, .int 0, .int 0, .int 0, .int 0] 51 (fun ids u => qWo ids u [51, 52]) := qMet (by decide) rfl (by decide) (fun {p l e s m args below meth c D ids A} h0 C hr hk hin => by
  refine q_al C dX9_init_0 rfl (List.mem_cons_self) ?_
  refine q_obj C dX9_init_1 w_119 w_28 w_29 (by decide) (by decide) ?_
  refine q_al C dX9_init_4 rfl (List.mem_cons_self) ?_
  refine q_si (v := 150) C dX9_init_5 (by decide) ?_
  refine q_newi (N := 150) C dX9_init_8 w_112 (by decide) (by decide) (by decide) (by decide) (by decide) (fun q8 => ?_)
  refine q_putF (ci := 9) (j := 0) (N := 6) (Cn := RX9) (T := TX9) (ty0 := tyX9) (ty := (.array .int)) C hin dX9_init_10 rfl tyX9_ok nmX9 (by decide) w_120 rfl rfl (by decide +kernel) rfl rfl (Nat.le_of_ble_eq_true rfl) ?_
  refine q_vr C hr hk dX9_init_13 (by decide) (by decide) (q_at [h0, q8] 51) rfl ?_
  rfl)
set_option maxRecDepth 100000 in
set_option maxHeartbeats 4000000 in
theorem S_X7_init : qSd yX7_init cX7_init 1 { frames := 1, cells := 2, slots := 640, locals := 12 } 7 [.null, .null, .int 0] 68 (fun ids u => qWo ids u [68, 69, 70]) := qMet (by decide) rfl (by decide) (fun {p l e s m args below meth c D ids A} h0 C hr hk hin => by
  refine q_al C dX7_init_0 rfl (List.mem_cons_self) ?_
  refine q_obj C dX7_init_1 w_231 w_28 w_29 (by decide) (by decide) ?_
  refine q_al C dX7_init_4 rfl (List.mem_cons_self) ?_
  refine q_si (v := 128) C dX7_init_5 (by decide) ?_
  refine q_newi (N := 128) C dX7_init_8 w_112 (by decide) (by decide) (by decide) (by decide) (by decide) (fun q8 => ?_)
  refine q_putF (ci := 7) (j := 0) (N := 3) (Cn := RX7) (T := TX7) (ty0 := tyX7) (ty := (.array .int)) C hin dX7_init_10 rfl tyX7_ok nmX7 (by decide) w_232 rfl rfl (by decide +kernel) rfl rfl (Nat.le_of_ble_eq_true rfl) ?_
  refine q_al C dX7_init_13 rfl (List.mem_cons_self) ?_
  refine q_si (v := 512) C dX7_init_14 (by decide) ?_
  refine q_newi (N := 512) C dX7_init_17 w_112 (by decide) (by decide) (by decide) (by decide) (by decide) (fun q17 => ?_)
  refine q_putF (ci := 7) (j := 1) (N := 3) (Cn := RX7) (T := TX7) (ty0 := tyX7) (ty := (.array .int)) C hin dX7_init_19 rfl tyX7_ok nmX7 (by decide) w_233 rfl rfl (by decide +kernel) rfl rfl (Nat.le_of_ble_eq_true rfl) ?_
  refine q_vr C hr hk dX7_init_22 (by decide) (by decide) (q_at [h0, q8, q17] 68) rfl ?_
  rfl)
set_option maxRecDepth 100000 in
set_option maxHeartbeats 4000000 in
theorem S_X3_init : qSd yX3_init cX3_init 1 { frames := 1, cells := 2, slots := 269, locals := 12 } 3 [.null, .null, .int 0, .int 0, .int 0, .int 0] 71 (fun ids u => qWo ids u [71, 72, 73]) := qMet (by decide) rfl (by decide) (fun {p l e s m args below meth c D ids A} h0 C hr hk hin => by
  refine q_al C dX3_init_0 rfl (List.mem_cons_self) ?_
  refine q_obj C dX3_init_1 w_247 w_28 w_29 (by decide) (by decide) ?_
  refine q_al C dX3_init_4 rfl (List.mem_cons_self) ?_
  refine q_si (v := 128) C dX3_init_5 (by decide) ?_
  refine q_newz (N := 128) C dX3_init_8 w_140 (by decide) (by decide) (by decide) (by decide) (by decide) (fun q8 => ?_)
  refine q_putF (ci := 3) (j := 0) (N := 6) (Cn := RX3) (T := TX3) (ty0 := tyX3) (ty := (.array .boolean)) C hin dX3_init_10 rfl tyX3_ok nmX3 (by decide) w_248 rfl rfl (by decide +kernel) rfl rfl (Nat.le_of_ble_eq_true rfl) ?_
  refine q_al C dX3_init_13 rfl (List.mem_cons_self) ?_
  refine q_si (v := 141) C dX3_init_14 (by decide) ?_
  refine q_newi (N := 141) C dX3_init_17 w_112 (by decide) (by decide) (by decide) (by decide) (by decide) (fun q17 => ?_)
  refine q_putF (ci := 3) (j := 1) (N := 6) (Cn := RX3) (T := TX3) (ty0 := tyX3) (ty := (.array .int)) C hin dX3_init_19 rfl tyX3_ok nmX3 (by decide) w_249 rfl rfl (by decide +kernel) rfl rfl (Nat.le_of_ble_eq_true rfl) ?_
  refine q_vr C hr hk dX3_init_22 (by decide) (by decide) (q_at [h0, q8, q17] 71) rfl ?_
  rfl)
set_option maxRecDepth 100000 in
set_option maxHeartbeats 4000000 in
theorem S_X12_init : qSd yX12_init cX12_init 1 { frames := 1, cells := 15, slots := 1173, locals := 22 } 12 [.null, .null, .null, .null, .long 0, .long 0, .null, .null, .null, .int 0, .null, .null, .int 0, .null, .int 0, .null, .null, .null, .int 0, .int 0, .int 0, .int 0, .int 0, .null, .null] 75 (fun ids u => qWo ids u [75, 77, 78, 79, 80, 81, 82, 83, 84, 85, 86, 87, 88, 89, 90, 76]) := qMet (by decide) rfl (by decide) (fun {p l e s m args below meth c D ids A} h0 C hr hk hin => by
  refine q_al C dX12_init_0 rfl (List.mem_cons_self) ?_
  refine q_obj C dX12_init_1 w_837 w_28 w_29 (by decide) (by decide) ?_
  refine q_al C dX12_init_4 rfl (List.mem_cons_self) ?_
  refine q_si (v := 178) C dX12_init_5 (by decide) ?_
  refine q_newi (N := 178) C dX12_init_8 w_112 (by decide) (by decide) (by decide) (by decide) (by decide) (fun q8 => ?_)
  refine q_putF (ci := 12) (j := 0) (N := 25) (Cn := RX12) (T := TX12) (ty0 := tyX12) (ty := (.array .int)) C hin dX12_init_10 rfl tyX12_ok nmX12 (by decide) w_841 rfl rfl (by decide +kernel) rfl rfl (Nat.le_of_ble_eq_true rfl) ?_
  refine q_al C dX12_init_13 rfl (List.mem_cons_self) ?_
  refine q_si (v := 356) C dX12_init_14 (by decide) ?_
  refine q_newi (N := 356) C dX12_init_17 w_112 (by decide) (by decide) (by decide) (by decide) (by decide) (fun q17 => ?_)
  refine q_putF (ci := 12) (j := 1) (N := 25) (Cn := RX12) (T := TX12) (ty0 := tyX12) (ty := (.array .int)) C hin dX12_init_19 rfl tyX12_ok nmX12 (by decide) w_842 rfl rfl (by decide +kernel) rfl rfl (Nat.le_of_ble_eq_true rfl) ?_
  refine q_al C dX12_init_22 rfl (List.mem_cons_self) ?_
  refine q_ic (v := 2) C dX12_init_23 (by decide) ?_
  refine q_newz (N := 2) C dX12_init_24 w_140 (by decide) (by decide) (by decide) (by decide) (by decide) (fun q24 => ?_)
  refine q_putF (ci := 12) (j := 2) (N := 25) (Cn := RX12) (T := TX12) (ty0 := tyX12) (ty := (.array .boolean)) C hin dX12_init_26 rfl tyX12_ok nmX12 (by decide) w_843 rfl rfl (by decide +kernel) rfl rfl (Nat.le_of_ble_eq_true rfl) ?_
  refine q_al C dX12_init_29 rfl (List.mem_cons_self) ?_
  refine q_ic (v := 3) C dX12_init_30 (by decide) ?_
  refine q_newi (N := 3) C dX12_init_31 w_112 (by decide) (by decide) (by decide) (by decide) (by decide) (fun q31 => ?_)
  refine q_putF (ci := 12) (j := 3) (N := 25) (Cn := RX12) (T := TX12) (ty0 := tyX12) (ty := (.array .int)) C hin dX12_init_33 rfl tyX12_ok nmX12 (by decide) w_844 rfl rfl (by decide +kernel) rfl rfl (Nat.le_of_ble_eq_true rfl) ?_
  refine q_al C dX12_init_36 rfl (List.mem_cons_self) ?_
  refine q_lc (v := 1) C dX12_init_37 (by decide) ?_
  refine q_put (ci := 12) (j := 5) (N := 25) (Cn := RX12) (T := TX12) (ty0 := tyX12) (ty := .long) C dX12_init_38 rfl tyX12_ok nmX12 (by decide) w_846 rfl (by decide +kernel) rfl rfl (Nat.le_of_ble_eq_true rfl) ?_
  refine q_al C dX12_init_41 rfl (List.mem_cons_self) ?_
  refine q_bi (v := 7) C dX12_init_42 (by decide) ?_
  refine q_newi (N := 7) C dX12_init_44 w_112 (by decide) (by decide) (by decide) (by decide) (by decide) (fun q44 => ?_)
  refine q_putF (ci := 12) (j := 6) (N := 25) (Cn := RX12) (T := TX12) (ty0 := tyX12) (ty := (.array .int)) C hin dX12_init_46 rfl tyX12_ok nmX12 (by decide) w_847 rfl rfl (by decide +kernel) rfl rfl (Nat.le_of_ble_eq_true rfl) ?_
  refine q_al C dX12_init_49 rfl (List.mem_cons_self) ?_
  refine q_bi (v := 7) C dX12_init_50 (by decide) ?_
  refine q_newi (N := 7) C dX12_init_52 w_112 (by decide) (by decide) (by decide) (by decide) (by decide) (fun q52 => ?_)
  refine q_putF (ci := 12) (j := 7) (N := 25) (Cn := RX12) (T := TX12) (ty0 := tyX12) (ty := (.array .int)) C hin dX12_init_54 rfl tyX12_ok nmX12 (by decide) w_848 rfl rfl (by decide +kernel) rfl rfl (Nat.le_of_ble_eq_true rfl) ?_
  refine q_al C dX12_init_57 rfl (List.mem_cons_self) ?_
  refine q_bi (v := 7) C dX12_init_58 (by decide) ?_
  refine q_newi (N := 7) C dX12_init_60 w_112 (by decide) (by decide) (by decide) (by decide) (by decide) (fun q60 => ?_)
  refine q_putF (ci := 12) (j := 8) (N := 25) (Cn := RX12) (T := TX12) (ty0 := tyX12) (ty := (.array .int)) C hin dX12_init_62 rfl tyX12_ok nmX12 (by decide) w_849 rfl rfl (by decide +kernel) rfl rfl (Nat.le_of_ble_eq_true rfl) ?_
  refine q_al C dX12_init_65 rfl (List.mem_cons_self) ?_
  refine q_bi (v := 112) C dX12_init_66 (by decide) ?_
  refine q_newi (N := 112) C dX12_init_68 w_112 (by decide) (by decide) (by decide) (by decide) (by decide) (fun q68 => ?_)
  refine q_putF (ci := 12) (j := 10) (N := 25) (Cn := RX12) (T := TX12) (ty0 := tyX12) (ty := (.array .int)) C hin dX12_init_70 rfl tyX12_ok nmX12 (by decide) w_851 rfl rfl (by decide +kernel) rfl rfl (Nat.le_of_ble_eq_true rfl) ?_
  refine q_al C dX12_init_73 rfl (List.mem_cons_self) ?_
  refine q_bi (v := 7) C dX12_init_74 (by decide) ?_
  refine q_newi (N := 7) C dX12_init_76 w_112 (by decide) (by decide) (by decide) (by decide) (by decide) (fun q76 => ?_)
  refine q_putF (ci := 12) (j := 11) (N := 25) (Cn := RX12) (T := TX12) (ty0 := tyX12) (ty := (.array .int)) C hin dX12_init_78 rfl tyX12_ok nmX12 (by decide) w_852 rfl rfl (by decide +kernel) rfl rfl (Nat.le_of_ble_eq_true rfl) ?_
  refine q_al C dX12_init_81 rfl (List.mem_cons_self) ?_
  refine q_si (v := 128) C dX12_init_82 (by decide) ?_
  refine q_newz (N := 128) C dX12_init_85 w_140 (by decide) (by decide) (by decide) (by decide) (by decide) (fun q85 => ?_)
  refine q_putF (ci := 12) (j := 13) (N := 25) (Cn := RX12) (T := TX12) (ty0 := tyX12) (ty := (.array .boolean)) C hin dX12_init_87 rfl tyX12_ok nmX12 (by decide) w_854 rfl rfl (by decide +kernel) rfl rfl (Nat.le_of_ble_eq_true rfl) ?_
  refine q_al C dX12_init_90 rfl (List.mem_cons_self) ?_
  refine q_si (v := 141) C dX12_init_91 (by decide) ?_
  refine q_newi (N := 141) C dX12_init_94 w_112 (by decide) (by decide) (by decide) (by decide) (by decide) (fun q94 => ?_)
  refine q_putF (ci := 12) (j := 15) (N := 25) (Cn := RX12) (T := TX12) (ty0 := tyX12) (ty := (.array .int)) C hin dX12_init_96 rfl tyX12_ok nmX12 (by decide) w_856 rfl rfl (by decide +kernel) rfl rfl (Nat.le_of_ble_eq_true rfl) ?_
  refine q_al C dX12_init_99 rfl (List.mem_cons_self) ?_
  refine q_ic (v := 4) C dX12_init_100 (by decide) ?_
  refine q_newi (N := 4) C dX12_init_101 w_112 (by decide) (by decide) (by decide) (by decide) (by decide) (fun q101 => ?_)
  refine q_putF (ci := 12) (j := 16) (N := 25) (Cn := RX12) (T := TX12) (ty0 := tyX12) (ty := (.array .int)) C hin dX12_init_103 rfl tyX12_ok nmX12 (by decide) w_857 rfl rfl (by decide +kernel) rfl rfl (Nat.le_of_ble_eq_true rfl) ?_
  refine q_al C dX12_init_106 rfl (List.mem_cons_self) ?_
  refine q_si (v := 150) C dX12_init_107 (by decide) ?_
  refine q_newi (N := 150) C dX12_init_110 w_112 (by decide) (by decide) (by decide) (by decide) (by decide) (fun q110 => ?_)
  refine q_putF (ci := 12) (j := 17) (N := 25) (Cn := RX12) (T := TX12) (ty0 := tyX12) (ty := (.array .int)) C hin dX12_init_112 rfl tyX12_ok nmX12 (by decide) w_858 rfl rfl (by decide +kernel) rfl rfl (Nat.le_of_ble_eq_true rfl) ?_
  refine q_al C dX12_init_115 rfl (List.mem_cons_self) ?_
  refine q_bi (v := 66) C dX12_init_116 (by decide) ?_
  refine q_newi (N := 66) C dX12_init_118 w_112 (by decide) (by decide) (by decide) (by decide) (by decide) (fun q118 => ?_)
  refine q_putF (ci := 12) (j := 23) (N := 25) (Cn := RX12) (T := TX12) (ty0 := tyX12) (ty := (.array .int)) C hin dX12_init_120 rfl tyX12_ok nmX12 (by decide) w_864 rfl rfl (by decide +kernel) rfl rfl (Nat.le_of_ble_eq_true rfl) ?_
  refine q_al C dX12_init_123 rfl (List.mem_cons_self) ?_
  refine q_ic (v := 5) C dX12_init_124 (by decide) ?_
  refine q_newi (N := 5) C dX12_init_125 w_112 (by decide) (by decide) (by decide) (by decide) (by decide) (fun q125 => ?_)
  refine q_putF (ci := 12) (j := 24) (N := 25) (Cn := RX12) (T := TX12) (ty0 := tyX12) (ty := (.array .int)) C hin dX12_init_127 rfl tyX12_ok nmX12 (by decide) w_865 rfl rfl (by decide +kernel) rfl rfl (Nat.le_of_ble_eq_true rfl) ?_
  refine q_al C dX12_init_130 rfl (List.mem_cons_self) ?_
  refine q_get (ci := 12) (j := 0) (N := 25) (Cn := RX12) (T := TX12) (v := .ref (q8)) C dX12_init_131 rfl (by decide) w_841 rfl ?_
  refine q_bi (v := 9) C dX12_init_134 (by decide) ?_
  refine q_perm [0, 2, 3, 4, 5, 6, 7, 8, 9, 10, 11, 12, 13, 14, 15, 1] (ws' := [(h0, .inr (12, [.ref q8, .ref q17, .ref q24, .ref q31, .long 0, .long 1, .ref q44, .ref q52, .ref q60, .int 0, .ref q68, .ref q76, .int 0, .ref q85, .int 0, .ref q94, .ref q101, .ref q110, .int 0, .int 0, .int 0, .int 0, .int 0, .ref q118, .ref q125])), (q17, .inl (ids.1, 356, .inl (fun _ => 0))), (q24, .inl (ids.2.1, 2, .inl (fun _ => 0))), (q31, .inl (ids.1, 3, .inl (fun _ => 0))), (q44, .inl (ids.1, 7, .inl (fun _ => 0))), (q52, .inl (ids.1, 7, .inl (fun _ => 0))), (q60, .inl (ids.1, 7, .inl (fun _ => 0))), (q68, .inl (ids.1, 112, .inl (fun _ => 0))), (q76, .inl (ids.1, 7, .inl (fun _ => 0))), (q85, .inl (ids.2.1, 128, .inl (fun _ => 0))), (q94, .inl (ids.1, 141, .inl (fun _ => 0))), (q101, .inl (ids.1, 4, .inl (fun _ => 0))), (q110, .inl (ids.1, 150, .inl (fun _ => 0))), (q118, .inl (ids.1, 66, .inl (fun _ => 0))), (q125, .inl (ids.1, 5, .inl (fun _ => 0)))] ++ [(q8, .inl (ids.1, 178, .inl (fun _ => 0)))]) (by decide) rfl rfl ?_
  refine q_beg C dX12_init_136 (zl3 w_838 w_839 w_13) w_840 (by decide) (by decide) (by decide) (Nat.le_of_ble_eq_true rfl) ?_
  refine q_vr C hr hk dX12_init_139 (by decide) (by decide) (q_at [h0, q8, q17, q24, q31, q44, q52, q60, q68, q76, q85, q94, q101, q110, q118, q125] 75) rfl ?_
  rfl)
