/-! What the methods' rows need beside the instructions: word lists, the inherited super call, String.checkIndex. -/
theorem zl2 {a b : Cond} (h1 : a ∈ zAll) (h2 : b ∈ zAll) : ∀ w ∈ ([a, b] : List Cond), w ∈ zAll := List.forall_mem_cons.mpr ⟨h1, List.forall_mem_cons.mpr ⟨h2, fun _ h => absurd h List.not_mem_nil⟩⟩
theorem zl3 {a b c : Cond} (h1 : a ∈ zAll) (h2 : b ∈ zAll) (h3 : c ∈ zAll) : ∀ w ∈ ([a, b, c] : List Cond), w ∈ zAll := List.forall_mem_cons.mpr ⟨h1, zl2 h2 h3⟩
theorem zl4 {a b c d : Cond} (h1 : a ∈ zAll) (h2 : b ∈ zAll) (h3 : c ∈ zAll) (h4 : d ∈ zAll) : ∀ w ∈ ([a, b, c, d] : List Cond), w ∈ zAll := List.forall_mem_cons.mpr ⟨h1, zl3 h2 h3 h4⟩
theorem zl5 {a b c d e : Cond} (h1 : a ∈ zAll) (h2 : b ∈ zAll) (h3 : c ∈ zAll) (h4 : d ∈ zAll) (h5 : e ∈ zAll) : ∀ w ∈ ([a, b, c, d, e] : List Cond), w ∈ zAll := List.forall_mem_cons.mpr ⟨h1, zl4 h2 h3 h4 h5⟩
theorem zl6 {a b c d e f : Cond} (h1 : a ∈ zAll) (h2 : b ∈ zAll) (h3 : c ∈ zAll) (h4 : d ∈ zAll) (h5 : e ∈ zAll) (h6 : f ∈ zAll) : ∀ w ∈ ([a, b, c, d, e, f] : List Cond), w ∈ zAll := List.forall_mem_cons.mpr ⟨h1, zl5 h2 h3 h4 h5 h6⟩
theorem zpi {w : Cond} (i : Nat) (h : (k2_sels lw_privs)[i]? = some w) (g : goodWord w = true) : w ∈ zAll := zin (List.mem_append_left _ (List.mem_of_getElem? h)) g
theorem zrm {rm R : Room} {n : Nat} (h1 : rm.cells = 0) (h2 : rm.slots = 0) (h3 : rm.frames + 1 ≤ R.frames) (h4 : 8 + (n + 11) + rm.locals ≤ R.locals) : zRm rm R n := ⟨h1, h2, h3, h4⟩
section ZSUP
variable {p : Program} {l : Launch} {e : Env} {R : Room} {s : State} {m : MethodId} {args : Array Value} {below : List Frame} {meth : Method} {c : Code} {cells slots : Nat} {QQ : State → Prop} {D : va_G} {ids : zIds} {ad : Nat → Nat} {A : Nat → Prop} {own : String} {cc : ByteArray} {nL : Nat}
variable {pc : Nat} {K : zK}
theorem z_no : zGo p l e R s m args below meth c cells slots QQ D ids ad A nL (pc) i_no := fun _ _ _ h => h.elim
theorem zsub {vm : Vm} {a b : ClassId} {k : Class} (hk : vm.classes[a]? = some k) (hs : k.super = some b) : vm.isSubclass a b = true := by
  have hlt : a < vm.classes.size := (Array.getElem?_eq_some_iff.mp hk).1
  obtain ⟨n, hn⟩ : ∃ n, vm.classes.size = n + 1 := ⟨vm.classes.size - 1, (Nat.succ_pred_eq_of_pos (Nat.zero_lt_of_lt hlt)).symm⟩
  unfold Vm.isSubclass
  rw [hn]
  simp [Vm.isSubclassAux, hk, hs]
/-- super, of a method that the superclass itself inherits -/
theorem z_cUU (C : zCx p R s m args c cells slots D ids ad A own cc nL) {idx n nL' : Nat} {sup nm ds : String} {y : MethodName} {cc' : ByteArray} {ret : Option FieldType} {rm : Room} {T : zTy} (hd : decode cc pc = .ok (.invokespecial idx, 3)) (hM : zSd y cc' nL' ret rm T) (h1w : Cond.methodLink own idx ⟨sup, nm, ds⟩ ∈ zAll) (h2w : Cond.sameMethod sup y.cls nm ds ∈ zAll) (h3w : Cond.superclass own sup ∈ zAll) (h4w : Cond.superclass sup y.cls ∈ zAll) (h5w : Cond.instanceMethod y ∈ zAll) (h6w : Cond.initialized y.cls ∈ zAll) (hcd : Cond.code y cc' nL' ret ∈ zAll)
    (hy : (nm ≠ "<init>" ∧ y.name = nm ∧ y.desc = ds) ∧ (parseMethodDescriptor y.desc).map (fun d => d.parameters.length) = some n) (hR : zRm rm R nL') (k : zGo p l e R s m args below meth c cells slots QQ D ids ad A nL (pc + 3) K) : zGo p l e R s m args below meth c cells slots QQ D ids ad A nL (pc) (i_cu (n + 1) T K) := by
  intro ls st σ h H locs lsr hP hS hl
  unfold i_cu at h
  split at h
  · rename_i o vs r hsp
    obtain ⟨h0, h1', h2'⟩ := zcd2 h
    have h0 := znb h0
    obtain ⟨h1, h2⟩ := zsp_st hsp
    obtain ⟨⟨hno, hyn, hyd⟩, hlen⟩ := hy
    have hts := C.2.2.2.2.1
    have hw2 := hP o _ (zWo_o (ad := ad) (ids := ids) (σ := σ) h0)
    obtain ⟨q, hq, -⟩ := hw2
    obtain ⟨hfc, kB, hkB, -⟩ := (C.2.2.2.2.2.1.1.1 _ q hq).2
    obtain ⟨cellB, hcB, hoB, hclB⟩ := z_recv C hP hq
    have hkB : s.vm.classes[cellB.cls]? = some kB := by rw [Option.some.inj (hclB.symm.trans hfc)]; exact hkB
    have hG : GoodIn zAll (.code y cc' nL' ret :: zAll) := zgl (pre := []) (fun _ h => absurd h List.not_mem_nil) hcd
    have hK : Back l R p e below s args y 3 8 (PreOf R 0 0 (zPc D ids ad A (.ref o :: vs) σ)) (PostOf (zQc D ids ad A (fun v τ => K ls (zvl v r) τ) ret) 0 0 A) := back_of (bytes := cc') (maxL := nL') (ret := ret) (hM l D ids ad A (.ref o :: vs) σ _ h2') zblind hR.1 hR.2.1 hR.2.2.1 hR.2.2.2 (pay_in hts hG) List.mem_cons_self (fun a' U hW => word_at hW (Or.inl (by first | rfl | simp [Cond.onTables, Cond.keeps, Cond.steady])) (hts _ h6w))
    have hrun : va_Run p l e R s m args below meth c H locs cells slots 0 0 (F0 m pc lsr (st.map (zreal ad))) (r.map (zreal ad)) (zQc D ids ad A (fun v τ => K ls (zvl v r) τ) ret (Value.ref (ad o) :: vs.map (zreal ad)).toArray) A := by
      intro T hT X
      obtain ⟨mk, methM, hnamed, hmethM, hstM, habM⟩ := Cond.instanceMethod_spec (hts _ h5w)
      obtain ⟨methM', cM, hmethM', -, -, -, -, -, -, hsigM⟩ := Cond.code_spec hnamed (hts _ hcd)
      cases hmethM.symm.trans hmethM'
      obtain ⟨ps, dk, kp, hps, hdk, hkp, hsuper, -, -, hnid⟩ := Cond.superclass_spec C.2.2.2.1 (hts _ h3w)
      obtain ⟨ps2, dk2, kp2, hps2, hdk2, hkp2, hsuper2, -, -, -⟩ := Cond.superclass_spec hps (hts _ h4w)
      have hn : s.methodNamed? ⟨y.cls, nm, ds⟩ = some mk := by rw [← hyn, ← hyd]; exact hnamed
      have hpm : ps2 = mk.cls := Option.some.inj (hps2.symm.trans (findClass_of_methodNamed hnamed))
      have hsub : s.vm.isSubclass ps mk.cls = true := by rw [← hpm]; exact zsub hdk2 hsuper2
      obtain ⟨vm₁, X₁, hstep₁⟩ := X.invokespecialUp C.1 C.2.2.2.1 (x := ⟨sup, nm, ds⟩) (owner := y.cls) (hts _ h1w) (hts _ h2w) hn hmethM hstM habM hno hdk hnid hps hsuper hsub (a := ad o) (cell := cellB) (by rw [hT]; exact hcB)
        (fun z h => by rw [h] at hoB; cases hoB) hkB (g := F0 m pc lsr (st.map (zreal ad))) rfl (argsL := vs.map (zreal ad)) (rest := r.map (zreal ad)) (by rw [hsigM] at hlen; rw [List.length_map]; have := Option.some.inj hlen; dsimp only at this; simp only [List.length_cons] at h2; omega) (by show st.map _ = _; rw [h1]; simp [zreal]) (by rw [C.2.1]; exact hd)
      obtain ⟨v, ⟨U', l2, c2, s2⟩, X', ⟨g', mk', t, L, e1, e2, hq', h1, hL, h2, h3⟩, hsteps⟩ := hK m meth c ⟨T.setVm vm₁, locs, cells, slots⟩ { (F0 m pc lsr (st.map (zreal ad))) with stack := r.map (zreal ad) } (.invokespecial idx) mk (Value.ref (ad o) :: vs.map (zreal ad)).toArray X₁ rfl (hl.1.trans C.2.2.1.symm) (by rw [C.2.1]; exact hd) (lv_room (zsm_le h1')) (X₁.named hnamed) ⟨C.2.2.2.2.2.2.2.1, C.2.2.2.2.2.2.2.2, z_pre C hP hS (T.setVm vm₁) hT X₁.warmed⟩
      dsimp only [Pt.U, Pt.locs, Pt.cells, Pt.slots] at X' e1 e2 h1 h2 h3 hsteps
      subst h1; subst h2; subst h3
      exact ⟨v, (T.setVm vm₁).calling g' mk' (Value.ref (ad o) :: vs.map (zreal ad)).toArray, t, U', L, hT, X', hL, e1, e2, hq', fun target h => hstep₁ _ (by rw [doInvoke_state]; exact hsteps.trans h)⟩
    exact z_cont hrun hS hl k
  · exact h.elim
theorem z_mmax (C : zCx p R s m args c cells slots D ids ad A own cc nL) {idx : Nat} (hd : decode cc pc = .ok (.invokestatic idx, 3)) (h1w : Cond.methodLink own idx Lib.Math.max.name ∈ zAll) (h2w : Cond.static Lib.Math.max.name ∈ zAll) (h3w : Cond.initialized "java/lang/Math" ∈ zAll) (h4w : Cond.code Lib.Math.max.name Lib.Math.max.code 2 (some .int) ∈ zAll) (hR : 1 ≤ R.frames ∧ 21 ≤ R.locals) (k : zGo p l e R s m args below meth c cells slots QQ D ids ad A nL (pc + 3) K) : zGo p l e R s m args below meth c cells slots QQ D ids ad A nL (pc) (i_mmax K) := by
  intro ls st σ h H locs lsr hP hS hl
  unfold i_mmax at h
  split at h
  · have h := zcd h
    have hz := zsm_le (ad := ad) h.1
    have hts := C.2.2.2.2.1
    exact va_mmax C.1 C.2.1 (by rw [C.2.2.1]; exact hl.1.symm) C.2.2.2.1 (hts _ h1w) (hts _ h2w) (hts _ h3w) (hts _ h4w) hR.1 (by omega) C.2.2.2.2.2.2.2.1 C.2.2.2.2.2.2.2.2 hd (k ls _ σ h.2 H locs lsr hP hS hl)
  · exact h.elim
theorem z_mmin (C : zCx p R s m args c cells slots D ids ad A own cc nL) {idx : Nat} (hd : decode cc pc = .ok (.invokestatic idx, 3)) (h1w : Cond.methodLink own idx Lib.Math.min.name ∈ zAll) (h2w : Cond.static Lib.Math.min.name ∈ zAll) (h3w : Cond.initialized "java/lang/Math" ∈ zAll) (h4w : Cond.code Lib.Math.min.name Lib.Math.min.code 2 (some .int) ∈ zAll) (hR : 1 ≤ R.frames ∧ 21 ≤ R.locals) (k : zGo p l e R s m args below meth c cells slots QQ D ids ad A nL (pc + 3) K) : zGo p l e R s m args below meth c cells slots QQ D ids ad A nL (pc) (i_mmin K) := by
  intro ls st σ h H locs lsr hP hS hl
  unfold i_mmin at h
  split at h
  · have h := zcd h
    have hz := zsm_le (ad := ad) h.1
    have hts := C.2.2.2.2.1
    exact va_mmin C.1 C.2.1 (by rw [C.2.2.1]; exact hl.1.symm) C.2.2.2.1 (hts _ h1w) (hts _ h2w) (hts _ h3w) (hts _ h4w) hR.1 (by omega) C.2.2.2.2.2.2.2.1 C.2.2.2.2.2.2.2.2 hd (k ls _ σ h.2 H locs lsr hP hS hl)
  · exact h.elim
theorem z_mabs (C : zCx p R s m args c cells slots D ids ad A own cc nL) {idx : Nat} (hd : decode cc pc = .ok (.invokestatic idx, 3)) (h1w : Cond.methodLink own idx Lib.Math.abs.name ∈ zAll) (h2w : Cond.static Lib.Math.abs.name ∈ zAll) (h3w : Cond.initialized "java/lang/Math" ∈ zAll) (h4w : Cond.code Lib.Math.abs.name Lib.Math.abs.code 1 (some .int) ∈ zAll) (hR : 1 ≤ R.frames ∧ 21 ≤ R.locals) (k : zGo p l e R s m args below meth c cells slots QQ D ids ad A nL (pc + 3) K) : zGo p l e R s m args below meth c cells slots QQ D ids ad A nL (pc) (i_mabs K) := by
  intro ls st σ h H locs lsr hP hS hl
  unfold i_mabs at h
  split at h
  · have h := zcd h
    have hz := zsm_le (ad := ad) h.1
    have hts := C.2.2.2.2.1
    exact va_mabs C.1 C.2.1 (by rw [C.2.2.1]; exact hl.1.symm) C.2.2.2.1 (hts _ h1w) (hts _ h2w) (hts _ h3w) (hts _ h4w) hR.1 (by omega) C.2.2.2.2.2.2.2.1 C.2.2.2.2.2.2.2.2 hd (k ls _ σ h.2 H locs lsr hP hS hl)
  · exact h.elim
end ZSUP
theorem w_ci1 : Cond.methodLink RJ0 1059 yJ3_checkIndex_8e157 ∈ zAll := zti 407 (by decide +kernel) (by decide +kernel)
theorem w_ci2 : Cond.static yJ3_checkIndex_8e157 ∈ zAll := zti 408 (by decide +kernel) (by decide +kernel)
theorem w_ci3 : Cond.initialized RJ3 ∈ zAll := zti 17 (by decide +kernel) (by decide +kernel)
theorem w_ci4 : Cond.code yJ3_checkIndex_8e157 cJ3_checkIndex_8e157 3 (some .int) ∈ zAll := zti 409 (by decide +kernel) (by decide +kernel)
theorem w_ci5 : Cond.fieldLink RJ0 1053 "jdk/internal/util/Preconditions" "SIOOBE_FORMATTER" "Ljava/util/function/BiFunction;" ∈ zAll := zti 405 (by decide +kernel) (by decide +kernel)
theorem dJ3_checkIndex_8e157_0 : decode cJ3_checkIndex_8e157 0 = .ok (.iload_n 0, 1) := by decide +kernel
theorem dJ3_checkIndex_8e157_1 : decode cJ3_checkIndex_8e157 1 = .ok (.ifCond .lt 8, 3) := by decide +kernel
theorem dJ3_checkIndex_8e157_4 : decode cJ3_checkIndex_8e157 4 = .ok (.iload_n 0, 1) := by decide +kernel
theorem dJ3_checkIndex_8e157_5 : decode cJ3_checkIndex_8e157 5 = .ok (.iload_n 1, 1) := by decide +kernel
theorem dJ3_checkIndex_8e157_6 : decode cJ3_checkIndex_8e157 6 = .ok (.if_icmp .lt 10, 3) := by decide +kernel
theorem dJ3_checkIndex_8e157_9 : decode cJ3_checkIndex_8e157 9 = .ok (.aload_n 2, 1) := by decide +kernel
theorem dJ3_checkIndex_8e157_10 : decode cJ3_checkIndex_8e157 10 = .ok (.iload_n 0, 1) := by decide +kernel
theorem dJ3_checkIndex_8e157_11 : decode cJ3_checkIndex_8e157 11 = .ok (.iload_n 1, 1) := by decide +kernel
theorem dJ3_checkIndex_8e157_12 : decode cJ3_checkIndex_8e157 12 = .ok (.invokestatic 95, 3) := by decide +kernel
theorem dJ3_checkIndex_8e157_15 : decode cJ3_checkIndex_8e157 15 = .ok (.athrow, 1) := by decide +kernel
theorem dJ3_checkIndex_8e157_16 : decode cJ3_checkIndex_8e157 16 = .ok (.iload_n 0, 1) := by decide +kernel
theorem dJ3_checkIndex_8e157_17 : decode cJ3_checkIndex_8e157 17 = .ok (.ireturn, 1) := by decide +kernel
theorem dJ0_checkIndex_df160_0 : decode cJ0_checkIndex_df160 0 = .ok (.iload_n 0, 1) := by decide +kernel
theorem dJ0_checkIndex_df160_1 : decode cJ0_checkIndex_df160 1 = .ok (.iload_n 1, 1) := by decide +kernel
theorem dJ0_checkIndex_df160_2 : decode cJ0_checkIndex_df160 2 = .ok (.getstatic 1053, 3) := by decide +kernel
theorem dJ0_checkIndex_df160_5 : decode cJ0_checkIndex_df160 5 = .ok (.invokestatic 1059, 3) := by decide +kernel
theorem dJ0_checkIndex_df160_8 : decode cJ0_checkIndex_df160 8 = .ok (.pop, 1) := by decide +kernel
theorem dJ0_checkIndex_df160_9 : decode cJ0_checkIndex_df160 9 = .ok (.return_, 1) := by decide +kernel
/-- Preconditions.checkIndex(i, n, any): i -/
theorem M_J3 (l : Launch) (D : va_G) (ids : zIds) (ad : Nat → Nat) (A : Nat → Prop) (i n : Int32) (v : Value) (hvc : v.category = 1) (σ : zM) (h0 : ¬ i < 0) (h1 : i < n) : Met l yJ3_checkIndex_8e157 (.code yJ3_checkIndex_8e157 cJ3_checkIndex_8e157 3 (some .int) :: zAll) { frames := 0, cells := 0, slots := 0, locals := 0 } (va_Pc [.int i, .int n, v] (fun U => va_P D zCl (zWo ad ids σ) U.heap)) (va_Qi (fun (r : Int32) (u : zM) => u = σ) (fun u t => va_P D zCl (zWo ad ids u) t.heap) A) 0 0 A := by
  refine Met.ofW (cc := cJ3_checkIndex_8e157) (maxL := 3) (ret := some .int) (by decide) rfl ?_
  intro p e s m args below meth c s₁ B hml hv
  obtain ⟨ha, hP⟩ := hv
  subst ha
  have hx := B.exec
  have hb := B.bytes
  have hr := B.returns
  have hlocks := B.notSynchronized
  have hS : va_S A s.heap s.heap [] := va_S.rf
  have hl := lv_entry ([.int i, .int n, v]) (n := 3) (by cases v <;> simp_all [lg_sl, Value.category])
  rw [lg_entry_eq]
  generalize (lg_sl ([.int i, .int n, v]) ++ List.replicate (3 - (lg_sl ([.int i, .int n, v])).length) Slot.unset).toArray = ls at hl ⊢
  have hl : lv_has ls 3 [(0, .int i), (1, .int n), (2, v)] := hl
  refine lv_iload_n hx hb dJ3_checkIndex_8e157_0 rfl (lv_at hl 0 rfl) ?_
  refine lv_if_lt (tgt := 9) hx hb dJ3_checkIndex_8e157_1 (by decide) (fun q => absurd q h0) (fun _ => ?_)
  refine lv_iload_n hx hb dJ3_checkIndex_8e157_4 rfl (lv_at hl 0 rfl) ?_
  refine lv_iload_n hx hb dJ3_checkIndex_8e157_5 rfl (lv_at hl 1 rfl) ?_
  refine lv_icmp_lt (tgt := 16) hx hb dJ3_checkIndex_8e157_6 (by decide) (fun _ => ?_) (fun q => absurd h1 q)
  refine lv_iload_n hx hb dJ3_checkIndex_8e157_16 rfl (lv_at hl 0 rfl) ?_
  exact W.iret (v := i) hx hb hr (fun t ht hW => ⟨⟨i, σ, rfl, rfl, by dsimp only; rw [ht]; exact hP⟩, hS.F ht⟩) hS.2.2 dJ3_checkIndex_8e157_17
/-- String.checkIndex(i, n) -/
theorem S_J0_checkIndex_df160 : zSd yJ0_checkIndex_df160 cJ0_checkIndex_df160 2 none { frames := 1, cells := 0, slots := 0, locals := 22 } T_J0_checkIndex_df160 := by
  intro l D ids ad A vs σ Q hT
  unfold T_J0_checkIndex_df160 at hT
  split at hT
  · rename_i i n
    obtain ⟨h0, h1, hQ⟩ := hT
    refine Met.ofW (cc := cJ0_checkIndex_df160) (maxL := 2) (ret := none) (by decide) rfl ?_
    intro p e s m args below meth c s₁ B hml hv
    obtain ⟨ha, hP, hE, hA⟩ := hv
    have ha : args = ([.int i, .int n] : List Value).toArray := ha
    subst ha
    have hx := B.exec
    have hb := B.bytes
    have hr := B.returns
    have hlocks := B.notSynchronized
    have hts0 := atoms_spec (ws := .code yJ0_checkIndex_df160 cJ0_checkIndex_df160 2 none :: zAll) B.pre
    have hts : ∀ w ∈ zAll, w.before ([.int i, .int n] : List Value).toArray s = true := fun w hw => hts0 w (List.mem_cons_of_mem _ hw)
    have hown : s.vm.findClass RJ0 = some m.cls := findClass_of_methodNamed B.named
    have hS : va_S A s.heap s.heap [] := va_S.rf
    have hl := lv_entry ([.int i, .int n]) (n := 2) (Nat.le_of_ble_eq_true rfl)
    rw [lg_entry_eq]
    generalize (lg_sl ([.int i, .int n]) ++ List.replicate (2 - (lg_sl ([.int i, .int n])).length) Slot.unset).toArray = ls at hl ⊢
    have hl : lv_has ls 2 [(0, .int i), (1, .int n)] := hl
    refine lv_iload_n hx hb dJ0_checkIndex_df160_0 rfl (lv_at hl 0 rfl) ?_
    refine lv_iload_n hx hb dJ0_checkIndex_df160_1 rfl (lv_at hl 1 rfl) ?_
    obtain ⟨v, hvc, hZ⟩ : ∃ v : Value, v.category = 1 ∧ va_Z "jdk/internal/util/Preconditions" "SIOOBE_FORMATTER" "Ljava/util/function/BiFunction;" v A s s.heap := by
      rcases hE.2.2.2.2.2.2.2.1 with h | ⟨t, h⟩
      · exact ⟨.null, rfl, h⟩
      · exact ⟨.ref t, rfl, h⟩
    refine va_gets hx hb hZ hS hown (hts _ w_ci5) (fun _ h9 => h9) dJ0_checkIndex_df160_2 ?_
    refine va_calli (A1 := A) (a := ([.int i, .int n, v] : List Value).toArray) (va_runS (As := [.int i, .int n, v]) (rest := []) ⟨hx, hb, hml, hown, hts⟩ (M_J3 l D ids ad A i n v hvc σ h0 h1) (va_cwS 3 hts (zgl (zl3 w_ci1 w_ci2 w_ci3) w_ci4) rfl rfl rfl (by decide +kernel) ⟨Nat.le_of_ble_eq_true rfl, Nat.le_of_ble_eq_true rfl⟩) ⟨fun a U g mk q => q, fun U hU hW => ⟨rfl, by dsimp only; rw [hU]; exact hP⟩⟩ rfl rfl hl.1 rfl (lv_room (Nat.le_of_ble_eq_true rfl)) dJ0_checkIndex_df160_5 ⟨Nat.zero_le _, Nat.zero_le _⟩) hS (fun _ _ h => h) (fun _ h => h) (fun r u t H1 locs1 ht hvm hw hB hz1 hk1 hS1 => ?_)
    subst hw
    refine lv_pop hx hb dJ0_checkIndex_df160_8 rfl ?_
    have hB : va_P D zCl (zWo ad ids u) t.heap := hB
    rw [ht] at hB
    exact W.vret hx hb hr (fun t ht hW => ⟨⟨u, rfl, hQ, by dsimp only; rw [ht]; exact hB⟩, hS1.F ht⟩) hS1.2.2 dJ0_checkIndex_df160_9
  · exact hT.elim
