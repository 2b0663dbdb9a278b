/-! Calls and returns; a method's contract out of its blocks. -/
theorem zgl {pre : List Cond} {x : Cond} (h : ∀ w ∈ pre, w ∈ zAll) (hx : x ∈ zAll) : GoodIn zAll (pre ++ (x :: zAll)) := zgood (fun w hw => by
  rcases List.mem_append.mp hw with q | q
  · exact h w q
  · rcases List.mem_cons.mp q with q | q
    · rw [q]; exact hx
    · exact q)
section ZCALL
variable {p : Program} {l : Launch} {e : Env} {R : Room} {s : State} {m : MethodId} {args : Array Value} {below : List Frame} {meth : Method} {c : Code} {cells slots : Nat} {QQ : State → Prop} {D : va_G} {ids : zIds} {ad : Nat → Nat} {A : Nat → Prop} {own : String} {cc : ByteArray} {nL : Nat}
variable {pc : Nat} {K K2 : zK}
/-- behind a call -/
theorem z_cont {ls r st0 : List Value} {lsr : Array Slot} {H : Heap} {locs : List Loc} {ret : Option FieldType} {a : Array Value} (hr : va_Run p l e R s m args below meth c H locs cells slots 0 0 (F0 m pc lsr st0) (r.map (zreal ad)) (zQc D ids ad A (fun v τ => K ls (zvl v r) τ) ret a) A) (hS : va_S A s.heap H locs) (hl : zLs ad nL ls lsr) (k : zGo p l e R s m args below meth c cells slots QQ D ids ad A nL (pc + 3) K) : W p l e R s m args below meth c H locs cells slots QQ (F0 m pc lsr st0) := by
  cases ret with
  | none => exact va_callv (a := a) hr hS (fun _ _ h => h) (fun _ h => h) (fun u t H1 locs1 ht _ hp hB _ _ hS1 => k ls r u hp H1 locs1 lsr (by rw [← ht]; exact hB) hS1 hl)
  | some ty =>
    cases ty with
    | long => exact va_calll (a := a) hr hS (fun _ _ h => h) (fun _ h => h) (fun v u t H1 locs1 ht _ hp hB _ _ hS1 => k ls (.long v :: r) u hp H1 locs1 lsr (by rw [← ht]; exact hB) hS1 hl)
    | _ => exact va_calli (a := a) hr hS (fun _ _ h => h) (fun _ h => h) (fun v u t H1 locs1 ht _ hp hB _ _ hS1 => k ls (.int v :: r) u hp H1 locs1 lsr (by rw [← ht]; exact hB) hS1 hl)
theorem z_pre (C : zCx p R s m args c cells slots D ids ad A own cc nL) {H : Heap} {locs : List Loc} {σ : zM} {vs : List Value} (hP : va_P D zCl (zWo ad ids σ) H) (hS : va_S A s.heap H locs) : ∀ U : State, U.heap = H → s.WarmedH U.vm → zPc D ids ad A vs σ (vs.map (zreal ad)).toArray U := by
  intro U hU hW
  refine ⟨rfl, by rw [hU]; exact hP, C.2.2.2.2.2.1.moved hW (fun a h1 h2 => by rw [hU]; exact hS.2.1 a h1 h2), fun q hq => C.2.2.2.2.2.2.1 q (Nat.le_trans hS.1 (by rw [← hU]; exact hq))⟩
/-- a callee's room -/
def zRm (rm R : Room) (nL' : Nat) : Prop := rm.cells = 0 ∧ rm.slots = 0 ∧ rm.frames + 1 ≤ R.frames ∧ 8 + (nL' + 11) + rm.locals ≤ R.locals
def zDs (y : MethodName) (n : Nat) : Prop := y.cls ≠ "java/lang/invoke/MethodHandle" ∧ y.cls ≠ "java/lang/invoke/VarHandle" ∧ (parseMethodDescriptor y.desc).map (fun d => d.parameters.length) = some n
theorem z_cS (C : zCx p R s m args c cells slots D ids ad A own cc nL) {idx n nL' : Nat} {y : MethodName} {cc' : ByteArray} {ret : Option FieldType} {rm : Room} {T : zTy} (hd : decode cc pc = .ok (.invokestatic idx, 3)) (hM : zSd y cc' nL' ret rm T) (hw : ∀ w ∈ ([.methodLink own idx y, .static y, .initialized y.cls] : List Cond), w ∈ zAll) (hcd : Cond.code y cc' nL' ret ∈ zAll) (hy : zDs y n) (hR : zRm rm R nL') (k : zGo p l e R s m args below meth c cells slots QQ D ids ad A nL (pc + 3) K) : zGo p l e R s m args below meth c cells slots QQ D ids ad A nL (pc) (i_call n T K) := by
  intro ls st σ h H locs lsr hP hS hl
  unfold i_call at h
  split at h
  · rename_i vs r hsp
    have h := zcd h
    obtain ⟨h1, h2⟩ := zsp_st hsp
    have hG : GoodIn zAll (va_wsS own idx y (.code y cc' nL' ret :: zAll)) := zgl hw hcd
    have hrun := va_runS (p := p) (e := e) (below := below) (meth := meth) (cells := cells) (slots := slots) (locs := locs) (H := H) (g := F0 m pc lsr (st.map (zreal ad))) (As := vs.map (zreal ad)) (rest := r.map (zreal ad)) ⟨C.1, C.2.1, C.2.2.1, C.2.2.2.1, C.2.2.2.2.1⟩ (hM l D ids ad A vs σ _ h.2) (va_cwS n C.2.2.2.2.1 hG rfl hR.1 hR.2.1 hy hR.2.2) ⟨zblind, z_pre C hP hS⟩ rfl (by rw [List.length_map]; exact h2) hl.1 (by show st.map _ = _; rw [h1]; simp) (lv_room (zsm_le h.1)) hd ⟨C.2.2.2.2.2.2.2.1, C.2.2.2.2.2.2.2.2⟩
    exact z_cont hrun hS hl k
  · exact h.elim
theorem z_cSN (C : zCx p R s m args c cells slots D ids ad A own cc nL) {idx n nL' : Nat} {y : MethodName} {cc' : ByteArray} {ret : Option FieldType} {rm : Room} {T : zTy} {host : String} (hd : decode cc pc = .ok (.invokestatic idx, 3)) (hM : zSd y cc' nL' ret rm T) (hn : (own, idx, y, host) ∈ zNM) (hw : ∀ w ∈ ([.static y, .initialized y.cls] : List Cond), w ∈ zAll) (hcd : Cond.code y cc' nL' ret ∈ zAll) (hy : zDs y n) (hR : zRm rm R nL') (k : zGo p l e R s m args below meth c cells slots QQ D ids ad A nL (pc + 3) K) : zGo p l e R s m args below meth c cells slots QQ D ids ad A nL (pc) (i_call n T K) := by
  intro ls st σ h H locs lsr hP hS hl
  unfold i_call at h
  split at h
  · rename_i vs r hsp
    have h := zcd h
    obtain ⟨h1, h2⟩ := zsp_st hsp
    have hG : GoodIn zAll (.code y cc' nL' ret :: zAll) := zgl (pre := []) (fun _ h => absurd h List.not_mem_nil) hcd
    have hrun := va_runSN (p := p) (e := e) (below := below) (meth := meth) (cells := cells) (slots := slots) (locs := locs) (H := H) (g := F0 m pc lsr (st.map (zreal ad))) (As := vs.map (zreal ad)) (rest := r.map (zreal ad)) ⟨C.1, C.2.1, C.2.2.1, C.2.2.2.1, C.2.2.2.2.1⟩ (hM l D ids ad A vs σ _ h.2) ⟨va_cnB n C.2.2.2.2.1 hG rfl hR.1 hR.2.1 (C.2.2.2.2.2.1.2.2.1 _ hn) (C.2.2.2.2.1 _ (hw _ (by simp))) hy hR.2.2, C.2.2.2.2.1 _ (hw _ (by simp)), True.intro⟩ ⟨zblind, z_pre C hP hS⟩ rfl (by rw [List.length_map]; exact h2) hl.1 (by show st.map _ = _; rw [h1]; simp) (lv_room (zsm_le h.1)) hd ⟨C.2.2.2.2.2.2.2.1, C.2.2.2.2.2.2.2.2⟩
    exact z_cont hrun hS hl k
  · exact h.elim
theorem z_recv (C : zCx p R s m args c cells slots D ids ad A own cc nL) {H : Heap} {σ : zM} {o : Nat} {q : vw_C} (hP : va_P D zCl (zWo ad ids σ) H) (hc : zCl[zoc o]? = some q) : ∃ cell : Cell, H[ad o]? = some cell ∧ cell.vm.isStatics = false ∧ s.vm.findClass q.1 = some cell.cls :=
  va_recv C.2.2.2.2.2.1.1 hP hc (zWo_o (fun h9 => by rw [h9] at hc; simp [zCl] at hc))
theorem z_cV (C : zCx p R s m args c cells slots D ids ad A own cc nL) {idx ci n nL' N : Nat} {y : MethodName} {cc' : ByteArray} {ret : Option FieldType} {rm : Room} {T : zTy} {TT : u_T} (hd : decode cc pc = .ok (.invokevirtual idx, 3)) (hM : zSd y cc' nL' ret rm T) (hc : zCl[ci]? = some (y.cls, TT, N)) (hw : ∀ w ∈ ([.methodLink own idx y, .instanceMethod y, .selects y.cls y y, .initialized y.cls] : List Cond), w ∈ zAll) (hcd : Cond.code y cc' nL' ret ∈ zAll) (hy : zDs y n) (hR : zRm rm R nL') (k : zGo p l e R s m args below meth c cells slots QQ D ids ad A nL (pc + 3) K) : zGo p l e R s m args below meth c cells slots QQ D ids ad A nL (pc) (i_cv ci (n + 1) T K) := by
  intro ls st σ h H locs lsr hP hS hl
  unfold i_cv at h
  split at h
  · rename_i o vs r hsp
    obtain ⟨h0, h1', h2'⟩ := zcd2 h
    have h0 := zbe h0
    obtain ⟨h1, h2⟩ := zsp_st hsp
    have hG : GoodIn zAll (wsV own idx y.cls y (.code y cc' nL' ret :: zAll)) := zgl hw hcd
    have hrun := va_runV (p := p) (e := e) (below := below) (meth := meth) (cells := cells) (slots := slots) (locs := locs) (H := H) (g := F0 m pc lsr (st.map (zreal ad))) (b := ad o) (As := vs.map (zreal ad)) (rest := r.map (zreal ad)) ⟨C.1, C.2.1, C.2.2.1, C.2.2.2.1, C.2.2.2.2.1⟩ (hM l D ids ad A (.ref o :: vs) σ _ h2') (cwV n C.2.2.2.2.1 hG rfl hR.1 hR.2.1 ⟨rfl, hy⟩ hR.2.2) ⟨zblind, z_recv C hP (by rw [h0]; exact hc), z_pre C hP hS⟩ rfl (by rw [List.length_map]; simpa using h2) hl.1 (by show st.map _ = _; rw [h1]; simp [zreal]) (lv_room (zsm_le h1')) hd ⟨C.2.2.2.2.2.2.2.1, C.2.2.2.2.2.2.2.2⟩
    exact z_cont hrun hS hl k
  · exact h.elim
/-- a call that the receiver's class selects -/
theorem z_cD (C : zCx p R s m args c cells slots D ids ad A own cc nL) {idx n : Nat} {x : MethodName} {owner : String} {T : Nat → zTy} {b0 : ByteArray} {m0 : Nat} {r0 : Option FieldType} (hd : decode cc pc = .ok (.invokevirtual idx, 3))
    (hT : ∀ ci : Nat, (∃ (C' : String) (TT : u_T) (N : Nat) (y : MethodName) (cc' : ByteArray) (nL' : Nat) (ret : Option FieldType) (rm : Room), zCl[ci]? = some (C', TT, N) ∧ zSd y cc' nL' ret rm (T ci) ∧ (∀ w ∈ ([.methodLink own idx x, .sameMethod x.cls owner x.name x.desc, .instanceMethod ⟨owner, x.name, x.desc⟩, .selects C' x y, .instanceMethod y, .initialized y.cls] : List Cond), w ∈ zAll) ∧ Cond.code y cc' nL' ret ∈ zAll ∧ zRm rm R nL') ∨ ∀ vs σ Q, ¬ T ci vs σ Q)
    (h0 : Cond.code ⟨owner, x.name, x.desc⟩ b0 m0 r0 ∈ zAll) (hy : owner ≠ "java/lang/invoke/MethodHandle" ∧ owner ≠ "java/lang/invoke/VarHandle" ∧ (parseMethodDescriptor x.desc).map (fun d => d.parameters.length) = some n) (k : zGo p l e R s m args below meth c cells slots QQ D ids ad A nL (pc + 3) K) : zGo p l e R s m args below meth c cells slots QQ D ids ad A nL (pc) (i_cd (n + 1) T K) := by
  intro ls st σ h H locs lsr hP hS hl
  unfold i_cd at h
  split at h
  · rename_i o vs r hsp
    obtain ⟨h1', h2'⟩ := zcd h
    obtain ⟨h1, h2⟩ := zsp_st hsp
    rcases hT (zoc o) with ⟨C', TT, N, y, cc', nL', ret, rm, hc, hM, hw, hcd, hR⟩ | hno
    · have hG : GoodIn zAll (va_wsO own idx C' owner x y (.code y cc' nL' ret :: zAll)) := zgl hw hcd
      have hrun := va_runU (p := p) (e := e) (below := below) (meth := meth) (cells := cells) (slots := slots) (locs := locs) (H := H) (g := F0 m pc lsr (st.map (zreal ad))) (b := ad o) (As := vs.map (zreal ad)) (rest := r.map (zreal ad)) ⟨C.1, C.2.1, C.2.2.1, C.2.2.2.1, C.2.2.2.2.1⟩ (hM l D ids ad A (.ref o :: vs) σ _ h2') (va_cwO n C.2.2.2.2.1 hG rfl hR.1 hR.2.1 h0 hy hR.2.2) ⟨zblind, z_recv C hP hc, z_pre C hP hS⟩ rfl (by rw [List.length_map]; simpa using h2) hl.1 (by show st.map _ = _; rw [h1]; simp [zreal]) (lv_room (zsm_le h1')) hd ⟨C.2.2.2.2.2.2.2.1, C.2.2.2.2.2.2.2.2⟩
      exact z_cont hrun hS hl k
    · exact absurd h2' (hno _ _ _)
  · exact h.elim
/-- super -/
theorem z_cU (C : zCx p R s m args c cells slots D ids ad A own cc nL) {idx n nL' : Nat} {y : MethodName} {cc' : ByteArray} {ret : Option FieldType} {rm : Room} {T : zTy} (hd : decode cc pc = .ok (.invokespecial idx, 3)) (hM : zSd y cc' nL' ret rm T) (hw : ∀ w ∈ ([.methodLink own idx y, .sameMethod y.cls y.cls y.name y.desc, .superclass own y.cls, .instanceMethod y, .initialized y.cls] : List Cond), w ∈ zAll) (hcd : Cond.code y cc' nL' ret ∈ zAll) (hy : y.name ≠ "<init>" ∧ (parseMethodDescriptor y.desc).map (fun d => d.parameters.length) = some n) (hR : zRm rm R nL') (k : zGo p l e R s m args below meth c cells slots QQ D ids ad A nL (pc + 3) K) : zGo p l e R s m args below meth c cells slots QQ D ids ad A nL (pc) (i_cu (n + 1) T K) := by
  intro ls st σ h H locs lsr hP hS hl
  unfold i_cu at h
  split at h
  · rename_i o vs r hsp
    obtain ⟨h0, h1', h2'⟩ := zcd2 h
    have h0 := znb h0
    obtain ⟨h1, h2⟩ := zsp_st hsp
    have hG : GoodIn zAll (va_wsSU own idx y (.code y cc' nL' ret :: zAll)) := zgl hw hcd
    have hw2 := hP o _ (zWo_o (ad := ad) (ids := ids) (σ := σ) h0)
    obtain ⟨q, hq, -⟩ := hw2
    have hat := (C.2.2.2.2.2.1.1.1 _ q hq).2
    have hrun := va_runSU (p := p) (e := e) (below := below) (meth := meth) (cells := cells) (slots := slots) (locs := locs) (H := H) (g := F0 m pc lsr (st.map (zreal ad))) (b := ad o) (As := vs.map (zreal ad)) (rest := r.map (zreal ad)) hat ⟨C.1, C.2.1, C.2.2.1, C.2.2.2.1, C.2.2.2.2.1⟩ (hM l D ids ad A (.ref o :: vs) σ _ h2') (va_cwSU n C.2.2.2.2.1 hG rfl hR.1 hR.2.1 hy hR.2.2) ⟨zblind, z_recv C hP hq, z_pre C hP hS⟩ rfl (by rw [List.length_map]; simpa using h2) hl.1 (by show st.map _ = _; rw [h1]; simp [zreal]) (lv_room (zsm_le h1')) hd ⟨C.2.2.2.2.2.2.2.1, C.2.2.2.2.2.2.2.2⟩
    exact z_cont hrun hS hl k
  · exact h.elim
/-- a call on a String constant -/
theorem z_cT (C : zCx p R s m args c cells slots D ids ad A own cc nL) {idx n nL' : Nat} {y : MethodName} {cc' : ByteArray} {ret : Option FieldType} {rm : Room} {T : zTy} (hd : decode cc pc = .ok (.invokevirtual idx, 3)) (hM : zSd y cc' nL' ret rm T) (hc : y.cls = "java/lang/String") (hw : ∀ w ∈ ([.methodLink own idx y, .instanceMethod y, .selects y.cls y y, .initialized y.cls] : List Cond), w ∈ zAll) (hcd : Cond.code y cc' nL' ret ∈ zAll) (hy : zDs y n) (hR : zRm rm R nL') (k : zGo p l e R s m args below meth c cells slots QQ D ids ad A nL (pc + 3) K) : zGo p l e R s m args below meth c cells slots QQ D ids ad A nL (pc) (i_cs (n + 1) T K) := by
  intro ls st σ h H locs lsr hP hS hl
  unfold i_cs at h
  split at h
  · rename_i o vs r hsp
    obtain ⟨h0, h1', h2'⟩ := zcd2 h
    have h0 := znb h0
    obtain ⟨h1, h2⟩ := zsp_st hsp
    have hG : GoodIn zAll (wsV own idx y.cls y (.code y cc' nL' ret :: zAll)) := zgl hw hcd
    obtain ⟨g1, g2⟩ := zsi_lay o h0
    have hE := C.2.2.2.2.2.1.2.2.2.2.2.2.2.2.1
    have hrec := vk_recv hE (i := zsi o - 1) (by omega) hS
    rw [show 92 + (zsi o - 1) = o by omega, ← hc] at hrec
    have hrun := va_runV (p := p) (e := e) (below := below) (meth := meth) (cells := cells) (slots := slots) (locs := locs) (H := H) (g := F0 m pc lsr (st.map (zreal ad))) (b := ad o) (As := vs.map (zreal ad)) (rest := r.map (zreal ad)) ⟨C.1, C.2.1, C.2.2.1, C.2.2.2.1, C.2.2.2.2.1⟩ (hM l D ids ad A (.ref o :: vs) σ _ h2') (cwV n C.2.2.2.2.1 hG rfl hR.1 hR.2.1 ⟨rfl, hy⟩ hR.2.2) ⟨zblind, hrec, z_pre C hP hS⟩ rfl (by rw [List.length_map]; simpa using h2) hl.1 (by show st.map _ = _; rw [h1]; simp [zreal]) (lv_room (zsm_le h1')) hd ⟨C.2.2.2.2.2.2.2.1, C.2.2.2.2.2.2.2.2⟩
    exact z_cont hrun hS hl k
  · exact h.elim
end ZCALL
def zok (n : Nat) (vs : List Value) : Bool := Nat.ble (zlc vs).length n
theorem zsl_len (ad : Nat → Nat) : ∀ vs : List Value, (lg_sl (vs.map (zreal ad))).length = (zlc vs).length := by
  intro vs
  induction vs with
  | nil => rfl
  | cons v vs ih =>
    have e1 : lg_sl ((v :: vs).map (zreal ad)) = (if (zreal ad v).category = 2 then [Slot.val (zreal ad v), Slot.second] else [Slot.val (zreal ad v)]) ++ lg_sl (vs.map (zreal ad)) := by simp [lg_sl]
    rw [e1, List.length_append, ih, zcat]
    cases v <;> simp [Value.category, zlc] <;> omega
section ZMET
/-- the blocks' rows: for every block, from Y's rows -/
def zBl (own : String) (cc : ByteArray) (nL : Nat) (ret : Option FieldType) (rm : Room) (pcs : Nat → Nat) (F : zQ → (Nat → zK) → Nat → zK) : Prop :=
  ∀ {p : Program} {l : Launch} {e : Env} {s : State} {m : MethodId} {args : Array Value} {below : List Frame} {meth : Method} {c : Code} {D : va_G} {ids : zIds} {ad : Nat → Nat} {A : Nat → Prop} (Q : zQ) (Y : Nat → zK),
    zCx p rm s m args c 0 0 D ids ad A own cc nL → meth.sig.returnType = ret → meth.locks = false → (∀ b ls st σ, Y b ls st σ → zW p l e rm s m args below meth c 0 0 (MQ below (zQc D ids ad A Q ret) args s 0 0 A) D ids ad A nL (pcs b) ls st σ) →
    ∀ b, zGo p l e rm s m args below meth c 0 0 (MQ below (zQc D ids ad A Q ret) args s 0 0 A) D ids ad A nL (pcs b) (F Q Y b)
theorem zMet {y : MethodName} {cc : ByteArray} {nL : Nat} {ret : Option FieldType} {rm : Room} {pcs : Nat → Nat} {F : zQ → (Nat → zK) → Nat → zK} (hy : plainName y.cls = true) (h0 : pcs 0 = 0) (hB : zBl y.cls cc nL ret rm pcs F) : zSd y cc nL ret rm (fun vs σ Q => zok nL vs = true ∧ zFix (F Q) 0 (zlc vs) [] σ) := by
  intro l D ids ad A vs σ Q hT
  refine Met.ofW (cc := cc) (maxL := nL) (ret := ret) hy rfl ?_
  intro p e s m args below meth c s₁ B hml hv
  obtain ⟨ha, hP, hE, hA⟩ := hv
  obtain ⟨hok, hT⟩ := hT
  have hts := atoms_spec (ws := .code y cc nL ret :: zAll) B.pre
  have C : zCx p rm s m args c 0 0 D ids ad A y.cls cc nL := ⟨B.exec, B.bytes, hml, findClass_of_methodNamed B.named, fun w hw => hts w (List.mem_cons_of_mem _ hw), hE, hA, Nat.zero_le _, Nat.zero_le _⟩
  have key := hT (fun b => zW p l e rm s m args below meth c 0 0 (MQ below (zQc D ids ad A Q ret) args s 0 0 A) D ids ad A nL (pcs b)) (fun Y hY b ls st σ h => hB Q Y C B.returns B.notSynchronized hY b ls st σ h)
  have hl := lv_entry (vs.map (zreal ad)) (n := nL) (by rw [zsl_len]; exact Nat.le_of_ble_eq_true hok)
  subst ha
  rw [lg_entry_eq]
  generalize (lg_sl (vs.map (zreal ad)) ++ List.replicate (nL - (lg_sl (vs.map (zreal ad))).length) Slot.unset).toArray = lsr at hl ⊢
  have := key s.heap [] lsr hP va_S.rf (zLs.entry hl)
  rw [h0] at this
  exact this
variable {p : Program} {l : Launch} {e : Env} {R : Room} {s : State} {m : MethodId} {args : Array Value} {below : List Frame} {meth : Method} {c : Code} {cells slots : Nat} {D : va_G} {ids : zIds} {ad : Nat → Nat} {A : Nat → Prop} {own : String} {cc : ByteArray} {nL pc : Nat} {Q : zQ}
theorem z_ir (C : zCx p R s m args c cells slots D ids ad A own cc nL) (hr : meth.sig.returnType = some .int) (hk : meth.locks = false) (hd : decode cc pc = .ok (.ireturn, 1)) : zGo p l e R s m args below meth c cells slots (MQ below (zQc D ids ad A Q (some .int)) args s cells slots A) D ids ad A nL pc (i_ir Q) := by
  intro ls st σ h H locs lsr hP hS hl
  unfold i_ir at h
  split at h
  · rename_i v
    exact W.iret C.1 C.2.1 hr (fun t ht hW => ⟨⟨v, σ, rfl, h, by dsimp only; rw [ht]; exact hP⟩, hS.F ht⟩) hS.2.2 hd hk
  · exact h.elim
theorem z_zr (C : zCx p R s m args c cells slots D ids ad A own cc nL) (hr : meth.sig.returnType = some .boolean) (hk : meth.locks = false) (hd : decode cc pc = .ok (.ireturn, 1)) : zGo p l e R s m args below meth c cells slots (MQ below (zQc D ids ad A Q (some .boolean)) args s cells slots A) D ids ad A nL pc (i_zr Q) := by
  intro ls st σ h H locs lsr hP hS hl
  unfold i_zr at h
  split at h
  · rename_i v
    exact W.zret C.1 C.2.1 hr (by rcases h.1 with q | q <;> (rw [q]; decide +kernel)) (fun t ht hW => ⟨⟨v, σ, rfl, h.2, by dsimp only; rw [ht]; exact hP⟩, hS.F ht⟩) hS.2.2 hd hk
  · exact h.elim
theorem z_nr (C : zCx p R s m args c cells slots D ids ad A own cc nL) {ty : FieldType} (hty : ty = .char ∨ ty = .byte) (hr : meth.sig.returnType = some ty) (hk : meth.locks = false) (hd : decode cc pc = .ok (.ireturn, 1)) : zGo p l e R s m args below meth c cells slots (MQ below (zQc D ids ad A Q (some ty)) args s cells slots A) D ids ad A nL pc (i_nr ty Q) := by
  intro ls st σ h H locs lsr hP hS hl
  unfold i_nr at h
  split at h
  · rename_i v
    rcases hty with rfl | rfl
    · exact W.zret C.1 C.2.1 hr h.1 (fun t ht hW => ⟨⟨v, σ, rfl, h.2, by dsimp only; rw [ht]; exact hP⟩, hS.F ht⟩) hS.2.2 hd hk
    · exact W.zret C.1 C.2.1 hr h.1 (fun t ht hW => ⟨⟨v, σ, rfl, h.2, by dsimp only; rw [ht]; exact hP⟩, hS.F ht⟩) hS.2.2 hd hk
  · exact h.elim
theorem z_lr (C : zCx p R s m args c cells slots D ids ad A own cc nL) (hr : meth.sig.returnType = some .long) (hk : meth.locks = false) (hd : decode cc pc = .ok (.lreturn, 1)) : zGo p l e R s m args below meth c cells slots (MQ below (zQc D ids ad A Q (some .long)) args s cells slots A) D ids ad A nL pc (i_lr Q) := by
  intro ls st σ h H locs lsr hP hS hl
  unfold i_lr at h
  split at h
  · rename_i v
    exact W.lret C.1 C.2.1 hr (fun t ht hW => ⟨⟨v, σ, rfl, h, by dsimp only; rw [ht]; exact hP⟩, hS.F ht⟩) hS.2.2 hd hk
  · exact h.elim
theorem z_vr (C : zCx p R s m args c cells slots D ids ad A own cc nL) (hr : meth.sig.returnType = none) (hk : meth.locks = false) (hd : decode cc pc = .ok (.return_, 1)) : zGo p l e R s m args below meth c cells slots (MQ below (zQc D ids ad A Q none) args s cells slots A) D ids ad A nL pc (i_vr Q) := by
  intro ls st σ h H locs lsr hP hS hl
  unfold i_vr at h
  split at h
  · exact W.vret C.1 C.2.1 hr (fun t ht hW => ⟨⟨σ, rfl, h, by dsimp only; rw [ht]; exact hP⟩, hS.F ht⟩) hS.2.2 hd hk
  · exact h.elim
end ZMET
