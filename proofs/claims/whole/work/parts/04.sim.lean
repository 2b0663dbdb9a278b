/-! The small machine's rows over the machine itself: a row an instruction. -/
def zNF : List (String × Nat × String × String × String × String) := [("EveryPew$Service", 63, "EveryPew$Church", "limit", "I", "EveryPew"), ("EveryPew", 272, "EveryPew$Church", "limit", "I", "EveryPew"), ("EveryPew$Service", 73, "EveryPew$Church", "books", "[I", "EveryPew"), ("EveryPew", 87, "EveryPew$Church", "books", "[I", "EveryPew"), ("EveryPew$TextOfChurch", 76, "EveryPew$Church", "books", "[I", "EveryPew"), ("EveryPew$Service", 56, "EveryPew$Church", "families", "I", "EveryPew"), ("EveryPew", 74, "EveryPew$Church", "families", "I", "EveryPew"), ("EveryPew$TextOfChurch", 79, "EveryPew$Church", "families", "I", "EveryPew"), ("EveryPew$Service", 81, "EveryPew$Church", "kind", "[I", "EveryPew"), ("EveryPew", 187, "EveryPew$Church", "kind", "[I", "EveryPew"), ("EveryPew$Service", 84, "EveryPew$Church", "book", "[I", "EveryPew"), ("EveryPew", 118, "EveryPew$Church", "book", "[I", "EveryPew"), ("EveryPew$Service", 93, "EveryPew$Church", "tall", "[I", "EveryPew"), ("EveryPew$Service", 99, "EveryPew$Church", "voices", "[I", "EveryPew"), ("EveryPew$Service", 80, "EveryPew$Church", "pew", "[I", "EveryPew"), ("EveryPew", 121, "EveryPew$Church", "pew", "[I", "EveryPew"), ("EveryPew$TextOfChurch", 93, "EveryPew$Church", "colds", "I", "EveryPew"), ("EveryPew", 127, "EveryPew$Church", "colds", "I", "EveryPew"), ("EveryPew$Service", 121, "EveryPew$Church", "heards", "I", "EveryPew"), ("EveryPew", 200, "EveryPew$Church", "heards", "I", "EveryPew"), ("EveryPew$Service", 124, "EveryPew$Church", "heardWord", "[I", "EveryPew"), ("EveryPew", 263, "EveryPew$Church", "heardWord", "[I", "EveryPew"), ("EveryPew$Service", 127, "EveryPew$Church", "heardBook", "[I", "EveryPew"), ("EveryPew", 266, "EveryPew$Church", "heardBook", "[I", "EveryPew"), ("EveryPew$Service", 133, "EveryPew$Church", "heardLoud", "[I", "EveryPew"), ("EveryPew", 269, "EveryPew$Church", "heardLoud", "[I", "EveryPew"), ("EveryPew", 134, "EveryPew$Church", "steps", "I", "EveryPew"), ("EveryPew", 101, "EveryPew$TextOfChurch", "length", "I", "EveryPew"), ("EveryPew$Seating", 18, "EveryPew$Service", "families", "I", "EveryPew"), ("EveryPew$Seating", 61, "EveryPew$Service", "book", "[I", "EveryPew"), ("EveryPew$Seating", 49, "EveryPew$Service", "height", "[I", "EveryPew"), ("EveryPew$Coughs", 50, "EveryPew$Service", "caseAt", "[I", "EveryPew"), ("EveryPew$Seating", 68, "EveryPew$Service", "wordsOfCase", "[I", "EveryPew"), ("EveryPew", 209, "EveryPew$Coughs", "fitting", "I", "EveryPew"), ("EveryPew", 212, "EveryPew$Coughs", "inAll", "I", "EveryPew"), ("EveryPew", 215, "EveryPew$Coughs", "inSome", "I", "EveryPew")]
def zNM : List (String × Nat × MethodName × String) := [("EveryPew$TextOfChurch", 96, ⟨"EveryPew", "within", "(III)Z"⟩, "EveryPew"), ("EveryPew$TextOfChurch", 82, ⟨"EveryPew", "isPewOf", "(II)Z"⟩, "EveryPew"), ("EveryPew$Church", 83, ⟨"EveryPew", "bit", "(II)I"⟩, "EveryPew"), ("EveryPew$Service", 76, ⟨"EveryPew", "bit", "(II)I"⟩, "EveryPew"), ("EveryPew$Seating", 58, ⟨"EveryPew", "bit", "(II)I"⟩, "EveryPew")]
def zsx : List (Nat × String) := [(25, "church"), (58, "book"), (63, "family"), (68, "cold")]
def zX (ad : Nat → Nat) (A : Nat → Prop) (U : State) : Prop :=
  va_Z "EveryPew$Seating" "FIGURE_OF" "[I" (.ref (ad 91)) A U U.heap ∧ va_T .int (ad 91) 7 (fun j => .int (zfigs.getD j 0)) A U U.heap ∧ va_Z "java/lang/String" "COMPACT_STRINGS" "Z" (.int 1) A U U.heap ∧ va_Zq "jdk/internal/util/Preconditions" "SIOOBE_FORMATTER" "Ljava/util/function/BiFunction;" A U U.heap ∧
  vk_S 4 [6, 4, 6, 4] ztxt (fun i => ad (92 + i)) (fun i => ad (96 + i)) A U U.heap ∧ ∀ i : Nat, i < 4 → vk_R "EveryPew$TextOfChurch" (zsx.getD i (0, "")).1 (zsx.getD i (0, "")).2 (ad (92 + i)) U
def zAd (ad : Nat → Nat) (A : Nat → Prop) : Prop := (∀ i j, i < zN → j < zN → ad i = ad j → i = j) ∧ ∀ k, k < zN → A (ad k)
def zEnv (D : va_G) (ids : zIds) (ad : Nat → Nat) (A : Nat → Prop) (U : State) : Prop :=
  va_K D zCl (zTys ids) U ∧ (∀ q ∈ zNF, va_Nw (.fieldLinkNest q.1 q.2.1 q.2.2.1 q.2.2.2.1 q.2.2.2.2.1 q.2.2.2.2.2) U) ∧ (∀ q ∈ zNM, va_Nw (.methodLinkNest q.1 q.2.1 q.2.2.1 q.2.2.2) U) ∧ zAd ad A ∧ zX ad A U
theorem zEnv.moved {D : va_G} {ids : zIds} {ad : Nat → Nat} {A : Nat → Prop} {s U : State} (h : zEnv D ids ad A s) (hW : s.WarmedH U.vm) (hk : ∀ a : Nat, a < s.heap.size → ¬ A a → U.heap[a]? = s.heap[a]?) : zEnv D ids ad A U := by
  obtain ⟨h1, h2, h3, h4, x1, x2, x3, x4, x5, x6⟩ := h
  exact ⟨h1.moved hW.alike, fun q hq => va_Nw.warmF hW (h2 q hq), fun q hq => va_Nw.warmM hW (h3 q hq), h4, (x1.moved hW.alike).kept hk, (x2.moved hW.alike).kept hk, (x3.moved hW.alike).kept hk, (x4.moved hW.alike).kept hk, (x5.moved hW.alike).kept hk, fun i hi => vk_R.warm hW (x6 i hi)⟩
theorem zEnv.same {D : va_G} {ids : zIds} {ad : Nat → Nat} {A : Nat → Prop} {s U : State} (h : zEnv D ids ad A s) (hv : s.vm = U.vm) (hh : s.heap = U.heap) : zEnv D ids ad A U := by
  obtain ⟨h1, h2, h3, h4, x1, x2, x3, x4, x5, x6⟩ := h
  have al : s.vm.Alike U.vm := by rw [hv]; exact Vm.Alike.refl _
  refine ⟨h1.moved al, fun q hq => va_Nw.same rfl hv (h2 q hq), fun q hq => va_Nw.same rfl hv (h3 q hq), h4, ?_, ?_, ?_, ?_, ?_, fun i hi => vk_R.same hv.symm (x6 i hi)⟩
  · rw [← hh]; exact x1.moved al
  · rw [← hh]; exact x2.moved al
  · rw [← hh]; exact x3.moved al
  · rw [← hh]; exact x4.moved al
  · rw [← hh]; exact x5.moved al
theorem zAd.D {ad : Nat → Nat} {A : Nat → Prop} (h : zAd ad A) (ids : zIds) (σ : zM) : va_D A (zWo ad ids σ) := by
  have key : ∀ (i : Nat) (x : Nat × va_E), (zWo ad ids σ)[i]? = some x → i < zN ∧ x.1 = ad i := by
    intro i x hx
    have hi : i < zN := by rw [← zWo_len (ad := ad) (ids := ids) (σ := σ)]; exact (List.getElem?_eq_some_iff.mp hx).1
    rw [zWo_get hi] at hx
    cases hx
    exact ⟨hi, rfl⟩
  refine ⟨fun i j x y hx hy hxy => ?_, fun k q hk => ?_⟩
  · obtain ⟨a1, a2⟩ := key i x hx
    obtain ⟨b1, b2⟩ := key j y hy
    exact h.1 i j a1 b1 (by rw [← a2, ← b2]; exact hxy)
  · obtain ⟨a1, a2⟩ := key k q hk
    rw [a2]
    exact h.2 k a1
def zPc (D : va_G) (ids : zIds) (ad : Nat → Nat) (A : Nat → Prop) (vs : List Value) (σ : zM) : Array Value → State → Prop := va_Pc (vs.map (zreal ad)) (fun U => va_P D zCl (zWo ad ids σ) U.heap ∧ zEnv D ids ad A U ∧ ∀ q : Nat, U.heap.size ≤ q → A q)
def zQc (D : va_G) (ids : zIds) (ad : Nat → Nat) (A : Nat → Prop) (Q : zQ) : Option FieldType → Array Value → State → Outcome → State → Prop
  | none => va_Qv (fun u : zM => Q none u) (fun u t => va_P D zCl (zWo ad ids u) t.heap) A
  | some .long => va_Ql (fun (r : Int64) (u : zM) => Q (some (.long r)) u) (fun u t => va_P D zCl (zWo ad ids u) t.heap) A
  | some _ => va_Qi (fun (r : Int32) (u : zM) => Q (some (.int r)) u) (fun u t => va_P D zCl (zWo ad ids u) t.heap) A
/-- a method of the small machine is one of the machine -/
def zSd (y : MethodName) (cc : ByteArray) (nL : Nat) (ret : Option FieldType) (rm : Room) (T : zTy) : Prop :=
  ∀ (l : Launch) (D : va_G) (ids : zIds) (ad : Nat → Nat) (A : Nat → Prop) (vs : List Value) (σ : zM) (Q : zQ), T vs σ Q → Met l y (.code y cc nL ret :: zAll) rm (zPc D ids ad A vs σ) (zQc D ids ad A Q ret) 0 0 A
theorem zblind {D : va_G} {ids : zIds} {ad : Nat → Nat} {A : Nat → Prop} {vs : List Value} {σ : zM} : FrameBlind (zPc D ids ad A vs σ) := by
  intro a U g mk q
  obtain ⟨q0, q1, q2, q3⟩ := q
  exact ⟨q0, q1, q2.same rfl rfl, q3⟩
section ZSIM
variable {p : Program} {l : Launch} {e : Env} {R : Room} {s : State} {m : MethodId} {args : Array Value} {below : List Frame} {meth : Method} {c : Code} {cells slots : Nat} {QQ : State → Prop} {D : va_G} {ids : zIds} {ad : Nat → Nat} {A : Nat → Prop} {own : String} {cc : ByteArray} {nL : Nat}
def zW (p : Program) (l : Launch) (e : Env) (R : Room) (s : State) (m : MethodId) (args : Array Value) (below : List Frame) (meth : Method) (c : Code) (cells slots : Nat) (QQ : State → Prop) (D : va_G) (ids : zIds) (ad : Nat → Nat) (A : Nat → Prop) (nL : Nat) (pc : Nat) : zK := fun ls st σ =>
  ∀ (H : Heap) (locs : List Loc) (lsr : Array Slot), va_P D zCl (zWo ad ids σ) H → va_S A s.heap H locs → zLs ad nL ls lsr → W p l e R s m args below meth c H locs cells slots QQ (F0 m pc lsr (st.map (zreal ad)))
def zGo (p : Program) (l : Launch) (e : Env) (R : Room) (s : State) (m : MethodId) (args : Array Value) (below : List Frame) (meth : Method) (c : Code) (cells slots : Nat) (QQ : State → Prop) (D : va_G) (ids : zIds) (ad : Nat → Nat) (A : Nat → Prop) (nL : Nat) (pc : Nat) (K : zK) : Prop :=
  ∀ (ls st : List Value) (σ : zM), K ls st σ → zW p l e R s m args below meth c cells slots QQ D ids ad A nL pc ls st σ
def zCx (p : Program) (R : Room) (s : State) (m : MethodId) (args : Array Value) (c : Code) (cells slots : Nat) (D : va_G) (ids : zIds) (ad : Nat → Nat) (A : Nat → Prop) (own : String) (cc : ByteArray) (nL : Nat) : Prop :=
  p.tables.exec = Jvm.exec ∧ c.code = cc ∧ c.maxLocals = nL ∧ s.vm.findClass own = some m.cls ∧ (∀ w ∈ zAll, w.before args s = true) ∧ zEnv D ids ad A s ∧ (∀ q : Nat, s.heap.size ≤ q → A q) ∧ cells ≤ R.cells ∧ slots ≤ R.slots
variable {pc : Nat} {K K2 : zK}
theorem z_ic (C : zCx p R s m args c cells slots D ids ad A own cc nL) {n : Int} {v : Int32} (hd : decode cc pc = .ok (.iconst n, 1)) (hv : Int32.ofInt n = v) (k : zGo p l e R s m args below meth c cells slots QQ D ids ad A nL (pc + 1) K) : zGo p l e R s m args below meth c cells slots QQ D ids ad A nL (pc) (i_ic v K) :=
  fun ls st σ h H locs lsr hP hS hl => lv_iconst C.1 C.2.1 hd hv (k ls (.int v :: st) σ h H locs lsr hP hS hl)
theorem z_bi (C : zCx p R s m args c cells slots D ids ad A own cc nL) {n : Int} {v : Int32} (hd : decode cc pc = .ok (.bipush n, 2)) (hv : (Int8.ofInt n).toInt32 = v) (k : zGo p l e R s m args below meth c cells slots QQ D ids ad A nL (pc + 2) K) : zGo p l e R s m args below meth c cells slots QQ D ids ad A nL (pc) (i_ic v K) :=
  fun ls st σ h H locs lsr hP hS hl => lv_bipush C.1 C.2.1 hd hv (k ls (.int v :: st) σ h H locs lsr hP hS hl)
theorem z_si (C : zCx p R s m args c cells slots D ids ad A own cc nL) {n : Int} {v : Int32} (hd : decode cc pc = .ok (.sipush n, 3)) (hv : (Int16.ofInt n).toInt32 = v) (k : zGo p l e R s m args below meth c cells slots QQ D ids ad A nL (pc + 3) K) : zGo p l e R s m args below meth c cells slots QQ D ids ad A nL (pc) (i_ic v K) :=
  fun ls st σ h H locs lsr hP hS hl => lv_sipush C.1 C.2.1 hd hv (k ls (.int v :: st) σ h H locs lsr hP hS hl)
theorem z_ldc (C : zCx p R s m args c cells slots D ids ad A own cc nL) {idx : Nat} {v : Int32} (hd : decode cc pc = .ok (.ldc idx, 2)) (hw : Cond.constant own idx v ∈ zAll) (k : zGo p l e R s m args below meth c cells slots QQ D ids ad A nL (pc + 2) K) : zGo p l e R s m args below meth c cells slots QQ D ids ad A nL (pc) (i_ic v K) :=
  fun ls st σ h H locs lsr hP hS hl => lv_ldc C.1 C.2.1 C.2.2.2.1 (C.2.2.2.2.1 _ hw) hd (k ls (.int v :: st) σ h H locs lsr hP hS hl)
theorem z_ldcw (C : zCx p R s m args c cells slots D ids ad A own cc nL) {idx : Nat} {v : Int32} (hd : decode cc pc = .ok (.ldc_w idx, 3)) (hw : Cond.constant own idx v ∈ zAll) (k : zGo p l e R s m args below meth c cells slots QQ D ids ad A nL (pc + 3) K) : zGo p l e R s m args below meth c cells slots QQ D ids ad A nL (pc) (i_ic v K) :=
  fun ls st σ h H locs lsr hP hS hl => lv_ldcw C.1 C.2.1 C.2.2.2.1 (C.2.2.2.2.1 _ hw) hd (k ls (.int v :: st) σ h H locs lsr hP hS hl)
theorem z_ldc2 (C : zCx p R s m args c cells slots D ids ad A own cc nL) {idx : Nat} {v : Int64} (hd : decode cc pc = .ok (.ldc2_w idx, 3)) (hw : Cond.constantLong own idx v ∈ zAll) (k : zGo p l e R s m args below meth c cells slots QQ D ids ad A nL (pc + 3) K) : zGo p l e R s m args below meth c cells slots QQ D ids ad A nL (pc) (i_lc v K) :=
  fun ls st σ h H locs lsr hP hS hl => lv_ldc2 C.1 C.2.1 C.2.2.2.1 (C.2.2.2.2.1 _ hw) hd (k ls (.long v :: st) σ h H locs lsr hP hS hl)
theorem z_lc (C : zCx p R s m args c cells slots D ids ad A own cc nL) {n : Fin 2} {v : Int64} (hd : decode cc pc = .ok (.lconst n, 1)) (hv : Int64.ofNat (n : Nat) = v) (k : zGo p l e R s m args below meth c cells slots QQ D ids ad A nL (pc + 1) K) : zGo p l e R s m args below meth c cells slots QQ D ids ad A nL (pc) (i_lc v K) :=
  fun ls st σ h H locs lsr hP hS hl => lv_lconst C.1 C.2.1 hd hv (k ls (.long v :: st) σ h H locs lsr hP hS hl)
theorem z_il (C : zCx p R s m args c cells slots D ids ad A own cc nL) {i : Nat} (hd : decode cc pc = .ok (.iload i, 2)) (k : zGo p l e R s m args below meth c cells slots QQ D ids ad A nL (pc + 2) K) : zGo p l e R s m args below meth c cells slots QQ D ids ad A nL (pc) (i_il i K) := by
  intro ls st σ h H locs lsr hP hS hl
  unfold i_il at h
  split at h
  · rename_i x hx
    exact lv_iload C.1 C.2.1 hd (hl.at hx (fun q => by cases q)) (k ls (.int x :: st) σ h H locs lsr hP hS hl)
  · exact h.elim
theorem z_iln (C : zCx p R s m args c cells slots D ids ad A own cc nL) {n : Fin 4} {i : Nat} (hd : decode cc pc = .ok (.iload_n n, 1)) (hi : (n : Nat) = i) (k : zGo p l e R s m args below meth c cells slots QQ D ids ad A nL (pc + 1) K) : zGo p l e R s m args below meth c cells slots QQ D ids ad A nL (pc) (i_il i K) := by
  intro ls st σ h H locs lsr hP hS hl
  unfold i_il at h
  split at h
  · rename_i x hx
    exact lv_iload_n C.1 C.2.1 hd hi (hl.at hx (fun q => by cases q)) (k ls (.int x :: st) σ h H locs lsr hP hS hl)
  · exact h.elim
theorem z_ll (C : zCx p R s m args c cells slots D ids ad A own cc nL) {i : Nat} (hd : decode cc pc = .ok (.lload i, 2)) (k : zGo p l e R s m args below meth c cells slots QQ D ids ad A nL (pc + 2) K) : zGo p l e R s m args below meth c cells slots QQ D ids ad A nL (pc) (i_ll i K) := by
  intro ls st σ h H locs lsr hP hS hl
  unfold i_ll at h
  split at h
  · rename_i x hx
    exact lv_lload C.1 C.2.1 hd (hl.at hx (fun q => by cases q)) (k ls (.long x :: st) σ h H locs lsr hP hS hl)
  · exact h.elim
theorem z_lln (C : zCx p R s m args c cells slots D ids ad A own cc nL) {n : Fin 4} {i : Nat} (hd : decode cc pc = .ok (.lload_n n, 1)) (hi : (n : Nat) = i) (k : zGo p l e R s m args below meth c cells slots QQ D ids ad A nL (pc + 1) K) : zGo p l e R s m args below meth c cells slots QQ D ids ad A nL (pc) (i_ll i K) := by
  intro ls st σ h H locs lsr hP hS hl
  unfold i_ll at h
  split at h
  · rename_i x hx
    exact lv_lload_n C.1 C.2.1 hd hi (hl.at hx (fun q => by cases q)) (k ls (.long x :: st) σ h H locs lsr hP hS hl)
  · exact h.elim
theorem z_al (C : zCx p R s m args c cells slots D ids ad A own cc nL) {i : Nat} (hd : decode cc pc = .ok (.aload i, 2)) (k : zGo p l e R s m args below meth c cells slots QQ D ids ad A nL (pc + 2) K) : zGo p l e R s m args below meth c cells slots QQ D ids ad A nL (pc) (i_al i K) := by
  intro ls st σ h H locs lsr hP hS hl
  unfold i_al at h
  split at h
  · rename_i x hx
    exact lv_aload C.1 C.2.1 hd (hl.at hx (fun q => by cases q)) (k ls (.ref x :: st) σ h H locs lsr hP hS hl)
  · exact h.elim
theorem z_aln (C : zCx p R s m args c cells slots D ids ad A own cc nL) {n : Fin 4} {i : Nat} (hd : decode cc pc = .ok (.aload_n n, 1)) (hi : (n : Nat) = i) (k : zGo p l e R s m args below meth c cells slots QQ D ids ad A nL (pc + 1) K) : zGo p l e R s m args below meth c cells slots QQ D ids ad A nL (pc) (i_al i K) := by
  intro ls st σ h H locs lsr hP hS hl
  unfold i_al at h
  split at h
  · rename_i x hx
    exact lv_aload_n C.1 C.2.1 hd hi (hl.at hx (fun q => by cases q)) (k ls (.ref x :: st) σ h H locs lsr hP hS hl)
  · exact h.elim
theorem z_is (C : zCx p R s m args c cells slots D ids ad A own cc nL) {i : Nat} (hd : decode cc pc = .ok (.istore i, 2)) (hn : i < nL) (k : zGo p l e R s m args below meth c cells slots QQ D ids ad A nL (pc + 2) K) : zGo p l e R s m args below meth c cells slots QQ D ids ad A nL (pc) (i_is i K) := by
  intro ls st σ h H locs lsr hP hS hl
  unfold i_is at h
  split at h
  · rename_i x r
    exact lv_istore C.1 C.2.1 hd hl.has hn rfl (fun lsr' hl' => k (zst ls i (.int x)) r σ h H locs lsr' hP hS (zLs.st hl'))
  · exact h.elim
theorem z_isn (C : zCx p R s m args c cells slots D ids ad A own cc nL) {n : Fin 4} {i : Nat} (hd : decode cc pc = .ok (.istore_n n, 1)) (hi : (n : Nat) = i) (hn : i < nL) (k : zGo p l e R s m args below meth c cells slots QQ D ids ad A nL (pc + 1) K) : zGo p l e R s m args below meth c cells slots QQ D ids ad A nL (pc) (i_is i K) := by
  intro ls st σ h H locs lsr hP hS hl
  unfold i_is at h
  split at h
  · rename_i x r
    exact lv_istore_n C.1 C.2.1 hd hi hl.has hn rfl (fun lsr' hl' => k (zst ls i (.int x)) r σ h H locs lsr' hP hS (zLs.st hl'))
  · exact h.elim
theorem z_lst (C : zCx p R s m args c cells slots D ids ad A own cc nL) {i : Nat} (hd : decode cc pc = .ok (.lstore i, 2)) (hn : i + 1 < nL) (k : zGo p l e R s m args below meth c cells slots QQ D ids ad A nL (pc + 2) K) : zGo p l e R s m args below meth c cells slots QQ D ids ad A nL (pc) (i_lst i K) := by
  intro ls st σ h H locs lsr hP hS hl
  unfold i_lst at h
  split at h
  · rename_i x r
    exact lv_lstore C.1 C.2.1 hd hl.has hn rfl (fun lsr' hl' => k (zstl ls i (.long x)) r σ h H locs lsr' hP hS (zLs.stl hl'))
  · exact h.elim
theorem z_lstn (C : zCx p R s m args c cells slots D ids ad A own cc nL) {n : Fin 4} {i : Nat} (hd : decode cc pc = .ok (.lstore_n n, 1)) (hi : (n : Nat) = i) (hn : i + 1 < nL) (k : zGo p l e R s m args below meth c cells slots QQ D ids ad A nL (pc + 1) K) : zGo p l e R s m args below meth c cells slots QQ D ids ad A nL (pc) (i_lst i K) := by
  intro ls st σ h H locs lsr hP hS hl
  unfold i_lst at h
  split at h
  · rename_i x r
    exact lv_lstore_n C.1 C.2.1 hd hi hl.has hn rfl (fun lsr' hl' => k (zstl ls i (.long x)) r σ h H locs lsr' hP hS (zLs.stl hl'))
  · exact h.elim
theorem z_as (C : zCx p R s m args c cells slots D ids ad A own cc nL) {i : Nat} (hd : decode cc pc = .ok (.astore i, 2)) (hn : i < nL) (k : zGo p l e R s m args below meth c cells slots QQ D ids ad A nL (pc + 2) K) : zGo p l e R s m args below meth c cells slots QQ D ids ad A nL (pc) (i_as i K) := by
  intro ls st σ h H locs lsr hP hS hl
  unfold i_as at h
  split at h
  · rename_i x r
    exact lv_astore C.1 C.2.1 hd hl.has hn rfl (fun lsr' hl' => k (zst ls i (.ref x)) r σ h H locs lsr' hP hS (zLs.st hl'))
  · exact h.elim
theorem z_asn (C : zCx p R s m args c cells slots D ids ad A own cc nL) {n : Fin 4} {i : Nat} (hd : decode cc pc = .ok (.astore_n n, 1)) (hi : (n : Nat) = i) (hn : i < nL) (k : zGo p l e R s m args below meth c cells slots QQ D ids ad A nL (pc + 1) K) : zGo p l e R s m args below meth c cells slots QQ D ids ad A nL (pc) (i_as i K) := by
  intro ls st σ h H locs lsr hP hS hl
  unfold i_as at h
  split at h
  · rename_i x r
    exact lv_astore_n C.1 C.2.1 hd hi hl.has hn rfl (fun lsr' hl' => k (zst ls i (.ref x)) r σ h H locs lsr' hP hS (zLs.st hl'))
  · exact h.elim
theorem z_inc (C : zCx p R s m args c cells slots D ids ad A own cc nL) {i : Nat} {n : Int} {d : Int32} (hd : decode cc pc = .ok (.iinc i n, 3)) (hv : Int32.ofInt n = d) (hn : i < nL) (k : zGo p l e R s m args below meth c cells slots QQ D ids ad A nL (pc + 3) K) : zGo p l e R s m args below meth c cells slots QQ D ids ad A nL (pc) (i_inc i d K) := by
  intro ls st σ h H locs lsr hP hS hl
  unfold i_inc at h
  split at h
  · rename_i x hx
    obtain ⟨j, hj⟩ := List.getElem?_of_mem (zprs_mem.mpr ⟨i, .int x, zget_at hx (fun q => by cases q), (fun q => by cases q), rfl⟩ : (0 + i, zreal ad (.int x)) ∈ zprs ad 0 ls)
    rw [Nat.zero_add] at hj
    exact lv_iinc (k := j) C.1 C.2.1 hd hl.has hj (by rw [hv]) hn rfl (fun lsr' hl' => k (zst ls i (.int (x + d))) st σ h H locs lsr' hP hS (zLs.st hl'))
  · exact h.elim
theorem z_iadd (C : zCx p R s m args c cells slots D ids ad A own cc nL) (hd : decode cc pc = .ok (.iadd, 1)) (k : zGo p l e R s m args below meth c cells slots QQ D ids ad A nL (pc + 1) K) : zGo p l e R s m args below meth c cells slots QQ D ids ad A nL (pc) (i_iadd K) := by
  intro ls st σ h H locs lsr hP hS hl
  unfold i_iadd at h
  split at h
  · exact lv_iadd C.1 C.2.1 hd (k ls _ σ h H locs lsr hP hS hl)
  · exact h.elim
theorem z_isub (C : zCx p R s m args c cells slots D ids ad A own cc nL) (hd : decode cc pc = .ok (.isub, 1)) (k : zGo p l e R s m args below meth c cells slots QQ D ids ad A nL (pc + 1) K) : zGo p l e R s m args below meth c cells slots QQ D ids ad A nL (pc) (i_isub K) := by
  intro ls st σ h H locs lsr hP hS hl
  unfold i_isub at h
  split at h
  · exact lv_isub C.1 C.2.1 hd (k ls _ σ h H locs lsr hP hS hl)
  · exact h.elim
theorem z_imul (C : zCx p R s m args c cells slots D ids ad A own cc nL) (hd : decode cc pc = .ok (.imul, 1)) (k : zGo p l e R s m args below meth c cells slots QQ D ids ad A nL (pc + 1) K) : zGo p l e R s m args below meth c cells slots QQ D ids ad A nL (pc) (i_imul K) := by
  intro ls st σ h H locs lsr hP hS hl
  unfold i_imul at h
  split at h
  · exact lv_imul C.1 C.2.1 hd (k ls _ σ h H locs lsr hP hS hl)
  · exact h.elim
theorem z_iand (C : zCx p R s m args c cells slots D ids ad A own cc nL) (hd : decode cc pc = .ok (.iand, 1)) (k : zGo p l e R s m args below meth c cells slots QQ D ids ad A nL (pc + 1) K) : zGo p l e R s m args below meth c cells slots QQ D ids ad A nL (pc) (i_iand K) := by
  intro ls st σ h H locs lsr hP hS hl
  unfold i_iand at h
  split at h
  · exact lv_iand C.1 C.2.1 hd (k ls _ σ h H locs lsr hP hS hl)
  · exact h.elim
theorem z_ior (C : zCx p R s m args c cells slots D ids ad A own cc nL) (hd : decode cc pc = .ok (.ior, 1)) (k : zGo p l e R s m args below meth c cells slots QQ D ids ad A nL (pc + 1) K) : zGo p l e R s m args below meth c cells slots QQ D ids ad A nL (pc) (i_ior K) := by
  intro ls st σ h H locs lsr hP hS hl
  unfold i_ior at h
  split at h
  · exact lv_ior C.1 C.2.1 hd (k ls _ σ h H locs lsr hP hS hl)
  · exact h.elim
theorem z_ixor (C : zCx p R s m args c cells slots D ids ad A own cc nL) (hd : decode cc pc = .ok (.ixor, 1)) (k : zGo p l e R s m args below meth c cells slots QQ D ids ad A nL (pc + 1) K) : zGo p l e R s m args below meth c cells slots QQ D ids ad A nL (pc) (i_ixor K) := by
  intro ls st σ h H locs lsr hP hS hl
  unfold i_ixor at h
  split at h
  · exact lv_ixor C.1 C.2.1 hd (k ls _ σ h H locs lsr hP hS hl)
  · exact h.elim
theorem z_ishl (C : zCx p R s m args c cells slots D ids ad A own cc nL) (hd : decode cc pc = .ok (.ishl, 1)) (k : zGo p l e R s m args below meth c cells slots QQ D ids ad A nL (pc + 1) K) : zGo p l e R s m args below meth c cells slots QQ D ids ad A nL (pc) (i_ishl K) := by
  intro ls st σ h H locs lsr hP hS hl
  unfold i_ishl at h
  split at h
  · exact lv_ishl C.1 C.2.1 hd (k ls _ σ h H locs lsr hP hS hl)
  · exact h.elim
theorem z_ishr (C : zCx p R s m args c cells slots D ids ad A own cc nL) (hd : decode cc pc = .ok (.ishr, 1)) (k : zGo p l e R s m args below meth c cells slots QQ D ids ad A nL (pc + 1) K) : zGo p l e R s m args below meth c cells slots QQ D ids ad A nL (pc) (i_ishr K) := by
  intro ls st σ h H locs lsr hP hS hl
  unfold i_ishr at h
  split at h
  · exact lv_ishr C.1 C.2.1 hd (k ls _ σ h H locs lsr hP hS hl)
  · exact h.elim
theorem z_ladd (C : zCx p R s m args c cells slots D ids ad A own cc nL) (hd : decode cc pc = .ok (.ladd, 1)) (k : zGo p l e R s m args below meth c cells slots QQ D ids ad A nL (pc + 1) K) : zGo p l e R s m args below meth c cells slots QQ D ids ad A nL (pc) (i_ladd K) := by
  intro ls st σ h H locs lsr hP hS hl
  unfold i_ladd at h
  split at h
  · exact lv_ladd C.1 C.2.1 hd (k ls _ σ h H locs lsr hP hS hl)
  · exact h.elim
theorem z_lsub (C : zCx p R s m args c cells slots D ids ad A own cc nL) (hd : decode cc pc = .ok (.lsub, 1)) (k : zGo p l e R s m args below meth c cells slots QQ D ids ad A nL (pc + 1) K) : zGo p l e R s m args below meth c cells slots QQ D ids ad A nL (pc) (i_lsub K) := by
  intro ls st σ h H locs lsr hP hS hl
  unfold i_lsub at h
  split at h
  · exact lv_lsub C.1 C.2.1 hd (k ls _ σ h H locs lsr hP hS hl)
  · exact h.elim
theorem z_lmul (C : zCx p R s m args c cells slots D ids ad A own cc nL) (hd : decode cc pc = .ok (.lmul, 1)) (k : zGo p l e R s m args below meth c cells slots QQ D ids ad A nL (pc + 1) K) : zGo p l e R s m args below meth c cells slots QQ D ids ad A nL (pc) (i_lmul K) := by
  intro ls st σ h H locs lsr hP hS hl
  unfold i_lmul at h
  split at h
  · exact lv_lmul C.1 C.2.1 hd (k ls _ σ h H locs lsr hP hS hl)
  · exact h.elim
theorem z_idiv (C : zCx p R s m args c cells slots D ids ad A own cc nL) (hd : decode cc pc = .ok (.idiv, 1)) (k : zGo p l e R s m args below meth c cells slots QQ D ids ad A nL (pc + 1) K) : zGo p l e R s m args below meth c cells slots QQ D ids ad A nL (pc) (i_idiv K) := by
  intro ls st σ h H locs lsr hP hS hl
  unfold i_idiv at h
  split at h
  · exact lv_idiv C.1 C.2.1 hd h.1 (k ls _ σ h.2 H locs lsr hP hS hl)
  · exact h.elim
theorem z_irem (C : zCx p R s m args c cells slots D ids ad A own cc nL) (hd : decode cc pc = .ok (.irem, 1)) (k : zGo p l e R s m args below meth c cells slots QQ D ids ad A nL (pc + 1) K) : zGo p l e R s m args below meth c cells slots QQ D ids ad A nL (pc) (i_irem K) := by
  intro ls st σ h H locs lsr hP hS hl
  unfold i_irem at h
  split at h
  · exact lv_irem C.1 C.2.1 hd h.1 (k ls _ σ h.2 H locs lsr hP hS hl)
  · exact h.elim
theorem z_ldiv (C : zCx p R s m args c cells slots D ids ad A own cc nL) (hd : decode cc pc = .ok (.ldiv, 1)) (k : zGo p l e R s m args below meth c cells slots QQ D ids ad A nL (pc + 1) K) : zGo p l e R s m args below meth c cells slots QQ D ids ad A nL (pc) (i_ldiv K) := by
  intro ls st σ h H locs lsr hP hS hl
  unfold i_ldiv at h
  split at h
  · exact lv_ldiv C.1 C.2.1 hd h.1 (k ls _ σ h.2 H locs lsr hP hS hl)
  · exact h.elim
theorem z_lrem (C : zCx p R s m args c cells slots D ids ad A own cc nL) (hd : decode cc pc = .ok (.lrem, 1)) (k : zGo p l e R s m args below meth c cells slots QQ D ids ad A nL (pc + 1) K) : zGo p l e R s m args below meth c cells slots QQ D ids ad A nL (pc) (i_lrem K) := by
  intro ls st σ h H locs lsr hP hS hl
  unfold i_lrem at h
  split at h
  · exact lv_lrem C.1 C.2.1 hd h.1 (k ls _ σ h.2 H locs lsr hP hS hl)
  · exact h.elim
theorem z_ineg (C : zCx p R s m args c cells slots D ids ad A own cc nL) (hd : decode cc pc = .ok (.ineg, 1)) (k : zGo p l e R s m args below meth c cells slots QQ D ids ad A nL (pc + 1) K) : zGo p l e R s m args below meth c cells slots QQ D ids ad A nL (pc) (i_ineg K) := by
  intro ls st σ h H locs lsr hP hS hl
  unfold i_ineg at h
  split at h
  · exact lv_ineg C.1 C.2.1 hd (k ls _ σ h H locs lsr hP hS hl)
  · exact h.elim
theorem z_i2c (C : zCx p R s m args c cells slots D ids ad A own cc nL) (hd : decode cc pc = .ok (.i2c, 1)) (k : zGo p l e R s m args below meth c cells slots QQ D ids ad A nL (pc + 1) K) : zGo p l e R s m args below meth c cells slots QQ D ids ad A nL (pc) (i_i2c K) := by
  intro ls st σ h H locs lsr hP hS hl
  unfold i_i2c at h
  split at h
  · exact lv_i2c C.1 C.2.1 hd rfl (k ls _ σ h H locs lsr hP hS hl)
  · exact h.elim
theorem z_iushr (C : zCx p R s m args c cells slots D ids ad A own cc nL) (hd : decode cc pc = .ok (.iushr, 1)) (k : zGo p l e R s m args below meth c cells slots QQ D ids ad A nL (pc + 1) K) : zGo p l e R s m args below meth c cells slots QQ D ids ad A nL (pc) (i_iushr K) := by
  intro ls st σ h H locs lsr hP hS hl
  unfold i_iushr at h
  split at h
  · exact lv_iushr C.1 C.2.1 hd rfl (k ls _ σ h H locs lsr hP hS hl)
  · exact h.elim
theorem z_lcmp (C : zCx p R s m args c cells slots D ids ad A own cc nL) (hd : decode cc pc = .ok (.lcmp, 1)) (k : zGo p l e R s m args below meth c cells slots QQ D ids ad A nL (pc + 1) K) : zGo p l e R s m args below meth c cells slots QQ D ids ad A nL (pc) (i_lcmp K) := by
  intro ls st σ h H locs lsr hP hS hl
  unfold i_lcmp at h
  split at h
  · exact W.lcmp C.1 C.2.1 hd (k ls _ σ h H locs lsr hP hS hl)
  · exact h.elim
theorem z_i2l (C : zCx p R s m args c cells slots D ids ad A own cc nL) (hd : decode cc pc = .ok (.i2l, 1)) (k : zGo p l e R s m args below meth c cells slots QQ D ids ad A nL (pc + 1) K) : zGo p l e R s m args below meth c cells slots QQ D ids ad A nL (pc) (i_i2l K) := by
  intro ls st σ h H locs lsr hP hS hl
  unfold i_i2l at h
  split at h
  · exact lv_i2l C.1 C.2.1 hd rfl (k ls _ σ h H locs lsr hP hS hl)
  · exact h.elim
theorem z_dup (C : zCx p R s m args c cells slots D ids ad A own cc nL) (hd : decode cc pc = .ok (.dup, 1)) (k : zGo p l e R s m args below meth c cells slots QQ D ids ad A nL (pc + 1) K) : zGo p l e R s m args below meth c cells slots QQ D ids ad A nL (pc) (i_dup K) := by
  intro ls st σ h H locs lsr hP hS hl
  unfold i_dup at h
  split at h
  · exact lv_dup C.1 C.2.1 hd rfl (k ls _ σ h H locs lsr hP hS hl)
  · exact lv_dup C.1 C.2.1 hd rfl (k ls _ σ h H locs lsr hP hS hl)
  · exact h.elim
theorem z_dup2 (C : zCx p R s m args c cells slots D ids ad A own cc nL) (hd : decode cc pc = .ok (.dup2, 1)) (k : zGo p l e R s m args below meth c cells slots QQ D ids ad A nL (pc + 1) K) : zGo p l e R s m args below meth c cells slots QQ D ids ad A nL (pc) (i_dup2 K) := by
  intro ls st σ h H locs lsr hP hS hl
  unfold i_dup2 at h
  split at h
  · exact lv_dup2_11 C.1 C.2.1 hd rfl rfl (k ls _ σ h H locs lsr hP hS hl)
  · exact h.elim
theorem z_pop (C : zCx p R s m args c cells slots D ids ad A own cc nL) (hd : decode cc pc = .ok (.pop, 1)) (k : zGo p l e R s m args below meth c cells slots QQ D ids ad A nL (pc + 1) K) : zGo p l e R s m args below meth c cells slots QQ D ids ad A nL (pc) (i_pop K) := by
  intro ls st σ h H locs lsr hP hS hl
  unfold i_pop at h
  split at h
  · exact lv_pop C.1 C.2.1 hd rfl (k ls _ σ h H locs lsr hP hS hl)
  · exact h.elim
theorem z_ifeq (C : zCx p R s m args c cells slots D ids ad A own cc nL) {off : Int} {tgt : Nat} (hd : decode cc pc = .ok (.ifCond .eq off, 3)) (ht : (pc : Int) + off = (tgt : Int)) (kt : zGo p l e R s m args below meth c cells slots QQ D ids ad A nL (tgt) K) (kf : zGo p l e R s m args below meth c cells slots QQ D ids ad A nL (pc + 3) K2) : zGo p l e R s m args below meth c cells slots QQ D ids ad A nL (pc) (i_ifeq K K2) := by
  intro ls st σ h H locs lsr hP hS hl
  unfold i_ifeq at h
  split at h
  · exact lv_if_eq C.1 C.2.1 hd ht (fun q => kt ls _ σ (h.1 q) H locs lsr hP hS hl) (fun q => kf ls _ σ (h.2 q) H locs lsr hP hS hl)
  · exact h.elim
theorem z_cmpeq (C : zCx p R s m args c cells slots D ids ad A own cc nL) {off : Int} {tgt : Nat} (hd : decode cc pc = .ok (.if_icmp .eq off, 3)) (ht : (pc : Int) + off = (tgt : Int)) (kt : zGo p l e R s m args below meth c cells slots QQ D ids ad A nL (tgt) K) (kf : zGo p l e R s m args below meth c cells slots QQ D ids ad A nL (pc + 3) K2) : zGo p l e R s m args below meth c cells slots QQ D ids ad A nL (pc) (i_cmpeq K K2) := by
  intro ls st σ h H locs lsr hP hS hl
  unfold i_cmpeq at h
  split at h
  · exact lv_icmp_eq C.1 C.2.1 hd ht (fun q => kt ls _ σ (h.1 q) H locs lsr hP hS hl) (fun q => kf ls _ σ (h.2 q) H locs lsr hP hS hl)
  · exact h.elim
theorem z_ifne (C : zCx p R s m args c cells slots D ids ad A own cc nL) {off : Int} {tgt : Nat} (hd : decode cc pc = .ok (.ifCond .ne off, 3)) (ht : (pc : Int) + off = (tgt : Int)) (kt : zGo p l e R s m args below meth c cells slots QQ D ids ad A nL (tgt) K) (kf : zGo p l e R s m args below meth c cells slots QQ D ids ad A nL (pc + 3) K2) : zGo p l e R s m args below meth c cells slots QQ D ids ad A nL (pc) (i_ifne K K2) := by
  intro ls st σ h H locs lsr hP hS hl
  unfold i_ifne at h
  split at h
  · exact lv_if_ne C.1 C.2.1 hd ht (fun q => kt ls _ σ (h.1 q) H locs lsr hP hS hl) (fun q => kf ls _ σ (h.2 q) H locs lsr hP hS hl)
  · exact h.elim
theorem z_cmpne (C : zCx p R s m args c cells slots D ids ad A own cc nL) {off : Int} {tgt : Nat} (hd : decode cc pc = .ok (.if_icmp .ne off, 3)) (ht : (pc : Int) + off = (tgt : Int)) (kt : zGo p l e R s m args below meth c cells slots QQ D ids ad A nL (tgt) K) (kf : zGo p l e R s m args below meth c cells slots QQ D ids ad A nL (pc + 3) K2) : zGo p l e R s m args below meth c cells slots QQ D ids ad A nL (pc) (i_cmpne K K2) := by
  intro ls st σ h H locs lsr hP hS hl
  unfold i_cmpne at h
  split at h
  · exact lv_icmp_ne C.1 C.2.1 hd ht (fun q => kt ls _ σ (h.1 q) H locs lsr hP hS hl) (fun q => kf ls _ σ (h.2 q) H locs lsr hP hS hl)
  · exact h.elim
theorem z_iflt (C : zCx p R s m args c cells slots D ids ad A own cc nL) {off : Int} {tgt : Nat} (hd : decode cc pc = .ok (.ifCond .lt off, 3)) (ht : (pc : Int) + off = (tgt : Int)) (kt : zGo p l e R s m args below meth c cells slots QQ D ids ad A nL (tgt) K) (kf : zGo p l e R s m args below meth c cells slots QQ D ids ad A nL (pc + 3) K2) : zGo p l e R s m args below meth c cells slots QQ D ids ad A nL (pc) (i_iflt K K2) := by
  intro ls st σ h H locs lsr hP hS hl
  unfold i_iflt at h
  split at h
  · exact lv_if_lt C.1 C.2.1 hd ht (fun q => kt ls _ σ (h.1 q) H locs lsr hP hS hl) (fun q => kf ls _ σ (h.2 q) H locs lsr hP hS hl)
  · exact h.elim
theorem z_cmplt (C : zCx p R s m args c cells slots D ids ad A own cc nL) {off : Int} {tgt : Nat} (hd : decode cc pc = .ok (.if_icmp .lt off, 3)) (ht : (pc : Int) + off = (tgt : Int)) (kt : zGo p l e R s m args below meth c cells slots QQ D ids ad A nL (tgt) K) (kf : zGo p l e R s m args below meth c cells slots QQ D ids ad A nL (pc + 3) K2) : zGo p l e R s m args below meth c cells slots QQ D ids ad A nL (pc) (i_cmplt K K2) := by
  intro ls st σ h H locs lsr hP hS hl
  unfold i_cmplt at h
  split at h
  · exact lv_icmp_lt C.1 C.2.1 hd ht (fun q => kt ls _ σ (h.1 q) H locs lsr hP hS hl) (fun q => kf ls _ σ (h.2 q) H locs lsr hP hS hl)
  · exact h.elim
theorem z_ifge (C : zCx p R s m args c cells slots D ids ad A own cc nL) {off : Int} {tgt : Nat} (hd : decode cc pc = .ok (.ifCond .ge off, 3)) (ht : (pc : Int) + off = (tgt : Int)) (kt : zGo p l e R s m args below meth c cells slots QQ D ids ad A nL (tgt) K) (kf : zGo p l e R s m args below meth c cells slots QQ D ids ad A nL (pc + 3) K2) : zGo p l e R s m args below meth c cells slots QQ D ids ad A nL (pc) (i_ifge K K2) := by
  intro ls st σ h H locs lsr hP hS hl
  unfold i_ifge at h
  split at h
  · exact lv_if_ge C.1 C.2.1 hd ht (fun q => kt ls _ σ (h.1 q) H locs lsr hP hS hl) (fun q => kf ls _ σ (h.2 q) H locs lsr hP hS hl)
  · exact h.elim
theorem z_cmpge (C : zCx p R s m args c cells slots D ids ad A own cc nL) {off : Int} {tgt : Nat} (hd : decode cc pc = .ok (.if_icmp .ge off, 3)) (ht : (pc : Int) + off = (tgt : Int)) (kt : zGo p l e R s m args below meth c cells slots QQ D ids ad A nL (tgt) K) (kf : zGo p l e R s m args below meth c cells slots QQ D ids ad A nL (pc + 3) K2) : zGo p l e R s m args below meth c cells slots QQ D ids ad A nL (pc) (i_cmpge K K2) := by
  intro ls st σ h H locs lsr hP hS hl
  unfold i_cmpge at h
  split at h
  · exact lv_icmp_ge C.1 C.2.1 hd ht (fun q => kt ls _ σ (h.1 q) H locs lsr hP hS hl) (fun q => kf ls _ σ (h.2 q) H locs lsr hP hS hl)
  · exact h.elim
theorem z_ifgt (C : zCx p R s m args c cells slots D ids ad A own cc nL) {off : Int} {tgt : Nat} (hd : decode cc pc = .ok (.ifCond .gt off, 3)) (ht : (pc : Int) + off = (tgt : Int)) (kt : zGo p l e R s m args below meth c cells slots QQ D ids ad A nL (tgt) K) (kf : zGo p l e R s m args below meth c cells slots QQ D ids ad A nL (pc + 3) K2) : zGo p l e R s m args below meth c cells slots QQ D ids ad A nL (pc) (i_ifgt K K2) := by
  intro ls st σ h H locs lsr hP hS hl
  unfold i_ifgt at h
  split at h
  · exact lv_if_gt C.1 C.2.1 hd ht (fun q => kt ls _ σ (h.1 q) H locs lsr hP hS hl) (fun q => kf ls _ σ (h.2 q) H locs lsr hP hS hl)
  · exact h.elim
theorem z_cmpgt (C : zCx p R s m args c cells slots D ids ad A own cc nL) {off : Int} {tgt : Nat} (hd : decode cc pc = .ok (.if_icmp .gt off, 3)) (ht : (pc : Int) + off = (tgt : Int)) (kt : zGo p l e R s m args below meth c cells slots QQ D ids ad A nL (tgt) K) (kf : zGo p l e R s m args below meth c cells slots QQ D ids ad A nL (pc + 3) K2) : zGo p l e R s m args below meth c cells slots QQ D ids ad A nL (pc) (i_cmpgt K K2) := by
  intro ls st σ h H locs lsr hP hS hl
  unfold i_cmpgt at h
  split at h
  · exact lv_icmp_gt C.1 C.2.1 hd ht (fun q => kt ls _ σ (h.1 q) H locs lsr hP hS hl) (fun q => kf ls _ σ (h.2 q) H locs lsr hP hS hl)
  · exact h.elim
theorem z_ifle (C : zCx p R s m args c cells slots D ids ad A own cc nL) {off : Int} {tgt : Nat} (hd : decode cc pc = .ok (.ifCond .le off, 3)) (ht : (pc : Int) + off = (tgt : Int)) (kt : zGo p l e R s m args below meth c cells slots QQ D ids ad A nL (tgt) K) (kf : zGo p l e R s m args below meth c cells slots QQ D ids ad A nL (pc + 3) K2) : zGo p l e R s m args below meth c cells slots QQ D ids ad A nL (pc) (i_ifle K K2) := by
  intro ls st σ h H locs lsr hP hS hl
  unfold i_ifle at h
  split at h
  · exact lv_if_le C.1 C.2.1 hd ht (fun q => kt ls _ σ (h.1 q) H locs lsr hP hS hl) (fun q => kf ls _ σ (h.2 q) H locs lsr hP hS hl)
  · exact h.elim
theorem z_cmple (C : zCx p R s m args c cells slots D ids ad A own cc nL) {off : Int} {tgt : Nat} (hd : decode cc pc = .ok (.if_icmp .le off, 3)) (ht : (pc : Int) + off = (tgt : Int)) (kt : zGo p l e R s m args below meth c cells slots QQ D ids ad A nL (tgt) K) (kf : zGo p l e R s m args below meth c cells slots QQ D ids ad A nL (pc + 3) K2) : zGo p l e R s m args below meth c cells slots QQ D ids ad A nL (pc) (i_cmple K K2) := by
  intro ls st σ h H locs lsr hP hS hl
  unfold i_cmple at h
  split at h
  · exact lv_icmp_le C.1 C.2.1 hd ht (fun q => kt ls _ σ (h.1 q) H locs lsr hP hS hl) (fun q => kf ls _ σ (h.2 q) H locs lsr hP hS hl)
  · exact h.elim
theorem z_goto (C : zCx p R s m args c cells slots D ids ad A own cc nL) {off : Int} {tgt : Nat} (hd : decode cc pc = .ok (.goto off, 3)) (ht : (pc : Int) + off = (tgt : Int)) (k : zGo p l e R s m args below meth c cells slots QQ D ids ad A nL (tgt) K) : zGo p l e R s m args below meth c cells slots QQ D ids ad A nL (pc) K :=
  fun ls st σ h H locs lsr hP hS hl => lv_goto C.1 C.2.1 hd ht (k ls st σ h H locs lsr hP hS hl)
theorem z_jmp {Y : Nat → zK} {b tgt : Nat} {mk : List Bool} (hY : ∀ ls st σ, Y b ls st σ → zW p l e R s m args below meth c cells slots QQ D ids ad A nL tgt ls st σ) : zGo p l e R s m args below meth c cells slots QQ D ids ad A nL (tgt) (i_jmp Y b mk) :=
  fun ls st σ h H locs lsr hP hS hl => hY (zkp mk ls) st σ h H locs lsr hP hS (hl.kp mk)
theorem z_table (C : zCx p R s m args c cells slots D ids ad A own cc nL) {dflt lo hi : Int} {offs : Array Int} {len : Nat} {ps : List (Int32 × zK)} {df : zK} {tgts : List Nat} {td : Nat} (hd : decode cc pc = .ok (.tableswitch dflt lo hi offs, len)) {keys : List Int32} (hks : ps.map (fun q => q.1) = keys) (hk0 : ∀ (j : Nat), j < offs.size → (keys[j]?).map (fun q => q.toInt) = some (lo + j)) (hl0 : ps.length = offs.size) (hhi : hi = lo + offs.size - 1) (ht : ∀ (j : Nat), j < offs.size → (offs[j]?).map (fun o => (pc : Int) + o) = (tgts[j]?).map (fun t => (t : Int))) (htd : (pc : Int) + dflt = (td : Int))
    (kt : ∀ (j : Nat) (q : Int32 × zK) (t : Nat), ps[j]? = some q → tgts[j]? = some t → zGo p l e R s m args below meth c cells slots QQ D ids ad A nL (t) q.2) (kd : zGo p l e R s m args below meth c cells slots QQ D ids ad A nL (td) df) : zGo p l e R s m args below meth c cells slots QQ D ids ad A nL (pc) (i_sw ps df) := by
  have hk : ∀ (j : Nat), j < offs.size → (ps[j]?).map (fun q => q.1.toInt) = some (lo + j) := by
    intro j hj
    have := hk0 j hj
    rw [← hks, List.getElem?_map, Option.map_map] at this
    exact this
  intro ls st σ h H locs lsr hP hS hl
  unfold i_sw at h
  split at h
  · rename_i x r
    obtain ⟨h1, h2⟩ := h
    by_cases hx : x.toInt < lo ∨ hi < x.toInt
    · refine lv_tableOut C.1 C.2.1 hd hx htd (kd ls r σ (h2 ?_) H locs lsr hP hS hl)
      have gen : ∀ (qs : List (Int32 × zK)), (∀ q ∈ qs, ∃ j : Nat, j < offs.size ∧ q.1.toInt = lo + j) → zne x qs := by
        intro qs
        induction qs with
        | nil => intro _; exact True.intro
        | cons q qs ih =>
          intro hq
          obtain ⟨qk, qt⟩ := q
          refine ⟨fun e => ?_, ih (fun q h => hq q (List.mem_cons_of_mem _ h))⟩
          obtain ⟨j, h3, h4⟩ := hq _ List.mem_cons_self
          have h5 : x.toInt = lo + (j : Int) := by rw [e]; exact h4
          omega
      refine gen ps (fun q hq => ?_)
      obtain ⟨j, hj⟩ := List.getElem?_of_mem hq
      have hjl : j < offs.size := by rw [← hl0]; exact (List.getElem?_eq_some_iff.mp hj).1
      have := hk j hjl
      rw [hj] at this
      exact ⟨j, hjl, Option.some.inj this⟩
    · have a1 : ¬ x.toInt < lo := fun q => hx (Or.inl q)
      have a2 : ¬ hi < x.toInt := fun q => hx (Or.inr q)
      obtain ⟨j, hj⟩ : ∃ j : Nat, x.toInt = lo + j := ⟨(x.toInt - lo).toNat, by omega⟩
      have hjl : j < offs.size := by omega
      have e1 := hk j hjl
      have e2 := ht j hjl
      obtain ⟨o, ho⟩ : ∃ o, offs[j]? = some o := ⟨offs[j], Array.getElem?_eq_getElem hjl⟩
      cases hp : ps[j]? with
      | none => rw [hp] at e1; cases e1
      | some q =>
        cases hg : tgts[j]? with
        | none => rw [ho, hg] at e2; cases e2
        | some t =>
          rw [hp] at e1
          rw [ho, hg] at e2
          have sel : ∀ (qs : List (Int32 × zK)) (i : Nat), zsw x ls r σ qs → qs[i]? = some q → q.2 ls r σ := by
            intro qs
            induction qs with
            | nil => intro i _ h; simp at h
            | cons q' qs ih =>
              intro i h5 h6
              obtain ⟨qk, qt⟩ := q'
              cases i with
              | zero =>
                simp only [List.getElem?_cons_zero, Option.some.injEq] at h6
                subst h6
                exact h5.1 (Int32.toInt_inj.mp (by rw [hj]; exact (Option.some.inj e1).symm))
              | succ i => exact ih i h5.2 (by simpa using h6)
          exact lv_tableIn C.1 C.2.1 hd a1 a2 (by rw [hj, show (lo + (j : Int) - lo).toNat = j by omega]; exact ho) (Option.some.inj e2) (kt j q t hp hg ls r σ (sel ps j h1 hp) H locs lsr hP hS hl)
  · exact h.elim
theorem z_look2 (C : zCx p R s m args c cells slots D ids ad A own cc nL) {dflt o1 o2 : Int} {k1 k2 : Int32} {i1 i2 : Int} {len : Nat} {t1 t2 df : zK} {g1 g2 td : Nat} (hd : decode cc pc = .ok (.lookupswitch dflt #[(i1, o1), (i2, o2)], len)) (e1 : k1.toInt = i1) (e2 : k2.toInt = i2) (hlt : i1 < i2) (ht1 : (pc : Int) + o1 = (g1 : Int)) (ht2 : (pc : Int) + o2 = (g2 : Int)) (htd : (pc : Int) + dflt = (td : Int))
    (h1 : zGo p l e R s m args below meth c cells slots QQ D ids ad A nL (g1) t1) (h2 : zGo p l e R s m args below meth c cells slots QQ D ids ad A nL (g2) t2) (kd : zGo p l e R s m args below meth c cells slots QQ D ids ad A nL (td) df) : zGo p l e R s m args below meth c cells slots QQ D ids ad A nL (pc) (i_sw [(k1, t1), (k2, t2)] df) := by
  intro ls st σ h H locs lsr hP hS hl
  unfold i_sw at h
  split at h
  · rename_i x r
    obtain ⟨⟨a1, a2, -⟩, a3⟩ := h
    have hp : ((#[(i1, o1), (i2, o2)] : Array (Int × Int)).toList.zip ((#[(i1, o1), (i2, o2)] : Array (Int × Int)).toList.drop 1)).all (fun (a, next) => a.1 < next.1) = true := by simp [hlt]
    by_cases c1 : x = k1
    · exact lv_lookup C.1 C.2.1 hd hp (off := o1) (by show Op.lookupswitch.offset [(i1, o1), (i2, o2)] dflt x.toInt = o1; rw [Op.lookupswitch.offset_cons, if_pos (by rw [c1]; exact e1.symm)]) ht1 (h1 ls r σ (a1 c1) H locs lsr hP hS hl)
    · by_cases c2 : x = k2
      · exact lv_lookup C.1 C.2.1 hd hp (off := o2) (by show Op.lookupswitch.offset [(i1, o1), (i2, o2)] dflt x.toInt = o2; rw [lv_osw c1 e1, Op.lookupswitch.offset_cons, if_pos (by rw [c2]; exact e2.symm)]) ht2 (h2 ls r σ (a2 c2) H locs lsr hP hS hl)
      · exact lv_lookup C.1 C.2.1 hd hp (off := dflt) (by show Op.lookupswitch.offset [(i1, o1), (i2, o2)] dflt x.toInt = dflt; rw [lv_osw c1 e1, lv_osw c2 e2]; rfl) htd (kd ls r σ (a3 ⟨c1, c2, True.intro⟩) H locs lsr hP hS hl)
  · exact h.elim
end ZSIM
