/-! Constructors: rows over worlds that grow. -/
def qKs : List String := ["EveryPew$Hoarse", "EveryPew$Convert", "EveryPew$Deacon", "EveryPew$Children", "EveryPew$Waverers"]
def qEnv (D : va_G) (ids : zIds) (U : State) : Prop := va_K D zCl (zTys ids) U ∧ va_AO "EveryPew$Church" U ∧ va_AO "EveryPew$Plain" U ∧ ∀ C ∈ qKs, va_Nw (.castable C "EveryPew$Plain") U
theorem qEnv.moved {D : va_G} {ids : zIds} {s U : State} (h : qEnv D ids s) (hW : s.WarmedH U.vm) : qEnv D ids U := ⟨h.1.moved hW.alike, h.2.1.moved hW.alike, h.2.2.1.moved hW.alike, fun C hC => va_Nw.warmC hW (h.2.2.2 C hC)⟩
theorem qEnv.same {D : va_G} {ids : zIds} {s U : State} (h : qEnv D ids s) (hv : s.vm = U.vm) : qEnv D ids U := by
  have al : s.vm.Alike U.vm := by rw [hv]; exact Vm.Alike.refl _
  exact ⟨h.1.moved al, h.2.1.moved al, h.2.2.1.moved al, fun C hC => va_Nw.same rfl hv (h.2.2.2 C hC)⟩
theorem qK_i {D : va_G} {ids : zIds} {s : State} {cA : ClassId} (h : va_K D zCl (zTys ids ++ [(cA, .int)]) s) : cA = ids.1 := by
  have h1 : s.vm.findClass ("[" ++ FieldType.int.toString) = some cA := (h.2 4 _ rfl).2
  have h0 : s.vm.findClass ("[" ++ FieldType.int.toString) = some ids.1 := (h.2 0 _ rfl).2
  exact Option.some.inj (h1.symm.trans h0)
theorem qK_z {D : va_G} {ids : zIds} {s : State} {cA : ClassId} (h : va_K D zCl (zTys ids ++ [(cA, .boolean)]) s) : cA = ids.2.1 := by
  have h1 : s.vm.findClass ("[" ++ FieldType.boolean.toString) = some cA := (h.2 4 _ rfl).2
  have h0 : s.vm.findClass ("[" ++ FieldType.boolean.toString) = some ids.2.1 := (h.2 1 _ rfl).2
  exact Option.some.inj (h1.symm.trans h0)
theorem qK_c {D : va_G} {ids : zIds} {s : State} {cA : ClassId} (h : va_K D zCl (zTys ids ++ [(cA, .object "EveryPew$Church")]) s) : cA = ids.2.2.1 := by
  obtain ⟨_, _, _, _, _, h1⟩ := (h.2 4 _ rfl).2
  obtain ⟨_, _, _, _, _, h0⟩ := (h.2 2 _ rfl).2
  exact Option.some.inj (h1.symm.trans h0)
theorem qK_p {D : va_G} {ids : zIds} {s : State} {cA : ClassId} (h : va_K D zCl (zTys ids ++ [(cA, .object "EveryPew$Plain")]) s) : cA = ids.2.2.2 := by
  obtain ⟨_, _, _, _, _, h1⟩ := (h.2 4 _ rfl).2
  obtain ⟨_, _, _, _, _, h0⟩ := (h.2 3 _ rfl).2
  exact Option.some.inj (h1.symm.trans h0)
theorem qP_r {D : va_G} {cl : List vw_C} {w1 w2 : va_W} {H : Heap} (h : va_P D cl (w1 ++ w2) H) : va_P D cl w2 H := fun k q hk => h (w1.length + k) q (by rw [List.getElem?_append_right (by omega), Nat.add_sub_cancel_left]; exact hk)
theorem qD_r {A : Nat → Prop} {w1 w2 : va_W} (h : va_D A (w1 ++ w2)) : va_D A w2 := by
  have e : ∀ (k : Nat) (q : Nat × va_E), w2[k]? = some q → (w1 ++ w2)[w1.length + k]? = some q := fun k q hk => by rw [List.getElem?_append_right (by omega), Nat.add_sub_cancel_left]; exact hk
  refine ⟨fun i j x y hx hy hxy => ?_, fun k q hk => h.2 _ q (e k q hk)⟩
  have := h.1 _ _ x y (e i x hx) (e j y hy) hxy
  omega
theorem qD_l {A : Nat → Prop} {w1 w2 : va_W} (h : va_D A (w1 ++ w2)) : va_D A w1 := by
  have e : ∀ (k : Nat) (q : Nat × va_E), w1[k]? = some q → (w1 ++ w2)[k]? = some q := fun k q hk => by rw [List.getElem?_append_left (List.getElem?_eq_some_iff.mp hk).1]; exact hk
  exact ⟨fun i j x y hx hy hxy => h.1 _ _ x y (e i x hx) (e j y hy) hxy, fun k q hk => h.2 _ q (e k q hk)⟩
theorem qFree {A : Nat → Prop} {wr wc : va_W} {H0 H : Heap} {locs : List Loc} (hD : va_D A (wr ++ wc)) (hS : va_S A H0 H locs) (hA : ∀ q : Nat, H0.size ≤ q → A q) : ∀ q : Nat, va_A wc H.size q → A q := by
  intro q h
  rcases h with ⟨k, e, h⟩ | h
  · exact (qD_r hD).2 k (q, e) h
  · exact hA q (Nat.le_trans hS.1 h)
theorem qJoin {A0 : Nat → Prop} {D : va_G} {cl : List vw_C} {wc wr w1 : va_W} {H H1 : Heap} (hP : va_P D cl (wr ++ wc) H) (hD : va_D A0 (wr ++ wc)) (hk : ∀ q : Nat, q < H.size → ¬ va_A wc H.size q → H1[q]? = H[q]?) (hF : ∀ q, va_A wc H.size q → A0 q) (hP1 : va_P D cl w1 H1) (hD1 : va_D (va_A wc H.size) w1) : va_P D cl (wr ++ w1) H1 ∧ va_D A0 (wr ++ w1) := by
  have e : ∀ (k : Nat) (q : Nat × va_E), wr[k]? = some q → k < wr.length ∧ (wr ++ wc)[k]? = some q := fun k q hk => by
    have hl := (List.getElem?_eq_some_iff.mp hk).1
    exact ⟨hl, by rw [List.getElem?_append_left hl]; exact hk⟩
  have apart : ∀ (k : Nat) (q : Nat × va_E), wr[k]? = some q → q.1 < H.size ∧ ¬ va_A wc H.size q.1 := by
    intro k q hq
    obtain ⟨h0, h2⟩ := e k q hq
    have hl := (hP k q h2).lt
    refine ⟨hl, fun h => ?_⟩
    rcases h with ⟨k2, e2, h⟩ | h
    · have := hD.1 k (wr.length + k2) q (q.1, e2) h2 (by rw [List.getElem?_append_right (by omega), Nat.add_sub_cancel_left]; exact h) rfl
      omega
    · omega
  refine ⟨va_P.app (fun k q hq => ?_) hP1, va_D.app (qD_l hD) (hD1.weaken (fun k q _ h => hF q.1 h)) (fun i j x y hx hy hxy => ?_)⟩
  · obtain ⟨g1, g2⟩ := apart k q hq
    exact (hP k q (e k q hq).2).kept (hk q.1 g1 g2)
  · exact (apart i x hx).2 (by rw [hxy]; exact hD1.2 j y hy)
/-- a made object's world, by its cells' numbers -/
def qWo (ids : zIds) (u : Nat → Nat) (ks : List Nat) : va_W := ks.map (fun k => (u k, zEnt u ids zsig0 k))
/-- what a constructor promises -/
def qPc (D : va_G) (ids : zIds) (h0 sz ci : Nat) (fs0 : List Value) : Array Value → State → Prop := va_Pc [.ref h0] (fun U => U.heap.size = sz ∧ va_P D zCl [(h0, .inr (ci, fs0))] U.heap ∧ qEnv D ids U ∧ va_D (fun _ => True) [(h0, .inr (ci, fs0))])
def qQc (D : va_G) (ids : zIds) (h0 k0 : Nat) (w1 : zIds → (Nat → Nat) → va_W) (A : Nat → Prop) : Array Value → State → Outcome → State → Prop := va_Qv (fun u : Nat → Nat => u k0 = h0) (fun u t => va_P D zCl (w1 ids u) t.heap ∧ va_D A (w1 ids u)) A
def qSd (y : MethodName) (cc : ByteArray) (nL : Nat) (rm : Room) (ci : Nat) (fs0 : List Value) (k0 : Nat) (w1 : zIds → (Nat → Nat) → va_W) : Prop :=
  ∀ (l : Launch) (D : va_G) (ids : zIds) (h0 sz : Nat), Met l y (.code y cc nL none :: zAll) rm (qPc D ids h0 sz ci fs0) (qQc D ids h0 k0 w1 (va_A [(h0, .inr (ci, fs0))] sz)) rm.cells rm.slots (va_A [(h0, .inr (ci, fs0))] sz)
theorem qblind {D : va_G} {ids : zIds} {h0 sz ci : Nat} {fs0 : List Value} : FrameBlind (qPc D ids h0 sz ci fs0) := by
  intro a U g mk q
  obtain ⟨q0, q1, q2, q3, q4⟩ := q
  exact ⟨q0, q1, q2, q3.same rfl, q4⟩
section QROWS
variable {p : Program} {l : Launch} {e : Env} {R : Room} {s : State} {m : MethodId} {args : Array Value} {below : List Frame} {meth : Method} {c : Code} {cells slots : Nat} {QQ : State → Prop} {D : va_G} {ids : zIds} {A : Nat → Prop} {own : String} {cc : ByteArray} {nL : Nat}
def qX (p : Program) (s : State) (m : MethodId) (args : Array Value) (c : Code) (D : va_G) (ids : zIds) (A : Nat → Prop) (own : String) (cc : ByteArray) (nL : Nat) : Prop := p.tables.exec = Jvm.exec ∧ c.code = cc ∧ c.maxLocals = nL ∧ s.vm.findClass own = some m.cls ∧ (∀ w ∈ zAll, w.before args s = true) ∧ qEnv D ids s ∧ ∀ q : Nat, s.heap.size ≤ q → A q
def qW (p : Program) (l : Launch) (e : Env) (R : Room) (s : State) (m : MethodId) (args : Array Value) (below : List Frame) (meth : Method) (c : Code) (QQ : State → Prop) (D : va_G) (A : Nat → Prop) (nL : Nat) (cells slots pc : Nat) (lv : List (Nat × Value)) (ws : va_W) (st : List Value) : Prop :=
  ∀ (H : Heap) (locs : List Loc) (ls : Array Slot), lv_has ls nL lv → va_P D zCl ws H → va_D A ws → va_S A s.heap H locs → W p l e R s m args below meth c H locs cells slots QQ (F0 m pc ls st)
variable {pc : Nat} {lv : List (Nat × Value)} {ws : va_W} {st : List Value}
theorem q_al (C : qX p s m args c D ids A own cc nL) {n : Fin 4} {i a : Nat} (hd : decode cc pc = .ok (.aload_n n, 1)) (hi : (n : Nat) = i) (hl : (i, Value.ref a) ∈ lv) (k : qW p l e R s m args below meth c QQ D A nL cells slots (pc + 1) lv ws (.ref a :: st)) : qW p l e R s m args below meth c QQ D A nL cells slots pc lv ws st :=
  fun H locs ls h hP hD hS => lv_aload_n C.1 C.2.1 hd hi (h.2.2 _ hl) (k H locs ls h hP hD hS)
theorem q_il (C : qX p s m args c D ids A own cc nL) {n : Fin 4} {i : Nat} {a : Int32} (hd : decode cc pc = .ok (.iload_n n, 1)) (hi : (n : Nat) = i) (hl : (i, Value.int a) ∈ lv) (k : qW p l e R s m args below meth c QQ D A nL cells slots (pc + 1) lv ws (.int a :: st)) : qW p l e R s m args below meth c QQ D A nL cells slots pc lv ws st :=
  fun H locs ls h hP hD hS => lv_iload_n C.1 C.2.1 hd hi (h.2.2 _ hl) (k H locs ls h hP hD hS)
theorem q_is (C : qX p s m args c D ids A own cc nL) {n : Fin 4} {i : Nat} {x : Int32} {lv' : List (Nat × Value)} (hd : decode cc pc = .ok (.istore_n n, 1)) (hi : (n : Nat) = i) (hn : i < nL) (hl : (i, Value.int x) :: lv.filter (fun q => !(q.1 == i) && !(q.1 + 1 == i && q.2.category == 2)) = lv') (k : qW p l e R s m args below meth c QQ D A nL cells slots (pc + 1) lv' ws st) : qW p l e R s m args below meth c QQ D A nL cells slots pc lv ws (.int x :: st) :=
  fun H locs ls h hP hD hS => lv_istore_n C.1 C.2.1 hd hi h hn hl (fun ls' h' => k H locs ls' h' hP hD hS)
theorem q_as (C : qX p s m args c D ids A own cc nL) {n : Fin 4} {i a : Nat} {lv' : List (Nat × Value)} (hd : decode cc pc = .ok (.astore_n n, 1)) (hi : (n : Nat) = i) (hn : i < nL) (hl : (i, Value.ref a) :: lv.filter (fun q => !(q.1 == i) && !(q.1 + 1 == i && q.2.category == 2)) = lv') (k : qW p l e R s m args below meth c QQ D A nL cells slots (pc + 1) lv' ws st) : qW p l e R s m args below meth c QQ D A nL cells slots pc lv ws (.ref a :: st) :=
  fun H locs ls h hP hD hS => lv_astore_n C.1 C.2.1 hd hi h hn hl (fun ls' h' => k H locs ls' h' hP hD hS)
theorem q_inc (C : qX p s m args c D ids A own cc nL) {i k : Nat} {n : Int} {x v : Int32} {lv' : List (Nat × Value)} (hd : decode cc pc = .ok (.iinc i n, 3)) (hk : lv[k]? = some (i, .int x)) (hv : x + Int32.ofInt n = v) (hn : i < nL) (hl : (i, Value.int v) :: lv.filter (fun q => !(q.1 == i) && !(q.1 + 1 == i && q.2.category == 2)) = lv') (k : qW p l e R s m args below meth c QQ D A nL cells slots (pc + 3) lv' ws st) : qW p l e R s m args below meth c QQ D A nL cells slots pc lv ws st :=
  fun H locs ls h hP hD hS => lv_iinc C.1 C.2.1 hd h hk hv hn hl (fun ls' h' => k H locs ls' h' hP hD hS)
theorem q_goto (C : qX p s m args c D ids A own cc nL) {off : Int} {tgt : Nat} (hd : decode cc pc = .ok (.goto off, 3)) (ht : (pc : Int) + off = (tgt : Int)) (k : qW p l e R s m args below meth c QQ D A nL cells slots tgt lv ws st) : qW p l e R s m args below meth c QQ D A nL cells slots pc lv ws st :=
  fun H locs ls h hP hD hS => lv_goto C.1 C.2.1 hd ht (k H locs ls h hP hD hS)
theorem q_geT (C : qX p s m args c D ids A own cc nL) {off : Int} {tgt : Nat} {x y : Int32} (hd : decode cc pc = .ok (.if_icmp .ge off, 3)) (ht : (pc : Int) + off = (tgt : Int)) (hxy : y ≤ x) (k : qW p l e R s m args below meth c QQ D A nL cells slots tgt lv ws st) : qW p l e R s m args below meth c QQ D A nL cells slots pc lv ws (.int y :: .int x :: st) :=
  fun H locs ls h hP hD hS => lv_icmp_ge C.1 C.2.1 hd ht (fun _ => k H locs ls h hP hD hS) (fun q => absurd hxy q)
theorem q_geF (C : qX p s m args c D ids A own cc nL) {off : Int} {tgt : Nat} {x y : Int32} (hd : decode cc pc = .ok (.if_icmp .ge off, 3)) (ht : (pc : Int) + off = (tgt : Int)) (hxy : ¬ y ≤ x) (k : qW p l e R s m args below meth c QQ D A nL cells slots (pc + 3) lv ws st) : qW p l e R s m args below meth c QQ D A nL cells slots pc lv ws (.int y :: .int x :: st) :=
  fun H locs ls h hP hD hS => lv_icmp_ge C.1 C.2.1 hd ht (fun q => absurd q hxy) (fun _ => k H locs ls h hP hD hS)
theorem q_ic (C : qX p s m args c D ids A own cc nL) {n : Int} {v : Int32} (hd : decode cc pc = .ok (.iconst n, 1)) (hv : Int32.ofInt n = v) (k : qW p l e R s m args below meth c QQ D A nL cells slots (pc + 1) lv ws (.int v :: st)) : qW p l e R s m args below meth c QQ D A nL cells slots pc lv ws st :=
  fun H locs ls h hP hD hS => lv_iconst C.1 C.2.1 hd hv (k H locs ls h hP hD hS)
theorem q_bi (C : qX p s m args c D ids A own cc nL) {n : Int} {v : Int32} (hd : decode cc pc = .ok (.bipush n, 2)) (hv : (Int8.ofInt n).toInt32 = v) (k : qW p l e R s m args below meth c QQ D A nL cells slots (pc + 2) lv ws (.int v :: st)) : qW p l e R s m args below meth c QQ D A nL cells slots pc lv ws st :=
  fun H locs ls h hP hD hS => lv_bipush C.1 C.2.1 hd hv (k H locs ls h hP hD hS)
theorem q_si (C : qX p s m args c D ids A own cc nL) {n : Int} {v : Int32} (hd : decode cc pc = .ok (.sipush n, 3)) (hv : (Int16.ofInt n).toInt32 = v) (k : qW p l e R s m args below meth c QQ D A nL cells slots (pc + 3) lv ws (.int v :: st)) : qW p l e R s m args below meth c QQ D A nL cells slots pc lv ws st :=
  fun H locs ls h hP hD hS => lv_sipush C.1 C.2.1 hd hv (k H locs ls h hP hD hS)
theorem q_lc (C : qX p s m args c D ids A own cc nL) {n : Fin 2} {v : Int64} (hd : decode cc pc = .ok (.lconst n, 1)) (hv : Int64.ofNat (n : Nat) = v) (k : qW p l e R s m args below meth c QQ D A nL cells slots (pc + 1) lv ws (.long v :: st)) : qW p l e R s m args below meth c QQ D A nL cells slots pc lv ws st :=
  fun H locs ls h hP hD hS => lv_lconst C.1 C.2.1 hd hv (k H locs ls h hP hD hS)
theorem q_dup (C : qX p s m args c D ids A own cc nL) {a : Nat} (hd : decode cc pc = .ok (.dup, 1)) (k : qW p l e R s m args below meth c QQ D A nL cells slots (pc + 1) lv ws (.ref a :: .ref a :: st)) : qW p l e R s m args below meth c QQ D A nL cells slots pc lv ws (.ref a :: st) :=
  fun H locs ls h hP hD hS => lv_dup C.1 C.2.1 hd rfl (k H locs ls h hP hD hS)
/-- Object's constructor -/
theorem q_obj (C : qX p s m args c D ids A own cc nL) {idx a : Nat} (hd : decode cc pc = .ok (.invokespecial idx, 3)) (h1 : Cond.methodLink own idx objectInit ∈ zAll) (h2 : Cond.instanceMethod objectInit ∈ zAll) (h3 : Cond.code objectInit ⟨#[0xb1]⟩ 1 none ∈ zAll) (hf : 1 ≤ R.frames) (hlc : 12 ≤ R.locals) (k : qW p l e R s m args below meth c QQ D A nL cells slots (pc + 3) lv ws []) : qW p l e R s m args below meth c QQ D A nL cells slots pc lv ws [.ref a] :=
  fun H locs ls h hP hD hS => W.objInit (g := F0 m pc ls [.ref a]) C.1 C.2.1 C.2.2.2.1 (C.2.2.2.2.1 _ h1) (C.2.2.2.2.1 _ h2) (C.2.2.2.2.1 _ h3) rfl (by rw [C.2.2.1]; exact h.1) rfl hd hf (by show 2 * 0 + 0 + 12 ≤ _; omega) (k H locs ls h hP hD hS)
theorem q_new (C : qX p s m args c D ids A own cc nL) {idx ci N : Nat} {Cn : String} {T : u_T} {ty : Nat → FieldType} (hd : decode cc pc = .ok (.new idx, 3)) (hc : zCl[ci]? = some (Cn, T, N)) (hty : ∀ k, k < N → parseFieldDescriptor (T k).2.2.1 = some (ty k)) (h1 : Cond.classLink own idx Cn ∈ zAll) (h2 : Cond.instantiable Cn N ∈ zAll) (h3 : Cond.initialized Cn ∈ zAll) {fs : List Value} (hfs : ∀ j, j < N → defaultValue (ty j) = vp_V fs j) (hcells : cells + 1 ≤ R.cells) (hslots : slots + N ≤ R.slots) (k : ∀ q : Nat, qW p l e R s m args below meth c QQ D A nL (cells + 1) (slots + N) (pc + 3) lv (ws ++ [(q, .inr (ci, fs))]) (.ref q :: st)) : qW p l e R s m args below meth c QQ D A nL cells slots pc lv ws st :=
  fun H locs ls h hP hD hS => va_new C.1 C.2.1 C.2.2.2.2.1 (zu ci _ hc) ty hty C.2.2.2.1 (C.2.2.2.2.1 _ h1) (C.2.2.2.2.1 _ h2) (C.2.2.2.2.1 _ h3) C.2.2.2.2.2.1.1 hP hD hS C.2.2.2.2.2.2 hc hfs hcells hslots hd (fun q H1 hP1 hD1 hS1 => k q H1 locs ls h hP1 hD1 hS1)
theorem q_newi (C : qX p s m args c D ids A own cc nL) {n : Int32} {N : Nat} (hd : decode cc pc = .ok (.newarray .int, 2)) (hw : Cond.arrayClass .int ∈ zAll) (hn : ¬ n < 0) (hN : n.toNatClampNeg = N) (hb : N * 4 ≤ 536870912) (hcells : cells + 1 ≤ R.cells) (hslots : slots + N ≤ R.slots) (k : ∀ q : Nat, qW p l e R s m args below meth c QQ D A nL (cells + 1) (slots + N) (pc + 2) lv (ws ++ [(q, .inl (ids.1, N, .inl (fun _ => 0)))]) (.ref q :: st)) : qW p l e R s m args below meth c QQ D A nL cells slots pc lv ws (.int n :: st) :=
  fun H locs ls h hP hD hS => va_newa (atype := .int) (ty := .int) (a0 := (N, .inl (fun _ => 0))) C.1 C.2.1 (C.2.2.2.2.1 _ hw) rfl C.2.2.2.2.2.1.1 hP hD hS C.2.2.2.2.2.2 (fun cA => rfl) hn hN hb hcells hslots hd (fun q cA H1 hK1 hP1 hD1 hS1 => by
    have := qK_i hK1
    subst this
    exact k q H1 locs ls h hP1 hD1 hS1)
theorem q_newz (C : qX p s m args c D ids A own cc nL) {n : Int32} {N : Nat} (hd : decode cc pc = .ok (.newarray .boolean, 2)) (hw : Cond.arrayClass .boolean ∈ zAll) (hn : ¬ n < 0) (hN : n.toNatClampNeg = N) (hb : N * 1 ≤ 536870912) (hcells : cells + 1 ≤ R.cells) (hslots : slots + N ≤ R.slots) (k : ∀ q : Nat, qW p l e R s m args below meth c QQ D A nL (cells + 1) (slots + N) (pc + 2) lv (ws ++ [(q, .inl (ids.2.1, N, .inl (fun _ => 0)))]) (.ref q :: st)) : qW p l e R s m args below meth c QQ D A nL cells slots pc lv ws (.int n :: st) :=
  fun H locs ls h hP hD hS => va_newa (atype := .boolean) (ty := .boolean) (a0 := (N, .inl (fun _ => 0))) C.1 C.2.1 (C.2.2.2.2.1 _ hw) rfl C.2.2.2.2.2.1.1 hP hD hS C.2.2.2.2.2.2 (fun cA => rfl) hn hN hb hcells hslots hd (fun q cA H1 hK1 hP1 hD1 hS1 => by
    have := qK_z hK1
    subst this
    exact k q H1 locs ls h hP1 hD1 hS1)
theorem q_newc (C : qX p s m args c D ids A own cc nL) {idx N : Nat} {n : Int32} (hd : decode cc pc = .ok (.anewarray idx, 3)) (hw : Cond.classLink own idx "EveryPew$Church" ∈ zAll) (hn : ¬ n < 0) (hN : n.toNatClampNeg = N) (hb : N * 4 ≤ 536870912) (hcells : cells + 1 ≤ R.cells) (hslots : slots + N ≤ R.slots) (k : ∀ q : Nat, qW p l e R s m args below meth c QQ D A nL (cells + 1) (slots + N) (pc + 3) lv (ws ++ [(q, .inl (ids.2.2.1, N, .inr (.inr (.inr (.inr (fun _ => none))))))]) (.ref q :: st)) : qW p l e R s m args below meth c QQ D A nL cells slots pc lv ws (.int n :: st) :=
  fun H locs ls h hP hD hS => va_newq C.1 C.2.1 C.2.2.2.1 (C.2.2.2.2.1 _ hw) C.2.2.2.2.2.1.2.1 C.2.2.2.2.2.1.1 hP hD hS C.2.2.2.2.2.2 hn hN hb hcells hslots hd (fun q cA H1 hK1 hP1 hD1 hS1 => by
    have := qK_c hK1
    subst this
    exact k q H1 locs ls h hP1 hD1 hS1)
theorem q_newp (C : qX p s m args c D ids A own cc nL) {idx N : Nat} {n : Int32} (hd : decode cc pc = .ok (.anewarray idx, 3)) (hw : Cond.classLink own idx "EveryPew$Plain" ∈ zAll) (hn : ¬ n < 0) (hN : n.toNatClampNeg = N) (hb : N * 4 ≤ 536870912) (hcells : cells + 1 ≤ R.cells) (hslots : slots + N ≤ R.slots) (k : ∀ q : Nat, qW p l e R s m args below meth c QQ D A nL (cells + 1) (slots + N) (pc + 3) lv (ws ++ [(q, .inl (ids.2.2.2, N, .inr (.inr (.inr (.inr (fun _ => none))))))]) (.ref q :: st)) : qW p l e R s m args below meth c QQ D A nL cells slots pc lv ws (.int n :: st) :=
  fun H locs ls h hP hD hS => va_newq C.1 C.2.1 C.2.2.2.1 (C.2.2.2.2.1 _ hw) C.2.2.2.2.2.1.2.2.1 C.2.2.2.2.2.1.1 hP hD hS C.2.2.2.2.2.2 hn hN hb hcells hslots hd (fun q cA H1 hK1 hP1 hD1 hS1 => by
    have := qK_p hK1
    subst this
    exact k q H1 locs ls h hP1 hD1 hS1)
/-- an element of an array of references: of the array's own class, or of a class below it -/
theorem q_ast (C : qX p s m args c D ids A own cc nL) {q0 t0 qk ci j a v n : Nat} {cA : ClassId} {r : vw_C} {vs : List Value} {f : Nat → Option Nat} {i : Int32} (hd : decode cc pc = .ok (.aastore, 1)) (ha : ws[q0]? = some (a, .inl (cA, n, .inr (.inr (.inr (.inr f)))))) (ht : (zTys ids)[t0]? = some (cA, .object r.1)) (hv : ws[qk]? = some (v, .inr (ci, vs))) (hc : zCl[ci]? = some r) (hin : vp_in i n) (hj : i.toNatClampNeg = j) {ws' : va_W} (hs : ws.set q0 (a, .inl (cA, n, .inr (.inr (.inr (.inr (va_up f j (some v))))))) = ws') (k : qW p l e R s m args below meth c QQ D A nL cells slots (pc + 1) lv ws' st) : qW p l e R s m args below meth c QQ D A nL cells slots pc lv ws (.ref v :: .int i :: .ref a :: st) :=
  fun H locs ls h hP hD hS => va_astq C.1 C.2.1 C.2.2.2.2.2.1.1 hP hD hS q0 t0 qk ci ha ht hv hc hin hd (fun H1 locs1 hP1 hD1 hS1 => by
    rw [hj, hs] at hP1 hD1
    exact k H1 locs1 ls h hP1 hD1 hS1)
theorem q_astO (C : qX p s m args c D ids A own cc nL) {q0 t0 qk ci j a v n : Nat} {E : String} {cA : ClassId} {r : vw_C} {vs : List Value} {f : Nat → Option Nat} {i : Int32} (hd : decode cc pc = .ok (.aastore, 1)) (ha : ws[q0]? = some (a, .inl (cA, n, .inr (.inr (.inr (.inr f)))))) (ht : (zTys ids)[t0]? = some (cA, .object E)) (hca : va_Nw (.castable r.1 E) s) (hv : ws[qk]? = some (v, .inr (ci, vs))) (hc : zCl[ci]? = some r) (hin : vp_in i n) (hj : i.toNatClampNeg = j) {ws' : va_W} (hs : ws.set q0 (a, .inl (cA, n, .inr (.inr (.inr (.inr (va_up f j (some v))))))) = ws') (k : qW p l e R s m args below meth c QQ D A nL cells slots (pc + 1) lv ws' st) : qW p l e R s m args below meth c QQ D A nL cells slots pc lv ws (.ref v :: .int i :: .ref a :: st) :=
  fun H locs ls h hP hD hS => va_astqO C.1 C.2.1 C.2.2.2.2.2.1.1 hP hD hS q0 t0 qk ci ha ht hca hv hc hin hd (fun H1 locs1 hP1 hD1 hS1 => by
    rw [hj, hs] at hP1 hD1
    exact k H1 locs1 ls h hP1 hD1 hS1)
/-- a field of the object at the world's head -/
theorem q_putF (C : qX p s m args c D ids A own cc nL) (hin : meth.name = "<init>") {idx ci j N h0 : Nat} {Cn : String} {T : u_T} {ty0 : Nat → FieldType} {ty : FieldType} {v : Value} {fs : List Value} (hd : decode cc pc = .ok (.putfield idx, 3)) (hc : zCl[ci]? = some (Cn, T, N)) (hty : ∀ k, k < N → parseFieldDescriptor (T k).2.2.1 = some (ty0 k)) (hnm : ∀ a, a < N → ∀ b, b < N → a ≠ b → (T a).2.1 ≠ (T b).2.1) (hj : j < N) (hw : Cond.fieldLink own idx (T j).1 (T j).2.1 (T j).2.2.1 ∈ zAll) (hfin : (T j).2.2.2 = true) (hdecl : (T j).1 = own) (hdd : parseFieldDescriptor (T j).2.2.1 = some ty) (hn : narrow ty v = v) (hfit : fits ty v = true) (hl : j < fs.length) (k : qW p l e R s m args below meth c QQ D A nL cells slots (pc + 3) lv ((h0, .inr (ci, fs.set j v)) :: ws) st) : qW p l e R s m args below meth c QQ D A nL cells slots pc lv ((h0, .inr (ci, fs)) :: ws) (v :: .ref h0 :: st) :=
  fun H locs ls h hP hD hS => va_putF (D := D) (ci := ci) (C := Cn) (T := T) (N := N) C.1 C.2.1 C.2.2.2.2.1 (zu ci _ hc) ty0 hty hnm C.2.2.2.1 C.2.2.2.2.2.1.1 hP hD hS 0 rfl hc j hj (C.2.2.2.2.1 _ hw) (fun _ h9 => h9) hfin hin hdecl hdd hn hfit hl hd (fun H1 locs1 hP1 hD1 hS1 => k H1 locs1 ls h hP1 hD1 hS1)
theorem q_put (C : qX p s m args c D ids A own cc nL) {idx ci j N h0 : Nat} {Cn : String} {T : u_T} {ty0 : Nat → FieldType} {ty : FieldType} {v : Value} {fs : List Value} (hd : decode cc pc = .ok (.putfield idx, 3)) (hc : zCl[ci]? = some (Cn, T, N)) (hty : ∀ k, k < N → parseFieldDescriptor (T k).2.2.1 = some (ty0 k)) (hnm : ∀ a, a < N → ∀ b, b < N → a ≠ b → (T a).2.1 ≠ (T b).2.1) (hj : j < N) (hw : Cond.fieldLink own idx (T j).1 (T j).2.1 (T j).2.2.1 ∈ zAll) (hfin : (T j).2.2.2 = false) (hdd : parseFieldDescriptor (T j).2.2.1 = some ty) (hn : narrow ty v = v) (hfit : fits ty v = true) (hl : j < fs.length) (k : qW p l e R s m args below meth c QQ D A nL cells slots (pc + 3) lv ((h0, .inr (ci, fs.set j v)) :: ws) st) : qW p l e R s m args below meth c QQ D A nL cells slots pc lv ((h0, .inr (ci, fs)) :: ws) (v :: .ref h0 :: st) :=
  fun H locs ls h hP hD hS => va_put (D := D) (ci := ci) (C := Cn) (T := T) (N := N) C.1 C.2.1 C.2.2.2.2.1 (zu ci _ hc) ty0 hty hnm C.2.2.2.1 C.2.2.2.2.2.1.1 hP hD hS 0 rfl hc j hj (C.2.2.2.2.1 _ hw) (fun _ h9 => h9) hfin hdd hn hfit hl hd (fun H1 locs1 hP1 hD1 hS1 => k H1 locs1 ls h hP1 hD1 hS1)
theorem q_get (C : qX p s m args c D ids A own cc nL) {idx ci j N h0 : Nat} {Cn : String} {T : u_T} {v : Value} {fs : List Value} (hd : decode cc pc = .ok (.getfield idx, 3)) (hc : zCl[ci]? = some (Cn, T, N)) (hj : j < N) (hw : Cond.fieldLink own idx (T j).1 (T j).2.1 (T j).2.2.1 ∈ zAll) (hv : fs[j]? = some v) (k : qW p l e R s m args below meth c QQ D A nL cells slots (pc + 3) lv ((h0, .inr (ci, fs)) :: ws) (v :: st)) : qW p l e R s m args below meth c QQ D A nL cells slots pc lv ((h0, .inr (ci, fs)) :: ws) (.ref h0 :: st) :=
  fun H locs ls h hP hD hS => va_get (D := D) (ci := ci) (C := Cn) (T := T) (N := N) C.1 C.2.1 C.2.2.2.2.1 (zu ci _ hc) C.2.2.2.1 C.2.2.2.2.2.1.1 hP 0 rfl hc j hj (C.2.2.2.2.1 _ hw) (fun _ h9 => h9) hv hd (k H locs ls h hP hD hS)
/-- a constructor's call on the world's last object -/
theorem q_init (C : qX p s m args c D ids A own cc nL) {idx nL' ci k0 q : Nat} {y : MethodName} {cc' : ByteArray} {rm : Room} {fs0 : List Value} {w1 : zIds → (Nat → Nat) → va_W} (hd : decode cc pc = .ok (.invokespecial idx, 3)) (hM : qSd y cc' nL' rm ci fs0 k0 w1) (h1 : Cond.methodLink own idx y ∈ zAll) (h2 : Cond.instanceMethod y ∈ zAll) (h3 : Cond.initialized y.cls ∈ zAll) (hcd : Cond.code y cc' nL' none ∈ zAll) (hy : zDs y 0) (hyn : y.name = "<init>") (hR : rm.frames + 1 ≤ R.frames ∧ 8 + (nL' + 11) + rm.locals ≤ R.locals) (hcells : cells + rm.cells ≤ R.cells) (hslots : slots + rm.slots ≤ R.slots) (hst : (st.map fun v => v.category).sum ≤ 8) (k : ∀ u : Nat → Nat, u k0 = q → qW p l e R s m args below meth c QQ D A nL (cells + rm.cells) (slots + rm.slots) (pc + 3) lv (ws ++ w1 ids u) st) : qW p l e R s m args below meth c QQ D A nL cells slots pc lv (ws ++ [(q, .inr (ci, fs0))]) (.ref q :: st) := by
  intro H locs ls h hP hD hS
  have hFc := qFree hD hS C.2.2.2.2.2.2
  have hG : GoodIn zAll (.code y cc' nL' none :: zAll) := zgl (pre := []) (fun _ h => absurd h List.not_mem_nil) hcd
  refine va_callv (va_runI (As := []) (rest := st) ⟨C.1, C.2.1, C.2.2.1, C.2.2.2.1, C.2.2.2.2.1⟩ (hM l D ids q H.size) (cwI 0 C.2.2.2.2.1 hG rfl rfl rfl (C.2.2.2.2.1 _ h3) (C.2.2.2.2.1 _ h1) (C.2.2.2.2.1 _ h2) hyn hy hR) ⟨qblind, fun U hU hW => ⟨rfl, by rw [hU], by rw [hU]; exact qP_r hP, C.2.2.2.2.2.1.moved hW, (qD_r hD).weaken (fun _ _ _ _ => trivial)⟩⟩ rfl rfl h.1 rfl (lv_room hst) hd ⟨hcells, hslots⟩) hS (fun q _ h => hFc q h) hFc (fun u t H1 locs1 ht hvm hu hB hz1 hk1 hS1 => ?_)
  obtain ⟨hP1, hD1⟩ := hB
  rw [ht] at hP1
  obtain ⟨hP2, hD2⟩ := qJoin hP hD hk1 hFc hP1 hD1
  exact k u hu H1 locs1 ls h hP2 hD2 hS1
/-- the end of a constructor -/
theorem q_vr (C : qX p s m args c D ids A own cc nL) {h0 k0 : Nat} {rm : Room} {w1 : zIds → (Nat → Nat) → va_W} (hr : meth.sig.returnType = none) (hk : meth.locks = false) (hd : decode cc pc = .ok (.return_, 1)) (hc : cells ≤ rm.cells) (hs : slots ≤ rm.slots) (u : Nat → Nat) (hu : u k0 = h0) (hw : ws = w1 ids u) : qW p l e R s m args below meth c (MQ below (qQc D ids h0 k0 w1 A) args s rm.cells rm.slots A) D A nL cells slots pc lv ws [] := by
  intro H locs ls h hP hD hS
  refine W.widen (k := rm.cells) (n := rm.slots) hc hs ?_
  exact W.vret C.1 C.2.1 hr (fun t ht hW => ⟨⟨u, rfl, hu, by rw [ht, ← hw]; exact hP, by rw [← hw]; exact hD⟩, hS.F ht⟩) hS.2.2 hd hk
end QROWS
theorem qMet {y : MethodName} {cc : ByteArray} {nL : Nat} {rm : Room} {ci : Nat} {fs0 : List Value} {k0 : Nat} {w1 : zIds → (Nat → Nat) → va_W} (hy : plainName y.cls = true) (hyn : y.name = "<init>") (hn : 1 ≤ nL) (hb : ∀ {p : Program} {l : Launch} {e : Env} {s : State} {m : MethodId} {args : Array Value} {below : List Frame} {meth : Method} {c : Code} {D : va_G} {ids : zIds} {A : Nat → Prop} (h0 : Nat), qX p s m args c D ids A y.cls cc nL → meth.sig.returnType = none → meth.locks = false → meth.name = "<init>" → qW p l e rm s m args below meth c (MQ below (qQc D ids h0 k0 w1 A) args s rm.cells rm.slots A) D A nL 0 0 0 [(0, .ref h0)] [(h0, .inr (ci, fs0))] []) : qSd y cc nL rm ci fs0 k0 w1 := by
  intro l D ids h0 sz
  refine Met.ofW (cc := cc) (maxL := nL) (ret := none) hy rfl ?_
  intro p e s m args below meth c s₁ B hml hv
  obtain ⟨ha, hsz, hP, hE, hD0⟩ := hv
  have hts := atoms_spec (ws := .code y cc nL none :: zAll) B.pre
  have hin : meth.name = "<init>" := (name_of_methodNamed B.named B.method).1.trans hyn
  subst hsz
  have hD := hD0.self (sz := s.heap.size)
  generalize hAe : va_A [(h0, Sum.inr (ci, fs0))] s.heap.size = A at hD ⊢
  have hA : ∀ q : Nat, s.heap.size ≤ q → A q := fun q h => by rw [← hAe]; exact Or.inr h
  have C : qX p s m args c D ids A y.cls cc nL := ⟨B.exec, B.bytes, hml, findClass_of_methodNamed B.named, fun w hw => hts w (List.mem_cons_of_mem _ hw), hE, hA⟩
  subst ha
  have hl := lv_entry ([.ref h0]) (n := nL) hn
  rw [lg_entry_eq]
  generalize (lg_sl ([.ref h0]) ++ List.replicate (nL - (lg_sl ([.ref h0])).length) Slot.unset).toArray = ls at hl ⊢
  exact hb h0 C B.returns B.notSynchronized hin s.heap [] ls hl hP hD va_S.rf
/-- a cell's text speaks of no other addresses than its references' -/
def zrefs (k : Nat) : List Nat := match zlay k with
  | (2, _, l) => l.filterMap (fun f => match f with | 0 => none | 1 => none | t + 2 => some t)
  | (3, _, l) => l
  | (4, _, l) => l
  | _ => []
theorem zFs_ad {u v : Nat → Nat} {σ : zM} {k : Nat} : ∀ (l : List Nat) (j : Nat), (∀ t, t + 2 ∈ l → u t = v t) → zFs u σ k j l = zFs v σ k j l := by
  intro l
  induction l with
  | nil => intro j _; rfl
  | cons f l ih =>
    intro j h
    simp only [zFs]
    rw [ih (j + 1) (fun t ht => h t (List.mem_cons_of_mem _ ht))]
    congr 1
    match f with
    | 0 => rfl
    | 1 => rfl
    | t + 2 => exact congrArg Value.ref (h t List.mem_cons_self)
theorem qmap_ad {u v : Nat → Nat} {l : List Nat} (h : ∀ t ∈ l, u t = v t) : (fun j : Nat => (l[j]?).map u) = fun j : Nat => (l[j]?).map v := by
  funext j
  cases hj : l[j]? with
  | none => rfl
  | some t => exact congrArg some (h t (List.mem_of_getElem? hj))
theorem zEnt_ad {u v : Nat → Nat} {ids : zIds} {σ : zM} {k : Nat} (h : ∀ t ∈ zrefs k, u t = v t) : zEnt u ids σ k = zEnt v ids σ k := by
  unfold zrefs at h
  unfold zEnt
  split
  · rfl
  · rfl
  · rename_i ci l e
    rw [e] at h
    rw [zFs_ad l 0 (fun t ht => h t (List.mem_filterMap.mpr ⟨t + 2, ht, rfl⟩))]
  · rename_i ci l e
    rw [e] at h
    have h : ∀ t ∈ l, u t = v t := h
    rw [qmap_ad h]
  · rename_i ci l e
    rw [e] at h
    have h : ∀ t ∈ l, u t = v t := h
    rw [qmap_ad h]
  · rfl
theorem qWo_ad {u v : Nat → Nat} {ids : zIds} {ks : List Nat} (hc : ∀ k ∈ ks, ∀ t ∈ zrefs k, t ∈ ks) (h : ∀ k ∈ ks, u k = v k) : qWo ids u ks = qWo ids v ks := by
  unfold qWo
  refine List.map_congr_left (fun k hk => ?_)
  rw [h k hk, zEnt_ad (fun t ht => h t (hc k hk t ht))]
