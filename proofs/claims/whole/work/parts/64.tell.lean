/-! The class's reading. -/
def zFC (σ τ : zM) : Prop := (∀ k, k ≠ 51 → (k < 13 ∨ 24 < k) → τ.1 k = σ.1 k) ∧ τ.2 = σ.2 ∧ τ.1 51 1 = σ.1 51 1
theorem zFT.C {σ τ : zM} (h : zFT σ τ) : zFC σ τ := ⟨fun k h1 _ => h.1 k h1, h.2⟩
theorem zFC.tr {σ τ υ : zM} (h : zFC σ τ) (g : zFC τ υ) : zFC σ υ := ⟨fun k h1 h2 => (g.1 k h1 h2).trans (h.1 k h1 h2), g.2.1.trans h.2.1, g.2.2.trans h.2.2⟩
theorem zFC.rf {σ : zM} : zFC σ σ := ⟨fun _ _ _ => rfl, rfl, rfl⟩
theorem zTC.C {σ τ : zM} {t : Nat} {β : Nat → Nat} (h : zTC σ t β) (g : zFC σ τ) : zTC τ t β := ⟨h.1, g.2.2.trans h.2.1, fun j hj => by rw [g.1 52 (by decide) (by decide)]; exact h.2.2 j hj⟩
theorem zCX.T {σ τ : zM} {a : zA} (h : zCX 13 σ a) (g : zFT σ τ) : zCX 13 τ a := h.eq (fun k h1 h2 => g.1 k (by omega))
theorem zTk.eq {σ τ : zM} {β : Nat → Nat} {t p : Nat} (h : zTk σ β t p) (e : τ.1 51 = σ.1 51) : zTk τ β t p := by unfold zTk at *; rw [e]; exact h
section
variable {β : Nat → Nat} {t : Nat} {σ : zM} {Q : zQ}
theorem m1_ne {w : Nat} (h : w < 2 ^ 31) : (-1 : Int32) ≠ nI w := by
  intro e
  have := congrArg Int32.toInt e
  rw [nI_toInt h] at this
  have h2 : (-1 : Int32).toInt = -1 := by decide
  omega
theorem t_isNum {p l m : Nat} (hp : p ≤ t) (hl : l < 100) (hm : m < 100) (hT : zTC σ t β) (hk : zTk σ β t p) (h1 : zqN β t p l m → Q (some (.int 1)) σ) (h0 : ¬ zqN β t p l m → Q (some (.int 0)) σ) : T_X9_isNumber [.ref 51, .int (nI l), .int (nI m)] σ Q := by
  obtain ⟨g3, g4, g2, g5⟩ := hk
  have kr := zqK_r (β := β) (t := t) (p := p)
  refine ⟨rfl, zFix_in ?_⟩
  refine And.intro (fun z => And.intro (Or.inl rfl) (h0 (fun q => z (by show σ.1 51 2 = 2; rw [g2, q.1]; rfl)))) (fun z => ?_)
  have k2 : zqK β t p = 2 := nI_inj (b := 2) (by omega) (by decide) (g2.symm.trans z)
  have vl := zqV_lt hp (fun j hj => (hT.2.2 j hj).1) k2
  have g5 := g5 k2
  show T_X11_within [.int (σ.1 51 5), .int (nI l), .int (nI m)] σ _
  rw [g5]
  by_cases c : zqE β t p - zqS β t p ≤ 2
  · rw [if_pos c]
    refine t_X11_within (by omega) (by omega) (fun n n1 n2 e => e1 (And.intro (Or.inr rfl) (h1 ⟨k2, c, ?_, ?_⟩))) (fun e => e0 (And.intro (Or.inl rfl) (h0 (fun q => e _ q.2.2.1 q.2.2.2 rfl))))
    · rw [nI_inj (by omega) (by omega) e]; exact n1
    · rw [nI_inj (by omega) (by omega) e]; exact n2
  · rw [if_neg c]
    exact noX (by omega) (by omega) (fun w _ w2 => m1_ne (by omega)) (e0 (And.intro (Or.inl rfl) (h0 (fun q => c q.2.1))))
theorem t_isNumC {p n : Nat} (hp : p ≤ t) (hn : n ≤ 7) (hT : zTC σ t β) (hk : zTk σ β t p) (h1 : (zqN β t p 0 7 ∧ zqV β t p < n) → Q (some (.int 1)) σ) (h0 : ¬ (zqN β t p 0 7 ∧ zqV β t p < n) → Q (some (.int 0)) σ) : T_X9_isNumber [.ref 51, .int (nI 0), .int (nI n - 1)] σ Q := by
  by_cases c : n = 0
  · subst c
    obtain ⟨g3, g4, g2, g5⟩ := hk
    have h0 := h0 (fun q => absurd q.2 (Nat.not_lt_zero _))
    refine ⟨rfl, zFix_in ?_⟩
    refine And.intro (fun z => And.intro (Or.inl rfl) h0) (fun z => ?_)
    show T_X11_within [.int (σ.1 51 5), .int (nI 0), .int (nI 0 - 1)] σ _
    refine ⟨rfl, zFix_in ?_⟩
    refine And.intro (fun y => And.intro (Or.inl rfl) (e0 (And.intro (Or.inl rfl) h0))) (fun y => ?_)
    refine And.intro (fun x => And.intro (Or.inl rfl) (e0 (And.intro (Or.inl rfl) h0))) (fun x => ?_)
    exfalso
    have y := Int32.not_lt.mp y
    have x := Int32.not_lt.mp x
    have yx := Int32.le_trans y x
    exact absurd yx (by decide)
  · have e : nI n - 1 = nI (n - 1) := pk_sub (b := 1) (by omega)
    rw [e]
    refine t_isNum hp (by decide) (by omega) hT hk (fun q => h1 ⟨⟨q.1, q.2.1, q.2.2.1, ?_⟩, ?_⟩) (fun q => h0 (fun z => q ⟨z.1.1, z.1.2.1, z.1.2.2.1, ?_⟩))
    · have := q.2.2.2; omega
    · have := q.2.2.2; omega
    · have := z.2; omega
theorem t_takesNum {lo hi : Int32} {N : Prop} {q : Nat} (hq : q ≤ t) (hT : zTC σ t β) (e4 : σ.1 51 4 = nI q) (isn : ∀ (τ : zM) (P : zQ), zTC τ t β → zTk τ β t q → (N → P (some (.int 1)) τ) → (¬ N → P (some (.int 0)) τ) → T_X9_isNumber [.ref 51, .int lo, .int hi] τ P) (h1 : N → ∀ τ, zFT σ τ → zTk τ β t q → Q (some (.int 1)) τ) (h0 : ¬ N → ∀ τ, zFT σ τ → zTk τ β t q → Q (some (.int 0)) τ) : T_X9_takesNumber [.ref 51, .int lo, .int hi] σ Q := by
  refine ⟨rfl, zFix_in (t_advance hq hT e4 (fun τ fr tk => ?_))⟩
  exact isn τ _ (hT.F fr) tk (fun n => And.intro (Or.inr rfl) (h1 n τ fr tk)) (fun n => And.intro (Or.inl rfl) (h0 n τ fr tk))
theorem t_takesN {l m q : Nat} (hl : l < 100) (hm : m < 100) (hq : q ≤ t) (hT : zTC σ t β) (e4 : σ.1 51 4 = nI q) (h1 : zqN β t q l m → ∀ τ, zFT σ τ → zTk τ β t q → Q (some (.int 1)) τ) (h0 : ¬ zqN β t q l m → ∀ τ, zFT σ τ → zTk τ β t q → Q (some (.int 0)) τ) : T_X9_takesNumber [.ref 51, .int (nI l), .int (nI m)] σ Q :=
  t_takesNum (N := zqN β t q l m) hq hT e4 (fun τ P hT' tk p1 p0 => t_isNum hq hl hm hT' tk p1 p0) h1 h0
theorem t_takesStop {q : Nat} {a : zA} (hq : q ≤ t) (hT : zTC σ t β) (e4 : σ.1 51 4 = nI q) (h1 : zst3 β t q a = .inr (a, q) → ∀ τ, zFT σ τ → zTk τ β t q → Q (some (.int 1)) τ) (h0 : zst3 β t q a = .inl (zqS β t q) → ∀ τ, zFT σ τ → zTk τ β t q → Q (some (.int 0)) τ) : T_X9_takesStop [.ref 51] σ Q := by
  refine ⟨rfl, zFix_in (t_advance hq hT e4 (fun τ fr tk => ?_))⟩
  have kr := zqK_r (β := β) (t := t) (p := q)
  refine And.intro (fun z => And.intro (Or.inl rfl) (h0 ?_ τ fr tk)) (fun z => And.intro (Or.inr rfl) (h1 ?_ τ fr tk))
  · rw [zst3, if_neg (fun y => z (by show τ.1 51 2 = 3; rw [tk.2.2.1, y]; rfl))]
  · rw [zst3, if_pos (nI_inj (b := 3) (by omega) (by decide) (tk.2.2.1.symm.trans z))]
theorem zTk.V {q l m : Nat} (h : zTk σ β t q) (n : zqN β t q l m) : σ.1 51 5 = nI (zqV β t q) := by rw [h.2.2.2 n.1, if_pos n.2.1]
theorem t_book {a : zA} {p : Nat} (hp : p ≤ t) (ha : zOk a) (hT : zTC σ t β) (hk : zTk σ β t p) (hX : zCX 13 σ a) (h1 : ∀ b q, zib β t a p = .inr (b, q) → ∀ τ, zFC σ τ → zTk τ β t q → zCX 13 τ b → Q (some (.int 1)) τ) (h0 : ∀ s, zib β t a p = .inl s → ∀ τ, zFC σ τ → τ.1 51 3 = nI s → Q (some (.int 0)) τ) : T_X9_takesBook [.ref 51, .ref 13] σ Q := by
  have ht := hT.1
  obtain ⟨u1, u2, u3⟩ := zqE_r (β := β) hp
  obtain ⟨v1, v2, v3⟩ := zqE_r (β := β) u2
  refine ⟨rfl, zFix_in ?_⟩
  refine t_takesN (l := 0) (m := 1) (by decide) (by decide) u2 hT hk.2.1 (fun n τ fr tk => n1 ?_) (fun n τ fr tk => n0 (And.intro (Or.inl rfl) (h0 _ (by rw [zib, zif_0 n]) τ fr.C tk.1)))
  have vb := n.2.2.2
  refine t_advance v2 (hT.F fr) tk.2.1 (fun τ2 fr2 tk2 => ?_)
  have eq0 : zib β t a p = zbj β t a (zqV β t (zqE β t p)) (zbk β t 151 (zqE β t (zqE β t p)) 0) := by rw [zib, zif_1 n]
  obtain ⟨o, eo⟩ : ∃ o, zbk β t 151 (zqE β t (zqE β t p)) 0 = o := ⟨_, rfl⟩
  rw [eo] at eq0
  have B2 : ∀ (υ : zM) (w q : Nat), zFC σ υ → zTk υ β t q → zCX 13 υ a → w < 65536 → o = .inr (w, q) → zFix (F_X9_takesBook Q) 2 [.ref 51, .ref 13, .int (nI (zqV β t (zqE β t p))), .int (nI w)] [] υ := by
    intro υ w q f tk cx lw ez
    rw [ez] at eq0
    have eq0 : zib β t a p = zst3 β t q (zs1 a 1 (zup (a 1) (zqV β t (zqE β t p)) w)) := eq0
    have kr := zqK_r (β := β) (t := t) (p := q)
    refine zFix_in ?_
    refine And.intro (vp_in_nI (N := 2) (by omega) (by decide)) ?_
    show (¬ υ.1 51 2 = 3 → (i_ic 0 <| i_zr Q) [.ref 51, .ref 13, .int (nI (zqV β t (zqE β t p))), .int (nI w)] [] (zput υ 14 (nI (zqV β t (zqE β t p))).toNatClampNeg (nI w))) ∧ (υ.1 51 2 = 3 → (i_ic 1 <| i_zr Q) [.ref 51, .ref 13, .int (nI (zqV β t (zqE β t p))), .int (nI w)] [] (zput υ 14 (nI (zqV β t (zqE β t p))).toNatClampNeg (nI w)))
    rw [nI_clamp (by omega)]
    have f2 : zFC σ (zput υ 14 (zqV β t (zqE β t p)) (nI w)) := f.tr ⟨fun k h1 h2 => zput_ne (by omega), rfl, rfl⟩
    refine And.intro (fun z => And.intro (Or.inl rfl) (h0 _ (by rw [eq0, zst3, if_neg (fun y => z (by rw [tk.2.2.1, y]; rfl))]) _ f2 tk.1)) (fun z => And.intro (Or.inr rfl) (h1 _ q (by rw [eq0, zst3, if_pos (nI_inj (b := 3) (by omega) (by decide) (tk.2.2.1.symm.trans z))]) _ f2 (tk.eq rfl) ?_))
    obtain ⟨q0, q1, q2, q3, q4, q5, q6, q7, q8⟩ := cx
    refine ⟨q0, fun i hi => ?_, q2, fun f hf => q3 f hf, q4, q5, fun k hk => q6 k hk, q7, fun u hu => q8 u hu⟩
    show (if i = zqV β t (zqE β t p) then nI w else υ.1 14 i) = nI (zup (a 1) (zqV β t (zqE β t p)) w i)
    by_cases e : i = zqV β t (zqE β t p)
    · rw [if_pos e, e, zup_s]
    · rw [if_neg e, zup_n e]
      exact q1 i hi
  have L : ∀ i, i ≤ 150 → ∀ (υ : zM) (q w : Nat), zFC σ υ → zTk υ β t q → zCX 13 υ a → zTC υ t β → i ≤ q → q ≤ t → w < 65536 → zbk β t (151 - i) q w = o → zFix (F_X9_takesBook Q) 1 [.ref 51, .ref 13, .int (nI (zqV β t (zqE β t p))), .int (nI w), .int (nI i)] [] υ := by
    refine zloop 150 (fun i hi ih => ?_)
    intro υ q w f tk cx hT2 iq qt lw inv
    have kr := zqK_r (β := β) (t := t) (p := q)
    rw [show 151 - i = (150 - i) + 1 by omega] at inv
    unfold zbk at inv
    have no : zqK β t q ≠ 2 → zFix (F_X9_takesBook Q) 2 [.ref 51, .ref 13, .int (nI (zqV β t (zqE β t p))), .int (nI w)] [] υ := by
      intro z
      rw [zif_0 z] at inv
      exact B2 υ w q f tk cx lw inv.symm
    obtain ⟨r1, r2, r3⟩ := zqE_r (β := β) qt
    refine zFix_in ?_
    refine pk_le 150 i (fun d => no (fun z => ?_)) (fun d => ?_)
    · have := r3 (by omega); omega
    · refine And.intro (fun z => no (fun y => z (by show υ.1 51 2 = 2; rw [tk.2.2.1, y]; rfl))) (fun z => ?_)
      have k2 : zqK β t q = 2 := nI_inj (b := 2) (by omega) (by decide) (tk.2.2.1.symm.trans z)
      rw [zif_1 k2] at inv
      refine t_isNum (l := 0) (m := 15) qt (by decide) (by decide) hT2 tk (fun nn => n1 ?_) (fun nn => n0 ?_)
      · rw [zif_1 nn] at inv
        have vl := nn.2.2.2
        show T_X9_advance [.ref 51] υ (fun v τ => (i_inc 4 1 <| i_jmp (zFix (F_X9_takesBook Q)) 1 [true, true, true, true, true]) [.ref 51, .ref 13, .int (nI (zqV β t (zqE β t p))), .int (nI w ||| (1 : Int32) <<< (υ.1 51 5 &&& 31)), .int (nI i)] (zvl v []) τ)
        rw [tk.V nn, nI_shl1 (by omega), nI_or]
        refine t_advance r2 hT2 tk.2.1 (fun τ3 fr3 tk3 => ?_)
        show zFix (F_X9_takesBook Q) 1 [.ref 51, .ref 13, .int (nI (zqV β t (zqE β t p))), .int (nI (w ||| 2 ^ zqV β t q)), .int (nI i + 1)] [] τ3
        rw [nI_1]
        refine ih (i + 1) (by omega) (by omega) τ3 _ _ (f.tr fr3.C) tk3 (cx.T fr3) (hT2.F fr3) (by have := r3 (by omega); omega) r2 (Nat.or_lt_two_pow (n := 16) lw (Nat.pow_lt_pow_right (by decide) (by omega))) ?_
        rw [show 151 - (i + 1) = 150 - i by omega]
        exact inv
      · rw [zif_0 nn] at inv
        rw [← inv] at eq0
        exact And.intro (Or.inl rfl) (h0 _ eq0 υ f tk.1)
  show zFix (F_X9_takesBook Q) 1 [.ref 51, .ref 13, .int (τ.1 51 5), .int (nI 0), .int (nI 0)] [] τ2
  rw [tk.V n]
  exact L 0 (by decide) τ2 _ 0 (fr.tr fr2).C tk2 (hX.T (fr.tr fr2)) (hT.F (fr.tr fr2)) (Nat.zero_le _) v2 (by decide) eo
theorem t_coldI {a : zA} {p : Nat} (hp : p ≤ t) (ha : zOk a) (hT : zTC σ t β) (hk : zTk σ β t p) (hX : zCX 13 σ a) (h1 : ∀ b q, zic β t a p = .inr (b, q) → ∀ τ, zFC σ τ → zTk τ β t q → zCX 13 τ b → Q (some (.int 1)) τ) (h0 : ∀ s, zic β t a p = .inl s → ∀ τ, zFC σ τ → τ.1 51 3 = nI s → Q (some (.int 0)) τ) : T_X9_takesCold [.ref 51, .ref 13] σ Q := by
  have hn := ha.1.1
  have c128 := zC128 ha.1
  obtain ⟨u1, u2, u3⟩ := zqE_r (β := β) hp
  obtain ⟨v1, v2, v3⟩ := zqE_r (β := β) u2
  refine ⟨rfl, zFix_in ?_⟩
  show T_X9_takesNumber [.ref 51, .int (nI 0), .int (σ.1 13 2 - 1)] σ _
  rw [hX.2.2.1]
  refine t_takesNum (N := zqN β t (zqE β t p) 0 7 ∧ zqV β t (zqE β t p) < a 2 0) u2 hT hk.2.1 (fun τ P hT' tk p1 p0 => t_isNumC u2 hn hT' tk p1 p0) (fun n τ fr tk => n1 ?_) (fun n τ fr tk => n0 (And.intro (Or.inl rfl) (h0 _ (by rw [zic, zif_0 n]) τ fr.C tk.1)))
  have cx := hX.T fr
  have eq0 : zic β t a p = zst3 β t (zqE β t (zqE β t p)) (zs1 a 8 (fun _ => zsb1 (a 8 0) (zqV β t (zqE β t p)) 1)) := by rw [zic, zif_1 n]
  show T_X9_takesStop [.ref 51] (zput τ 13 8 (τ.1 13 8 ||| (1 : Int32) <<< (τ.1 51 5 &&& 31))) _
  have ei : ∀ c, c < 128 → ∀ f, f < 7 → nI c ||| (1 : Int32) <<< (nI f &&& 31) = nI (zsb1 c f 1) := by decide +kernel
  rw [cx.2.2.2.2.1, tk.V n.1, ei _ c128 _ (by omega)]
  have f2 : zFC τ (zput τ 13 8 (nI (zsb1 (a 8 0) (zqV β t (zqE β t p)) 1))) := ⟨fun k h1 h2 => zput_ne (by omega), rfl, rfl⟩
  have cx2 : zCX 13 (zput τ 13 8 (nI (zsb1 (a 8 0) (zqV β t (zqE β t p)) 1))) (zs1 a 8 (fun _ => zsb1 (a 8 0) (zqV β t (zqE β t p)) 1)) := by
    obtain ⟨q0, q1, q2, q3, q4, q5, q6, q7, q8⟩ := cx
    exact ⟨q0, fun i hi => q1 i hi, q2, fun f hf => q3 f hf, zput_s, q5, fun k hk => q6 k hk, q7, fun u hu => q8 u hu⟩
  refine t_takesStop (a := zs1 a 8 (fun _ => zsb1 (a 8 0) (zqV β t (zqE β t p)) 1)) v2 ((hT.F fr).C f2) (tk.eq (τ := zput τ 13 8 (nI (zsb1 (a 8 0) (zqV β t (zqE β t p)) 1))) rfl).2.1 (fun z τ3 f3 tk3 => And.intro (Or.inr rfl) ?_) (fun z τ3 f3 tk3 => And.intro (Or.inl rfl) ?_)
  · exact h1 _ _ (eq0.trans z) τ3 ((fr.C.tr f2).tr f3.C) tk3 (cx2.T f3)
  · exact h0 _ (eq0.trans z) τ3 ((fr.C.tr f2).tr f3.C) tk3.1
theorem t_famI {a : zA} {p : Nat} (hp : p ≤ t) (ha : zOk a) (hT : zTC σ t β) (hk : zTk σ β t p) (hX : zCX 13 σ a) (h1 : ∀ b q, zim β t a p = .inr (b, q) → ∀ τ, zFC σ τ → zTk τ β t q → zCX 13 τ b → Q (some (.int 1)) τ) (h0 : ∀ s, zim β t a p = .inl s → ∀ τ, zFC σ τ → τ.1 51 3 = nI s → Q (some (.int 0)) τ) : T_X9_takesFamily [.ref 51, .ref 13] σ Q := by
  have hn := ha.1.1
  obtain ⟨u1, u2, u3⟩ := zqE_r (β := β) hp
  obtain ⟨v1, v2, v3⟩ := zqE_r (β := β) u2
  obtain ⟨w1, w2, w3⟩ := zqE_r (β := β) v2
  obtain ⟨x1, x2, x3⟩ := zqE_r (β := β) w2
  obtain ⟨y1, y2, y3⟩ := zqE_r (β := β) x2
  obtain ⟨z1, z2, z3⟩ := zqE_r (β := β) y2
  refine ⟨rfl, zFix_in ?_⟩
  refine pk_le 7 (a 2 0) (fun d => And.intro (Or.inl rfl) (h0 _ (by rw [zim, zif_1 d]) σ zFC.rf hk.1)) (fun d => ?_) rfl hX.2.2.1
  have d : ¬ 7 ≤ a 2 0 := by omega
  refine t_takesN (l := 0) (m := 5) (by decide) (by decide) u2 hT hk.2.1 (fun m1 τ1 f1 k1 => n1 ?_) (fun m1 τ1 f1 k1 => n0 (And.intro (Or.inl rfl) (h0 _ (by rw [zim, zif_0 d, zif_0 m1]) τ1 f1.C k1.1)))
  refine t_takesN (l := 0) (m := 1) (by decide) (by decide) v2 (hT.F f1) k1.2.1 (fun m2 τ2 f2 k2 => n1 ?_) (fun m2 τ2 f2 k2 => n0 (And.intro (Or.inl rfl) (h0 _ (by rw [zim, zif_0 d, zif_1 m1, zif_0 m2]) τ2 (f1.tr f2).C k2.1)))
  have F2 := f1.tr f2
  refine t_takesN (l := 1) (m := 9) (by decide) (by decide) w2 (hT.F F2) k2.2.1 (fun m3 τ3 f3 k3 => n1 ?_) (fun m3 τ3 f3 k3 => n0 (And.intro (Or.inl rfl) (h0 _ (by rw [zim, zif_0 d, zif_1 m1, zif_1 m2, zif_0 m3]) τ3 (F2.tr f3).C k3.1)))
  have F3 := F2.tr f3
  refine t_takesN (l := 1) (m := 20) (by decide) (by decide) x2 (hT.F F3) k3.2.1 (fun m4 τ4 f4 k4 => n1 ?_) (fun m4 τ4 f4 k4 => n0 (And.intro (Or.inl rfl) (h0 _ (by rw [zim, zif_0 d, zif_1 m1, zif_1 m2, zif_1 m3, zif_0 m4]) τ4 (F3.tr f4).C k4.1)))
  have F4 := F3.tr f4
  have no : ∀ τ5, zFC σ τ5 → τ5.1 51 3 = nI (zqS β t (zqE β t (zqE β t (zqE β t (zqE β t (zqE β t p)))))) → ¬ (zqN β t (zqE β t (zqE β t (zqE β t (zqE β t (zqE β t p))))) 0 9 ∧ zqV β t (zqE β t (zqE β t (zqE β t (zqE β t (zqE β t p))))) % 2 = zqV β t (zqE β t (zqE β t p)) ∧ ∀ f, f < a 2 0 → a 7 f ≠ zqV β t (zqE β t (zqE β t (zqE β t (zqE β t (zqE β t p)))))) → Q (some (.int 0)) τ5 := fun τ5 f e z => h0 _ (by rw [zim, zif_0 d, zif_1 m1, zif_1 m2, zif_1 m3, zif_1 m4, zif_0 z]) τ5 f e
  refine t_takesN (l := 0) (m := 9) (by decide) (by decide) y2 (hT.F F4) k4.2.1 (fun m5 τ5 f5 k5 => e1 ?_) (fun m5 τ5 f5 k5 => e0 (And.intro (Or.inl rfl) (no τ5 (F4.tr f5).C k5.1 (fun z => m5 z.1))))
  have F5 := F4.tr f5
  show T_X11_isPewOf [.int (τ5.1 51 5), .int (τ2.1 51 5)] τ5 (fun v τ => (i_ifeq (i_ic 0 <| i_zr Q) <| i_al 1 <| i_al 0 <| i_gf 9 5 <| i_cv 1 2 T_X1_isTaken <| i_ifeq (i_al 1 <| i_il 2 <| i_il 3 <| i_il 4 <| i_il 5 <| i_al 0 <| i_gf 9 5 <| i_cv 1 6 T_X1_admit <| i_pop <| i_al 0 <| i_cv 9 1 T_X9_takesStop <| i_zr Q) <| i_ic 0 <| i_zr Q) [.ref 51, .ref 13, .int (τ1.1 51 5), .int (τ2.1 51 5), .int (τ3.1 51 5), .int (τ4.1 51 5)] (zvl v []) τ)
  rw [k1.V m1, k2.V m2, k3.V m3, k4.V m4, k5.V m5]
  have vb := m2.2.2.2
  have vp := m5.2.2.2
  have cx := hX.T F5
  refine t_isPewOf (fun p' hp' e1' e2' => e1 ?_) (fun z => e0 (And.intro (Or.inl rfl) (no τ5 F5.C k5.1 (fun q => z _ q.1.2.2.2 rfl (by rw [q.2.1])))))
  have ep : zqV β t (zqE β t (zqE β t (zqE β t (zqE β t (zqE β t p))))) = p' := nI_inj (by omega) (by omega) e1'
  have eb : zqV β t (zqE β t (zqE β t p)) = p' % 2 := nI_inj (by omega) (by omega) e2'
  show T_X1_isTaken [.ref 13, .int (τ5.1 51 5)] τ5 _
  rw [k5.V m5]
  refine t_isTaken (b := 13) (n := a 2 0) (Or.inr rfl) hn cx.2.2.1 (fun tk => e1 (And.intro (Or.inl rfl) (no τ5 F5.C k5.1 (fun q => ?_)))) (fun nt => e0 ?_)
  · obtain ⟨f, hf, ef⟩ := tk
    have xf : τ5.1 (13 + 6) f = nI (a 7 f) := (cx.2.2.2.1 f hf).2.2.2.2
    have := (ha.1.2.2.2.1 f hf).2.2.2.2.1
    exact q.2.2 f hf (nI_inj (by omega) (by omega) (xf.symm.trans ef))
  · have nt2 : ∀ f, f < a 2 0 → a 7 f ≠ zqV β t (zqE β t (zqE β t (zqE β t (zqE β t (zqE β t p))))) := fun f hf e => nt f hf (by rw [show τ5.1 (13 + 6) f = nI (a 7 f) from (cx.2.2.2.1 f hf).2.2.2.2, e])
    show T_X1_admit [.ref 13, .int (nI (zqV β t (zqE β t p))), .int (nI (zqV β t (zqE β t (zqE β t p)))), .int (nI (zqV β t (zqE β t (zqE β t (zqE β t p))))), .int (nI (zqV β t (zqE β t (zqE β t (zqE β t (zqE β t p)))))), .int (τ5.1 51 5)] τ5 _
    rw [k5.V m5]
    refine t_admit (b0 := 13) (a := a) (Or.inr rfl) (by omega) cx (fun τ6 g1 g2 g3 => ?_)
    have e51 : τ6.1 51 = τ5.1 51 := g1 51 (by decide)
    have f6 : zFC σ τ6 := F5.C.tr ⟨fun k h1 h2 => g1 k (by omega), g2, by rw [e51]⟩
    have eq0 : zim β t a p = zst3 β t (zqE β t (zqE β t (zqE β t (zqE β t (zqE β t (zqE β t p)))))) (zAf a (zqV β t (zqE β t p)) (zqV β t (zqE β t (zqE β t p))) (zqV β t (zqE β t (zqE β t (zqE β t p)))) (zqV β t (zqE β t (zqE β t (zqE β t (zqE β t p))))) (zqV β t (zqE β t (zqE β t (zqE β t (zqE β t (zqE β t p))))))) := by
      rw [zim, zif_0 d, zif_1 m1, zif_1 m2, zif_1 m3, zif_1 m4, zif_1 ⟨m5, by rw [ep, eb], nt2⟩]
    refine t_takesStop (a := zAf a (zqV β t (zqE β t p)) (zqV β t (zqE β t (zqE β t p))) (zqV β t (zqE β t (zqE β t (zqE β t p)))) (zqV β t (zqE β t (zqE β t (zqE β t (zqE β t p))))) (zqV β t (zqE β t (zqE β t (zqE β t (zqE β t (zqE β t p))))))) z2 (hT.C f6) (k5.eq e51).2.1 (fun z τ7 f7 k7 => And.intro (Or.inr rfl) ?_) (fun z τ7 f7 k7 => And.intro (Or.inl rfl) ?_)
    · exact h1 _ _ (eq0.trans z) τ7 (f6.tr f7.C) k7 (g3.T f7)
    · exact h0 _ (eq0.trans z) τ7 (f6.tr f7.C) k7.1
theorem t_item {a : zA} {p : Nat} (hp : p ≤ t) (ha : zOk a) (hT : zTC σ t β) (hk : zTk σ β t p) (hX : zCX 13 σ a) (h1 : ∀ b q, zit β t a p = .inr (b, q) → ∀ τ, zFC σ τ → zTk τ β t q → zCX 13 τ b → Q (some (.int 1)) τ) (h0 : ∀ s, zit β t a p = .inl s → ∀ τ, zFC σ τ → τ.1 51 3 = nI s → Q (some (.int 0)) τ) : T_X9_takesItem [.ref 51, .ref 13] σ Q := by
  refine ⟨rfl, zFix_in ?_⟩
  refine t_says (w := 1) hp (by decide) hT hk (fun c1 => e1 ?_) (fun c1 => e0 ?_)
  · exact t_book hp ha hT hk hX (fun b q e τ f k x => And.intro (Or.inr rfl) (h1 b q (by rw [zit, zif_1 c1, e]) τ f k x)) (fun s e τ f k => And.intro (Or.inl rfl) (h0 s (by rw [zit, zif_1 c1, e]) τ f k))
  · refine t_says (w := 2) hp (by decide) hT hk (fun c2 => e1 ?_) (fun c2 => e0 ?_)
    · exact t_famI hp ha hT hk hX (fun b q e τ f k x => And.intro (Or.inr rfl) (h1 b q (by rw [zit, zif_0 c1, zif_1 c2, e]) τ f k x)) (fun s e τ f k => And.intro (Or.inl rfl) (h0 s (by rw [zit, zif_0 c1, zif_1 c2, e]) τ f k))
    · refine t_says (w := 3) hp (by decide) hT hk (fun c3 => e1 ?_) (fun c3 => e0 ?_)
      · exact t_coldI hp ha hT hk hX (fun b q e τ f k x => e1 (And.intro (Or.inr rfl) (h1 b q (by rw [zit, zif_0 c1, zif_0 c2, zif_1 c3, e]) τ f k x))) (fun s e τ f k => e0 (And.intro (Or.inl rfl) (h0 s (by rw [zit, zif_0 c1, zif_0 c2, zif_1 c3, e]) τ f k)))
      · exact And.intro (Or.inl rfl) (h0 _ (by rw [zit, zif_0 c1, zif_0 c2, zif_0 c3]) σ zFC.rf hk.1)
end
