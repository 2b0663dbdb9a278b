/-! The reference's reading. -/
def zFQ (σ τ : zM) : Prop := (∀ k, k ≠ 75 → k ≠ 89 → k ≠ 90 → τ.1 k = σ.1 k) ∧ τ.2 = σ.2 ∧ ∀ j, (j < 19 ∨ 22 < j) → τ.1 75 j = σ.1 75 j
theorem zFR.P {σ τ : zM} (h : zFR σ τ) : zFQ σ τ := ⟨fun k h1 _ _ => h.1 k h1, h.2⟩
theorem zFQ.tr {σ τ υ : zM} (h : zFQ σ τ) (g : zFQ τ υ) : zFQ σ υ := ⟨fun k h1 h2 h3 => (g.1 k h1 h2 h3).trans (h.1 k h1 h2 h3), g.2.1.trans h.2.1, fun j hj => (g.2.2 j hj).trans (h.2.2 j hj)⟩
theorem zFQ.rf {σ : zM} : zFQ σ σ := ⟨fun _ _ _ _ => rfl, rfl, fun _ _ => rfl⟩
theorem zTD.P {σ τ : zM} {t : Nat} {β : Nat → Nat} (h : zTD σ t β) (g : zFQ σ τ) : zTD τ t β := ⟨h.1, (g.2.2 18 (by decide)).trans h.2.1, fun j hj => by rw [g.1 88 (by decide) (by decide) (by decide)]; exact h.2.2 j hj⟩
theorem zTr.eq {σ τ : zM} {β : Nat → Nat} {t p : Nat} (h : zTr σ β t p) (e : τ.1 75 = σ.1 75) : zTr τ β t p := by unfold zTr at *; rw [e]; exact h
section
variable {β : Nat → Nat} {t : Nat} {σ : zM} {Q : zQ}
theorem r_behind {p : Nat} (hp : p ≤ t) (hT : zTD σ t β) (hk : zTr σ β t p) (h : ∀ τ, zFR σ τ → zTr τ β t (zqE β t p) → Q none τ) : T_X12_goBehind [.ref 75] σ Q := by
  obtain ⟨r1, r2, r3, r4, r5⟩ := zq_r (β := β) hp
  refine ⟨rfl, zFix_in ?_⟩
  show T_X12_lookAt [.ref 75, .int (σ.1 75 19 + σ.1 75 20)] σ _
  rw [hk.1, hk.2.1, nI_add, show zqS β t p + (zqE β t p - zqS β t p) = zqE β t p by omega]
  exact r_lookAt r4 hT h
theorem zqL_r {p : Nat} : zqL β t p ≤ 4 ∧ (zqL β t p = 2 ↔ zqK β t p = 2 ∧ zqE β t p - zqS β t p ≤ 2) ∧ (zqL β t p = 3 ↔ zqK β t p = 3) ∧ (zqL β t p = 0 ↔ zqK β t p = 0) := by
  have := (zqK_r (β := β) (t := t) (p := p)).1
  unfold zqL
  split <;> omega
/-- a number is taken to the place k of the values -/
def zVl (σ τ : zM) (k v : Nat) : Prop := τ.1 90 k = nI v ∧ (∀ j, j ≠ k → τ.1 90 j = σ.1 90 j) ∧ τ.1 89 = σ.1 89
theorem r_takesG {lo hi : Int32} {M : Nat → Prop} {p k : Nat} (hp : p ≤ t) (hk5 : k < 5) (hT : zTD σ t β) (hk : zTr σ β t p) (isn : ∀ (v : Nat) (P : zQ), v < 1000 → (M v → P (some (.int 1)) σ) → (¬ M v → P (some (.int 0)) σ) → T_X12_in [.long (nI v).toInt64, .long lo.toInt64, .long hi.toInt64] σ P) (h1 : (zqK β t p = 2 ∧ zqE β t p - zqS β t p ≤ 2 ∧ M (zqV β t p)) → ∀ τ, zFQ σ τ → zTr τ β t (zqE β t p) → zVl σ τ k (zqV β t p) → Q (some (.int 1)) τ) (h0 : ¬ (zqK β t p = 2 ∧ zqE β t p - zqS β t p ≤ 2 ∧ M (zqV β t p)) → Q (some (.int 0)) σ) : T_X12_takes [.ref 75, .int (nI k), .int lo, .int hi] σ Q := by
  have lr := zqL_r (β := β) (t := t) (p := p)
  refine ⟨rfl, zFix_in ?_⟩
  refine And.intro (fun z => And.intro (Or.inl rfl) (h0 (fun q => z ?_))) (fun z => ?_)
  · show σ.1 75 21 = 2
    rw [hk.2.2.1, lr.2.1.mpr ⟨q.1, q.2.1⟩]
    rfl
  · have L2 : zqL β t p = 2 := nI_inj (b := 2) (by omega) (by decide) (hk.2.2.1.symm.trans z)
    obtain ⟨k2, le⟩ := lr.2.1.mp L2
    have vl := zqV_lt hp (fun j hj => (hT.2.2 j hj).1) k2
    have e22 := hk.2.2.2 L2
    show T_X12_in [.long (σ.1 75 22).toInt64, .long lo.toInt64, .long hi.toInt64] σ _
    rw [e22]
    refine isn _ _ vl (fun m => n1 ?_) (fun m => n0 (And.intro (Or.inl rfl) (h0 (fun q => m q.2.2))))
    refine And.intro (vp_in_nI (N := 5) hk5 (by decide)) ?_
    show T_X12_goBehind [.ref 75] (zput σ 90 (nI k).toNatClampNeg (σ.1 75 22)) _
    rw [nI_clamp (by omega), e22]
    have f1 : zFQ σ (zput σ 90 k (nI (zqV β t p))) := ⟨fun k _ _ h3 => zput_ne h3, rfl, fun _ _ => rfl⟩
    refine r_behind hp (hT.P f1) (hk.eq rfl) (fun τ f k' => And.intro (Or.inr rfl) (h1 ⟨k2, le, m⟩ τ (f1.tr f.P) k' ⟨?_, fun j hj => ?_, ?_⟩))
    · rw [f.1 90 (by decide), zput_s]
    · rw [f.1 90 (by decide), zput_u hj]
    · rw [f.1 89 (by decide)]
      rfl
theorem l_64 {l : Nat} (h : l < 100) : (nI l).toInt64.toInt = l := by rw [i64, nI_toInt (by omega)]
theorem l_64' {l : Nat} (h : l < 1000) : (nI l).toInt64.toInt = l := by rw [i64, nI_toInt (by omega)]
theorem r_takesN {l m p k : Nat} (hp : p ≤ t) (hk5 : k < 5) (hl : l < 100) (hm : m < 100) (hT : zTD σ t β) (hk : zTr σ β t p) (h1 : zqN β t p l m → ∀ τ, zFQ σ τ → zTr τ β t (zqE β t p) → zVl σ τ k (zqV β t p) → Q (some (.int 1)) τ) (h0 : ¬ zqN β t p l m → Q (some (.int 0)) σ) : T_X12_takes [.ref 75, .int (nI k), .int (nI l), .int (nI m)] σ Q :=
  r_takesG (M := fun v => l ≤ v ∧ v ≤ m) hp hk5 hT hk (fun v P vl p1 p0 => t_inN (a := l) (b := m) (by omega) (l_64 hl) (l_64 hm) (fun n n1 n2 e => p1 (by rw [nI_inj (by omega) (by omega) e]; exact ⟨n1, n2⟩)) (fun e => p0 (fun q => e v q.1 q.2 rfl))) h1 h0
theorem r_takesC {n p k : Nat} (hp : p ≤ t) (hk5 : k < 5) (hn : n ≤ 7) (hT : zTD σ t β) (hk : zTr σ β t p) (h1 : (zqN β t p 0 7 ∧ zqV β t p < n) → ∀ τ, zFQ σ τ → zTr τ β t (zqE β t p) → zVl σ τ k (zqV β t p) → Q (some (.int 1)) τ) (h0 : ¬ (zqN β t p 0 7 ∧ zqV β t p < n) → Q (some (.int 0)) σ) : T_X12_takes [.ref 75, .int (nI k), .int (nI 0), .int (nI n - 1)] σ Q := by
  refine r_takesG (M := fun v => v < n) hp hk5 hT hk (fun v P vl p1 p0 => ?_) (fun q => h1 ⟨⟨q.1, q.2.1, Nat.zero_le _, by have : zqV β t p < n := q.2.2; omega⟩, q.2.2⟩) (fun q => h0 (fun z => q ⟨z.1.1, z.1.2.1, z.2⟩))
  have e : (nI n - 1).toInt64.toInt = (n : Int) - 1 := by
    rw [i64]
    exact pk_sub_toInt (b := 1) (by omega) (by decide)
  refine t_in (fun a b => p1 ?_) (fun a => p0 (fun q => a ⟨?_, ?_⟩))
  · rw [e, l_64' vl] at b
    omega
  · rw [l_64' vl, show (nI 0).toInt64.toInt = 0 from l_64 (l := 0) (by decide)]
    omega
  · rw [l_64' vl, e]
    omega
/-- the reference's item, and the token behind it -/
def zRe (o : Sum Nat (zA × Nat)) (σ : zM) (β : Nat → Nat) (t : Nat) (Q : zQ) : Prop :=
  (∀ b q, o = .inr (b, q) → ∀ τ, zFQ σ τ → zTr τ β t q → zCM (τ.1 89) b → Q (some (.int 1)) τ) ∧
  (∀ s, o = .inl s → ∀ τ, zFQ σ τ → τ.1 75 19 = nI s → (Q (some (.int 0)) τ ∧ (¬ τ.1 75 21 = 3 → Q (some (.int 1)) τ)))
theorem zRe_st {a : zA} {q : Nat} {o : Sum Nat (zA × Nat)} (h : zRe o σ β t Q) (e : o = zst3 β t q a) {τ : zM} (f : zFQ σ τ) (k : zTr τ β t q) (c : zCM (τ.1 89) a) : Q (some (.int 1)) τ := by
  have lr := zqL_r (β := β) (t := t) (p := q)
  by_cases z : zqK β t q = 3
  · rw [zst3, if_pos z] at e
    exact h.1 a q e τ f k c
  · rw [zst3, if_neg z] at e
    refine (h.2 _ e τ f k.1).2 (fun y => z (lr.2.2.1.mp (nI_inj (b := 3) (by omega) (by decide) (k.2.2.1.symm.trans y))))
theorem zcm_66 {M N : Nat → Int32} {a : zA} (hM : zCM M a) (ha : zOk a) (e : ∀ j, j < 66 → N j = M j) : zCM N a := by
  obtain ⟨q0, q1, q2, q4, q5, q6, q7, q8⟩ := hM
  have hn := ha.1.1
  have hk := ha.1.2.2.2.2.2.2.1
  refine ⟨(e 0 (by omega)).trans q0, (e 1 (by omega)).trans q1, ⟨(e 2 (by omega)).trans q2.1, (e 3 (by omega)).trans q2.2⟩, (e 4 (by omega)).trans q4, (e 5 (by omega)).trans q5, fun f hf => ?_, fun k hk => ?_, fun u hu => absurd hu (by rw [ha.2]; exact Nat.not_lt_zero u)⟩
  · obtain ⟨r1, r2, r3, r4, r5, r6⟩ := q6 f hf
    exact ⟨(e _ (by omega)).trans r1, (e _ (by omega)).trans r2, (e _ (by omega)).trans r3, (e _ (by omega)).trans r4, (e _ (by omega)).trans r5, (e _ (by omega)).trans r6⟩
  · obtain ⟨r1, r2, r3⟩ := q7 k hk
    exact ⟨(e _ (by omega)).trans r1, (e _ (by omega)).trans r2, (e _ (by omega)).trans r3⟩
theorem r_book {a : zA} {p : Nat} (hp : p ≤ t) (ha : zOk a) (hT : zTD σ t β) (hk : zTr σ β t p) (hM : zCM (σ.1 89) a) (h : zRe (zib β t a p) σ β t Q) : T_X12_takesBook [.ref 75] σ Q := by
  have ht := hT.1
  obtain ⟨u1, u2, u3⟩ := zqE_r (β := β) hp
  obtain ⟨v1, v2, v3⟩ := zqE_r (β := β) u2
  refine ⟨rfl, zFix_in (r_behind hp hT hk (fun τ f1 k1 => ?_))⟩
  refine r_takesN (k := 0) (l := 0) (m := 1) u2 (by decide) (by decide) (by decide) (hT.F f1) k1 (fun n τ2 f2 k2 vl => n1 ?_) (fun n => n0 (And.intro (Or.inl rfl) (h.2 _ (by rw [zib, zif_0 n]) τ f1.P k1.1).1))
  have vb := n.2.2.2
  have eq0 : zib β t a p = zbj β t a (zqV β t (zqE β t p)) (zbk β t 151 (zqE β t (zqE β t p)) 0) := by rw [zib, zif_1 n]
  obtain ⟨o, eo⟩ : ∃ o, zbk β t 151 (zqE β t (zqE β t p)) 0 = o := ⟨_, rfl⟩
  rw [eo] at eq0
  have fin : ∀ (υ : zM) (w q : Nat), zFQ σ υ → zTr υ β t q → υ.1 89 = σ.1 89 → υ.1 90 0 = nI (zqV β t (zqE β t p)) → w < 65536 → (o = .inr (w, q) ∨ (o = .inl (zqS β t q) ∧ zqL β t q = 4)) → zqL β t q ≠ 2 → zFix (F_X12_takesBook Q) 1 [.ref 75, .int (nI w)] [] υ := by
    intro υ w q f k e89 e90 lw eo2 l2
    have lr := zqL_r (β := β) (t := t) (p := q)
    refine zFix_in ?_
    refine And.intro (fun _ => ?_) (fun z => absurd (nI_inj (b := 2) (by omega) (by decide) (k.2.2.1.symm.trans z)) l2)
    refine And.intro (vp_in_nI (n := 0) (N := 5) (by decide) (by decide)) ?_
    show vp_in ((2 : Int32) + υ.1 90 0) 66 ∧ ((1 : Int32) = 0 ∨ (1 : Int32) = 1) ∧ Q (some (.int 1)) (zput υ 89 ((2 : Int32) + υ.1 90 0).toNatClampNeg (nI w))
    rw [e90, show (2 : Int32) + nI (zqV β t (zqE β t p)) = nI (2 + zqV β t (zqE β t p)) from nI_add 2 _, nI_clamp (by omega)]
    refine ⟨vp_in_nI (by omega) (by decide), Or.inr rfl, ?_⟩
    have f2 : zFQ σ (zput υ 89 (2 + zqV β t (zqE β t p)) (nI w)) := f.tr ⟨fun k _ h2 _ => zput_ne h2, rfl, fun _ _ => rfl⟩
    rcases eo2 with eo2 | ⟨eo2, l4⟩
    · rw [eo2] at eq0
      have eq0 : zib β t a p = zst3 β t q (zs1 a 1 (zup (a 1) (zqV β t (zqE β t p)) w)) := eq0
      refine zRe_st h eq0 f2 (k.eq rfl) ?_
      obtain ⟨q0, q1, q2, q4, q5, q6, q7, q8⟩ := hM
      have z : ∀ j, j ≠ 2 + zqV β t (zqE β t p) → (zput υ 89 (2 + zqV β t (zqE β t p)) (nI w)).1 89 j = σ.1 89 j := fun j hj => by rw [zput_u hj, e89]
      have z2 : ∀ i, i < 2 → (zput υ 89 (2 + zqV β t (zqE β t p)) (nI w)).1 89 (2 + i) = nI (zup (a 1) (zqV β t (zqE β t p)) w i) := fun i hi => by
        by_cases e : i = zqV β t (zqE β t p)
        · rw [e, zput_s, zup_s]
        · rw [z (2 + i) (by omega), zup_n e]
          rcases (show i = 0 ∨ i = 1 by omega) with rfl | rfl
          · exact q2.1
          · exact q2.2
      refine ⟨(z 0 (by omega)).trans q0, (z 1 (by omega)).trans q1, ⟨z2 0 (by decide), z2 1 (by decide)⟩, (z 4 (by omega)).trans q4, (z 5 (by omega)).trans q5, fun f hf => ?_, fun k hk => ?_, fun u hu f hf => ?_⟩
      · obtain ⟨r1, r2, r3, r4, r5, r6⟩ := q6 f hf
        exact ⟨(z _ (by omega)).trans r1, (z _ (by omega)).trans r2, (z _ (by omega)).trans r3, (z _ (by omega)).trans r4, (z _ (by omega)).trans r5, (z _ (by omega)).trans r6⟩
      · obtain ⟨r1, r2, r3⟩ := q7 k hk
        exact ⟨(z _ (by omega)).trans r1, (z _ (by omega)).trans r2, (z _ (by omega)).trans r3⟩
      · obtain ⟨r1, r2⟩ := q8 u hu f hf
        exact ⟨(z _ (by omega)).trans r1, (z _ (by omega)).trans r2⟩
    · rw [eo2] at eq0
      have eq0 : zib β t a p = .inl (zqS β t q) := eq0
      refine (h.2 _ eq0 _ f2 k.1).2 (fun y => ?_)
      have := nI_inj (b := 3) (by omega) (by decide) (k.2.2.1.symm.trans y)
      omega
  have L : ∀ i, i ≤ 150 → ∀ (υ : zM) (q w : Nat), zFQ σ υ → zTr υ β t q → υ.1 89 = σ.1 89 → υ.1 90 0 = nI (zqV β t (zqE β t p)) → i ≤ q → q ≤ t → w < 65536 → zbk β t (151 - i) q w = o → zFix (F_X12_takesBook Q) 1 [.ref 75, .int (nI w)] [] υ := by
    refine zloop 150 (fun i hi ih => ?_)
    intro υ q w f k e89 e90 iq qt lw inv
    have lr := zqL_r (β := β) (t := t) (p := q)
    obtain ⟨r1, r2, r3⟩ := zqE_r (β := β) qt
    rw [show 151 - i = (150 - i) + 1 by omega] at inv
    unfold zbk at inv
    by_cases k2 : zqK β t q = 2
    · rw [zif_1 k2] at inv
      by_cases le : zqE β t q - zqS β t q ≤ 2
      · have L2 := lr.2.1.mpr ⟨k2, le⟩
        refine zFix_in ?_
        refine And.intro (fun z => absurd (by show υ.1 75 21 = 2; rw [k.2.2.1, L2]; rfl) z) (fun _ => ?_)
        refine r_takesN (k := 1) (l := 0) (m := 15) qt (by decide) (by decide) (by decide) (hT.P f) k (fun nn τ3 f3 k3 vl3 => n1 ?_) (fun nn => n0 (And.intro (Or.inl rfl) ?_))
        · rw [zif_1 nn] at inv
          have v15 := nn.2.2.2
          refine And.intro (vp_in_nI (n := 1) (N := 5) (by decide) (by decide)) ?_
          show zFix (F_X12_takesBook Q) 1 [.ref 75, .int (nI w ||| (1 : Int32) <<< (τ3.1 90 1 &&& 31))] [] τ3
          rw [vl3.1, nI_shl1 (by omega), nI_or]
          have := r3 (by omega)
          refine ih (i + 1) (by omega) (by omega) τ3 _ _ (f.tr f3) k3 (vl3.2.2.trans e89) ((vl3.2.1 0 (by decide)).trans e90) (by omega) r2 (Nat.or_lt_two_pow (n := 16) lw (Nat.pow_lt_pow_right (by decide) (by omega))) ?_
          rw [show 151 - (i + 1) = 150 - i by omega]
          exact inv
        · rw [zif_0 nn] at inv
          rw [← inv] at eq0
          exact (h.2 _ eq0 υ f k.1).1
      · rw [zif_0 (fun z => le z.2.1)] at inv
        refine fin υ w q f k e89 e90 lw (Or.inr ⟨inv.symm, ?_⟩) (fun z => le (lr.2.1.mp z).2)
        rw [zqL, if_pos ⟨k2, by omega⟩]
    · rw [zif_0 k2] at inv
      exact fin υ w q f k e89 e90 lw (Or.inl inv.symm) (fun z => k2 (lr.2.1.mp z).1)
  exact L 0 (by decide) τ2 _ 0 (f1.P.tr f2) k2 (vl.2.2.trans (f1.1 89 (by decide))) vl.1 (Nat.zero_le _) v2 (by decide) eo
theorem r_coldI {a : zA} {p : Nat} (hp : p ≤ t) (ha : zOk a) (hT : zTD σ t β) (hk : zTr σ β t p) (hM : zCM (σ.1 89) a) (h : zRe (zic β t a p) σ β t Q) : T_X12_takesCold [.ref 75] σ Q := by
  have hn := ha.1.1
  have c128 := zC128 ha.1
  obtain ⟨u1, u2, u3⟩ := zqE_r (β := β) hp
  refine ⟨rfl, zFix_in (r_behind hp hT hk (fun τ f1 k1 => ?_))⟩
  have e89 : τ.1 89 = σ.1 89 := f1.1 89 (by decide)
  refine And.intro (vp_in_nI (n := 0) (N := 66) (by decide) (by decide)) ?_
  show T_X12_takes [.ref 75, .int (nI 0), .int (nI 0), .int (τ.1 89 0 - 1)] τ _
  rw [e89, hM.1]
  refine r_takesC (k := 0) u2 (by decide) hn (hT.F f1) k1 (fun n τ2 f2 k2 vl => n1 ?_) (fun n => n0 (And.intro (Or.inl rfl) (h.2 _ (by rw [zic, zif_0 n]) τ f1.P k1.1).1))
  have vlt := n.2
  refine And.intro (vp_in_nI (n := 0) (N := 5) (by decide) (by decide)) ?_
  show vp_in ((6 : Int32) + 6 * τ2.1 90 0 + 5) 66 ∧ ((1 : Int32) = 0 ∨ (1 : Int32) = 1) ∧ Q (some (.int 1)) (zput τ2 89 ((6 : Int32) + 6 * τ2.1 90 0 + 5).toNatClampNeg 1)
  have ei : (6 : Int32) + 6 * nI (zqV β t (zqE β t p)) + 5 = nI (11 + 6 * zqV β t (zqE β t p)) := by
    rw [show (6 : Int32) = nI 6 from rfl, show (5 : Int32) = nI 5 from rfl, pk_mul, nI_add, nI_add]
    congr 1
    omega
  rw [vl.1, ei, nI_clamp (by omega)]
  refine ⟨vp_in_nI (by omega) (by decide), Or.inr rfl, ?_⟩
  have eq0 : zic β t a p = zst3 β t (zqE β t (zqE β t p)) (zs1 a 8 (fun _ => zsb1 (a 8 0) (zqV β t (zqE β t p)) 1)) := by rw [zic, zif_1 n]
  have g89 : τ2.1 89 = σ.1 89 := vl.2.2.trans e89
  refine zRe_st h eq0 ((f1.P.tr f2).tr ⟨fun k _ h2 _ => zput_ne h2, rfl, fun _ _ => rfl⟩) (k2.eq rfl) ?_
  obtain ⟨q0, q1, q2, q4, q5, q6, q7, q8⟩ := hM
  have z : ∀ j, j ≠ 11 + 6 * zqV β t (zqE β t p) → (zput τ2 89 (11 + 6 * zqV β t (zqE β t p)) 1).1 89 j = σ.1 89 j := fun j hj => by rw [zput_u hj, g89]
  refine ⟨(z 0 (by omega)).trans q0, (z 1 (by omega)).trans q1, ⟨(z 2 (by omega)).trans q2.1, (z 3 (by omega)).trans q2.2⟩, (z 4 (by omega)).trans q4, (z 5 (by omega)).trans q5, fun g hg => ?_, fun k hk => ?_, fun u hu => absurd hu (by show ¬ u < a 13 0; rw [ha.2]; exact Nat.not_lt_zero u)⟩
  · have hg : g < a 2 0 := hg
    obtain ⟨r1, r2, r3, r4, r5, r6⟩ := q6 g hg
    refine ⟨(z _ (by omega)).trans r1, (z _ (by omega)).trans r2, (z _ (by omega)).trans r3, (z _ (by omega)).trans r4, (z _ (by omega)).trans r5, ?_⟩
    show (zput τ2 89 (11 + 6 * zqV β t (zqE β t p)) 1).1 89 (11 + 6 * g) = nI (zb (zsb1 (a 8 0) (zqV β t (zqE β t p)) 1) g)
    rw [zsb1_b _ c128 _ (by omega) 1 (by decide) g (by omega)]
    by_cases e : g = zqV β t (zqE β t p)
    · rw [e, if_pos rfl, zput_s]
      rfl
    · rw [if_neg e, z _ (by omega)]
      exact r6
  · obtain ⟨r1, r2, r3⟩ := q7 k hk
    exact ⟨(z _ (by omega)).trans r1, (z _ (by omega)).trans r2, (z _ (by omega)).trans r3⟩
theorem r_famI {a : zA} {p : Nat} (hp : p ≤ t) (ha : zOk a) (hT : zTD σ t β) (hk : zTr σ β t p) (hM : zCM (σ.1 89) a) (h : zRe (zim β t a p) σ β t Q) : T_X12_takesFamily [.ref 75] σ Q := by
  have hn := ha.1.1
  obtain ⟨u1, u2, u3⟩ := zqE_r (β := β) hp
  obtain ⟨v1, v2, v3⟩ := zqE_r (β := β) u2
  obtain ⟨w1, w2, w3⟩ := zqE_r (β := β) v2
  obtain ⟨x1, x2, x3⟩ := zqE_r (β := β) w2
  obtain ⟨y1, y2, y3⟩ := zqE_r (β := β) x2
  refine ⟨rfl, zFix_in ?_⟩
  refine And.intro (vp_in_nI (n := 0) (N := 66) (by decide) (by decide)) ?_
  show (¬ σ.1 89 0 = 7 → _) ∧ (σ.1 89 0 = 7 → (i_ic 0 <| i_zr Q) (zlc [.ref 75]) [] σ)
  rw [hM.1]
  refine And.intro (fun d => ?_) (fun d => And.intro (Or.inl rfl) (h.2 _ (by rw [zim, zif_1 (show 7 ≤ a 2 0 by have := nI_inj (b := 7) (by omega) (by decide) d; omega)]) σ zFQ.rf hk.1).1)
  have d : ¬ 7 ≤ a 2 0 := fun z => d (by rw [show a 2 0 = 7 by omega]; rfl)
  refine r_behind hp hT hk (fun τ0 f0 k0 => ?_)
  refine r_takesN (k := 0) (l := 0) (m := 5) u2 (by decide) (by decide) (by decide) (hT.F f0) k0 (fun m1 τ1 f1 k1 l1 => e1 ?_) (fun m1 => e0 (And.intro (Or.inl rfl) (h.2 _ (by rw [zim, zif_0 d, zif_0 m1]) τ0 f0.P k0.1).1))
  have F1 := f0.P.tr f1
  refine r_takesN (k := 1) (l := 0) (m := 1) v2 (by decide) (by decide) (by decide) (hT.P F1) k1 (fun m2 τ2 f2 k2 l2 => e1 ?_) (fun m2 => e0 (And.intro (Or.inl rfl) (h.2 _ (by rw [zim, zif_0 d, zif_1 m1, zif_0 m2]) τ1 F1 k1.1).1))
  have F2 := F1.tr f2
  refine r_takesN (k := 2) (l := 1) (m := 9) w2 (by decide) (by decide) (by decide) (hT.P F2) k2 (fun m3 τ3 f3 k3 l3 => e1 ?_) (fun m3 => e0 (And.intro (Or.inl rfl) (h.2 _ (by rw [zim, zif_0 d, zif_1 m1, zif_1 m2, zif_0 m3]) τ2 F2 k2.1).1))
  have F3 := F2.tr f3
  refine r_takesN (k := 3) (l := 1) (m := 20) x2 (by decide) (by decide) (by decide) (hT.P F3) k3 (fun m4 τ4 f4 k4 l4 => n1 ?_) (fun m4 => n0 (And.intro (Or.inl rfl) (h.2 _ (by rw [zim, zif_0 d, zif_1 m1, zif_1 m2, zif_1 m3, zif_0 m4]) τ3 F3 k3.1).1))
  have F4 := F3.tr f4
  have lr := zqL_r (β := β) (t := t) (p := zqE β t (zqE β t (zqE β t (zqE β t (zqE β t p)))))
  have e89 : τ4.1 89 = σ.1 89 := by rw [l4.2.2, l3.2.2, l2.2.2, l1.2.2, f0.1 89 (by decide)]
  have hM4 : zCM (τ4.1 89) a := by rw [e89]; exact hM
  have no : ¬ (zqN β t (zqE β t (zqE β t (zqE β t (zqE β t (zqE β t p))))) 0 9 ∧ zqV β t (zqE β t (zqE β t (zqE β t (zqE β t (zqE β t p))))) % 2 = zqV β t (zqE β t (zqE β t p)) ∧ ∀ f, f < a 2 0 → a 7 f ≠ zqV β t (zqE β t (zqE β t (zqE β t (zqE β t (zqE β t p)))))) → Q (some (.int 0)) τ4 := fun z => (h.2 _ (by rw [zim, zif_0 d, zif_1 m1, zif_1 m2, zif_1 m3, zif_1 m4, zif_0 z]) τ4 F4 k4.1).1
  have b1 : τ4.1 90 1 = nI (zqV β t (zqE β t (zqE β t p))) := by rw [l4.2.1 1 (by decide), l3.2.1 1 (by decide), l2.1]
  refine And.intro (fun z => And.intro (Or.inl rfl) (no (fun q => z (by show τ4.1 75 21 = 2; rw [k4.2.2.1, lr.2.1.mpr ⟨q.1.1, q.1.2.1⟩]; rfl)))) (fun z => ?_)
  have L2 : zqL β t (zqE β t (zqE β t (zqE β t (zqE β t (zqE β t p))))) = 2 := nI_inj (b := 2) (by omega) (by decide) (k4.2.2.1.symm.trans z)
  obtain ⟨kk, le⟩ := lr.2.1.mp L2
  have vl5 := zqV_lt y2 (fun j hj => (hT.2.2 j hj).1) kk
  have e22 := k4.2.2.2 L2
  refine And.intro (vp_in_nI (n := 1) (N := 5) (by decide) (by decide)) ?_
  show T_X12_isPewOf [.int (τ4.1 75 22), .int (τ4.1 90 1)] τ4 _
  rw [e22, b1]
  have vb := m2.2.2.2
  refine r_isPewOf (fun p' hp' e1' e2' => e1 ?_) (fun z => e0 (And.intro (Or.inl rfl) (no (fun q => z _ q.1.2.2.2 rfl (by rw [q.2.1])))))
  have ep : zqV β t (zqE β t (zqE β t (zqE β t (zqE β t (zqE β t p))))) = p' := nI_inj (by omega) (by omega) e1'
  have eb : zqV β t (zqE β t (zqE β t p)) = p' % 2 := nI_inj (by omega) (by omega) e2'
  show T_X12_isTaken [.ref 89, .int (τ4.1 75 22)] τ4 _
  rw [e22]
  refine r_isTaken (o := 89) (n := a 2 0) (Or.inr rfl) hn hM4.1 (fun tk => n1 (And.intro (Or.inl rfl) (no (fun q => ?_)))) (fun nt => n0 ?_)
  · obtain ⟨f, hf, ef⟩ := tk
    have xf : τ4.1 89 (10 + 6 * f) = nI (a 7 f) := (hM4.2.2.2.2.2.1 f hf).2.2.2.2.1
    have := (ha.1.2.2.2.1 f hf).2.2.2.2.1
    exact q.2.2 f hf (nI_inj (by omega) (by omega) (xf.symm.trans ef))
  · have nt2 : ∀ f, f < a 2 0 → a 7 f ≠ zqV β t (zqE β t (zqE β t (zqE β t (zqE β t (zqE β t p))))) := fun f hf e => nt f hf (by rw [(hM4.2.2.2.2.2.1 f hf).2.2.2.2.1, e])
    refine r_takesN (k := 4) (l := 0) (m := 9) y2 (by decide) (by decide) (by decide) (hT.P F4) k4 (fun m5 τ5 f5 k5 l5 => n1 ?_) (fun m5 => n0 (And.intro (Or.inl rfl) (no (fun q => m5 q.1))))
    have F5 := F4.tr f5
    have g89 : τ5.1 89 = σ.1 89 := l5.2.2.trans e89
    have hM5 : zCM (τ5.1 89) a := by rw [g89]; exact hM
    have c0 : τ5.1 90 0 = nI (zqV β t (zqE β t p)) := by rw [l5.2.1 0 (by decide), l4.2.1 0 (by decide), l3.2.1 0 (by decide), l2.2.1 0 (by decide), l1.1]
    have c1 : τ5.1 90 1 = nI (zqV β t (zqE β t (zqE β t p))) := by rw [l5.2.1 1 (by decide), b1]
    have c2 : τ5.1 90 2 = nI (zqV β t (zqE β t (zqE β t (zqE β t p)))) := by rw [l5.2.1 2 (by decide), l4.2.1 2 (by decide), l3.1]
    have c3 : τ5.1 90 3 = nI (zqV β t (zqE β t (zqE β t (zqE β t (zqE β t p))))) := by rw [l5.2.1 3 (by decide), l4.1]
    refine And.intro (vp_in_nI (n := 0) (N := 5) (by decide) (by decide)) (And.intro (vp_in_nI (n := 1) (N := 5) (by decide) (by decide)) (And.intro (vp_in_nI (n := 2) (N := 5) (by decide) (by decide)) (And.intro (vp_in_nI (n := 3) (N := 5) (by decide) (by decide)) (And.intro (vp_in_nI (n := 4) (N := 5) (by decide) (by decide)) ?_))))
    show T_X12_layFamily [.ref 89, .int (τ5.1 90 0), .int (τ5.1 90 1), .int (τ5.1 90 2), .int (τ5.1 90 3), .int (τ5.1 90 4)] τ5 _
    rw [c0, c1, c2, c3, l5.1]
    have eq0 : zim β t a p = zst3 β t (zqE β t (zqE β t (zqE β t (zqE β t (zqE β t (zqE β t p)))))) (zAf a (zqV β t (zqE β t p)) (zqV β t (zqE β t (zqE β t p))) (zqV β t (zqE β t (zqE β t (zqE β t p)))) (zqV β t (zqE β t (zqE β t (zqE β t (zqE β t p))))) (zqV β t (zqE β t (zqE β t (zqE β t (zqE β t (zqE β t p))))))) := by
      rw [zim, zif_0 d, zif_1 m1, zif_1 m2, zif_1 m3, zif_1 m4, zif_1 ⟨m5, by rw [ep, eb], nt2⟩]
    refine r_layFamily (o := 89) (a := a) (Or.inr rfl) (by omega) ha.1.2.2.2.2.2.1 hM5 (fun τ6 g1 g2 g3 g4 => And.intro (Or.inr rfl) ?_)
    have e75 : τ6.1 75 = τ5.1 75 := g1 75 (by decide)
    exact zRe_st h eq0 (F5.tr ⟨fun k _ h2 _ => g1 k h2, g2, fun j _ => by rw [e75]⟩) (k5.eq e75) (g4 τ6 (fun _ _ => rfl) (by rw [g3, ha.2]; rfl))
end
