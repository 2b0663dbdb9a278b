/-! The reference's tokens. -/
theorem r_small {c : Nat} {σ : zM} {Q : zQ} (hc : c < 128) (h1 : zqd c = 1 → Q (some (.int 1)) σ) (h0 : zqd c ≠ 1 → Q (some (.int 0)) σ) : T_X12_isSmall [.int (nI c)] σ Q := by
  refine ⟨rfl, zFix_in ?_⟩
  refine t_inN (a := 97) (b := 122) (by decide) rfl rfl (fun n n1 n2 e => And.intro (Or.inr rfl) (h1 ?_)) (fun e => And.intro (Or.inl rfl) (h0 ?_))
  · rw [nI_inj (by omega) (by omega) e, zqd, if_pos ⟨n1, n2⟩]
  · intro z
    unfold zqd at z
    by_cases q : 97 ≤ c ∧ c ≤ 122
    · exact e c q.1 q.2 rfl
    · rw [if_neg q] at z
      (repeat' split at z) <;> omega
theorem r_figure {c : Nat} {σ : zM} {Q : zQ} (hc : c < 128) (h1 : zqd c = 2 → Q (some (.int 1)) σ) (h0 : zqd c ≠ 2 → Q (some (.int 0)) σ) : T_X12_isFigure [.int (nI c)] σ Q := by
  refine ⟨rfl, zFix_in ?_⟩
  refine t_inN (a := 48) (b := 57) (by decide) rfl rfl (fun n n1 n2 e => And.intro (Or.inr rfl) (h1 ?_)) (fun e => And.intro (Or.inl rfl) (h0 ?_))
  · rw [nI_inj (by omega) (by omega) e, zqd, if_neg (by omega), if_pos ⟨n1, n2⟩]
  · intro z
    obtain ⟨z1, z2⟩ := (zqd_r c).2.2 z
    exact e c z1 z2 rfl
theorem r_lookAt {β : Nat → Nat} {t p : Nat} {σ : zM} {Q : zQ} (hp : p ≤ t) (hT : zTD σ t β) (h : ∀ τ, zFR σ τ → zTr τ β t p → Q none τ) : T_X12_lookAt [.ref 75, .int (nI p)] σ Q := by
  obtain ⟨r1, r2, r3, r4, r5⟩ := zq_r (β := β) hp
  have ht := hT.1
  have kr := zqK_r (β := β) (t := t) (p := p)
  have B10 : ∀ τ, zFR σ τ → τ.1 75 19 = nI (zqS β t p) → τ.1 75 20 = nI (zqE β t p - zqS β t p) → τ.1 75 21 = nI (zqK β t p) → (zqL β t p = 2 → τ.1 75 22 = nI (zqV β t p)) → zFix (F_X12_lookAt Q) 10 [.ref 75] [] τ := by
    intro τ fr g1 g2 g3 g4
    have B11 : zqL β t p = zqK β t p → zFix (F_X12_lookAt Q) 11 [.ref 75] [.ref 75] τ := by
      intro e
      refine zFix_in ?_
      show Q none (zput τ 75 21 (τ.1 75 21))
      refine h _ (fr.tr (zFR.p (by decide))) ⟨g1, g2, by rw [zput_s, g3, e], g4⟩
    refine zFix_in ?_
    refine And.intro (fun z => B11 ?_) (fun z => ?_)
    · rw [zqL, if_neg (fun q => z (by show τ.1 75 21 = 2; rw [g3, q.1]; rfl))]
    · have e2 : zqK β t p = 2 := nI_inj (b := 2) (by omega) (by decide) (g3.symm.trans z)
      refine pk_le (zqE β t p - zqS β t p) 2 (fun y => B11 (by rw [zqL, if_neg (by omega)])) (fun y => ?_) g2 rfl
      have e4 : zqL β t p = 4 := by rw [zqL, if_pos ⟨e2, y⟩]
      refine h _ (fr.tr (zFR.p (show 19 ≤ 21 ∧ 21 ≤ 22 by decide))) ⟨g1, g2, ?_, fun x => by omega⟩
      rw [e4]
      exact zput_s
  have B8 : zqS β t p < t → ∀ τ, zFR σ τ → τ.1 75 19 = nI (zqS β t p) → τ.1 75 20 = nI (zqE β t p - zqS β t p) → τ.1 75 21 = nI (zqK β t p) → τ.1 75 22 = nI 0 → zFix (F_X12_lookAt Q) 8 [.ref 75] [] τ := by
    intro sl τ fr g1 g2 g3 g4
    have r5 := r5 sl
    have hT' := hT.F fr
    by_cases ek : zqK β t p = 2
    · have dg : ∀ j, zqS β t p ≤ j → j < zqE β t p → 48 ≤ β j ∧ β j ≤ 57 := by
        intro j h1 h2
        by_cases q : j = zqS β t p
        · rw [q]
          refine (zqd_r _).2.2 ?_
          have e := ek
          rw [zqK, if_pos sl] at e
          exact e
        · have e : zqE β t p = zqr β (zqK β t p) (t - (zqS β t p + 1)) (zqS β t p + 1) := by
            rw [zqE, if_pos sl, if_pos (Or.inr ek)]
          rw [e] at h2
          have := (zqr_r (β := β) (k := zqK β t p) (t - (zqS β t p + 1)) (zqS β t p + 1)).2.2 j (by omega) h2
          exact (zqd_r _).2.2 (this.trans ek)
      have it : ∀ (n k : Nat) (υ : zM), zFR σ υ → υ.1 75 19 = nI (zqS β t p) → υ.1 75 20 = nI (zqE β t p - zqS β t p) → υ.1 75 21 = nI (zqK β t p) → υ.1 75 22 = nI n → zqS β t p + k < zqE β t p → k < 2 → zFix (F_X12_lookAt Q) 9 [.ref 75, .null, .null, .null, .int (nI (k + 1))] [] (zput υ 75 22 (nI (10 * n + (β (zqS β t p + k) - 48)))) → zFix (F_X12_lookAt Q) 9 [.ref 75, .null, .null, .null, .int (nI k)] [] υ := by
        intro n k υ f g1 g2 g3 g4 l1 l2 g
        have hT2 := hT.F f
        obtain ⟨d1, d2⟩ := dg (zqS β t p + k) (by omega) (by omega)
        refine zFix_in ?_
        refine pk_le (zqE β t p - zqS β t p) k (fun z => by omega) (fun z => ?_) g2 rfl
        refine pk_le 2 k (fun z => by omega) (fun z => ?_)
        refine And.intro (fun z => absurd (by show υ.1 75 21 = 2; rw [g3, ek]; rfl) z) (fun _ => ?_)
        show vp_in (υ.1 75 19 + nI k) 150 ∧ zFix (F_X12_lookAt Q) 9 [.ref 75, .null, .null, .null, .int (nI k + 1)] [] (zput υ 75 22 (10 * υ.1 75 22 + υ.1 88 (υ.1 75 19 + nI k).toNatClampNeg - 48))
        rw [g1, nI_add, nI_clamp (by omega), (hT2.2.2 _ (by omega)).2, g4, show (10 : Int32) = nI 10 from rfl, pk_mul, nI_add, show (48 : Int32) = nI 48 from rfl, pk_sub (by omega), nI_1, show 10 * n + β (zqS β t p + k) - 48 = 10 * n + (β (zqS β t p + k) - 48) by omega]
        exact ⟨vp_in_nI (by omega) (by decide), g⟩
      have done : ∀ (k : Nat) (υ : zM), zFR σ υ → υ.1 75 19 = nI (zqS β t p) → υ.1 75 20 = nI (zqE β t p - zqS β t p) → υ.1 75 21 = nI (zqK β t p) → (zqE β t p - zqS β t p ≤ k ∨ 2 ≤ k) → k < 10 → (zqL β t p = 2 → υ.1 75 22 = nI (zqV β t p)) → zFix (F_X12_lookAt Q) 9 [.ref 75, .null, .null, .null, .int (nI k)] [] υ := by
        intro k υ f g1 g2 g3 le lk g4
        refine zFix_in ?_
        refine pk_le (zqE β t p - zqS β t p) k (fun z => B10 υ f g1 g2 g3 g4) (fun z => ?_) g2 rfl
        exact pk_le 2 k (fun z => B10 υ f g1 g2 g3 g4) (fun z => by omega)
      refine zFix_in ?_
      refine it 0 0 τ fr g1 g2 g3 g4 (by omega) (by decide) ?_
      have f1 := fr.tr (zFR.p (v := nI (10 * 0 + (β (zqS β t p + 0) - 48))) (show 19 ≤ 22 ∧ 22 ≤ 22 by decide))
      by_cases q : zqE β t p - zqS β t p = 1
      · refine done 1 _ f1 g1 g2 g3 (Or.inl (by omega)) (by decide) (fun _ => ?_)
        rw [zput_s, zqV, if_pos q]
        rw [Nat.mul_zero, Nat.zero_add, Nat.add_zero]
      · refine it _ 1 _ f1 g1 g2 g3 zput_s (by omega) (by decide) ?_
        refine done 2 _ (f1.tr (zFR.p (by decide))) g1 g2 g3 (Or.inr (by decide)) (by decide) (fun _ => ?_)
        rw [zput_s, zqV, if_neg q]
        rw [Nat.mul_zero, Nat.zero_add, Nat.add_zero]
    · refine zFix_in (zFix_in ?_)
      have g4' : zqL β t p = 2 → τ.1 75 22 = nI (zqV β t p) := fun z => by
        rw [zqL, if_neg (fun q => ek q.1)] at z
        exact absurd z ek
      refine And.intro (fun _ => B10 τ fr g1 g2 g3 g4') (fun _ => And.intro (fun _ => B10 τ fr g1 g2 g3 g4') (fun _ => And.intro (fun _ => B10 τ fr g1 g2 g3 g4') (fun z => absurd (nI_inj (b := 2) (by omega) (by decide) (g3.symm.trans z)) ek)))
  have B5 : zqS β t p < t → (zqK β t p = 1 ∨ zqK β t p = 2) → ∀ e, e ≤ t → zqS β t p < e → ∀ τ, zFR σ τ → τ.1 75 19 = nI (zqS β t p) → τ.1 75 20 = nI (e - zqS β t p) → τ.1 75 21 = nI (zqK β t p) → τ.1 75 22 = nI 0 → zqr β (zqK β t p) (t - e) e = zqE β t p → zFix (F_X12_lookAt Q) 5 [.ref 75, .null, .null, .int 1] [] τ := by
    intro sl k12
    refine zloop t (fun e he ih => ?_)
    intro se τ fr g1 g2 g3 g4 inv
    have hT' := hT.F fr
    refine zFix_in (e1 ?_)
    show (τ.1 75 18 ≤ τ.1 75 19 + τ.1 75 20 → zFix (F_X12_lookAt Q) 8 [.ref 75] [] τ) ∧ (¬ τ.1 75 18 ≤ τ.1 75 19 + τ.1 75 20 → vp_in (τ.1 75 19 + τ.1 75 20) 150 ∧ (¬ τ.1 75 21 = 1 → T_X12_isFigure [.int (τ.1 88 (τ.1 75 19 + τ.1 75 20).toNatClampNeg)] τ _) ∧ (τ.1 75 21 = 1 → T_X12_isSmall [.int (τ.1 88 (τ.1 75 19 + τ.1 75 20).toNatClampNeg)] τ _))
    rw [hT'.2.1, g1, g2, nI_add, show zqS β t p + (e - zqS β t p) = e by omega]
    refine pk_le t e (fun d => ?_) (fun d => ⟨vp_in_nI (by omega) (by decide), ?_⟩)
    · have : t - e = 0 := by omega
      rw [this] at inv
      have inv : e = zqE β t p := inv
      exact B8 sl τ fr g1 (by rw [g2, inv]) g3 g4
    · rw [nI_clamp (by omega), (hT'.2.2 e d).2]
      have bl := (hT'.2.2 e d).1
      rw [show t - e = (t - (e + 1)) + 1 by omega] at inv
      have inv : (if zqd (β e) = zqK β t p then zqr β (zqK β t p) (t - (e + 1)) (e + 1) else e) = zqE β t p := inv
      have B6 : ∀ m, m ≤ 1 → (m = 1 ↔ zqd (β e) = zqK β t p) → zFix (F_X12_lookAt Q) 6 [.ref 75] [.int (nI m)] τ := by
        intro m hm im
        refine zFix_in ?_
        rcases (show m = 0 ∨ m = 1 by omega) with rfl | rfl
        · refine e0 (zFix_in ?_)
          rw [if_neg (fun q => absurd (im.mpr q) (by decide))] at inv
          show zFix (F_X12_lookAt Q) 5 [.ref 75, .null, .null, .int 0] [] (zput τ 75 20 (τ.1 75 20 + 0))
          refine zFix_in (e0 (B8 sl _ (fr.tr (zFR.p (by decide))) g1 ?_ g3 g4))
          rw [zput_s, g2, ← inv]
          exact nI_add _ 0
        · refine e1 (zFix_in ?_)
          rw [if_pos (im.mp rfl)] at inv
          show zFix (F_X12_lookAt Q) 5 [.ref 75, .null, .null, .int 1] [] (zput τ 75 20 (τ.1 75 20 + 1))
          refine ih (e + 1) (by omega) (by omega) (by omega) _ (fr.tr (zFR.p (by decide))) g1 ?_ g3 g4 inv
          rw [zput_s, g2, nI_1]
          congr 1
          omega
      refine And.intro (fun z => ?_) (fun z => ?_)
      · have ek : zqK β t p = 2 := by
          rcases k12 with k | k
          · exact absurd (by show τ.1 75 21 = 1; rw [g3, k]; rfl) z
          · exact k
        exact r_figure bl (fun y => B6 1 (by decide) ⟨fun _ => by rw [ek]; exact y, fun _ => rfl⟩) (fun y => B6 0 (by decide) ⟨fun x => absurd x (by decide), fun x => absurd (x.trans ek) y⟩)
      · have ek : zqK β t p = 1 := nI_inj (b := 1) (by omega) (by decide) (g3.symm.trans z)
        exact r_small bl (fun y => B6 1 (by decide) ⟨fun _ => by rw [ek]; exact y, fun _ => rfl⟩) (fun y => B6 0 (by decide) ⟨fun x => absurd x (by decide), fun x => absurd (x.trans ek) y⟩)
  have B2 : ∀ τ, zFR σ τ → τ.1 75 19 = nI (zqS β t p) → zFix (F_X12_lookAt Q) 2 [.ref 75] [] τ := by
    intro τ fr g1
    have hT' := hT.F fr
    have f3 := ((fr.tr (zFR.p (j := 20) (v := 0) (by decide))).tr (zFR.p (j := 21) (v := 0) (by decide))).tr (zFR.p (j := 22) (v := 0) (by decide))
    generalize hυ : zput (zput (zput τ 75 20 0) 75 21 0) 75 22 0 = υ at f3
    have u1 : υ.1 75 19 = nI (zqS β t p) := by rw [← hυ]; exact g1
    have u2 : υ.1 75 20 = 0 := by rw [← hυ]; rfl
    have u3 : υ.1 75 21 = 0 := by rw [← hυ]; rfl
    have u4 : υ.1 75 22 = nI 0 := by rw [← hυ]; rfl
    have hU := hT.F f3
    refine zFix_in ?_
    show (¬ (zput (zput (zput τ 75 20 0) 75 21 0) 75 22 0).1 75 19 = (zput (zput (zput τ 75 20 0) 75 21 0) 75 22 0).1 75 18 → vp_in ((zput (zput (zput τ 75 20 0) 75 21 0) 75 22 0).1 75 19) 150 ∧ T_X12_isSmall [.int ((zput (zput (zput τ 75 20 0) 75 21 0) 75 22 0).1 88 ((zput (zput (zput τ 75 20 0) 75 21 0) 75 22 0).1 75 19).toNatClampNeg)] (zput (zput (zput τ 75 20 0) 75 21 0) 75 22 0) _) ∧ ((zput (zput (zput τ 75 20 0) 75 21 0) 75 22 0).1 75 19 = (zput (zput (zput τ 75 20 0) 75 21 0) 75 22 0).1 75 18 → Q none (zput (zput (zput τ 75 20 0) 75 21 0) 75 22 0))
    rw [hυ, u1, hU.2.1]
    refine And.intro (fun d => ?_) (fun d => ?_)
    · have sl : zqS β t p < t := by
        rcases Nat.lt_or_ge (zqS β t p) t with q | q
        · exact q
        · exact absurd (by rw [show zqS β t p = t by omega]) d
      have ek : zqd (β (zqS β t p)) = zqK β t p := by rw [zqK, if_pos sl]
      have bl := (hU.2.2 _ sl).1
      refine ⟨vp_in_nI (by omega) (by decide), ?_⟩
      rw [nI_clamp (by omega), (hU.2.2 _ sl).2]
      have B3 : ∀ k, k = zqK β t p → zFix (F_X12_lookAt Q) 3 [.ref 75] [.int (nI k), .ref 75] υ := by
        intro k hk
        rw [hk]
        refine zFix_in ?_
        have f5 := (f3.tr (zFR.p (j := 21) (v := nI (zqK β t p)) (by decide))).tr (zFR.p (j := 20) (v := 1) (by decide))
        refine pk_le 3 (zqK β t p) (fun y => ?_) (fun y => ?_)
        · refine zFix_in (zFix_in (e0 (B8 sl _ f5 u1 ?_ rfl u4)))
          show (1 : Int32) = _
          rw [zqE, if_pos sl, if_neg (by omega), show zqS β t p + 1 - zqS β t p = 1 by omega]
          rfl
        · have k1 : zqK β t p ≠ 0 := fun z => by have := kr.2.mp z; exact this sl
          refine zFix_in (B5 sl (by omega) (zqS β t p + 1) (by omega) (by omega) _ f5 u1 ?_ rfl u4 ?_)
          · show (1 : Int32) = _
            rw [show zqS β t p + 1 - zqS β t p = 1 by omega]
            rfl
          · rw [zqE, if_pos sl, if_pos (by omega)]
      refine r_small bl (fun z => e1 (B3 1 (by rw [← ek, z]))) (fun z => e0 ?_)
      show T_X12_isFigure [.int (nI (β (zqS β t p)))] υ _
      refine r_figure bl (fun y => e1 (B3 2 (by rw [← ek, y]))) (fun y => e0 ?_)
      refine And.intro (fun x => B3 4 ?_) (fun x => B3 3 ?_)
      · rw [← ek]
        have hz := z
        have hy := y
        unfold zqd at hz hy ⊢
        by_cases q1 : 97 ≤ β (zqS β t p) ∧ β (zqS β t p) ≤ 122
        · rw [if_pos q1] at hz; exact absurd rfl hz
        · rw [if_neg q1] at hy ⊢
          by_cases q2 : 48 ≤ β (zqS β t p) ∧ β (zqS β t p) ≤ 57
          · rw [if_pos q2] at hy; exact absurd rfl hy
          · rw [if_neg q2, if_neg (fun q => x (by rw [q]; rfl))]
      · rw [← ek, nI_inj (b := 59) (by omega) (by decide) x]
        decide
    · have et : ¬ zqS β t p < t := fun q => by have := nI_inj (by omega) (by omega) d; omega
      have ek : zqK β t p = 0 := kr.2.mpr et
      have eL : zqL β t p = 0 := by rw [zqL, if_neg (fun q => by omega), ek]
      refine h _ f3 ⟨u1, ?_, ?_, fun z => by omega⟩
      · rw [u2, zqE, if_neg et, Nat.sub_self]
        rfl
      · rw [u3, eL]
        rfl
  have B1 : ∀ q, q ≤ t → ∀ τ, zFR σ τ → τ.1 75 19 = nI q → zqs β (t - q) q = zqS β t p → zFix (F_X12_lookAt Q) 1 [.ref 75] [] τ := by
    refine zloop t (fun q hq ih => ?_)
    intro τ fr g3 inv
    have hT' := hT.F fr
    refine zFix_in ?_
    show (τ.1 75 18 ≤ τ.1 75 19 → zFix (F_X12_lookAt Q) 2 [.ref 75] [] τ) ∧ (¬ τ.1 75 18 ≤ τ.1 75 19 → vp_in (τ.1 75 19) 150 ∧ (¬ τ.1 88 (τ.1 75 19).toNatClampNeg = 32 → zFix (F_X12_lookAt Q) 2 [.ref 75] [] τ) ∧ (τ.1 88 (τ.1 75 19).toNatClampNeg = 32 → zFix (F_X12_lookAt Q) 1 [.ref 75] [] (zput τ 75 19 (τ.1 75 19 + 1))))
    rw [hT'.2.1, g3]
    refine pk_le t q (fun d => ?_) (fun d => ⟨vp_in_nI (by omega) (by decide), ?_⟩)
    · have : t - q = 0 := by omega
      rw [this] at inv
      have inv : q = zqS β t p := inv
      exact B2 τ fr (by rw [g3, inv])
    · rw [nI_clamp (by omega), (hT'.2.2 q d).2, nI_1]
      have bl := (hT'.2.2 q d).1
      rw [show t - q = (t - (q + 1)) + 1 by omega] at inv
      have inv : (if β q = 32 then zqs β (t - (q + 1)) (q + 1) else q) = zqS β t p := inv
      refine And.intro (fun z => ?_) (fun z => ?_)
      · rw [if_neg (fun y => z (by rw [y]; rfl))] at inv
        exact B2 τ fr (by rw [g3, inv])
      · rw [if_pos (nI_inj (b := 32) (by omega) (by decide) z)] at inv
        exact ih (q + 1) (by omega) (by omega) _ (fr.tr (zFR.p (by decide))) zput_s inv
  refine ⟨rfl, zFix_in ?_⟩
  exact B1 p hp _ (zFR.p (by decide)) zput_s rfl
