/-! Pair: read. -/
theorem zRe.z {o : Sum Nat (zA × Nat)} {σ : zM} {β : Nat → Nat} {t : Nat} {Q R : zQ} (h : zRe o σ β t Q) (g1 : ∀ τ, Q (some (.int 1)) τ → R (some (.int 1)) τ) (g0 : ∀ τ, Q (some (.int 0)) τ → R (some (.int 0)) τ) : zRe o σ β t R := ⟨fun b q e τ f k c => g1 _ (h.1 b q e τ f k c), fun s e τ f k => ⟨g0 _ (h.2 s e τ f k).1, fun z => g1 _ ((h.2 s e τ f k).2 z)⟩⟩
section
variable {β : Nat → Nat} {t : Nat} {σ : zM} {Q : zQ}
theorem r_item {a : zA} {p : Nat} (hp : p ≤ t) (ha : zOk a) (hT : zTD σ t β) (hk : zTr σ β t p) (hM : zCM (σ.1 89) a) (h : zRe (zit β t a p) σ β t Q) : T_X12_takesItem [.ref 75] σ Q := by
  refine ⟨rfl, zFix_in ?_⟩
  refine r_spells (w := 1) hp (by decide) hT hk (fun c1 => e1 ?_) (fun c1 => e0 ?_)
  · rw [zit, zif_1 c1] at h
    exact r_book hp ha hT hk hM (h.z (fun τ q => And.intro (Or.inr rfl) q) (fun τ q => And.intro (Or.inl rfl) q))
  · refine r_spells (w := 2) hp (by decide) hT hk (fun c2 => e1 ?_) (fun c2 => e0 ?_)
    · rw [zit, zif_0 c1, zif_1 c2] at h
      exact r_famI hp ha hT hk hM (h.z (fun τ q => And.intro (Or.inr rfl) q) (fun τ q => And.intro (Or.inl rfl) q))
    · refine r_spells (w := 3) hp (by decide) hT hk (fun c3 => e1 ?_) (fun c3 => e0 ?_)
      · rw [zit, zif_0 c1, zif_0 c2, zif_1 c3] at h
        exact r_coldI hp ha hT hk hM (h.z (fun τ q => e1 (And.intro (Or.inr rfl) q)) (fun τ q => e0 (And.intro (Or.inl rfl) q)))
      · rw [zit, zif_0 c1, zif_0 c2, zif_0 c3] at h
        exact And.intro (Or.inl rfl) (h.2 _ rfl σ zFQ.rf hk.1).1
theorem r_read (hT : zTD σ t β) (h1 : ∀ i a, zre β t = .inr (i, a) → zOk a → ∀ τ : zM, (∀ k, k ≠ 75 → k ≠ 76 → k ≠ 89 → k ≠ 90 → τ.1 k = σ.1 k) → τ.2 = σ.2 → τ.1 75 18 = σ.1 75 18 → zCM (τ.1 76) a → Q (some (.int (nI i))) τ) (h0 : ∀ s, zre β t = .inl s → ∀ τ, zFQ σ τ → Q (some (.int (-10 - nI s))) τ) : T_X12_read [.ref 75] σ Q := by
  have ht := hT.1
  obtain ⟨u1, u2, u3⟩ := zqE_r (β := β) (Nat.zero_le t)
  obtain ⟨v1, v2, v3⟩ := zqE_r (β := β) u2
  obtain ⟨w1, w2, w3⟩ := zqE_r (β := β) v2
  refine ⟨rfl, zFix_in (r_lookAt (p := 0) (Nat.zero_le _) hT (fun τ f1 k1 => ?_))⟩
  have fl : ∀ (τ : zM) (q : Nat), zFQ σ τ → zTr τ β t q → zre β t = .inl (zqS β t q) → Q (some (.int (-10 - τ.1 75 19))) τ := fun τ q f k e => by rw [k.1]; exact h0 _ e τ f
  refine ⟨rfl, zFix_in ?_⟩
  refine r_spells (w := 0) (Nat.zero_le _) (by decide) (hT.F f1) k1 (fun c => n1 ?_) (fun c => n0 (And.intro (Or.inl rfl) (n0 (fl τ 0 f1.P k1 (by rw [zre, zif_0 c])))))
  refine r_behind (Nat.zero_le _) (hT.F f1) k1 (fun τ2 f2 k2 => ?_)
  have F2 := (f1.tr f2).P
  refine r_takesN (k := 0) (l := 0) (m := 30) u2 (by decide) (by decide) (by decide) (hT.P F2) k2 (fun n τ3 f3 k3 l3 => n1 ?_) (fun n => n0 (And.intro (Or.inl rfl) (n0 (fl τ2 _ F2 k2 (by rw [zre, zif_1 c, zif_0 n])))))
  have vl := n.2.2.2
  have F3 := F2.tr f3
  refine And.intro (vp_in_nI (n := 0) (N := 5) (by decide) (by decide)) ?_
  show T_X12_begin [.ref 89, .int (τ3.1 90 0)] τ3 _
  rw [l3.1]
  refine r_begin (o := 89) (Or.inr rfl) (fun τ4 g1 g2 g3 => ?_)
  have e75 : τ4.1 75 = τ3.1 75 := g1 75 (by decide)
  have F4 : zFQ σ τ4 := F3.tr ⟨fun k _ h2 _ => g1 k h2, g2, fun j _ => by rw [e75]⟩
  have k4 := k3.eq e75
  have lr := zqL_r (β := β) (t := t) (p := zqE β t (zqE β t 0))
  refine And.intro (fun z => And.intro (Or.inl rfl) (n0 (fl τ4 _ F4 k4 ?_))) (fun z => And.intro (Or.inr rfl) (n1 ?_))
  · rw [zre, zif_1 c, zif_1 n, zif_0 (fun y => z (by show τ4.1 75 21 = 3; rw [k4.2.2.1, lr.2.2.1.mpr y]; rfl))]
  have z3 : zqK β t (zqE β t (zqE β t 0)) = 3 := lr.2.2.1.mp (nI_inj (b := 3) (by omega) (by decide) (k4.2.2.1.symm.trans z))
  refine r_behind v2 (hT.P F4) k4 (fun τ5 f5 k5 => ?_)
  have ez : zre β t = zrd β t 151 (zA0 (zqV β t (zqE β t 0))) (zqE β t (zqE β t (zqE β t 0))) 1 := by rw [zre, zif_1 c, zif_1 n, zif_1 z3]
  obtain ⟨o, eo⟩ : ∃ o, zre β t = o := ⟨_, rfl⟩
  rw [eo] at ez h1 h0
  have B3 : ∀ (υ : zM) (a : zA) (i : Nat), zFQ σ υ → zCM (υ.1 89) a → zOk a → o = .inr (i, a) → ∀ k, k ≤ 66 → ∀ τ : zM, (∀ j, j ≠ 76 → τ.1 j = υ.1 j) → τ.2 = υ.2 → (∀ j, j < k → τ.1 76 j = υ.1 89 j) → zFix (F_X12_read Q) 3 [.ref 75, .int (nI i), .int (nI k)] [] τ := by
    intro υ a i f cm ok e
    refine zloop 66 (fun k hk ih => ?_)
    intro τ g1 g2 g3
    refine zFix_in ?_
    refine pk_le 66 k (fun d => ?_) (fun d => ?_)
    · refine h1 i a e ok τ (fun k h1 h2 h3 h4 => (g1 k h2).trans (f.1 k h1 h3 h4)) (g2.trans f.2.1) (by rw [g1 75 (by decide)]; exact f.2.2 18 (by decide)) (zcm_66 cm ok (fun j hj => g3 j (by omega)))
    · refine And.intro (vp_in_nI (N := 66) d (by decide)) (And.intro (vp_in_nI (N := 178) (by omega) (by decide)) ?_)
      show zFix (F_X12_read Q) 3 [.ref 75, .int (nI i), .int (nI k + 1)] [] (zput τ 76 (nI k).toNatClampNeg (τ.1 89 (nI k).toNatClampNeg))
      rw [nI_1, nI_clamp (by omega), g1 89 (by decide)]
      refine ih (k + 1) (by omega) (by omega) _ (fun j hj => (zput_ne hj).trans (g1 j hj)) g2 (fun j hj => ?_)
      rw [zputj]
      by_cases q : j = k
      · rw [if_pos q, q]
      · rw [if_neg q]
        exact g3 j (by omega)
  have L : ∀ i, i ≤ 151 → ∀ (υ : zM) (a : zA) (q : Nat), zFQ σ υ → zTr υ β t q → zCM (υ.1 89) a → zOk a → i ≤ q → q ≤ t → zrd β t (152 - i) a q i = o → zFix (F_X12_read Q) 1 [.ref 75, .int (nI i)] [] υ := by
    refine zloop 151 (fun i hi ih => ?_)
    intro υ a q f k cm ok iq qt inv
    have lr := zqL_r (β := β) (t := t) (p := q)
    obtain ⟨r1, r2, r3⟩ := zqE_r (β := β) qt
    rw [show 152 - i = (151 - i) + 1 by omega] at inv
    unfold zrd at inv
    refine zFix_in ?_
    refine And.intro (fun z => ?_) (fun z => ?_)
    · have k0 : zqK β t q = 0 := lr.2.2.2.mp (nI_inj (b := 0) (by omega) (by decide) (k.2.2.1.symm.trans z))
      rw [zif_1 k0] at inv
      exact B3 υ a i f cm ok inv.symm 0 (Nat.zero_le _) υ (fun _ _ => rfl) rfl (fun j hj => absurd hj (Nat.not_lt_zero j))
    · have k0 : zqK β t q ≠ 0 := fun y => z (by show υ.1 75 21 = 0; rw [k.2.2.1, lr.2.2.2.mpr y]; rfl)
      rw [zif_0 k0] at inv
      have := r3 k0
      refine r_item qt ok (hT.P f) k cm ⟨fun b r e τ6 f6 k6 x6 => e1 ?_, fun s e τ6 f6 k6 => ?_⟩
      · rw [e] at inv
        obtain ⟨ok2, q1, q2, q3⟩ := zit_r qt ok e
        obtain ⟨p1, p2, p3⟩ := zqE_r (β := β) q2
        have := p3 (by omega)
        have lr6 := zqL_r (β := β) (t := t) (p := r)
        refine And.intro (fun _ => ?_) (fun y => absurd (by show τ6.1 75 21 = 3; rw [k6.2.2.1, lr6.2.2.1.mpr q3]; rfl) y)
        refine r_behind q2 ((hT.P f).P f6) k6 (fun τ7 f7 k7 => ?_)
        show zFix (F_X12_read Q) 1 [.ref 75, .int (nI i + 1)] [] τ7
        rw [nI_1]
        refine ih (i + 1) (by omega) (by omega) τ7 b _ ((f.tr f6).tr f7.P) k7 (by rw [f7.1 89 (by decide)]; exact x6) ok2 (by omega) p2 ?_
        rw [show 152 - (i + 1) = 151 - i by omega]
        exact inv
      · rw [e] at inv
        have bad : zFix (F_X12_read Q) 2 [.ref 75] [] τ6 := by
          refine zFix_in ?_
          show Q (some (.int (-10 - τ6.1 75 19))) τ6
          rw [k6]
          exact h0 s inv.symm τ6 (f.tr f6)
        exact ⟨e0 bad, fun y => e1 (And.intro (fun x => absurd x y) (fun _ => bad))⟩
  have := u3 (by have := c.1; omega)
  have ok0 : zOk (zA0 (zqV β t (zqE β t 0))) := ⟨zA0_wf vl, rfl⟩
  exact L 1 (by decide) τ5 _ _ (F4.tr f5.P) k5 (by rw [f5.1 89 (by decide)]; exact g3) ok0 (by omega) w2 ez.symm
end
theorem neg_le : ∀ s, s < 151 → ((-10 : Int32) - nI s) ≤ 0 := by decide +kernel
theorem p_read {σ : zM} (h : zR σ) : zPr T_X11_read T_X12_read [] σ := by
  obtain ⟨a0, hW, hX, hM, hO⟩ := id h
  obtain ⟨t, t1, t2, t3, t4⟩ := hO.2.1
  obtain ⟨β, hβ⟩ : ∃ β : Nat → Nat, ∀ j, j < t → β j < 128 ∧ σ.1 52 j = nI (β j) ∧ σ.1 88 j = nI (β j) := by
    refine ⟨fun j => (σ.1 52 j).toNatClampNeg, fun j hj => ?_⟩
    obtain ⟨c, c1, c2, c3⟩ := t4 j hj
    show (σ.1 52 j).toNatClampNeg < 128 ∧ σ.1 52 j = nI (σ.1 52 j).toNatClampNeg ∧ σ.1 88 j = nI (σ.1 52 j).toNatClampNeg
    rw [c2, nI_clamp (by omega)]
    exact ⟨c1, rfl, c3⟩
  have hT : zTC σ t β := ⟨t1, t2, fun j hj => ⟨(hβ j hj).1, (hβ j hj).2.1⟩⟩
  refine ⟨rfl, zFix_in (t_tell hT (fun i a e i1 i2 ok τ f cx => ?_) (fun s e hs τ f => ?_))⟩
  · refine pk_le i 0 (fun z => by omega) (fun _ => ?_)
    refine t_like (t := 1) (o := 13) (a := a) (Or.inl ⟨rfl, rfl⟩) ok.1 cx (fun τ2 g1 g2 g3 => ⟨_, rfl, ?_⟩)
    have e51 : τ2.1 51 = τ.1 51 := g1 51 (by decide)
    have hTD : zTD τ2 t β := ⟨t1, by rw [g1 75 (by decide), f.1 75 (by decide) (by decide)]; exact t3, fun j hj => ⟨(hβ j hj).1, by rw [g1 88 (by decide), f.1 88 (by decide) (by decide)]; exact (hβ j hj).2.2⟩⟩
    refine r_read hTD (fun i' a' e' ok' υ k1 k2 k3 k4 => ?_) (fun s e' => absurd (e.symm.trans e') (by intro z; injection z))
    have ee : (Sum.inr (i, a) : Sum Nat (Nat × zA)) = .inr (i', a') := e.symm.trans e'
    injection ee with ee
    injection ee with ei ea
    subst ei; subst ea
    have k : ∀ k, 13 ≤ k → (k < 13 ∨ 24 < k) → k ≠ 51 → k ≠ 75 → k ≠ 76 → k ≠ 89 → k ≠ 90 → υ.1 k = σ.1 k := fun k h1 h2 h3 h4 h5 h6 h7 => by rw [k1 k h4 h5 h6 h7, g1 k (by omega), f.1 k h3 h2]
    refine ⟨rfl, a, ok.1, g3.eq (fun k h1 h2 => k1 k (by omega) (by omega) (by omega) (by omega)), k4, hO.C ⟨fun k' hk' => k k' (by omega) (by omega) (by omega) (by omega) (by omega) (by omega) (by omega), ?_, ?_, ?_⟩⟩
    · rw [k1 51 (by decide) (by decide) (by decide) (by decide), e51, f.2.2]
    · rw [k3, g1 75 (by decide), f.1 75 (by decide) (by decide)]
    · rw [k2, g2, f.2.1]
  · refine And.intro (fun _ => ⟨_, rfl, ?_⟩) (fun z => absurd (neg_le s (by omega)) z)
    have hTD : zTD τ t β := ⟨t1, by rw [f.1 75 (by decide) (by decide)]; exact t3, fun j hj => ⟨(hβ j hj).1, by rw [f.1 88 (by decide) (by decide)]; exact (hβ j hj).2.2⟩⟩
    refine r_read hTD (fun i' a' e' => absurd (e.symm.trans e') (by intro z; injection z)) (fun s' e' υ k1 => ?_)
    have ee : (Sum.inl s : Sum Nat (Nat × zA)) = .inl s' := e.symm.trans e'
    injection ee with es
    subst es
    refine ⟨rfl, (h.X (τ := τ) ⟨fun k hk => f.1 k (by omega) (by omega), f.2.2, f.2.1⟩).M ⟨fun k hk => k1.1 k (by omega) (by omega) (by omega), k1.2.2 18 (by decide), k1.2.1⟩⟩
