/-! Faults lie within the text. -/
section
variable {β : Nat → Nat} {t : Nat}
theorem zst3_s {a : zA} {q s : Nat} (hq : q ≤ t) (ht : t ≤ 150) (h : zst3 β t q a = .inl s) : s ≤ 150 := by
  unfold zst3 at h
  split at h
  · exact absurd h (by intro z; injection z)
  · injection h with h
    have := (zq_r (β := β) hq).2.1
    omega
theorem zbk_s (ht : t ≤ 150) : ∀ n q w s, q ≤ t → zbk β t n q w = .inl s → s ≤ 150 := by
  intro n
  induction n with
  | zero => intro q w s hq e; exact absurd e (by intro z; injection z)
  | succ n ih =>
    intro q w s hq e
    unfold zbk at e
    by_cases c : zqK β t q = 2
    · rw [zif_1 c] at e
      by_cases d : zqN β t q 0 15
      · rw [zif_1 d] at e
        exact ih _ _ s (zqE_r hq).2.1 e
      · rw [zif_0 d] at e
        injection e with e
        have := (zq_r (β := β) hq).2.1
        omega
    · rw [zif_0 c] at e
      exact absurd e (by intro z; injection z)
theorem zit_s {a : zA} {p s : Nat} (hp : p ≤ t) (ht : t ≤ 150) (h : zit β t a p = .inl s) : s ≤ 150 := by
  have s0 : ∀ q, q ≤ t → (Sum.inl (zqS β t q) : Sum Nat (zA × Nat)) = .inl s → s ≤ 150 := fun q hq e => by
    injection e with e
    have := (zq_r (β := β) hq).2.1
    omega
  have u2 := (zqE_r (β := β) hp).2.1
  have v2 := (zqE_r (β := β) u2).2.1
  have w2 := (zqE_r (β := β) v2).2.1
  have x2 := (zqE_r (β := β) w2).2.1
  have y2 := (zqE_r (β := β) x2).2.1
  have z2 := (zqE_r (β := β) y2).2.1
  unfold zit at h
  by_cases c1 : zqW β t p 1
  · rw [zif_1 c1] at h
    unfold zib at h
    by_cases c : zqN β t (zqE β t p) 0 1
    · rw [zif_1 c] at h
      cases eb : zbk β t 151 (zqE β t (zqE β t p)) 0 with
      | inl r =>
        rw [eb] at h
        have h : (Sum.inl r : Sum Nat (zA × Nat)) = .inl s := h
        injection h with h
        rw [← h]
        exact zbk_s ht 151 _ 0 r v2 eb
      | inr x =>
        obtain ⟨w, q⟩ := x
        rw [eb] at h
        have h : zst3 β t q (zs1 a 1 (zup (a 1) (zqV β t (zqE β t p)) w)) = .inl s := h
        exact zst3_s (zbk_r 151 _ 0 v2 (by decide) w q eb).2.2 ht h
    · rw [zif_0 c] at h
      exact s0 _ u2 h
  · rw [zif_0 c1] at h
    by_cases c2 : zqW β t p 2
    · rw [zif_1 c2] at h
      unfold zim at h
      by_cases d0 : 7 ≤ a 2 0
      · rw [zif_1 d0] at h; exact s0 _ hp h
      · rw [zif_0 d0] at h
        by_cases d1 : zqN β t (zqE β t p) 0 5
        · rw [zif_1 d1] at h
          by_cases d2 : zqN β t (zqE β t (zqE β t p)) 0 1
          · rw [zif_1 d2] at h
            by_cases d3 : zqN β t (zqE β t (zqE β t (zqE β t p))) 1 9
            · rw [zif_1 d3] at h
              by_cases d4 : zqN β t (zqE β t (zqE β t (zqE β t (zqE β t p)))) 1 20
              · rw [zif_1 d4] at h
                by_cases d5 : zqN β t (zqE β t (zqE β t (zqE β t (zqE β t (zqE β t p))))) 0 9 ∧ zqV β t (zqE β t (zqE β t (zqE β t (zqE β t (zqE β t p))))) % 2 = zqV β t (zqE β t (zqE β t p)) ∧ ∀ f, f < a 2 0 → a 7 f ≠ zqV β t (zqE β t (zqE β t (zqE β t (zqE β t (zqE β t p)))))
                · rw [zif_1 d5] at h; exact zst3_s z2 ht h
                · rw [zif_0 d5] at h; exact s0 _ y2 h
              · rw [zif_0 d4] at h; exact s0 _ x2 h
            · rw [zif_0 d3] at h; exact s0 _ w2 h
          · rw [zif_0 d2] at h; exact s0 _ v2 h
        · rw [zif_0 d1] at h; exact s0 _ u2 h
    · rw [zif_0 c2] at h
      by_cases c3 : zqW β t p 3
      · rw [zif_1 c3] at h
        unfold zic at h
        by_cases c : zqN β t (zqE β t p) 0 7 ∧ zqV β t (zqE β t p) < a 2 0
        · rw [zif_1 c] at h; exact zst3_s v2 ht h
        · rw [zif_0 c] at h; exact s0 _ u2 h
      · rw [zif_0 c3] at h; exact s0 _ hp h
end
/-! The class's telling; the reference's items. -/
section
variable {β : Nat → Nat} {t : Nat} {σ : zM} {Q : zQ}
theorem t_tell (hT : zTC σ t β) (h1 : ∀ i a, zre β t = .inr (i, a) → 1 ≤ i → i ≤ 151 → zOk a → ∀ τ, zFC σ τ → zCX 13 τ a → Q (some (.int (nI i))) τ) (h0 : ∀ s, zre β t = .inl s → s ≤ 150 → ∀ τ, zFC σ τ → Q (some (.int (-10 - nI s))) τ) : T_X9_tell [.ref 51, .ref 13] σ Q := by
  have ht := hT.1
  have hb : ∀ j, j < t → β j < 128 := fun j hj => (hT.2.2 j hj).1
  have s0 : ∀ q, q ≤ t → zqS β t q ≤ 150 := fun q hq => by have := (zq_r (β := β) hq).2.1; omega
  obtain ⟨u1, u2, u3⟩ := zqE_r (β := β) (Nat.zero_le t)
  obtain ⟨v1, v2, v3⟩ := zqE_r (β := β) u2
  obtain ⟨w1, w2, w3⟩ := zqE_r (β := β) v2
  refine ⟨rfl, zFix_in ?_⟩
  have f0 : zFT σ (zput σ 51 4 0) := zFT.p (by decide)
  refine t_advance (p := 0) (Nat.zero_le _) (hT.F f0) zput_s (fun τ f1 k1 => ?_)
  have F1 := f0.tr f1
  refine t_says (w := 0) (Nat.zero_le _) (by decide) (hT.F F1) k1 (fun c => e1 ?_) (fun c => e0 (zFix_in ?_))
  · refine t_takesN (l := 0) (m := 30) (by decide) (by decide) u2 (hT.F F1) k1.2.1 (fun n τ2 f2 k2 => n1 ?_) (fun n τ2 f2 k2 => n0 (zFix_in ?_))
    · have F2 := F1.tr f2
      have vl := n.2.2.2
      show T_X1_begin [.ref 13, .int (τ2.1 51 5)] τ2 _
      rw [k2.V n]
      refine t_begin (b := 13) (Or.inr rfl) (fun τ3 g1 g2 g3 => ?_)
      have e51 : τ3.1 51 = τ2.1 51 := g1 51 (by decide) (by decide)
      have f3 : zFC σ τ3 := F2.C.tr ⟨fun k h1 h2 => g1 k (by omega) (by omega), g2, by rw [e51]⟩
      refine t_takesStop (a := zA0 (zqV β t (zqE β t 0))) v2 (hT.C f3) (k2.eq e51).2.1 (fun z τ4 f4 k4 => n1 ?_) (fun z τ4 f4 k4 => n0 ?_)
      · obtain ⟨z3, _, _⟩ := zst3_r z
        refine t_advance w2 ((hT.C f3).F f4) k4.2.1 (fun τ5 f5 k5 => ?_)
        have ez : zre β t = zrd β t 151 (zA0 (zqV β t (zqE β t 0))) (zqE β t (zqE β t (zqE β t 0))) 1 := by rw [zre, zif_1 c, zif_1 n, zif_1 z3]
        obtain ⟨o, eo⟩ : ∃ o, zre β t = o := ⟨_, rfl⟩
        rw [eo] at ez h1 h0
        have L : ∀ i, i ≤ 151 → ∀ (υ : zM) (a : zA) (q : Nat), zFC σ υ → zTk υ β t q → zCX 13 υ a → zOk a → 1 ≤ i → i ≤ q → q ≤ t → zrd β t (152 - i) a q i = o → zFix (F_X9_tell Q) 2 [.ref 51, .ref 13, .int (nI i)] [] υ := by
          refine zloop 151 (fun i hi ih => ?_)
          intro υ a q f k cx ok i1 iq qt inv
          have kr := zqK_r (β := β) (t := t) (p := q)
          obtain ⟨r1, r2, r3⟩ := zqE_r (β := β) qt
          rw [show 152 - i = (151 - i) + 1 by omega] at inv
          unfold zrd at inv
          refine zFix_in ?_
          refine And.intro (fun z => ?_) (fun z => ?_)
          · have k0 : zqK β t q = 0 := nI_inj (b := 0) (by omega) (by decide) (k.2.2.1.symm.trans z)
            rw [zif_1 k0] at inv
            exact h1 i a inv.symm i1 hi ok υ f cx
          · have k0 : zqK β t q ≠ 0 := fun y => z (by show υ.1 51 2 = 0; rw [k.2.2.1, y]; rfl)
            rw [zif_0 k0] at inv
            have := r3 k0
            refine pk_lt 150 i (fun y => by omega) (fun y => ?_)
            refine t_item qt ok (hT.C f) k cx (fun b r e τ6 f6 k6 x6 => n1 ?_) (fun s e τ6 f6 k6 => n0 ?_)
            · rw [e] at inv
              obtain ⟨ok2, q1, q2, q3⟩ := zit_r qt ok e
              obtain ⟨p1, p2, p3⟩ := zqE_r (β := β) q2
              have := p3 (by omega)
              refine t_advance p2 ((hT.C f).C f6) k6.2.1 (fun τ7 f7 k7 => ?_)
              show zFix (F_X9_tell Q) 2 [.ref 51, .ref 13, .int (nI i + 1)] [] τ7
              rw [nI_1]
              refine ih (i + 1) (by omega) (by omega) τ7 b _ ((f.tr f6).tr f7.C) k7 (x6.T f7) ok2 (by omega) (by omega) p2 ?_
              rw [show 152 - (i + 1) = 151 - i by omega]
              exact inv
            · rw [e] at inv
              have hs : s ≤ 150 := zit_s qt hT.1 e
              show Q (some (.int (-10 - τ6.1 51 3))) τ6
              rw [k6]
              exact h0 s inv.symm hs τ6 (f.tr f6)
        have ok0 : zOk (zA0 (zqV β t (zqE β t 0))) := ⟨zA0_wf vl, rfl⟩
        have := u3 (by have := c.1; omega)
        exact L 1 (by decide) τ5 _ _ ((f3.tr f4.C).tr f5.C) k5 ((g3.T f4).T f5) ok0 (by decide) (by omega) w2 ez.symm
      · have nz : zqK β t (zqE β t (zqE β t 0)) ≠ 3 := fun y => by rw [zst3, if_pos y] at z; exact absurd z (by intro x; injection x)
        show Q (some (.int (-10 - τ4.1 51 3))) τ4
        rw [k4.1]
        exact h0 _ (by rw [zre, zif_1 c, zif_1 n, zif_0 nz]) (s0 _ v2) τ4 (f3.tr f4.C)
    · show Q (some (.int (-10 - τ2.1 51 3))) τ2
      rw [k2.1]
      exact h0 _ (by rw [zre, zif_1 c, zif_0 n]) (s0 _ u2) τ2 (F1.tr f2).C
  · show Q (some (.int (-10 - τ.1 51 3))) τ
    rw [k1.1]
    exact h0 _ (by rw [zre, zif_0 c]) (s0 _ (Nat.zero_le _)) τ F1.C
end
