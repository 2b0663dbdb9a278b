/-! Tokens of the text. -/
def zqd (c : Nat) : Nat := if 97 ≤ c ∧ c ≤ 122 then 1 else if 48 ≤ c ∧ c ≤ 57 then 2 else if c = 59 then 3 else 4
def zqs (β : Nat → Nat) : Nat → Nat → Nat
  | 0, p => p
  | n + 1, p => if β p = 32 then zqs β n (p + 1) else p
def zqr (β : Nat → Nat) (k : Nat) : Nat → Nat → Nat
  | 0, p => p
  | n + 1, p => if zqd (β p) = k then zqr β k n (p + 1) else p
def zqS (β : Nat → Nat) (t p : Nat) : Nat := zqs β (t - p) p
def zqK (β : Nat → Nat) (t p : Nat) : Nat := if zqS β t p < t then zqd (β (zqS β t p)) else 0
def zqE (β : Nat → Nat) (t p : Nat) : Nat := if zqS β t p < t then (if zqK β t p = 1 ∨ zqK β t p = 2 then zqr β (zqK β t p) (t - (zqS β t p + 1)) (zqS β t p + 1) else zqS β t p + 1) else zqS β t p
def zqV (β : Nat → Nat) (t p : Nat) : Nat := if zqE β t p - zqS β t p = 1 then β (zqS β t p) - 48 else 10 * (β (zqS β t p) - 48) + (β (zqS β t p + 1) - 48)
theorem zqs_r {β : Nat → Nat} : ∀ n p, p ≤ zqs β n p ∧ zqs β n p ≤ p + n
  | 0, p => ⟨Nat.le_refl _, Nat.le_refl _⟩
  | n + 1, p => by
    have := zqs_r (β := β) n (p + 1)
    unfold zqs
    split <;> omega
theorem zqr_r {β : Nat → Nat} {k : Nat} : ∀ n p, p ≤ zqr β k n p ∧ zqr β k n p ≤ p + n ∧ ∀ j, p ≤ j → j < zqr β k n p → zqd (β j) = k
  | 0, p => ⟨Nat.le_refl _, Nat.le_refl _, fun j h1 h2 => absurd h2 (by show ¬ j < p; omega)⟩
  | n + 1, p => by
    have := zqr_r (β := β) (k := k) n (p + 1)
    unfold zqr
    split
    · rename_i e
      refine ⟨by omega, by omega, fun j h1 h2 => ?_⟩
      by_cases q : j = p
      · rw [q]; exact e
      · exact this.2.2 j (by omega) h2
    · exact ⟨Nat.le_refl _, by omega, fun j h1 h2 => by omega⟩
theorem zqd_r (c : Nat) : 1 ≤ zqd c ∧ zqd c ≤ 4 ∧ (zqd c = 2 → 48 ≤ c ∧ c ≤ 57) := by
  unfold zqd
  (repeat' split) <;> (refine ⟨by decide, by decide, fun h => ?_⟩) <;> omega
theorem zq_r {β : Nat → Nat} {t p : Nat} (h : p ≤ t) : p ≤ zqS β t p ∧ zqS β t p ≤ t ∧ zqS β t p ≤ zqE β t p ∧ zqE β t p ≤ t ∧ (zqS β t p < t → zqS β t p < zqE β t p) := by
  have h1 := zqs_r (β := β) (t - p) p
  have e : zqS β t p = zqs β (t - p) p := rfl
  rw [← e] at h1
  refine ⟨by omega, by omega, ?_⟩
  unfold zqE
  by_cases c : zqS β t p < t
  · rw [if_pos c]
    have h2 := zqr_r (β := β) (k := zqK β t p) (t - (zqS β t p + 1)) (zqS β t p + 1)
    split
    · exact ⟨by omega, by omega, fun _ => by omega⟩
    · exact ⟨by omega, by omega, fun _ => by omega⟩
  · rw [if_neg c]
    exact ⟨Nat.le_refl _, by omega, fun z => absurd z c⟩
theorem zqK_r {β : Nat → Nat} {t p : Nat} : zqK β t p ≤ 4 ∧ (zqK β t p = 0 ↔ ¬ zqS β t p < t) := by
  unfold zqK
  by_cases c : zqS β t p < t
  · rw [if_pos c]
    have := zqd_r (β (zqS β t p))
    exact ⟨this.2.1, by omega⟩
  · rw [if_neg c]
    exact ⟨by decide, by simp [c]⟩
def zTC (σ : zM) (t : Nat) (β : Nat → Nat) : Prop := t ≤ 150 ∧ σ.1 51 1 = nI t ∧ ∀ j, j < t → β j < 128 ∧ σ.1 52 j = nI (β j)
def zTD (σ : zM) (t : Nat) (β : Nat → Nat) : Prop := t ≤ 150 ∧ σ.1 75 18 = nI t ∧ ∀ j, j < t → β j < 128 ∧ σ.1 88 j = nI (β j)
def zFT (σ τ : zM) : Prop := (∀ k, k ≠ 51 → τ.1 k = σ.1 k) ∧ τ.2 = σ.2 ∧ τ.1 51 1 = σ.1 51 1
def zFR (σ τ : zM) : Prop := (∀ k, k ≠ 75 → τ.1 k = σ.1 k) ∧ τ.2 = σ.2 ∧ ∀ j, (j < 19 ∨ 22 < j) → τ.1 75 j = σ.1 75 j
theorem zFT.tr {σ τ υ : zM} (h : zFT σ τ) (g : zFT τ υ) : zFT σ υ := ⟨fun k hk => (g.1 k hk).trans (h.1 k hk), g.2.1.trans h.2.1, g.2.2.trans h.2.2⟩
theorem zFR.tr {σ τ υ : zM} (h : zFR σ τ) (g : zFR τ υ) : zFR σ υ := ⟨fun k hk => (g.1 k hk).trans (h.1 k hk), g.2.1.trans h.2.1, fun j hj => (g.2.2 j hj).trans (h.2.2 j hj)⟩
theorem zFT.p {σ : zM} {j : Nat} {v : Int32} (h : 2 ≤ j) : zFT σ (zput σ 51 j v) := ⟨fun k hk => zput_ne hk, rfl, zput_u (by omega)⟩
theorem zFR.p {σ : zM} {j : Nat} {v : Int32} (h : 19 ≤ j ∧ j ≤ 22) : zFR σ (zput σ 75 j v) := ⟨fun k hk => zput_ne hk, rfl, fun i hi => zput_u (by omega)⟩
theorem zFT.rf {σ : zM} : zFT σ σ := ⟨fun _ _ => rfl, rfl, rfl⟩
theorem zFR.rf {σ : zM} : zFR σ σ := ⟨fun _ _ => rfl, rfl, fun _ _ => rfl⟩
theorem zTC.F {σ τ : zM} {t : Nat} {β : Nat → Nat} (h : zTC σ t β) (g : zFT σ τ) : zTC τ t β := ⟨h.1, g.2.2.trans h.2.1, fun j hj => by rw [g.1 52 (by decide)]; exact h.2.2 j hj⟩
theorem zTD.F {σ τ : zM} {t : Nat} {β : Nat → Nat} (h : zTD σ t β) (g : zFR σ τ) : zTD τ t β := ⟨h.1, (g.2.2 18 (by decide)).trans h.2.1, fun j hj => by rw [g.1 88 (by decide)]; exact h.2.2 j hj⟩
def zTk (σ : zM) (β : Nat → Nat) (t p : Nat) : Prop := σ.1 51 3 = nI (zqS β t p) ∧ σ.1 51 4 = nI (zqE β t p) ∧ σ.1 51 2 = nI (zqK β t p) ∧ (zqK β t p = 2 → σ.1 51 5 = if zqE β t p - zqS β t p ≤ 2 then nI (zqV β t p) else -1)
def zqL (β : Nat → Nat) (t p : Nat) : Nat := if zqK β t p = 2 ∧ 2 < zqE β t p - zqS β t p then 4 else zqK β t p
def zTr (σ : zM) (β : Nat → Nat) (t p : Nat) : Prop := σ.1 75 19 = nI (zqS β t p) ∧ σ.1 75 20 = nI (zqE β t p - zqS β t p) ∧ σ.1 75 21 = nI (zqL β t p) ∧ (zqL β t p = 2 → σ.1 75 22 = nI (zqV β t p))
theorem t_sortOf {c : Nat} {σ : zM} {Q : zQ} (hc : c < 128) (h : Q (some (.int (nI (zqd c)))) σ) : T_X9_sortOf [.int (nI c)] σ Q := by
  have B2 : ¬ (97 ≤ c ∧ c ≤ 122) → ¬ (48 ≤ c ∧ c ≤ 57) → zFix (F_X9_sortOf Q) 2 [.int (nI c)] [] σ := by
    intro n1 n2
    rw [zqd, if_neg n1, if_neg n2] at h
    refine zFix_in ?_
    refine And.intro (fun z => ?_) (fun z => ?_)
    · rw [if_neg (fun q => z (by rw [q]; rfl))] at h
      exact h
    · rw [if_pos (nI_inj (b := 59) (by omega) (by decide) z)] at h
      exact h
  have B1 : ¬ (97 ≤ c ∧ c ≤ 122) → zFix (F_X9_sortOf Q) 1 [.int (nI c)] [] σ := by
    intro n1
    refine zFix_in ?_
    refine pk_lt c 48 (fun z => B2 n1 (by omega)) (fun z => ?_)
    refine pk_lt 57 c (fun y => B2 n1 (by omega)) (fun y => ?_)
    rw [zqd, if_neg n1, if_pos ⟨z, y⟩] at h
    exact h
  refine ⟨rfl, zFix_in ?_⟩
  refine pk_lt c 97 (fun z => B1 (by omega)) (fun z => ?_)
  refine pk_lt 122 c (fun y => B1 (by omega)) (fun y => ?_)
  rw [zqd, if_pos ⟨z, y⟩] at h
  exact h
theorem t_figures {β : Nat → Nat} {t p : Nat} {σ : zM} {Q : zQ} (hp : p ≤ t) (hT : zTC σ t β) (e3 : σ.1 51 3 = nI (zqS β t p)) (e4 : σ.1 51 4 = nI (zqE β t p)) (hk : zqK β t p = 2) (h : Q (some (.int (if zqE β t p - zqS β t p ≤ 2 then nI (zqV β t p) else -1))) σ) : T_X9_figures [.ref 51] σ Q := by
  obtain ⟨r1, r2, r3, r4, r5⟩ := zq_r (β := β) hp
  have ht := hT.1
  have sl : zqS β t p < t := by
    by_cases c : zqS β t p < t
    · exact c
    · have := zqK_r.2.mpr c; omega
  have r5 := r5 sl
  have dg : ∀ j, zqS β t p ≤ j → j < zqE β t p → 48 ≤ β j ∧ β j ≤ 57 := by
    intro j h1 h2
    by_cases q : j = zqS β t p
    · rw [q]
      refine (zqd_r _).2.2 ?_
      have e := hk
      rw [zqK, if_pos sl] at e
      exact e
    · have e : zqE β t p = zqr β (zqK β t p) (t - (zqS β t p + 1)) (zqS β t p + 1) := by
        rw [zqE, if_pos sl, if_pos (Or.inr hk)]
      rw [e] at h2
      have := (zqr_r (β := β) (k := zqK β t p) (t - (zqS β t p + 1)) (zqS β t p + 1)).2.2 j (by omega) h2
      exact (zqd_r _).2.2 (this.trans hk)
  have it : ∀ (n j : Nat), zqS β t p ≤ j → j < zqE β t p → zFix (F_X9_figures Q) 1 [.ref 51, .int (nI (n * 10 + (β j - 48))), .int (nI (j + 1))] [] σ → zFix (F_X9_figures Q) 1 [.ref 51, .int (nI n), .int (nI j)] [] σ := by
    intro n j h1 h2 g
    obtain ⟨d1, d2⟩ := dg j h1 h2
    refine zFix_in ?_
    refine pk_le (zqE β t p) j (fun z => by omega) (fun z => ?_) e4 rfl
    refine And.intro (vp_in_nI (N := 150) (by omega) (by decide)) ?_
    show zFix (F_X9_figures Q) 1 [.ref 51, .int (nI n * 10 + σ.1 52 (nI j).toNatClampNeg - 48), .int (nI j + 1)] [] σ
    rw [nI_clamp (by omega), (hT.2.2 j (by omega)).2, show (10 : Int32) = nI 10 from rfl, pk_mul, nI_add, show (48 : Int32) = nI 48 from rfl, pk_sub (by omega), nI_1, show n * 10 + β j - 48 = n * 10 + (β j - 48) by omega]
    exact g
  have done : ∀ n : Nat, nI n = nI (zqV β t p) → zqE β t p - zqS β t p ≤ 2 → zFix (F_X9_figures Q) 1 [.ref 51, .int (nI n), .int (nI (zqE β t p))] [] σ := by
    intro n en le
    rw [if_pos le, ← en] at h
    refine zFix_in ?_
    exact pk_le (zqE β t p) (zqE β t p) (fun _ => h) (fun z => by omega) e4 rfl
  refine ⟨rfl, zFix_in ?_⟩
  show (σ.1 51 4 - σ.1 51 3 ≤ 2 → zFix (F_X9_figures Q) 1 [.ref 51, .int (nI 0), .int (σ.1 51 3)] [] σ) ∧ (¬ σ.1 51 4 - σ.1 51 3 ≤ 2 → Q (some (.int (-1))) σ)
  rw [e4, e3, pk_sub r3]
  refine pk_le (zqE β t p - zqS β t p) 2 (fun le => ?_) (fun le => ?_)
  · refine it 0 (zqS β t p) (Nat.le_refl _) r5 ?_
    by_cases q : zqE β t p - zqS β t p = 1
    · rw [show zqS β t p + 1 = zqE β t p by omega]
      refine done _ ?_ le
      rw [zqV, if_pos q, Nat.zero_mul, Nat.zero_add]
    · refine it _ (zqS β t p + 1) (by omega) (by omega) ?_
      rw [show zqS β t p + 1 + 1 = zqE β t p by omega]
      refine done _ ?_ le
      rw [zqV, if_neg q, Nat.zero_mul, Nat.zero_add, Nat.mul_comm]
  · rw [if_neg (by omega)] at h
    exact h
theorem t_advance {β : Nat → Nat} {t p : Nat} {σ : zM} {Q : zQ} (hp : p ≤ t) (hT : zTC σ t β) (e4 : σ.1 51 4 = nI p) (h : ∀ τ, zFT σ τ → zTk τ β t p → Q none τ) : T_X9_advance [.ref 51] σ Q := by
  obtain ⟨r1, r2, r3, r4, r5⟩ := zq_r (β := β) hp
  have ht := hT.1
  have kr := zqK_r (β := β) (t := t) (p := p)
  have B6 : ∀ τ, zFT σ τ → τ.1 51 3 = nI (zqS β t p) → τ.1 51 4 = nI (zqE β t p) → τ.1 51 2 = nI (zqK β t p) → zFix (F_X9_advance Q) 6 [.ref 51] [] τ := by
    intro τ fr g3 g4 g2
    refine zFix_in ?_
    refine And.intro (fun z => ?_) (fun z => ?_)
    · refine h _ (fr.tr (zFT.p (v := -1) (show 2 ≤ 5 by decide))) ⟨g3, g4, g2, fun e => absurd ?_ z⟩
      rw [g2, e]
      rfl
    · have e : zqK β t p = 2 := nI_inj (b := 2) (by omega) (by decide) (g2.symm.trans z)
      refine t_figures hp (hT.F fr) g3 g4 e ?_
      exact h _ (fr.tr (zFT.p (show 2 ≤ 5 by decide))) ⟨g3, g4, g2, fun _ => zput_s⟩
  have B5 : zqS β t p < t → (zqK β t p = 1 ∨ zqK β t p = 2) → ∀ e, e ≤ t → ∀ τ, zFT σ τ → τ.1 51 3 = nI (zqS β t p) → τ.1 51 4 = nI e → τ.1 51 2 = nI (zqK β t p) → zqr β (zqK β t p) (t - e) e = zqE β t p → zFix (F_X9_advance Q) 5 [.ref 51, .int 1] [] τ := by
    intro sl k12
    refine zloop t (fun e he ih => ?_)
    intro τ fr g3 g4 g2 inv
    have hT' := hT.F fr
    refine zFix_in (e1 ?_)
    show (τ.1 51 1 ≤ τ.1 51 4 → zFix (F_X9_advance Q) 6 [.ref 51] [] τ) ∧ (¬ τ.1 51 1 ≤ τ.1 51 4 → vp_in (τ.1 51 4) 150 ∧ T_X9_sortOf [.int (τ.1 52 (τ.1 51 4).toNatClampNeg)] τ _)
    rw [hT'.2.1, g4]
    refine pk_le t e (fun d => ?_) (fun d => ⟨vp_in_nI (by omega) (by decide), ?_⟩)
    · have : t - e = 0 := by omega
      rw [this] at inv
      have inv : e = zqE β t p := inv
      exact B6 τ fr g3 (by rw [g4, inv]) g2
    · rw [nI_clamp (by omega), (hT'.2.2 e d).2]
      refine t_sortOf (hT'.2.2 e d).1 ?_
      have dr := zqd_r (β e)
      rw [show t - e = (t - (e + 1)) + 1 by omega] at inv
      have inv : (if zqd (β e) = zqK β t p then zqr β (zqK β t p) (t - (e + 1)) (e + 1) else e) = zqE β t p := inv
      show (¬ nI (zqd (β e)) = τ.1 51 2 → zFix (F_X9_advance Q) 6 [.ref 51] [] τ) ∧ (nI (zqd (β e)) = τ.1 51 2 → zFix (F_X9_advance Q) 5 [.ref 51, .int 1] [] (zput τ 51 4 (τ.1 51 4 + 1)))
      rw [g2, g4, nI_1]
      refine And.intro (fun z => ?_) (fun z => ?_)
      · rw [if_neg (fun q => z (by rw [q]))] at inv
        exact B6 τ fr g3 (by rw [g4, inv]) g2
      · rw [if_pos (nI_inj (by omega) (by omega) z)] at inv
        exact ih (e + 1) (by omega) (by omega) _ (fr.tr (zFT.p (by decide))) g3 zput_s g2 inv
  have B2 : ∀ τ, zFT σ τ → τ.1 51 3 = nI (zqS β t p) → zFix (F_X9_advance Q) 2 [.ref 51] [] τ := by
    intro τ fr g3
    have hT' := hT.F fr
    refine zFix_in ?_
    show (τ.1 51 3 < τ.1 51 1 → vp_in (τ.1 51 3) 150 ∧ T_X9_sortOf [.int (τ.1 52 (τ.1 51 3).toNatClampNeg)] (zput τ 51 4 (τ.1 51 3)) _) ∧ (¬ τ.1 51 3 < τ.1 51 1 → Q none (zput (zput τ 51 4 (τ.1 51 3)) 51 2 0))
    rw [g3, hT'.2.1]
    have fr1 := fr.tr (zFT.p (v := nI (zqS β t p)) (show 2 ≤ 4 by decide))
    refine pk_lt (zqS β t p) t (fun d => ⟨vp_in_nI (by omega) (by decide), ?_⟩) (fun d => ?_)
    · rw [nI_clamp (by omega), (hT'.2.2 _ d).2]
      refine t_sortOf (hT'.2.2 _ d).1 ?_
      have ek : zqd (β (zqS β t p)) = zqK β t p := by rw [zqK, if_pos d]
      rw [ek]
      show (nI (zqK β t p) = 1 → zFix (F_X9_advance Q) 3 [.ref 51] [] (zput (zput (zput τ 51 4 (nI (zqS β t p))) 51 2 (nI (zqK β t p))) 51 4 (nI (zqS β t p) + 1))) ∧ (¬ nI (zqK β t p) = 1 → (¬ nI (zqK β t p) = 2 → zFix (F_X9_advance Q) 4 [.ref 51] [.int 0] (zput (zput (zput τ 51 4 (nI (zqS β t p))) 51 2 (nI (zqK β t p))) 51 4 (nI (zqS β t p) + 1))) ∧ (nI (zqK β t p) = 2 → zFix (F_X9_advance Q) 3 [.ref 51] [] (zput (zput (zput τ 51 4 (nI (zqS β t p))) 51 2 (nI (zqK β t p))) 51 4 (nI (zqS β t p) + 1))))
      rw [nI_1]
      have fr3 := (fr1.tr (zFT.p (v := nI (zqK β t p)) (show 2 ≤ 2 by decide))).tr (zFT.p (v := nI (zqS β t p + 1)) (show 2 ≤ 4 by decide))
      have B3 : (zqK β t p = 1 ∨ zqK β t p = 2) → zFix (F_X9_advance Q) 3 [.ref 51] [] (zput (zput (zput τ 51 4 (nI (zqS β t p))) 51 2 (nI (zqK β t p))) 51 4 (nI (zqS β t p + 1))) := by
        intro k12
        refine zFix_in (zFix_in (B5 d k12 (zqS β t p + 1) (by omega) _ fr3 g3 zput_s rfl ?_))
        rw [zqE, if_pos d, if_pos k12]
      refine And.intro (fun z => B3 (Or.inl (nI_inj (b := 1) (by omega) (by decide) z))) (fun z => And.intro (fun y => ?_) (fun y => B3 (Or.inr (nI_inj (b := 2) (by omega) (by decide) y))))
      refine zFix_in (zFix_in (e0 (B6 _ fr3 g3 ?_ rfl)))
      rw [zput_s, zqE, if_pos d, if_neg (fun q => by rcases q with q | q; exact z (by rw [q]; rfl); exact y (by rw [q]; rfl))]
    · have ek : zqK β t p = 0 := kr.2.mpr (by omega)
      refine h _ (fr1.tr (zFT.p (show 2 ≤ 2 by decide))) ⟨g3, ?_, ?_, fun z => by omega⟩
      · show (zput τ 51 4 (nI (zqS β t p))).1 51 4 = _
        rw [zput_s, zqE, if_neg (by omega)]
      · rw [zput_s, ek]
        rfl
  have B1 : ∀ q, q ≤ t → ∀ τ, zFT σ τ → τ.1 51 3 = nI q → zqs β (t - q) q = zqS β t p → zFix (F_X9_advance Q) 1 [.ref 51] [] τ := by
    refine zloop t (fun q hq ih => ?_)
    intro τ fr g3 inv
    have hT' := hT.F fr
    refine zFix_in ?_
    show (τ.1 51 1 ≤ τ.1 51 3 → zFix (F_X9_advance Q) 2 [.ref 51] [] τ) ∧ (¬ τ.1 51 1 ≤ τ.1 51 3 → vp_in (τ.1 51 3) 150 ∧ (¬ τ.1 52 (τ.1 51 3).toNatClampNeg = 32 → zFix (F_X9_advance Q) 2 [.ref 51] [] τ) ∧ (τ.1 52 (τ.1 51 3).toNatClampNeg = 32 → zFix (F_X9_advance Q) 1 [.ref 51] [] (zput τ 51 3 (τ.1 51 3 + 1))))
    rw [hT'.2.1, g3]
    refine pk_le t q (fun d => ?_) (fun d => ⟨vp_in_nI (by omega) (by decide), ?_⟩)
    · have : t - q = 0 := by omega
      rw [this] at inv
      have inv : q = zqS β t p := inv
      exact B2 τ fr (by rw [g3, inv])
    · rw [nI_clamp (by omega), (hT'.2.2 q d).2, nI_1]
      have bl := (hT'.2.2 q d).1
      rw [show t - q = (t - (q + 1)) + 1 by omega] at inv
      have inv : (if β q = 32 then zqs β (t - (q + 1)) (q + 1) else q) = zqS β t p := inv
      refine And.intro (fun z => ?_) (fun z => ?_)
      · rw [if_neg (fun y => z (by rw [y]; rfl))] at inv
        exact B2 τ fr (by rw [g3, inv])
      · rw [if_pos (nI_inj (b := 32) (by omega) (by decide) z)] at inv
        exact ih (q + 1) (by omega) (by omega) _ (fr.tr (zFT.p (by decide))) zput_s inv
  refine ⟨rfl, zFix_in ?_⟩
  show zFix (F_X9_advance Q) 1 [.ref 51] [] (zput σ 51 3 (σ.1 51 4))
  rw [e4]
  exact B1 p hp _ (zFT.p (by decide)) zput_s rfl
