/-! What the class's cells and the reference's have to do with each other. -/
def zTx (σ : zM) : Prop := ∃ t, t ≤ 150 ∧ σ.1 51 1 = nI t ∧ σ.1 75 18 = nI t ∧ ∀ j, j < t → ∃ c, c < 128 ∧ σ.1 52 j = nI c ∧ σ.1 88 j = nI c
def zIm (σ : zM) (i : Nat) : Prop := σ.1 50 i = σ.1 78 i ∧ (σ.1 78 i = 0 ∨ (σ.1 78 i = 1 ∧ ∃ a, zWF a ∧ zCX (25 + 12 * i) σ a ∧ zCM (fun k => σ.1 77 (178 * i + k)) a))
/-- all but the church itself -/
def zRo (σ : zM) : Prop := (∀ j, j < 3 → σ.1 74 j = σ.1 79 j) ∧ zTx σ ∧ (σ.2 0 9 = σ.2 75 4 ∧ σ.2 0 10 = σ.2 75 5) ∧ ∀ i, i < 2 → zIm σ i
def zR (σ : zM) : Prop := ∃ a, zWF a ∧ zCX 1 σ a ∧ zCM (σ.1 76) a ∧ zRo σ
theorem zIm.eq {σ τ : zM} {i : Nat} (hi : i < 2) (h : zIm σ i) (e50 : τ.1 50 = σ.1 50) (e78 : τ.1 78 = σ.1 78) (e77 : τ.1 77 = σ.1 77) (eX : ∀ k, 25 ≤ k → k < 49 → τ.1 k = σ.1 k) : zIm τ i := by
  obtain ⟨h1, h2⟩ := h
  refine ⟨by rw [e50, e78]; exact h1, ?_⟩
  rw [e78, e77]
  rcases h2 with h2 | ⟨h2, a, h3, h4, h5⟩
  · exact Or.inl h2
  · exact Or.inr ⟨h2, a, h3, h4.eq (fun k h6 h7 => eX k (by omega) (by omega)), h5⟩
theorem zRo.X {σ τ : zM} (h : zRo σ) (q : zQX σ τ) : zRo τ := by
  obtain ⟨h1, ⟨t, t1, t2, t3, t4⟩, h3, h4⟩ := h
  obtain ⟨q1, q2, q3⟩ := q
  refine ⟨fun j hj => by rw [q1 74 (by omega), q1 79 (by omega)]; exact h1 j hj, ⟨t, t1, by rw [q2]; exact t2, by rw [q1 75 (by omega)]; exact t3, fun j hj => by rw [q1 52 (by omega), q1 88 (by omega)]; exact t4 j hj⟩, by rw [q3]; exact h3, fun i hi => (h4 i hi).eq hi (q1 50 (by omega)) (q1 78 (by omega)) (q1 77 (by omega)) (fun k h5 h6 => q1 k (by omega))⟩
theorem zRo.M {σ τ : zM} (h : zRo σ) (q : zQM σ τ) : zRo τ := by
  obtain ⟨h1, ⟨t, t1, t2, t3, t4⟩, h3, h4⟩ := h
  obtain ⟨q1, q2, q3⟩ := q
  refine ⟨fun j hj => by rw [q1 74 (by omega), q1 79 (by omega)]; exact h1 j hj, ⟨t, t1, by rw [q1 51 (by omega)]; exact t2, by rw [q2]; exact t3, fun j hj => by rw [q1 52 (by omega), q1 88 (by omega)]; exact t4 j hj⟩, by rw [q3]; exact h3, fun i hi => (h4 i hi).eq hi (q1 50 (by omega)) (q1 78 (by omega)) (q1 77 (by omega)) (fun k h5 h6 => q1 k (by omega))⟩
theorem zCX.Q {σ τ : zM} {a : zA} (h : zCX 1 σ a) (q : zQX σ τ) : zCX 1 τ a := h.eq (fun k _ h2 => q.1 k (by omega))
theorem zCX.R {σ τ : zM} {a : zA} (h : zCX 1 σ a) (q : zQM σ τ) : zCX 1 τ a := h.eq (fun k _ h2 => q.1 k (by omega))
theorem zR.X {σ τ : zM} (h : zR σ) (q : zQX σ τ) : zR τ := by
  obtain ⟨a, h1, h2, h3, h4⟩ := h
  exact ⟨a, h1, h2.Q q, by rw [q.1 76 (by omega)]; exact h3, h4.X q⟩
theorem zR.M {σ τ : zM} (h : zR σ) (q : zQM σ τ) : zR τ := by
  obtain ⟨a, h1, h2, h3, h4⟩ := h
  exact ⟨a, h1, h2.R q, by rw [q.1 76 (by omega)]; exact h3, h4.M q⟩
/-- what the law asks of a pair of calls -/
def zPr (T U : zTy) (vs : List Value) (σ : zM) : Prop := T (.ref 0 :: vs) σ (fun v τ => ∃ r : Int32, v = some (.int r) ∧ U (.ref 75 :: vs) τ (fun w υ => w = some (.int r) ∧ zR υ))
def zPl (T U : zTy) (vs : List Value) (σ : zM) : Prop := T (.ref 0 :: vs) σ (fun v τ => ∃ r : Int64, v = some (.long r) ∧ U (.ref 75 :: vs) τ (fun w υ => w = some (.long r) ∧ zR υ))
-- refusals
def zBx (σ : zM) (j : Nat) : zM := zput σ 74 j (σ.1 74 j + 1)
def zBm (σ : zM) (j : Nat) : zM := zput σ 79 j (σ.1 79 j + 1)
theorem t_refuse {j : Nat} {r : Int32} {σ : zM} {Q : zQ} (hj : j < 3) (hr : (-2 : Int32) - r = nI j) (h : Q (some (.int r)) (zBx σ j)) : T_X11_refuse [.ref 0, .int r] σ Q := by
  refine ⟨rfl, zFix_in ?_⟩
  refine And.intro (by rw [hr]; exact vp_in_nI (N := 3) hj (by decide)) ?_
  refine And.intro (by rw [hr]; exact vp_in_nI (N := 3) hj (by decide)) ?_
  rw [hr, nI_clamp (by omega)]
  exact h
theorem t_refBad {σ : zM} {Q : zQ} (h : Q (some (.int (-2))) (zBx σ 0)) : T_X11_refuse [.ref 0, .int (-2)] σ Q := t_refuse (j := 0) (by decide) (by decide) h
theorem t_refNo {σ : zM} {Q : zQ} (h : Q (some (.int (-3))) (zBx σ 1)) : T_X11_refuse [.ref 0, .int (-3)] σ Q := t_refuse (j := 1) (by decide) (by decide) h
theorem t_refFull {σ : zM} {Q : zQ} (h : Q (some (.int (-4))) (zBx σ 2)) : T_X11_refuse [.ref 0, .int (-4)] σ Q := t_refuse (j := 2) (by decide) (by decide) h
theorem r_bad {r : Int32} {σ : zM} {Q : zQ} (h : Q (some (.int r)) (zBm σ 0)) : T_X12_bad [.ref 75, .int r] σ Q := by
  refine ⟨rfl, zFix_in ?_⟩
  exact And.intro (vp_in_nI (n := 0) (N := 3) (by decide) (by decide)) (And.intro (vp_in_nI (n := 0) (N := 3) (by decide) (by decide)) h)
theorem r_no {σ : zM} {Q : zQ} (h : Q (some (.int (-3))) (zBm σ 1)) : T_X12_no [.ref 75] σ Q := by
  refine ⟨rfl, zFix_in ?_⟩
  exact And.intro (vp_in_nI (n := 1) (N := 3) (by decide) (by decide)) (And.intro (vp_in_nI (n := 1) (N := 3) (by decide) (by decide)) h)
theorem r_full {σ : zM} {Q : zQ} (h : Q (some (.int (-4))) (zBm σ 2)) : T_X12_full [.ref 75] σ Q := by
  refine ⟨rfl, zFix_in ?_⟩
  exact And.intro (vp_in_nI (n := 2) (N := 3) (by decide) (by decide)) (And.intro (vp_in_nI (n := 2) (N := 3) (by decide) (by decide)) h)
/-- both refuse for the same reason -/
theorem zR.bb {σ : zM} {j : Nat} (h : zR σ) : zR (zBm (zBx σ j) j) := by
  obtain ⟨a, h1, h2, h3, h4, ⟨t, t1, t2, t3, t4⟩, h6, h7⟩ := h
  have e : ∀ k, k ≠ 74 → k ≠ 79 → (zBm (zBx σ j) j).1 k = σ.1 k := fun k q1 q2 => (zput_ne q2).trans (zput_ne q1)
  refine ⟨a, h1, h2.eq (fun k _ q => e k (by omega) (by omega)), by rw [e 76 (by decide) (by decide)]; exact h3, fun i hi => ?_, ⟨t, t1, by rw [e 51 (by decide) (by decide)]; exact t2, by rw [e 75 (by decide) (by decide)]; exact t3, fun j hj => by rw [e 52 (by decide) (by decide), e 88 (by decide) (by decide)]; exact t4 j hj⟩, h6, fun i hi => (h7 i hi).eq hi (e 50 (by decide) (by decide)) (e 78 (by decide) (by decide)) (e 77 (by decide) (by decide)) (fun k h5 h6 => e k (by omega) (by omega))⟩
  show (zput (zBx σ j) 79 j _).1 74 i = (zput (zBx σ j) 79 j _).1 79 i
  rw [zput_ne (by decide), zputj]
  show (zput σ 74 j _).1 74 i = _
  rw [zputj]
  have e79 : (zBx σ j).1 79 = σ.1 79 := zput_ne (by decide)
  rw [e79]
  by_cases q : i = j
  · rw [if_pos q, if_pos q, ← q, h4 i hi]
  · rw [if_neg q, if_neg q, h4 i hi]
theorem zR.sc {σ : zM} (h : zR σ) : σ.1 76 0 = nI (h.choose 2 0) := h.choose_spec.2.2.1.1
