/-! The class's church: questions. -/
theorem e1 {A B : Prop} (b : B) : ((1 : Int32) = 0 → A) ∧ (¬ (1 : Int32) = 0 → B) := ⟨fun z => absurd z (by decide), fun _ => b⟩
theorem e0 {A B : Prop} (a : A) : ((0 : Int32) = 0 → A) ∧ (¬ (0 : Int32) = 0 → B) := ⟨fun _ => a, fun z => absurd rfl z⟩
theorem n1 {A B : Prop} (a : A) : (¬ (1 : Int32) = 0 → A) ∧ ((1 : Int32) = 0 → B) := ⟨fun _ => a, fun z => absurd z (by decide)⟩
theorem n0 {A B : Prop} (b : B) : (¬ (0 : Int32) = 0 → A) ∧ ((0 : Int32) = 0 → B) := ⟨fun z => absurd rfl z, fun _ => b⟩
theorem t_hasFamily {x : Int32} {n : Nat} {σ : zM} {Q : zQ} (hn : n < 1000) (e : σ.1 1 2 = nI n) (h1 : ∀ f, f < n → x = nI f → Q (some (.int 1)) σ) (h0 : (∀ f, f < n → x ≠ nI f) → Q (some (.int 0)) σ) : T_X1_hasFamily [.ref 1, .int x] σ Q := by
  refine ⟨rfl, zFix_in ?_⟩
  refine And.intro (fun c => ?_) (fun c => ?_)
  · exact And.intro (Or.inl rfl) (h0 (fun f hf ef => by rw [ef] at c; exact nI_pos (by omega) c))
  · show (σ.1 1 2 ≤ x → _) ∧ _
    rw [e]
    refine And.intro (fun d => ?_) (fun d => ?_)
    · exact And.intro (Or.inl rfl) (h0 (fun f hf ef => by rw [ef, nI_leI (by omega) (by omega)] at d; omega))
    · obtain ⟨f, hf, ef⟩ := nI_of c
      refine And.intro (Or.inr rfl) (h1 f ?_ ef)
      rw [ef, nI_leI (by omega) hf] at d
      omega
theorem t_isTaken {b n : Nat} {p : Int32} {σ : zM} {Q : zQ} (hb : b = 1 ∨ b = 13) (hn : n ≤ 7) (e : σ.1 b 2 = nI n) (h1 : (∃ f, f < n ∧ σ.1 (b + 6) f = p) → Q (some (.int 1)) σ) (h0 : (∀ f, f < n → σ.1 (b + 6) f ≠ p) → Q (some (.int 0)) σ) : T_X1_isTaken [.ref b, .int p] σ Q := by
  have L : ∀ f, f ≤ n → (∀ g, g < f → σ.1 (b + 6) g ≠ p) → zFix (F_X1_isTaken Q) 1 [.ref b, .int p, .int (nI f)] [] σ := by
    refine zloop n (fun f hf ih => ?_)
    intro inv
    refine zFix_in ?_
    rcases hb with rfl | rfl
    · refine pk_le n f (fun q => ?_) (fun q => ?_) e rfl
      · exact And.intro (Or.inl rfl) (h0 (fun g hg => inv g (by omega)))
      · refine And.intro (vp_in_nI (N := 7) (by omega) (by decide)) ?_
        rw [nI_clamp (by omega)]
        refine And.intro (fun d => ?_) (fun d => ?_)
        · show zFix (F_X1_isTaken Q) 1 [.ref 1, .int p, .int (nI f + 1)] [] σ
          rw [nI_1]
          refine ih (f + 1) (by omega) (by omega) (fun g hg => ?_)
          by_cases z : g = f
          · rw [z]; exact d
          · exact inv g (by omega)
        · exact And.intro (Or.inr rfl) (h1 ⟨f, q, d⟩)
    · refine pk_le n f (fun q => ?_) (fun q => ?_) e rfl
      · exact And.intro (Or.inl rfl) (h0 (fun g hg => inv g (by omega)))
      · refine And.intro (vp_in_nI (N := 7) (by omega) (by decide)) ?_
        rw [nI_clamp (by omega)]
        refine And.intro (fun d => ?_) (fun d => ?_)
        · show zFix (F_X1_isTaken Q) 1 [.ref 13, .int p, .int (nI f + 1)] [] σ
          rw [nI_1]
          refine ih (f + 1) (by omega) (by omega) (fun g hg => ?_)
          by_cases z : g = f
          · rw [z]; exact d
          · exact inv g (by omega)
        · exact And.intro (Or.inr rfl) (h1 ⟨f, q, d⟩)
  refine ⟨rfl, zFix_in ?_⟩
  exact L 0 (Nat.zero_le _) (fun g hg => absurd hg (Nat.not_lt_zero g))
/-- isPewOf(pew, b) -/
theorem rem2 {p : Nat} (hp : p < 2 ^ 31) : nI p - nI p / 2 * 2 = nI (p % 2) := pk_rem hp (d := 2) (by decide) (by decide)
theorem t_isPewOf {x y : Int32} {σ : zM} {Q : zQ} (h1 : ∀ p, p ≤ 9 → x = nI p → y = nI (p % 2) → Q (some (.int 1)) σ) (h0 : (∀ p, p ≤ 9 → x = nI p → y ≠ nI (p % 2)) → Q (some (.int 0)) σ) : T_X11_isPewOf [.int x, .int y] σ Q := by
  refine ⟨rfl, zFix_in ?_⟩
  refine t_X11_within (a := 0) (b := 9) (by decide) (by decide) (fun p _ hp ep => ?_) (fun e => ?_)
  · refine e1 (And.intro (by decide) ?_)
    subst ep
    rw [rem2 (by omega)]
    refine And.intro (fun d => ?_) (fun d => ?_)
    · refine And.intro (Or.inl rfl) (h0 (fun q hq eq => ?_))
      rw [← nI_inj (by omega) (by omega) eq]
      exact fun z => d z.symm
    · exact And.intro (Or.inr rfl) (h1 p hp rfl d.symm)
  · exact e0 (And.intro (Or.inl rfl) (h0 (fun p hp ep => absurd ep (e p (Nat.zero_le _) hp))))
theorem r_isPewOf {x y : Int32} {σ : zM} {Q : zQ} (h1 : ∀ p, p ≤ 9 → x = nI p → y = nI (p % 2) → Q (some (.int 1)) σ) (h0 : (∀ p, p ≤ 9 → x = nI p → y ≠ nI (p % 2)) → Q (some (.int 0)) σ) : T_X12_isPewOf [.int x, .int y] σ Q := by
  refine ⟨rfl, zFix_in ?_⟩
  refine t_inN (a := 0) (b := 9) (by decide) rfl rfl (fun p _ hp ep => ?_) (fun e => ?_)
  · refine e1 (And.intro (by decide) ?_)
    subst ep
    rw [rem2 (by omega)]
    refine And.intro (fun d => ?_) (fun d => ?_)
    · refine And.intro (Or.inl rfl) (h0 (fun q hq eq => ?_))
      rw [← nI_inj (by omega) (by omega) eq]
      exact fun z => d z.symm
    · exact And.intro (Or.inr rfl) (h1 p hp rfl d.symm)
  · exact e0 (And.intro (Or.inl rfl) (h0 (fun p hp ep => absurd ep (e p (Nat.zero_le _) hp))))
/-- the reference's isTaken, on its row now or anew -/
theorem r_isTaken {o n : Nat} {p : Int32} {σ : zM} {Q : zQ} (ho : o = 76 ∨ o = 89) (hn : n ≤ 7) (e : σ.1 o 0 = nI n) (h1 : (∃ f, f < n ∧ σ.1 o (10 + 6 * f) = p) → Q (some (.int 1)) σ) (h0 : (∀ f, f < n → σ.1 o (10 + 6 * f) ≠ p) → Q (some (.int 0)) σ) : T_X12_isTaken [.ref o, .int p] σ Q := by
  have hz : zil o = 178 ∨ zil o = 66 := by rcases ho with rfl | rfl; exact Or.inl rfl; exact Or.inr rfl
  have hin : ∀ {i : Nat}, i < 66 → vp_in (nI i) (zil o) := fun {i} hi => by rcases hz with z | z <;> (rw [z]; exact vp_in_nI (by omega) (by decide))
  have L : ∀ f, f ≤ n → ∀ d, d < 2 → (d = 1 ↔ ∃ g, g < f ∧ σ.1 o (10 + 6 * g) = p) → zFix (F_X12_isTaken Q) 1 [.ref o, .int p, .int (nI d), .int (nI f)] [] σ := by
    refine zloop n (fun f hf ih => ?_)
    intro d hd inv
    refine zFix_in ?_
    refine And.intro (hin (i := 0) (by decide)) ?_
    refine pk_le n f (fun q => ?_) (fun q => ?_) e rfl
    · have ef : f = n := by omega
      subst ef
      refine And.intro (nI_b0 hd) ?_
      rcases (show d = 0 ∨ d = 1 by omega) with z | z
      · rw [z]; exact h0 (fun g hg eg => by have := inv.mpr ⟨g, hg, eg⟩; omega)
      · rw [z]; exact h1 (inv.mp z)
    · have B3 : ∀ c, c < 2 → (c = 1 ↔ ∃ g, g < f + 1 ∧ σ.1 o (10 + 6 * g) = p) → zFix (F_X12_isTaken Q) 3 [.ref o, .int p, .null, .int (nI f)] [.int (nI c)] σ := by
        intro c hc ic
        refine zFix_in ?_
        show zFix (F_X12_isTaken Q) 1 [.ref o, .int p, .int (nI c), .int (nI f + 1)] [] σ
        rw [nI_1]
        exact ih (f + 1) (by omega) (by omega) c hc ic
      have B2 : (∃ g, g < f + 1 ∧ σ.1 o (10 + 6 * g) = p) → zFix (F_X12_isTaken Q) 2 [.ref o, .int p, .null, .int (nI f)] [] σ := by
        intro z
        refine zFix_in ?_
        exact B3 1 (by decide) ⟨fun _ => z, fun _ => rfl⟩
      refine And.intro (fun c => ?_) (fun c => ?_)
      · have d1 : d = 1 := by
          rcases (show d = 0 ∨ d = 1 by omega) with z | z
          · exact absurd (by rw [z]; rfl) c
          · exact z
        obtain ⟨g, hg, eg⟩ := inv.mp d1
        exact B2 ⟨g, by omega, eg⟩
      · have d0 : d = 0 := nI_inj (b := 0) (by omega) (by decide) c
        have ei : (6 : Int32) + 6 * nI f + 4 = nI (10 + 6 * f) := by
          rw [show (6 : Int32) = nI 6 from rfl, show (4 : Int32) = nI 4 from rfl, pk_mul, nI_add, nI_add]
          congr 1
          omega
        refine And.intro (by rw [ei]; exact hin (by omega)) ?_
        rw [ei, nI_clamp (by omega)]
        refine And.intro (fun c => ?_) (fun c => ?_)
        · refine B3 0 (by decide) ⟨fun z => by omega, fun z => ?_⟩
          obtain ⟨g, hg, eg⟩ := z
          by_cases y : g = f
          · rw [y] at eg; exact absurd eg c
          · have := inv.mpr ⟨g, by omega, eg⟩; omega
        · exact B2 ⟨f, by omega, c⟩
  refine ⟨rfl, zFix_in ?_⟩
  exact L 0 (Nat.zero_le _) 0 (by decide) ⟨fun z => by omega, fun z => by obtain ⟨g, hg, _⟩ := z; omega⟩
