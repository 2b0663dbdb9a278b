/-! Words of peace. -/
def zpn (a : zA) (kd bk : Nat → Nat) (cl c : Nat) : Nat := if zLd a kd bk cl c 0 (a 2 0) ≤ zLd a kd bk cl c 1 (a 2 0) + a 0 0 ∧ zLd a kd bk cl c 1 (a 2 0) ≤ zLd a kd bk cl c 0 (a 2 0) + a 0 0 then 1 else 0
def zPs (a : zA) (kd bk : Nat → Nat) (cl : Nat) : Nat := zsu (fun w => zpn a kd bk cl (zcs a w)) 16
def zTh (a : zA) (kd bk : Nat → Nat) (cl : Nat) : Prop := ∀ w, w < 16 → zPe a kd bk cl (zcs a w)
theorem zpn_1 {a : zA} {kd bk : Nat → Nat} {cl c : Nat} (h : zPe a kd bk cl c) : zpn a kd bk cl c = 1 := if_pos h
theorem zpn_0 {a : zA} {kd bk : Nat → Nat} {cl c : Nat} (h : ¬ zPe a kd bk cl c) : zpn a kd bk cl c = 0 := if_neg h
theorem zpn_le {a : zA} {kd bk : Nat → Nat} {cl c : Nat} : zpn a kd bk cl c ≤ 1 := by unfold zpn; split <;> omega
theorem zpn_iff {a : zA} {kd bk : Nat → Nat} {cl c : Nat} : zpn a kd bk cl c = 1 ↔ zPe a kd bk cl c := by
  by_cases h : zPe a kd bk cl c
  · exact ⟨fun _ => h, fun _ => zpn_1 h⟩
  · exact ⟨fun e => by rw [zpn_0 h] at e; omega, fun q => absurd q h⟩
theorem zsu_ones {g : Nat → Nat} : ∀ {n : Nat}, (∀ i, i < n → g i ≤ 1) → (zsu g n = n ↔ ∀ i, i < n → g i = 1) := by
  intro n
  induction n with
  | zero => intro _; exact ⟨fun _ i hi => by omega, fun _ => rfl⟩
  | succ n ih =>
    intro e
    have ih := ih (fun i hi => e i (by omega))
    have hle := zsu_le (g := g) (m := 1) (n := n) (fun i hi => e i (by omega))
    have h1 := e n (by omega)
    simp only [zsu]
    constructor
    · intro q i hi
      by_cases z : i = n
      · subst z; omega
      · exact ih.mp (by omega) i (by omega)
    · intro q
      rw [ih.mpr (fun i hi => q i (by omega)), q n (by omega)]
theorem zPs_16 {a : zA} {kd bk : Nat → Nat} {cl : Nat} : zPs a kd bk cl = 16 ↔ zTh a kd bk cl := by
  unfold zPs zTh
  rw [zsu_ones (fun i _ => zpn_le)]
  exact ⟨fun h w hw => zpn_iff.mp (h w hw), fun h w hw => zpn_iff.mpr (h w hw)⟩
theorem zPs_le {a : zA} {kd bk : Nat → Nat} {cl : Nat} : zPs a kd bk cl ≤ 16 := by
  have := zsu_le (g := fun w => zpn a kd bk cl (zcs a w)) (m := 1) (n := 16) (fun i _ => zpn_le)
  unfold zPs
  omega
theorem zcount (a : zA) (g : Nat → Nat) : ∀ N, zsu (fun w => g (zcs a w)) N = g 0 * zwc a 0 N + g 1 * zwc a 1 N + g 2 * zwc a 2 N + g 3 * zwc a 3 N := by
  intro N
  induction N with
  | zero => simp [zsu, zwc]
  | succ N ih =>
    have e : ∀ c, zwc a c (N + 1) = zwc a c N + (if zcs a N = c then 1 else 0) := fun c => rfl
    have hc := zcs_lt a N
    rw [e, e, e, e]
    simp only [zsu]
    rw [ih]
    rcases (show zcs a N = 0 ∨ zcs a N = 1 ∨ zcs a N = 2 ∨ zcs a N = 3 by omega) with q | q | q | q <;> rw [q] <;> simp [Nat.mul_add] <;> omega
theorem zwc_le (a : zA) (c : Nat) : ∀ N, zwc a c N ≤ N := by
  intro N
  have := zsu_le (g := fun w => if zcs a w = c then 1 else 0) (m := 1) (n := N) (fun i _ => by split <;> omega)
  unfold zwc
  omega
theorem zwc_pos {a : zA} {c : Nat} : ∀ {N : Nat}, zwc a c N = 0 → ∀ w, w < N → zcs a w ≠ c := by
  intro N
  induction N with
  | zero => intro _ w hw; omega
  | succ N ih =>
    intro h w hw
    have e : zwc a c (N + 1) = zwc a c N + (if zcs a N = c then 1 else 0) := rfl
    rw [e] at h
    by_cases q : zcs a N = c
    · rw [if_pos q] at h; omega
    · rw [if_neg q] at h
      by_cases z : w = N
      · subst z; exact q
      · exact ih h w (by omega)
theorem zwc_ex {a : zA} {c : Nat} : ∀ {N : Nat}, ¬ zwc a c N = 0 → ∃ w, w < N ∧ zcs a w = c := by
  intro N
  induction N with
  | zero => intro h; exact absurd rfl h
  | succ N ih =>
    intro h
    have e : zwc a c (N + 1) = zwc a c N + (if zcs a N = c then 1 else 0) := rfl
    by_cases q : zcs a N = c
    · exact ⟨N, by omega, q⟩
    · rw [e, if_neg q] at h
      obtain ⟨w, h1, h2⟩ := ih h
      exact ⟨w, by omega, h2⟩
section
variable {a : zA} {kd bk : Nat → Nat} {σ : zM} {Q : zQ}
theorem t_peaces {cl : Nat} (hW : zWF a) (hS : zSv σ a kd bk) (hbk : ∀ f, f < a 2 0 → bk f < 2) (hcl : cl < 2 ^ 31) (h : Q (some (.int (nI (zPs a kd bk cl)))) σ) : T_X8_peacefulWords [.ref 53, .int (nI cl)] σ Q := by
  have fin : zsu (fun c => zpn a kd bk cl c * zwc a c 16) 4 = zPs a kd bk cl := by
    unfold zPs
    rw [zcount a (zpn a kd bk cl) 16]
    simp [zsu]
  have L : ∀ c, c ≤ 4 → zFix (F_X8_peacefulWords Q) 1 [.ref 53, .int (nI cl), .int (nI (zsu (fun c => zpn a kd bk cl c * zwc a c 16) c)), .int (nI c)] [] σ := by
    refine zloop 4 (fun c hc ih => ?_)
    refine zFix_in ?_
    refine pk_le 4 c (fun q => ?_) (fun q => ?_)
    · have e : c = 4 := by omega
      subst e
      rw [fin]
      exact h
    · have B2 : ∀ x, x = zsu (fun c => zpn a kd bk cl c * zwc a c 16) (c + 1) → zFix (F_X8_peacefulWords Q) 2 [.ref 53, .int (nI cl), .int (nI x), .int (nI c)] [] σ := by
        intro x hx
        refine zFix_in ?_
        show zFix (F_X8_peacefulWords Q) 1 [.ref 53, .int (nI cl), .int (nI x), .int (nI c + 1)] [] σ
        rw [nI_1, hx]
        exact ih (c + 1) (by omega) (by omega)
      have es : zsu (fun c => zpn a kd bk cl c * zwc a c 16) (c + 1) = zsu (fun c => zpn a kd bk cl c * zwc a c 16) c + zpn a kd bk cl c * zwc a c 16 := rfl
      have hw := zwc_le a c 16
      refine And.intro (vp_in_nI (N := 4) (by omega) (by decide)) ?_
      rw [nI_clamp (by omega), hS.2.2.2.1 c q]
      refine pk_le (zwc a c 16) 0 (fun d => ?_) (fun d => ?_)
      · exact B2 _ (by rw [es, show zwc a c 16 = 0 by omega, Nat.mul_zero]; rfl)
      · refine t_peaceC hW hS hbk q hcl (fun d => ?_) (fun d => ?_)
        · refine And.intro (fun z => absurd z (by decide)) (fun _ => ?_)
          refine And.intro (vp_in_nI (N := 4) (by omega) (by decide)) ?_
          rw [nI_clamp (by omega), hS.2.2.2.1 c q]
          have B := B2 _ (by rw [es, zpn_1 d, Nat.one_mul])
          rw [← nI_add] at B
          exact B
        · refine And.intro (fun _ => ?_) (fun z => absurd rfl z)
          exact B2 _ (by rw [es, zpn_0 d, Nat.zero_mul]; rfl)
  refine ⟨rfl, zFix_in ?_⟩
  exact L 0 (Nat.zero_le _)
theorem t_through {cl : Nat} (hW : zWF a) (hS : zSv σ a kd bk) (hbk : ∀ f, f < a 2 0 → bk f < 2) (hcl : cl < 2 ^ 31) (h1 : zTh a kd bk cl → Q (some (.int 1)) σ) (h0 : ¬ zTh a kd bk cl → Q (some (.int 0)) σ) : T_X8_isPeacefulThroughout [.ref 53, .int (nI cl)] σ Q := by
  have L : ∀ c, c ≤ 4 → (∀ w, w < 16 → zcs a w < c → zPe a kd bk cl (zcs a w)) → zFix (F_X8_isPeacefulThroughout Q) 1 [.ref 53, .int (nI cl), .int (nI c)] [] σ := by
    refine zloop 4 (fun c hc ih => ?_)
    intro inv
    refine zFix_in ?_
    refine pk_le 4 c (fun q => ?_) (fun q => ?_)
    · exact And.intro (Or.inr rfl) (h1 (fun w hw => inv w hw (by have := zcs_lt a w; omega)))
    · have B2 : (∀ w, w < 16 → zcs a w = c → zPe a kd bk cl (zcs a w)) → zFix (F_X8_isPeacefulThroughout Q) 2 [.ref 53, .int (nI cl), .int (nI c)] [] σ := by
        intro z
        refine zFix_in ?_
        show zFix (F_X8_isPeacefulThroughout Q) 1 [.ref 53, .int (nI cl), .int (nI c + 1)] [] σ
        rw [nI_1]
        refine ih (c + 1) (by omega) (by omega) (fun w hw hlt => ?_)
        by_cases e : zcs a w = c
        · exact z w hw e
        · exact inv w hw (by omega)
      have hw := zwc_le a c 16
      refine And.intro (vp_in_nI (N := 4) (by omega) (by decide)) ?_
      rw [nI_clamp (by omega), hS.2.2.2.1 c q]
      refine pk_le (zwc a c 16) 0 (fun d => ?_) (fun d => ?_)
      · exact B2 (fun w hw e => absurd e (zwc_pos (by omega) w hw))
      · refine t_peaceC hW hS hbk q hcl (fun d => ?_) (fun d2 => ?_)
        · exact And.intro (fun _ => B2 (fun w hw e => by rw [e]; exact d)) (fun z => absurd z (by decide))
        · refine And.intro (fun z => absurd rfl z) (fun _ => ?_)
          refine And.intro (Or.inl rfl) (h0 (fun z => ?_))
          obtain ⟨w, h3, h4⟩ := zwc_ex (a := a) (c := c) (N := 16) (by omega)
          exact d2 (by rw [← h4]; exact z w h3)
  refine ⟨rfl, zFix_in ?_⟩
  exact L 0 (Nat.zero_le _) (fun w _ hx => absurd hx (Nat.not_lt_zero _))
end
