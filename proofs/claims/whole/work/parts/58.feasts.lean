/-! Pair: feasts. -/
def zFe (a b c d y : Nat) : Prop := b ≤ y ∧ d ≤ y ∧ (y - b) % a = 0 ∧ (y - d) % c = 0
theorem zFe_no {a b c d M : Nat} (hM : b ≤ M ∧ d ≤ M) (h : ∀ z, z < M + a * c → ¬ zFe a b c d z) (ha : 1 ≤ a) (hc : 1 ≤ c) : ∀ z, ¬ zFe a b c d z := by
  have pos : 1 ≤ a * c := Nat.mul_le_mul ha hc
  have key : ∀ n z, z < n → ¬ zFe a b c d z := by
    intro n
    induction n with
    | zero => intro z h; omega
    | succ n ih =>
      intro z hz p
      by_cases e : z < M + a * c
      · exact h z e p
      · obtain ⟨p1, p2, p3, p4⟩ := p
        refine ih (z - a * c) (by omega) ⟨by omega, by omega, ?_, ?_⟩
        · have : z - b = (z - a * c - b) + a * c := by omega
          rw [this, Nat.add_mul_mod_self_left] at p3
          exact p3
        · have : z - d = (z - a * c - d) + c * a := by rw [Nat.mul_comm c a]; omega
          rw [this, Nat.add_mul_mod_self_left] at p4
          exact p4
  exact fun z => key (z + 1) z (by omega)
section
variable {σ : zM}
theorem t_feasts {a b c d : Nat} {Q : zQ} (ha : 1 ≤ a ∧ a ≤ 40) (hb : 0 ≤ b ∧ b ≤ 99) (hc : 1 ≤ c ∧ c ≤ 40) (hd : 0 ≤ d ∧ d ≤ 99) (h1 : ∀ y, zFe a b c d y → (∀ z, z < y → ¬ zFe a b c d z) → Q (some (.int (nI y))) σ) (h0 : (∀ z, ¬ zFe a b c d z) → Q (some (.int (-1))) σ) : T_X11_feasts [.ref 0, .int (nI a), .int (nI b), .int (nI c), .int (nI d)] σ Q := by
  have ac : a * c ≤ 40 * 40 := Nat.mul_le_mul ha.2 hc.2
  obtain ⟨M, eM⟩ : ∃ M, M = if b < d then d else b := ⟨_, rfl⟩
  have hM : b ≤ M ∧ d ≤ M ∧ M ≤ 99 := by rw [eM]; split <;> omega
  have L : ∀ y, y ≤ M + a * c + a → b ≤ y → (y - b) % a = 0 → (∀ z, z < y → ¬ zFe a b c d z) → zFix (F_X11_feasts Q) 2 [.null, .int (nI a), .null, .int (nI c), .int (nI d), .int (nI (M + a * c)), .int (nI y)] [] σ := by
    refine zloop (M + a * c + a) (fun y hy ih => ?_)
    intro i1 i2 i3
    refine zFix_in ?_
    refine pk_lt (M + a * c) y (fun e => ?_) (fun e => ?_)
    · exact h0 (zFe_no ⟨hM.1, hM.2.1⟩ (fun z hz => i3 z (by omega)) ha.1 hc.1)
    · have B3 : ¬ zFe a b c d y → zFix (F_X11_feasts Q) 3 [.null, .int (nI a), .null, .int (nI c), .int (nI d), .int (nI (M + a * c)), .int (nI y)] [] σ := by
        intro ny
        refine zFix_in ?_
        show zFix (F_X11_feasts Q) 2 [.null, .int (nI a), .null, .int (nI c), .int (nI d), .int (nI (M + a * c)), .int (nI y + nI a)] [] σ
        rw [nI_add]
        refine ih (y + a) (by omega) (by omega) (by omega) ?_ (fun z hz p => ?_)
        · rw [show y + a - b = (y - b) + a by omega, Nat.add_mod_right]
          exact i2
        · by_cases q : z < y
          · exact i3 z q p
          · by_cases q2 : z = y
            · rw [q2] at p; exact ny p
            · have p3 := p.2.2.1
              rw [show z - b = (y - b) + (z - y) by omega, Nat.add_mod, i2, Nat.zero_add, Nat.mod_mod, Nat.mod_eq_of_lt (by omega)] at p3
              omega
      refine pk_lt y d (fun e2 => B3 (fun p => by have := p.2.1; omega)) (fun e2 => ?_)
      refine And.intro (nI_ne0 (by omega) (by omega)) ?_
      show (¬ (nI y - nI d) - (nI y - nI d) / nI c * nI c = 0 → zFix (F_X11_feasts Q) 3 [.null, .int (nI a), .null, .int (nI c), .int (nI d), .int (nI (M + a * c)), .int (nI y)] [] σ) ∧ ((nI y - nI d) - (nI y - nI d) / nI c * nI c = 0 → Q (some (.int (nI y))) σ)
      have ml : (y - d) % c < c := Nat.mod_lt _ (by omega)
      rw [pk_sub e2, pk_rem (by omega) (by omega) (by omega)]
      refine And.intro (fun e3 => B3 (fun p => e3 (by rw [p.2.2.2]; rfl))) (fun e3 => ?_)
      exact h1 y ⟨i1, e2, i2, nI_inj (b := 0) (by omega) (by decide) e3⟩ i3
  refine ⟨rfl, zFix_in (inX (a := 1) (b := 40) (by decide) ha (e1 (inX (a := 1) (b := 40) (by decide) hc (e1 (inX (a := 0) (b := 99) (by decide) hb (e1 (inX (a := 0) (b := 99) (by decide) hd (n1 ?_))))))))⟩
  show zFix (F_X11_feasts Q) 2 [.null, .int (nI a), .null, .int (nI c), .int (nI d), .int ((if nI b < nI d then nI d else nI b) + nI a * nI c), .int (nI b)] [] σ
  have em : (if nI b < nI d then nI d else nI b) = nI M := by
    rw [eM]
    by_cases q : b < d
    · rw [if_pos q, if_pos ((nI_ltI (by omega) (by omega)).mpr q)]
    · rw [if_neg q, if_neg (fun z => q ((nI_ltI (by omega) (by omega)).mp z))]
  rw [em, pk_mul, nI_add]
  exact L b (by omega) (Nat.le_refl _) (by rw [Nat.sub_self, Nat.zero_mod]) (fun z hz p => by have := p.1; omega)
theorem r_feasts {a b c d : Nat} {Q : zQ} (ha : 1 ≤ a ∧ a ≤ 40) (hb : 0 ≤ b ∧ b ≤ 99) (hc : 1 ≤ c ∧ c ≤ 40) (hd : 0 ≤ d ∧ d ≤ 99) (h1 : ∀ y, zFe a b c d y → (∀ z, z < y → ¬ zFe a b c d z) → Q (some (.int (nI y))) σ) (h0 : (∀ z, ¬ zFe a b c d z) → Q (some (.int (-1))) σ) : T_X12_feasts [.ref 75, .int (nI a), .int (nI b), .int (nI c), .int (nI d)] σ Q := by
  have ac : a * c ≤ 40 * 40 := Nat.mul_le_mul ha.2 hc.2
  have L : ∀ M, b ≤ M ∧ d ≤ M ∧ M ≤ 99 → (M = b ∨ M = d) → zFix (F_X12_feasts Q) 2 [.null, .int (nI a), .int (nI b), .int (nI c), .int (nI d)] [.int (nI M)] σ := by
    intro M hM eM
    refine zFix_in ?_
    have L3 : ∀ y, y ≤ M + 1600 → M ≤ y → (∀ z, z < y → ¬ zFe a b c d z) → zFix (F_X12_feasts Q) 3 [.null, .int (nI a), .int (nI b), .int (nI c), .int (nI d), .int (nI M), .int (nI y)] [] σ := by
      refine zloop (M + 1600) (fun y hy ih => ?_)
      intro i1 i3
      refine zFix_in ?_
      refine pk_le (M + 1600) y (fun e => ?_) (fun e => ?_) (by show nI M + (1600 : Int32) = _; exact nI_add M 1600) rfl
      · exact h0 (zFe_no ⟨hM.1, hM.2.1⟩ (fun z hz => i3 z (by omega)) ha.1 hc.1)
      · have B4 : ¬ zFe a b c d y → zFix (F_X12_feasts Q) 4 [.null, .int (nI a), .int (nI b), .int (nI c), .int (nI d), .int (nI M), .int (nI y)] [] σ := by
          intro ny
          refine zFix_in ?_
          show zFix (F_X12_feasts Q) 3 [.null, .int (nI a), .int (nI b), .int (nI c), .int (nI d), .int (nI M), .int (nI y + 1)] [] σ
          rw [nI_1]
          refine ih (y + 1) (by omega) (by omega) (by omega) (fun z hz p => ?_)
          by_cases q2 : z = y
          · rw [q2] at p; exact ny p
          · exact i3 z (by omega) p
        refine And.intro (nI_ne0 (by omega) (by omega)) ?_
        have ml : (y - d) % c < c := Nat.mod_lt _ (by omega)
        have ml2 : (y - b) % a < a := Nat.mod_lt _ (by omega)
        show (¬ (nI y - nI b) - (nI y - nI b) / nI a * nI a = 0 → zFix (F_X12_feasts Q) 4 [.null, .int (nI a), .int (nI b), .int (nI c), .int (nI d), .int (nI M), .int (nI y)] [] σ) ∧ ((nI y - nI b) - (nI y - nI b) / nI a * nI a = 0 → ¬ nI c = 0 ∧ (¬ (nI y - nI d) - (nI y - nI d) / nI c * nI c = 0 → zFix (F_X12_feasts Q) 4 [.null, .int (nI a), .int (nI b), .int (nI c), .int (nI d), .int (nI M), .int (nI y)] [] σ) ∧ ((nI y - nI d) - (nI y - nI d) / nI c * nI c = 0 → Q (some (.int (nI y))) σ))
        rw [pk_sub (show b ≤ y by omega), pk_sub (show d ≤ y by omega), pk_rem (by omega) (by omega) (by omega), pk_rem (by omega) (by omega) (by omega)]
        refine And.intro (fun e3 => B4 (fun p => e3 (by rw [p.2.2.1]; rfl))) (fun e3 => ⟨nI_ne0 (by omega) (by omega), fun e4 => B4 (fun p => e4 (by rw [p.2.2.2]; rfl)), fun e4 => ?_⟩)
        exact h1 y ⟨by omega, by omega, nI_inj (b := 0) (by omega) (by decide) e3, nI_inj (b := 0) (by omega) (by decide) e4⟩ i3
    refine L3 M (by omega) (Nat.le_refl _) (fun z hz p => ?_)
    have := p.1
    have := p.2.1
    omega
  refine ⟨rfl, zFix_in (inR (a := 1) (b := 40) (by decide) rfl rfl ha (e1 (inR (a := 0) (b := 99) (by decide) rfl rfl hb (e1 (inR (a := 1) (b := 40) (by decide) rfl rfl hc (e1 (inR (a := 0) (b := 99) (by decide) rfl rfl hd (n1 ?_))))))))⟩
  exact pk_le b d (fun e => L d ⟨e, Nat.le_refl _, hd.2⟩ (Or.inr rfl)) (fun e => L b ⟨Nat.le_refl _, by omega, hb.2⟩ (Or.inl rfl))
theorem p_feasts (x1 x2 x3 x4 : Int32) (h : zR σ) : zPr T_X11_feasts T_X12_feasts [.int x1, .int x2, .int x3, .int x4] σ := by
  by_cases e : (∃ a, (1 ≤ a ∧ a ≤ 40) ∧ x1 = nI a) ∧ (∃ b, (0 ≤ b ∧ b ≤ 99) ∧ x2 = nI b) ∧ (∃ c, (1 ≤ c ∧ c ≤ 40) ∧ x3 = nI c) ∧ ∃ d, (0 ≤ d ∧ d ≤ 99) ∧ x4 = nI d
  · obtain ⟨⟨a, ha, rfl⟩, ⟨b, hb, rfl⟩, ⟨c, hc, rfl⟩, d, hd, rfl⟩ := e
    refine t_feasts ha hb hc hd (fun y p1 p2 => ⟨_, rfl, r_feasts ha hb hc hd (fun z q1 q2 => ?_) (fun q => absurd p1 (q y))⟩) (fun p => ⟨_, rfl, r_feasts ha hb hc hd (fun z q1 q2 => absurd q1 (p z)) (fun _ => ⟨rfl, h⟩)⟩)
    have : y = z := by
      rcases Nat.lt_trichotomy y z with l | l | l
      · exact absurd p1 (q2 y l)
      · exact l
      · exact absurd q1 (p2 z l)
    rw [this]
    exact ⟨rfl, h⟩
  · refine ⟨rfl, zFix_in ?_⟩
    have bx : zFix (F_X11_feasts (fun v τ => ∃ r : Int32, v = some (.int r) ∧ T_X12_feasts [.ref 75, .int x1, .int x2, .int x3, .int x4] τ (fun w υ => w = some (.int r) ∧ zR υ))) 1 [.ref 0] [] σ := by
      refine zFix_in (t_refBad ⟨_, rfl, rfl, zFix_in ?_⟩)
      have br : zFix (F_X12_feasts (fun w υ => w = some (.int (-2)) ∧ zR υ)) 1 [.ref 75] [] (zBx σ 0) := zFix_in (r_bad ⟨rfl, h.bb⟩)
      refine t_inN (a := 1) (b := 40) (by decide) rfl rfl (fun a a1 a2 ea => e1 ?_) (fun _ => e0 br)
      refine t_inN (a := 0) (b := 99) (by decide) rfl rfl (fun b b1 b2 eb => e1 ?_) (fun _ => e0 br)
      refine t_inN (a := 1) (b := 40) (by decide) rfl rfl (fun c c1 c2 ec => e1 ?_) (fun _ => e0 br)
      exact t_inN (a := 0) (b := 99) (by decide) rfl rfl (fun d d1 d2 ed => absurd ⟨⟨a, ⟨a1, a2⟩, ea⟩, ⟨b, ⟨b1, b2⟩, eb⟩, ⟨c, ⟨c1, c2⟩, ec⟩, d, ⟨d1, d2⟩, ed⟩ e) (fun _ => n0 br)
    refine t_X11_within (a := 1) (b := 40) (by decide) (by decide) (fun a a1 a2 ea => e1 ?_) (fun _ => e0 bx)
    refine t_X11_within (a := 1) (b := 40) (by decide) (by decide) (fun c c1 c2 ec => e1 ?_) (fun _ => e0 bx)
    refine t_X11_within (a := 0) (b := 99) (by decide) (by decide) (fun b b1 b2 eb => e1 ?_) (fun _ => e0 bx)
    exact t_X11_within (a := 0) (b := 99) (by decide) (by decide) (fun d d1 d2 ed => absurd ⟨⟨a, ⟨a1, a2⟩, ea⟩, ⟨b, ⟨b1, b2⟩, eb⟩, ⟨c, ⟨c1, c2⟩, ec⟩, d, ⟨d1, d2⟩, ed⟩ e) (fun _ => n0 bx)
end
