/-! Pairs of calls: questions about one word or family. -/
section
variable {σ : zM}
theorem c_ok {a : zA} (hW : zWF a) : (∀ f, f < a 2 0 → a 3 f < 6) ∧ (∀ f, f < a 2 0 → a 4 f < 2) ∧ a 8 0 < 2 ^ 31 := ⟨fun f hf => (hW.2.2.2.1 f hf).1, fun f hf => (hW.2.2.2.1 f hf).2.1, by have := zC128 hW; omega⟩
theorem p_loud (x y : Int32) (h : zR σ) : zPr T_X11_loud T_X12_loud [.int x, .int y] σ := by
  obtain ⟨a, hW, hX, hM, hO⟩ := id h
  obtain ⟨k1, k2, k3⟩ := c_ok hW
  have bad : (¬ ((∃ n, n < 16 ∧ x = nI n) ∧ ∃ b, b < 2 ∧ y = nI b)) → zFix (F_X11_loud (fun v τ => ∃ r : Int32, v = some (.int r) ∧ T_X12_loud [.ref 75, .int x, .int y] τ (fun w υ => w = some (.int r) ∧ zR υ))) 1 [.ref 0] [] σ := by
    intro nv
    refine zFix_in (t_refBad ⟨-2, rfl, rfl, zFix_in ?_⟩)
    have B1 : zFix (F_X12_loud (fun w υ => w = some (.int (-2)) ∧ zR υ)) 1 [.ref 75] [] (zBx σ 0) := zFix_in (r_bad ⟨rfl, h.bb⟩)
    refine t_X12_isWord (fun n hn e => e1 ?_) (fun e => e0 B1)
    exact t_X12_isBook (fun b hb e2 => absurd ⟨⟨n, hn, e⟩, b, hb, e2⟩ nv) (fun e2 => n0 B1)
  refine ⟨rfl, zFix_in ?_⟩
  refine t_X11_isWord (fun n hn e => e1 ?_) (fun e => e0 (bad (fun z => by obtain ⟨⟨n, hn, en⟩, _⟩ := z; exact e n hn en)))
  refine t_X11_isBook (fun b hb e2 => n1 ?_) (fun e2 => n0 (bad (fun z => by obtain ⟨_, b, hb, eb⟩ := z; exact e2 b hb eb)))
  subst e; subst e2
  refine t_hold hW hX (fun τ f s => ?_)
  show T_X8_loudness [.ref 53, .int (nI n), .int (nI b), .int (τ.1 1 8)] τ _
  rw [(f.X hX).2.2.2.2.1]
  refine t_loudness hW s k2 hn hb k3 ?_
  refine ⟨_, rfl, rfl, zFix_in ?_⟩
  have q := f.Q
  refine t_X12_isWord (fun n' hn' e' => e1 ?_) (fun e' => absurd rfl (e' n hn))
  refine t_X12_isBook (fun b' hb' e'' => n1 ?_) (fun e' => absurd rfl (e' b hb))
  have hM' : zCM (τ.1 76) a := by rw [q.1 76 (by omega)]; exact hM
  refine t_layHand hW hM' (fun υ g hd => ?_)
  exact r_loud hW (g.M hM') hd k1 k2 hn hb k3 ⟨rfl, (h.X q).M g.Q⟩
theorem p_of (x y : Int32) (h : zR σ) : zPr T_X11_of T_X12_of [.int x, .int y] σ := by
  obtain ⟨a, hW, hX, hM, hO⟩ := id h
  have hn := hW.1
  have bad : (¬ ((∃ n, n < a 2 0 ∧ x = nI n) ∧ ∃ b, b ≤ 5 ∧ y = nI b)) → zFix (F_X11_of (fun v τ => ∃ r : Int32, v = some (.int r) ∧ T_X12_of [.ref 75, .int x, .int y] τ (fun w υ => w = some (.int r) ∧ zR υ))) 1 [.ref 0] [] σ := by
    intro nv
    refine zFix_in (t_refBad ⟨-2, rfl, rfl, zFix_in ?_⟩)
    have B1 : zFix (F_X12_of (fun w υ => w = some (.int (-2)) ∧ zR υ)) 1 [.ref 75] [] (zBx σ 0) := zFix_in (r_bad ⟨rfl, h.bb⟩)
    refine t_isFamily (n := a 2 0) (by omega) hM.1 (fun n hn e => e1 ?_) (fun e => e0 B1)
    exact t_inN (a := 0) (b := 5) (by decide) rfl rfl (fun b _ hb e2 => absurd ⟨⟨n, hn, e⟩, b, hb, e2⟩ nv) (fun e2 => e0 B1)
  refine ⟨rfl, zFix_in ?_⟩
  refine t_hasFamily (n := a 2 0) (by omega) hX.2.2.1 (fun f hf e => e1 ?_) (fun e => e0 (bad (fun z => by obtain ⟨⟨n, hn, en⟩, _⟩ := z; exact e n hn en)))
  refine t_X11_within (a := 0) (b := 5) (by decide) (by decide) (fun k _ hk e2 => n1 ?_) (fun e2 => n0 (bad (fun z => by obtain ⟨_, b, hb, eb⟩ := z; exact e2 b (Nat.zero_le _) hb eb)))
  subst e; subst e2
  obtain ⟨x1, x2, x3, x4, x5⟩ := hX.2.2.2.1 f hf
  obtain ⟨m1, m2, m3, m4, m5, m6⟩ := hM.2.2.2.2.2.1 f hf
  have fin : ∀ v : Int32, v = σ.1 76 (6 + 6 * f + k) → ∃ r : Int32, some (Value.int v) = some (.int r) ∧ T_X12_of [.ref 75, .int (nI f), .int (nI k)] σ (fun w υ => w = some (.int r) ∧ zR υ) := by
    intro v hv
    refine ⟨v, rfl, rfl, zFix_in ?_⟩
    refine t_isFamily (n := a 2 0) (by omega) hM.1 (fun f' hf' e' => e1 ?_) (fun e' => absurd rfl (e' f hf))
    refine t_inN (a := 0) (b := 5) (by decide) rfl rfl (fun k' _ hk' e' => e1 ?_) (fun e' => absurd rfl (e' k (Nat.zero_le _) hk))
    exact t_get (by omega) (by omega) ⟨by rw [hv], h⟩
  have c8 := zC128 hW
  refine ⟨rfl, zFix_in ?_⟩
  refine And.intro (And.intro (fun c => ?_) (And.intro (fun c => ?_) (And.intro (fun c => ?_) (And.intro (fun c => ?_) (And.intro (fun c => ?_) True.intro))))) (fun c => ?_)
  · have ek : k = 0 := nI_inj (b := 0) (by omega) (by decide) c
    refine And.intro (vp_in_nI (N := 7) (by omega) (by decide)) ?_
    rw [nI_clamp (by omega)]
    exact fin _ (by rw [ek]; exact x1.trans m1.symm)
  · have ek : k = 1 := nI_inj (b := 1) (by omega) (by decide) c
    refine And.intro (vp_in_nI (N := 7) (by omega) (by decide)) ?_
    rw [nI_clamp (by omega)]
    exact fin _ (by rw [ek, show 6 + 6 * f + 1 = 7 + 6 * f by omega]; exact x2.trans m2.symm)
  · have ek : k = 2 := nI_inj (b := 2) (by omega) (by decide) c
    refine And.intro (vp_in_nI (N := 7) (by omega) (by decide)) ?_
    rw [nI_clamp (by omega)]
    exact fin _ (by rw [ek, show 6 + 6 * f + 2 = 8 + 6 * f by omega]; exact x3.trans m3.symm)
  · have ek : k = 3 := nI_inj (b := 3) (by omega) (by decide) c
    refine And.intro (vp_in_nI (N := 7) (by omega) (by decide)) ?_
    rw [nI_clamp (by omega)]
    exact fin _ (by rw [ek, show 6 + 6 * f + 3 = 9 + 6 * f by omega]; exact x4.trans m4.symm)
  · have ek : k = 4 := nI_inj (b := 4) (by omega) (by decide) c
    refine And.intro (vp_in_nI (N := 7) (by omega) (by decide)) ?_
    rw [nI_clamp (by omega)]
    exact fin _ (by rw [ek, show 6 + 6 * f + 4 = 10 + 6 * f by omega]; exact x5.trans m5.symm)
  · obtain ⟨c0, c1, c2, c3, c4, -⟩ := c
    have ek : k = 5 := by
      rcases (show k = 0 ∨ k = 1 ∨ k = 2 ∨ k = 3 ∨ k = 4 ∨ k = 5 by omega) with z | z | z | z | z | z
      · exact absurd (by rw [z]; rfl) c0
      · exact absurd (by rw [z]; rfl) c1
      · exact absurd (by rw [z]; rfl) c2
      · exact absurd (by rw [z]; rfl) c3
      · exact absurd (by rw [z]; rfl) c4
      · exact z
    show T_X11_bit [.int (σ.1 1 8), .int (nI f)] σ _
    rw [hX.2.2.2.2.1]
    refine t_X11_bit (by omega) (by omega) ?_
    exact fin _ (by rw [ek, show 6 + 6 * f + 5 = 11 + 6 * f by omega]; exact m6.symm)
theorem p_at (x y z : Int32) (h : zR σ) : zPr T_X11_at T_X12_at [.int x, .int y, .int z] σ := by
  obtain ⟨a, hW, hX, hM, hO⟩ := id h
  obtain ⟨k1, k2, k3⟩ := c_ok hW
  have hn := hW.1
  have bad : (¬ ((∃ n, n < a 2 0 ∧ x = nI n) ∧ (∃ w, w < 16 ∧ y = nI w) ∧ ∃ b, b ≤ 3 ∧ z = nI b)) → zFix (F_X11_at (fun v τ => ∃ r : Int32, v = some (.int r) ∧ T_X12_at [.ref 75, .int x, .int y, .int z] τ (fun w υ => w = some (.int r) ∧ zR υ))) 1 [.ref 0] [] σ := by
    intro nv
    refine zFix_in (t_refBad ⟨-2, rfl, rfl, zFix_in ?_⟩)
    have B1 : zFix (F_X12_at (fun w υ => w = some (.int (-2)) ∧ zR υ)) 1 [.ref 75] [] (zBx σ 0) := zFix_in (r_bad ⟨rfl, h.bb⟩)
    refine t_isFamily (n := a 2 0) (by omega) hM.1 (fun n hn e => e1 ?_) (fun e => e0 B1)
    refine t_X12_isWord (fun w hw ew => e1 ?_) (fun e => e0 B1)
    exact t_inN (a := 0) (b := 3) (by decide) rfl rfl (fun b _ hb e2 => absurd ⟨⟨n, hn, e⟩, ⟨w, hw, ew⟩, b, hb, e2⟩ nv) (fun e2 => n0 B1)
  refine ⟨rfl, zFix_in ?_⟩
  refine t_hasFamily (n := a 2 0) (by omega) hX.2.2.1 (fun f hf e => e1 ?_) (fun e => e0 (bad (fun z => by obtain ⟨⟨n, hn, en⟩, _⟩ := z; exact e n hn en)))
  refine t_X11_isWord (fun w hw ew => e1 ?_) (fun e => e0 (bad (fun z => by obtain ⟨_, ⟨n, hn, en⟩, _⟩ := z; exact e n hn en)))
  refine t_X11_within (a := 0) (b := 3) (by decide) (by decide) (fun k _ hk e2 => n1 ?_) (fun e2 => n0 (bad (fun z => by obtain ⟨_, _, b, hb, eb⟩ := z; exact e2 b (Nat.zero_le _) hb eb)))
  subst e; subst ew; subst e2
  refine t_hold hW hX (fun τ fr s => ?_)
  have q := fr.Q
  have hM' : zCM (τ.1 76) a := by rw [q.1 76 (by omega)]; exact hM
  have hX' := fr.X hX
  have fin : ∀ (v : Int32), (∀ (υ : zM), zHd υ a (a 3) (a 4) (a 7) (a 8 0) → zCM (υ.1 76) a → ∀ Q : zQ, Q (some (.int v)) υ → zsw (nI k) [.ref 75, .int (nI f), .int (nI w), .int (nI k)] [] υ [(0, i_al 0 <| i_il 1 <| i_il 2 <| i_cv 12 3 T_X12_kneels <| i_ifeq (i_ic 0 <| i_ir Q) <| i_ic 1 <| i_ir Q), (1, i_al 0 <| i_il 1 <| i_il 2 <| i_cv 12 3 T_X12_high <| i_ir Q), (2, i_al 0 <| i_il 1 <| i_il 2 <| i_cv 12 3 T_X12_voices <| i_ir Q)] ∧ (zne (nI k) [(0, i_al 0 <| i_il 1 <| i_il 2 <| i_cv 12 3 T_X12_kneels <| i_ifeq (i_ic 0 <| i_ir Q) <| i_ic 1 <| i_ir Q), (1, i_al 0 <| i_il 1 <| i_il 2 <| i_cv 12 3 T_X12_high <| i_ir Q), (2, i_al 0 <| i_il 1 <| i_il 2 <| i_cv 12 3 T_X12_voices <| i_ir Q)] → T_X12_sees [.ref 75, .int (nI f), .int (nI w)] υ (fun v τ => (i_ifeq (i_ic 0 <| i_ir Q) <| i_ic 1 <| i_ir Q) [.ref 75, .int (nI f), .int (nI w), .int (nI k)] (zvl v []) τ))) → ∃ r : Int32, some (Value.int v) = some (.int r) ∧ T_X12_at [.ref 75, .int (nI f), .int (nI w), .int (nI k)] τ (fun w υ => w = some (.int r) ∧ zR υ) := by
    intro v hv
    refine ⟨v, rfl, rfl, zFix_in ?_⟩
    refine t_isFamily (n := a 2 0) (by omega) hM'.1 (fun f' hf' e' => e1 ?_) (fun e' => absurd rfl (e' f hf))
    refine t_X12_isWord (fun w' hw' e' => e1 ?_) (fun e' => absurd rfl (e' w hw))
    refine t_inN (a := 0) (b := 3) (by decide) rfl rfl (fun k' _ hk' e' => n1 ?_) (fun e' => absurd rfl (e' k (Nat.zero_le _) hk))
    refine t_layHand hW hM' (fun υ g hd => ?_)
    exact hv υ hd (g.M hM') _ ⟨rfl, (h.X q).M g.Q⟩
  have ne : ∀ j : Nat, j < 4 → k ≠ j → ¬ nI k = nI j := fun j hj hk z => hk (nI_inj (by omega) (by omega) z)
  refine And.intro (And.intro (fun c => ?_) (And.intro (fun c => ?_) (And.intro (fun c => ?_) True.intro))) (fun c => ?_)
  · have ek : k = 0 := nI_inj (b := 0) (by omega) (by decide) c
    refine t_kneels hW s hf hw ?_
    have kl := @zKn_lt (a 3) (a 4) f (zcs a w)
    have g : ∃ r : Int32, some (Value.int (nI (zKn (a 3) (a 4) f (zcs a w)))) = some (.int r) ∧ T_X12_at [.ref 75, .int (nI f), .int (nI w), .int (nI k)] τ (fun w υ => w = some (.int r) ∧ zR υ) := by
      refine fin _ (fun υ hd hm Q hQ => ⟨⟨fun _ => ?_, fun z => absurd z (ne 1 (by decide) (by omega)), fun z => absurd z (ne 2 (by decide) (by omega)), True.intro⟩, fun z => absurd c z.1⟩)
      refine r_kneels hW hm hd hf (k1 f hf) (k2 f hf) hw ?_
      rcases (show zKn (a 3) (a 4) f (zcs a w) = 0 ∨ zKn (a 3) (a 4) f (zcs a w) = 1 by omega) with z | z
      · rw [z] at hQ ⊢; exact e0 hQ
      · rw [z] at hQ ⊢; exact e1 hQ
    rcases (show zKn (a 3) (a 4) f (zcs a w) = 0 ∨ zKn (a 3) (a 4) f (zcs a w) = 1 by omega) with z | z
    · rw [z] at g ⊢; exact e0 g
    · rw [z] at g ⊢; exact e1 g
  · have ek : k = 1 := nI_inj (b := 1) (by omega) (by decide) c
    refine t_high hW s hf hw ?_
    refine fin _ (fun υ hd hm Q hQ => ⟨⟨fun z => absurd z (ne 0 (by decide) (by omega)), fun _ => ?_, fun z => absurd z (ne 2 (by decide) (by omega)), True.intro⟩, fun z => absurd c z.2.1⟩)
    exact r_high hW hm hd hf (k1 f hf) (k2 f hf) hw hQ
  · have ek : k = 2 := nI_inj (b := 2) (by omega) (by decide) c
    show T_X8_voices [.ref 53, .int (nI f), .int (nI w), .int (τ.1 1 8)] τ _
    rw [hX'.2.2.2.2.1]
    refine t_voices hW s hf hw k3 ?_
    refine fin _ (fun υ hd hm Q hQ => ⟨⟨fun z => absurd z (ne 0 (by decide) (by omega)), fun z => absurd z (ne 1 (by decide) (by omega)), fun _ => ?_, True.intro⟩, fun z => absurd c z.2.2.1⟩)
    exact r_voices hW hm hd hf (k1 f hf) (k2 f hf) hw k3 hQ
  · obtain ⟨c0, c1, c2, -⟩ := c
    have ek : k = 3 := by
      rcases (show k = 0 ∨ k = 1 ∨ k = 2 ∨ k = 3 by omega) with z | z | z | z
      · exact absurd (by rw [z]; rfl) c0
      · exact absurd (by rw [z]; rfl) c1
      · exact absurd (by rw [z]; rfl) c2
      · exact z
    refine t_sees hW s hf hw (fun z => e1 ?_) (fun z => e0 ?_)
    · refine fin _ (fun υ hd hm Q hQ => ⟨⟨fun z => absurd z c0, fun z => absurd z c1, fun z => absurd z c2, True.intro⟩, fun _ => ?_⟩)
      exact r_sees hW hm hd k1 k2 hf hw (fun _ => e1 hQ) (fun y => absurd z y)
    · refine fin _ (fun υ hd hm Q hQ => ⟨⟨fun z => absurd z c0, fun z => absurd z c1, fun z => absurd z c2, True.intro⟩, fun _ => ?_⟩)
      exact r_sees hW hm hd k1 k2 hf hw (fun y => absurd y z) (fun _ => e0 hQ)
theorem p_canNot (h : zR σ) : zPr T_X11_canNot T_X12_canNot [] σ := by
  obtain ⟨a, hW, hX, hM, hO⟩ := id h
  refine ⟨rfl, zFix_in ?_⟩
  refine And.intro (vp_in_nI (n := 0) (N := 2) (by decide) (by decide)) (And.intro (vp_in_nI (n := 1) (N := 2) (by decide) (by decide)) ?_)
  rw [show σ.1 2 (0 : Int32).toNatClampNeg = nI (a 1 0) from hX.2.1 0 (by decide), show σ.1 2 (1 : Int32).toNatClampNeg = nI (a 1 1) from hX.2.1 1 (by decide)]
  refine ⟨_, rfl, rfl, zFix_in ?_⟩
  refine And.intro (vp_in_nI (n := 2) (N := 178) (by decide) (by decide)) (And.intro (vp_in_nI (n := 3) (N := 178) (by decide) (by decide)) ?_)
  rw [show σ.1 76 (2 : Int32).toNatClampNeg = nI (a 1 0) from hM.2.2.1.1, show σ.1 76 (3 : Int32).toNatClampNeg = nI (a 1 1) from hM.2.2.1.2]
  exact ⟨rfl, h⟩
end
