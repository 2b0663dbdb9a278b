/-! The reference: heights, voices, who sees, how loud, peace. -/
section
variable {a : zA} {kd bk pw : Nat → Nat} {cl : Nat} {σ : zM} {Q : zQ}
theorem r_high {f w : Nat} (hW : zWF a) (hM : zCM (σ.1 76) a) (hH : zHd σ a kd bk pw cl) (hf : f < a 2 0) (hk : kd f < 6) (hb : bk f < 2) (hw : w < 16) (h : Q (some (.int (nI (zHi a kd bk f (zcs a w))))) σ) : T_X12_high [.ref 75, .int (nI f), .int (nI w)] σ Q := by
  have hn := hW.1
  have ht := (hW.2.2.2.1 f hf).2.2.1
  obtain ⟨h1, h2, h3⟩ := hH.2 f hf
  have m3 := (hM.2.2.2.2.2.1 f hf).2.2.1
  have B1 : zFix (F_X12_high Q) 1 [.ref 75, .int (nI f)] [.int (nI (zh0 (a 5 f) (zKn kd bk f (zcs a w))))] σ := by
    unfold zHi zhi at h
    have hz := @zh0_lt (a 5 f) (zKn kd bk f (zcs a w))
    generalize zh0 (a 5 f) (zKn kd bk f (zcs a w)) = p at h hz
    have B2 : zFix (F_X12_high Q) 2 [.ref 75, .int (nI f), .null, .int (nI p)] [.int (nI (p - 2))] σ := by
      refine zFix_in ?_
      refine And.intro (vp_in_nI (N := 7) (by omega) (by decide)) ?_
      rw [nI_clamp (by omega), h1]
      refine And.intro (fun c => ?_) (fun c => ?_)
      · rw [if_neg (fun z => c (by rw [z]; rfl))] at h
        refine And.intro (vp_in_nI (N := 7) (by omega) (by decide)) ?_
        rw [nI_clamp (by omega), h1]
        refine And.intro (fun d => ?_) (fun d => ?_)
        · rw [if_neg (fun z => d (by rw [z]; rfl))] at h
          exact h
        · rw [if_pos (nI_inj (b := 4) (by omega) (by decide) d)] at h
          exact h
      · rw [if_pos (nI_inj (b := 3) (by omega) (by decide) c), ← nI_1] at h
        exact h
    refine zFix_in ?_
    refine pk_le p 2 (fun c => ?_) (fun c => ?_)
    · rw [show p - 2 = 0 by omega] at B2
      exact B2
    · rw [← pk_sub (a := p) (b := 2) (by omega)] at B2
      exact B2
  refine ⟨rfl, zFix_in ?_⟩
  refine r_kneels hW hM hH hf hk hb hw ?_
  unfold zh0 at B1
  refine And.intro (fun c => ?_) (fun c => ?_)
  · rw [if_pos (nI_inj (b := 0) (by have := @zKn_lt kd bk f (zcs a w); omega) (by decide) c)] at B1
    refine t_get (w := 2) (by omega) (by decide) ?_
    rw [show 6 + 6 * f + 2 = 8 + 6 * f by omega, m3]
    exact B1
  · rw [if_neg (fun z => c (by rw [z]; rfl)), ← pk_div (d := 2) (by omega) (by decide) (by decide)] at B1
    refine t_get (w := 2) (by omega) (by decide) ?_
    rw [show 6 + 6 * f + 2 = 8 + 6 * f by omega, m3]
    exact And.intro (by decide) B1
theorem r_voices {f w : Nat} (hW : zWF a) (hM : zCM (σ.1 76) a) (hH : zHd σ a kd bk pw cl) (hf : f < a 2 0) (hk : kd f < 6) (hb : bk f < 2) (hw : w < 16) (hcl : cl < 2 ^ 31) (h : Q (some (.int (nI (if zb cl f = 0 then zSo a kd bk f (zcs a w) else 0)))) σ) : T_X12_voices [.ref 75, .int (nI f), .int (nI w)] σ Q := by
  have hn := hW.1
  have ht := (hW.2.2.2.1 f hf).2.2.2.1
  obtain ⟨h1, h2, h3⟩ := hH.2 f hf
  have m4 := (hM.2.2.2.2.2.1 f hf).2.2.2.1
  have hkn := @zKn_lt kd bk f (zcs a w)
  have B2 : ∀ p, p ≤ 20 → (p = if zb cl f = 0 then zs0 (a 6 f) (zKn kd bk f (zcs a w)) else 0) → zFix (F_X12_voices Q) 2 [.ref 75, .int (nI f)] [.int (nI p)] σ := by
    intro p hp ep
    have h : Q (some (.int (nI (if kd f = 1 ∨ kd f = 4 then p / 2 else if kd f = 5 then p - 1 else p)))) σ := by
      by_cases z : zb cl f = 0
      · rw [if_pos z] at h ep
        rw [ep]
        exact h
      · rw [if_neg z] at h ep
        rw [ep]
        have : (if kd f = 1 ∨ kd f = 4 then 0 / 2 else if kd f = 5 then 0 - 1 else 0) = 0 := by (repeat' split) <;> rfl
        rw [this]
        exact h
    have B4 : Q (some (.int (nI (p / 2)))) σ → zFix (F_X12_voices Q) 4 [.null, .null, .null, .int (nI p)] [] σ := by
      intro z
      rw [← pk_div (d := 2) (by omega) (by decide) (by decide)] at z
      exact zFix_in (And.intro (by decide) z)
    have B3 : zFix (F_X12_voices Q) 3 [.ref 75, .int (nI f), .null, .int (nI p)] [.int (nI (p - 1))] σ := by
      refine zFix_in ?_
      refine And.intro (vp_in_nI (N := 7) (by omega) (by decide)) ?_
      rw [nI_clamp (by omega), h1]
      refine And.intro (fun c => ?_) (fun c => ?_)
      · rw [if_pos (Or.inl (nI_inj (b := 1) (by omega) (by decide) c))] at h
        exact B4 h
      · have c1 : ¬ kd f = 1 := fun z => c (by rw [z]; rfl)
        refine And.intro (vp_in_nI (N := 7) (by omega) (by decide)) ?_
        rw [nI_clamp (by omega), h1]
        refine And.intro (fun d => ?_) (fun d => ?_)
        · have d1 : ¬ kd f = 4 := fun z => d (by rw [z]; rfl)
          rw [if_neg (by omega)] at h
          refine And.intro (vp_in_nI (N := 7) (by omega) (by decide)) ?_
          rw [nI_clamp (by omega), h1]
          refine And.intro (fun e => ?_) (fun e => ?_)
          · rw [if_neg (fun z => e (by rw [z]; rfl))] at h
            exact h
          · rw [if_pos (nI_inj (b := 5) (by omega) (by decide) e)] at h
            exact h
        · rw [if_pos (Or.inr (nI_inj (b := 4) (by omega) (by decide) d))] at h
          exact B4 h
    refine zFix_in ?_
    refine pk_le p 0 (fun c => ?_) (fun c => ?_)
    · rw [show p - 1 = 0 by omega] at B3
      exact B3
    · rw [← pk_sub (a := p) (b := 1) (by omega)] at B3
      exact B3
  have B1 : (¬ zb cl f = 0 ∨ zKn kd bk f (zcs a w) = 1) → zFix (F_X12_voices Q) 1 [.ref 75, .int (nI f)] [] σ := by
    intro z
    refine zFix_in ?_
    refine B2 0 (by decide) ?_
    by_cases y : zb cl f = 0
    · rcases z with z | z
      · exact absurd y z
      · rw [if_pos y, z]; rfl
    · rw [if_neg y]
  refine ⟨rfl, zFix_in ?_⟩
  show T_X12_has [.int (σ.1 75 9), .int (nI f)] σ _
  rw [hH.1]
  refine t_has hcl (by omega) ?_
  refine And.intro (fun c => ?_) (fun c => ?_)
  · exact B1 (Or.inl (fun z => c (by rw [z]; rfl)))
  · have c0 : zb cl f = 0 := nI_inj (b := 0) (by have := zb_lt cl f; omega) (by decide) c
    refine r_kneels hW hM hH hf hk hb hw ?_
    refine And.intro (fun d => ?_) (fun d => ?_)
    · have d0 : zKn kd bk f (zcs a w) = 0 := nI_inj (b := 0) (by omega) (by decide) d
      refine t_get (w := 3) (by omega) (by decide) ?_
      rw [show 6 + 6 * f + 3 = 9 + 6 * f by omega, m4]
      exact B2 (a 6 f) (by omega) (by rw [if_pos c0, d0]; rfl)
    · exact B1 (Or.inr (by
        rcases (show zKn kd bk f (zcs a w) = 0 ∨ zKn kd bk f (zcs a w) = 1 by omega) with z | z
        · exact absurd (by rw [z]; rfl) d
        · exact z))
theorem r_loud {w b : Nat} (hW : zWF a) (hM : zCM (σ.1 76) a) (hH : zHd σ a kd bk pw cl) (hk : ∀ f, f < a 2 0 → kd f < 6) (hb : ∀ f, f < a 2 0 → bk f < 2) (hw : w < 16) (hbb : b < 2) (hcl : cl < 2 ^ 31) (h : Q (some (.int (nI (zLd a kd bk cl (zcs a w) b (a 2 0))))) σ) : T_X12_loudOf [.ref 75, .int (nI w), .int (nI b)] σ Q := by
  have hn := hW.1
  have L : ∀ f, f ≤ a 2 0 → zFix (F_X12_loudOf Q) 1 [.ref 75, .int (nI w), .int (nI b), .int (nI (zLd a kd bk cl (zcs a w) b f)), .int (nI f)] [] σ := by
    refine zloop (a 2 0) (fun f hf ih => ?_)
    refine zFix_in ?_
    refine t_many ?_
    refine pk_le (a 2 0) f (fun q => ?_) (fun q => ?_) hM.1 rfl
    · have e : f = a 2 0 := by omega
      rw [e]
      exact h
    · obtain ⟨h1, h2, h3⟩ := hH.2 f q
      have es : zLd a kd bk cl (zcs a w) b (f + 1) = zLd a kd bk cl (zcs a w) b f + (if bk f = b ∧ zb cl f = 0 then zSo a kd bk f (zcs a w) else 0) := rfl
      have B2 : ∀ v, v = (if bk f = b ∧ zb cl f = 0 then zSo a kd bk f (zcs a w) else 0) → zFix (F_X12_loudOf Q) 2 [.ref 75, .int (nI w), .int (nI b), .null, .int (nI f)] [.int (nI v), .int (nI (zLd a kd bk cl (zcs a w) b f))] σ := by
        intro v hv
        refine zFix_in ?_
        show zFix (F_X12_loudOf Q) 1 [.ref 75, .int (nI w), .int (nI b), .int (nI (zLd a kd bk cl (zcs a w) b f) + nI v), .int (nI f + 1)] [] σ
        rw [nI_1, nI_add, hv, ← es]
        exact ih (f + 1) (by omega) (by omega)
      have hbf := hb f q
      refine And.intro (vp_in_nI (N := 7) (by omega) (by decide)) ?_
      rw [nI_clamp (by omega), h2]
      refine And.intro (fun c => ?_) (fun c => ?_)
      · exact B2 0 (by rw [if_neg (fun z => c (by rw [z.1]))])
      · have c1 : bk f = b := nI_inj (by omega) (by omega) c
        refine r_voices hW hM hH q (hk f q) hbf hw hcl ?_
        exact B2 _ (by by_cases z : zb cl f = 0
                       · rw [if_pos z, if_pos ⟨c1, z⟩]
                       · rw [if_neg z, if_neg (fun y => z y.2)])
  refine ⟨rfl, zFix_in ?_⟩
  exact L 0 (Nat.zero_le _)
theorem r_peace {w : Nat} (hW : zWF a) (hM : zCM (σ.1 76) a) (hH : zHd σ a kd bk pw cl) (hk : ∀ f, f < a 2 0 → kd f < 6) (hb : ∀ f, f < a 2 0 → bk f < 2) (hw : w < 16) (hcl : cl < 2 ^ 31) (h1 : zPe a kd bk cl (zcs a w) → Q (some (.int 1)) σ) (h0 : ¬ zPe a kd bk cl (zcs a w) → Q (some (.int 0)) σ) : T_X12_isPeace [.ref 75, .int (nI w)] σ Q := by
  refine ⟨rfl, zFix_in ?_⟩
  refine r_loud (b := 0) hW hM hH hk hb hw (by decide) hcl ?_
  refine r_loud (b := 1) hW hM hH hk hb hw (by decide) hcl ?_
  have l0 := zLd_lt (kd := kd) (bk := bk) (cl := cl) (c := zcs a w) (b := 0) hW
  have l1 := zLd_lt (kd := kd) (bk := bk) (cl := cl) (c := zcs a w) (b := 1) hW
  have hL := hW.2.1
  refine And.intro (vp_in_nI (n := 1) (N := 178) (by decide) (by decide)) ?_
  rw [show σ.1 76 (1 : Int32).toNatClampNeg = nI (a 0 0) from hM.2.1]
  refine And.intro (vp_in_nI (n := 1) (N := 178) (by decide) (by decide)) ?_
  rw [show σ.1 76 (1 : Int32).toNatClampNeg = nI (a 0 0) from hM.2.1]
  have d := pk_sub_toInt (a := zLd a kd bk cl (zcs a w) 0 (a 2 0)) (b := zLd a kd bk cl (zcs a w) 1 (a 2 0)) (by omega) (by omega)
  have eL : (-nI (a 0 0)).toInt = -(a 0 0 : Int) := sb_negT (by omega)
  refine t_in (fun c1 c2 => ?_) (fun c => ?_)
  · rw [i64, i64, d, eL] at c1
    rw [i64, i64, d, nI_toInt (by omega)] at c2
    exact And.intro (Or.inr rfl) (h1 ⟨by omega, by omega⟩)
  · rw [i64, i64, i64, d, eL, nI_toInt (by omega)] at c
    refine And.intro (Or.inl rfl) (h0 (fun z => c ?_))
    obtain ⟨z1, z2⟩ := z
    omega
theorem r_peaces (hW : zWF a) (hM : zCM (σ.1 76) a) (hH : zHd σ a kd bk pw cl) (hk : ∀ f, f < a 2 0 → kd f < 6) (hb : ∀ f, f < a 2 0 → bk f < 2) (hcl : cl < 2 ^ 31) (h : Q (some (.int (nI (zPs a kd bk cl)))) σ) : T_X12_peaces [.ref 75] σ Q := by
  have L : ∀ w, w ≤ 16 → zFix (F_X12_peaces Q) 1 [.ref 75, .int (nI (zsu (fun w => zpn a kd bk cl (zcs a w)) w)), .int (nI w)] [] σ := by
    refine zloop 16 (fun w hw ih => ?_)
    refine zFix_in ?_
    refine pk_le 16 w (fun q => ?_) (fun q => ?_)
    · have e : w = 16 := by omega
      subst e
      exact h
    · have B2 : ∀ v, v = zpn a kd bk cl (zcs a w) → zFix (F_X12_peaces Q) 2 [.ref 75, .null, .int (nI w)] [.int (nI v), .int (nI (zsu (fun w => zpn a kd bk cl (zcs a w)) w))] σ := by
        intro v hv
        refine zFix_in ?_
        show zFix (F_X12_peaces Q) 1 [.ref 75, .int (nI (zsu (fun w => zpn a kd bk cl (zcs a w)) w) + nI v), .int (nI w + 1)] [] σ
        rw [nI_1, nI_add, hv]
        exact ih (w + 1) (by omega) (by omega)
      refine r_peace hW hM hH hk hb q hcl (fun z => ?_) (fun z => ?_)
      · exact And.intro (fun y => absurd y (by decide)) (fun _ => B2 1 (zpn_1 z).symm)
      · exact And.intro (fun _ => B2 0 (zpn_0 z).symm) (fun y => absurd rfl y)
  refine ⟨rfl, zFix_in ?_⟩
  exact L 0 (Nat.zero_le _)
theorem r_sees {f w : Nat} (hW : zWF a) (hM : zCM (σ.1 76) a) (hH : zHd σ a kd bk (a 7) cl) (hk : ∀ f, f < a 2 0 → kd f < 6) (hb : ∀ f, f < a 2 0 → bk f < 2) (hf : f < a 2 0) (hw : w < 16) (h1 : zSee a kd bk f (zcs a w) → Q (some (.int 1)) σ) (h0 : ¬ zSee a kd bk f (zcs a w) → Q (some (.int 0)) σ) : T_X12_sees [.ref 75, .int (nI f), .int (nI w)] σ Q := by
  have hn := hW.1
  have L : ∀ g, g ≤ a 2 0 → ∀ d, d < 2 → (d = 1 ↔ ∀ x, x < g → a 7 x < a 7 f → zHi a kd bk x (zcs a w) < zHi a kd bk f (zcs a w)) → zFix (F_X12_sees Q) 1 [.ref 75, .int (nI f), .int (nI w), .int (nI d), .int (nI g)] [] σ := by
    refine zloop (a 2 0) (fun g hg ih => ?_)
    intro d hd inv
    refine zFix_in ?_
    refine t_many ?_
    refine pk_le (a 2 0) g (fun q => ?_) (fun q => ?_) hM.1 rfl
    · have e : g = a 2 0 := by omega
      subst e
      refine And.intro (nI_b0 hd) ?_
      rcases (show d = 0 ∨ d = 1 by omega) with z | z
      · rw [z]
        exact h0 (fun y => by have := inv.mpr y; omega)
      · rw [z]
        exact h1 (inv.mp z)
    · have B4 : ∀ e, e < 2 → (e = 1 ↔ ∀ x, x < g + 1 → a 7 x < a 7 f → zHi a kd bk x (zcs a w) < zHi a kd bk f (zcs a w)) → zFix (F_X12_sees Q) 4 [.ref 75, .int (nI f), .int (nI w), .null, .int (nI g)] [.int (nI e)] σ := by
        intro e he hi
        refine zFix_in ?_
        show zFix (F_X12_sees Q) 1 [.ref 75, .int (nI f), .int (nI w), .int (nI e), .int (nI g + 1)] [] σ
        rw [nI_1]
        exact ih (g + 1) (by omega) (by omega) e he hi
      have B3 : (¬ ∀ x, x < g + 1 → a 7 x < a 7 f → zHi a kd bk x (zcs a w) < zHi a kd bk f (zcs a w)) → zFix (F_X12_sees Q) 3 [.ref 75, .int (nI f), .int (nI w), .null, .int (nI g)] [] σ := by
        intro z
        refine zFix_in ?_
        exact B4 0 (by decide) ⟨fun y => by omega, fun y => absurd y z⟩
      have B2 : (∀ x, x < g + 1 → a 7 x < a 7 f → zHi a kd bk x (zcs a w) < zHi a kd bk f (zcs a w)) → zFix (F_X12_sees Q) 2 [.ref 75, .int (nI f), .int (nI w), .null, .int (nI g)] [] σ := by
        intro z
        refine zFix_in ?_
        exact B4 1 (by decide) ⟨fun _ => z, fun _ => rfl⟩
      have pg := (hW.2.2.2.1 g q).2.2.2.2.1
      have pf := (hW.2.2.2.1 f hf).2.2.2.2.1
      refine And.intro (fun c => ?_) (fun c => ?_)
      · have d0 : d = 0 := nI_inj (b := 0) (by omega) (by decide) c
        exact B3 (fun z => by have := inv.mpr (fun x hx => z x (by omega)); omega)
      · have d1 : d = 1 := by
          rcases (show d = 0 ∨ d = 1 by omega) with z | z
          · exact absurd (by rw [z]; rfl) c
          · exact z
        have inv := inv.mp d1
        refine And.intro (vp_in_nI (N := 7) (by omega) (by decide)) ?_
        rw [nI_clamp (by omega), (hH.2 g q).2.2]
        refine And.intro (vp_in_nI (N := 7) (by omega) (by decide)) ?_
        rw [nI_clamp (by omega), (hH.2 f hf).2.2]
        refine pk_le (a 7 f) (a 7 g) (fun d => ?_) (fun d => ?_)
        · refine B2 (fun x hx hlt => ?_)
          by_cases e : x = g
          · subst e; omega
          · exact inv x (by omega) hlt
        · refine r_high hW hM hH q (hk g q) (hb g q) hw ?_
          refine r_high hW hM hH hf (hk f hf) (hb f hf) hw ?_
          have hg1 := zHi_lt (kd := kd) (bk := bk) (c := zcs a w) hW q
          have hf1 := zHi_lt (kd := kd) (bk := bk) (c := zcs a w) hW hf
          refine pk_le (zHi a kd bk f (zcs a w)) (zHi a kd bk g (zcs a w)) (fun e => ?_) (fun e => ?_)
          · exact B3 (fun z => by have := z g (by omega) d; omega)
          · refine B2 (fun x hx hlt => ?_)
            by_cases e2 : x = g
            · subst e2; exact e
            · exact inv x (by omega) hlt
  refine ⟨rfl, zFix_in ?_⟩
  exact L 0 (Nat.zero_le _) 1 (by decide) ⟨fun _ x hx => absurd hx (Nat.not_lt_zero x), fun _ => rfl⟩
end
