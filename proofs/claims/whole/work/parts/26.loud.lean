/-! How loud, how high, who sees: the service's answers. -/
section
variable {a : zA} {kd bk : Nat → Nat} {σ : zM} {Q : zQ}
theorem t_loudC {c b cl : Nat} (hW : zWF a) (hS : zSv σ a kd bk) (hbk : ∀ f, f < a 2 0 → bk f < 2) (hc : c < 4) (hb : b < 2) (hcl : cl < 2 ^ 31) (h : Q (some (.int (nI (zLd a kd bk cl c b (a 2 0))))) σ) : T_X8_loudnessInCase [.ref 53, .int (nI c), .int (nI b), .int (nI cl)] σ Q := by
  have hn := hW.1
  have L : ∀ f, f ≤ a 2 0 → zFix (F_X8_loudnessInCase Q) 1 [.ref 53, .int (nI c), .int (nI b), .int (nI cl), .int (nI (zLd a kd bk cl c b f)), .int (nI f)] [] σ := by
    refine zloop (a 2 0) (fun f hf ih => ?_)
    refine zFix_in ?_
    refine pk_le (a 2 0) f (fun q => ?_) (fun q => ?_) hS.1 rfl
    · have e : f = a 2 0 := by omega
      rw [e]
      exact h
    · obtain ⟨r1, r2, r3⟩ := hS.2.2.2.2 f q
      have hbf := hbk f q
      have hs := r3 c hc
      have B2 : ∀ x, x = zLd a kd bk cl c b (f + 1) → zFix (F_X8_loudnessInCase Q) 2 [.ref 53, .int (nI c), .int (nI b), .int (nI cl), .int (nI x), .int (nI f)] [] σ := by
        intro x hx
        refine zFix_in ?_
        show zFix (F_X8_loudnessInCase Q) 1 [.ref 53, .int (nI c), .int (nI b), .int (nI cl), .int (nI x), .int (nI f + 1)] [] σ
        rw [nI_1, hx]
        exact ih (f + 1) (by omega) (by omega)
      have es : zLd a kd bk cl c b (f + 1) = zLd a kd bk cl c b f + (if bk f = b ∧ zb cl f = 0 then zSo a kd bk f c else 0) := rfl
      refine And.intro (vp_in_nI (N := 7) (by omega) (by decide)) ?_
      rw [nI_clamp (by omega), r1]
      refine And.intro (fun d => ?_) (fun d => ?_)
      · exact B2 _ (by rw [es, if_neg (fun z => d (by rw [z.1]))]; rfl)
      · have d := nI_inj (by omega) (by omega) d
        refine t_X11_bit hcl (by omega) ?_
        refine And.intro (fun z => ?_) (fun z => ?_)
        · exact B2 _ (by rw [es, if_neg (fun y => z (by rw [y.2]; rfl))]; rfl)
        · have z : zb cl f = 0 := nI_inj (by have := zb_lt cl f; omega) (by decide) z
          refine And.intro (by rw [show nI f * 4 + nI c = nI (f * 4 + c) by rw [show (4 : Int32) = nI 4 from rfl, pk_mul, nI_add]]; exact vp_in_nI (N := 28) (by omega) (by decide)) ?_
          rw [show nI f * 4 + nI c = nI (f * 4 + c) by rw [show (4 : Int32) = nI 4 from rfl, pk_mul, nI_add], nI_clamp (by omega), hs.2.2]
          have B := B2 _ (by rw [es, if_pos ⟨d, z⟩])
          rw [← nI_add] at B
          exact B
  refine ⟨rfl, zFix_in ?_⟩
  exact L 0 (Nat.zero_le _)
theorem t_loudness {w b cl : Nat} (hW : zWF a) (hS : zSv σ a kd bk) (hbk : ∀ f, f < a 2 0 → bk f < 2) (hw : w < 16) (hb : b < 2) (hcl : cl < 2 ^ 31) (h : Q (some (.int (nI (zLd a kd bk cl (zcs a w) b (a 2 0))))) σ) : T_X8_loudness [.ref 53, .int (nI w), .int (nI b), .int (nI cl)] σ Q := by
  refine ⟨rfl, zFix_in ?_⟩
  refine And.intro (vp_in_nI (N := 16) hw (by decide)) ?_
  rw [nI_clamp (by omega), hS.2.2.1 w hw]
  exact t_loudC hW hS hbk (zcs_lt a w) hb hcl h
theorem abs_lt {x y L : Nat} (hx : x < 1000) (hy : y < 1000) (hL : L < 1000) : (nI L < (if 0 ≤ nI x - nI y then nI x - nI y else 0 - (nI x - nI y))) ↔ ¬ (x ≤ y + L ∧ y ≤ x + L) := by
  by_cases h : y ≤ x
  · rw [pk_sub h, if_pos (nI_pos' (by omega)), nI_ltI (by omega) (by omega)]
    omega
  · have h1 := pk_sneg (a := x) (b := y) (by omega) (by omega)
    rw [if_neg (fun q => Int32.lt_irrefl (Int32.lt_of_lt_of_le h1 q))]
    have e : (0 : Int32) - (nI x - nI y) = nI y - nI x := by
      rw [Int32.zero_sub, Int32.neg_sub]
    rw [e, pk_sub (by omega), nI_ltI (by omega) (by omega)]
    omega
theorem zLd_lt {cl c b : Nat} (hW : zWF a) : zLd a kd bk cl c b (a 2 0) ≤ 140 := by
  have := zLd_le (kd := kd) (bk := bk) (cl := cl) (c := c) (b := b) hW (Nat.le_refl (a 2 0))
  have := hW.1
  omega
theorem t_peaceC {c cl : Nat} (hW : zWF a) (hS : zSv σ a kd bk) (hbk : ∀ f, f < a 2 0 → bk f < 2) (hc : c < 4) (hcl : cl < 2 ^ 31) (h1 : zPe a kd bk cl c → Q (some (.int 1)) σ) (h0 : ¬ zPe a kd bk cl c → Q (some (.int 0)) σ) : T_X8_isPeacefulInCase [.ref 53, .int (nI c), .int (nI cl)] σ Q := by
  refine ⟨rfl, zFix_in ?_⟩
  refine t_loudC (b := 0) hW hS hbk hc (by decide) hcl ?_
  refine t_loudC (b := 1) hW hS hbk hc (by decide) hcl ?_
  have l0 := zLd_lt (kd := kd) (bk := bk) (cl := cl) (c := c) (b := 0) hW
  have l1 := zLd_lt (kd := kd) (bk := bk) (cl := cl) (c := c) (b := 1) hW
  have hL := hW.2.1
  have key := abs_lt (x := zLd a kd bk cl c 0 (a 2 0)) (y := zLd a kd bk cl c 1 (a 2 0)) (L := a 0 0) (by omega) (by omega) (by omega)
  rw [← hS.2.1] at key
  refine And.intro (fun d => ?_) (fun d => ?_)
  · exact And.intro (Or.inl rfl) (h0 (key.mp d))
  · exact And.intro (Or.inr rfl) (h1 (Classical.byContradiction (fun z => d (key.mpr z))))
theorem t_peaceW {w cl : Nat} (hW : zWF a) (hS : zSv σ a kd bk) (hbk : ∀ f, f < a 2 0 → bk f < 2) (hw : w < 16) (hcl : cl < 2 ^ 31) (h1 : zPe a kd bk cl (zcs a w) → Q (some (.int 1)) σ) (h0 : ¬ zPe a kd bk cl (zcs a w) → Q (some (.int 0)) σ) : T_X8_isPeaceful [.ref 53, .int (nI w), .int (nI cl)] σ Q := by
  refine ⟨rfl, zFix_in ?_⟩
  refine And.intro (vp_in_nI (N := 16) hw (by decide)) ?_
  rw [nI_clamp (by omega), hS.2.2.1 w hw]
  exact t_peaceC hW hS hbk (zcs_lt a w) hcl (fun q => And.intro (Or.inr rfl) (h1 q)) (fun q => And.intro (Or.inl rfl) (h0 q))
-- heights and sights
theorem fc_eq {f w : Nat} (hS : zSv σ a kd bk) (hw : w < 16) : nI f * 4 + σ.1 66 (nI w).toNatClampNeg = nI (f * 4 + zcs a w) := by
  rw [nI_clamp (by omega), hS.2.2.1 w hw, show (4 : Int32) = nI 4 from rfl, pk_mul, nI_add]
theorem t_kneels {f w : Nat} (hW : zWF a) (hS : zSv σ a kd bk) (hf : f < a 2 0) (hw : w < 16) (h : Q (some (.int (nI (zKn kd bk f (zcs a w))))) σ) : T_X8_kneels [.ref 53, .int (nI f), .int (nI w)] σ Q := by
  have hn := hW.1
  have hc := zcs_lt a w
  refine ⟨rfl, zFix_in ?_⟩
  refine And.intro (vp_in_nI (N := 16) hw (by decide)) ?_
  refine And.intro (by rw [fc_eq hS hw]; exact vp_in_nI (N := 28) (by omega) (by decide)) ?_
  rw [fc_eq hS hw, nI_clamp (by omega), ((hS.2.2.2.2 f hf).2.2 _ hc).1]
  exact And.intro (nI_b0 zKn_lt) h
theorem t_high {f w : Nat} (hW : zWF a) (hS : zSv σ a kd bk) (hf : f < a 2 0) (hw : w < 16) (h : Q (some (.int (nI (zHi a kd bk f (zcs a w))))) σ) : T_X8_high [.ref 53, .int (nI f), .int (nI w)] σ Q := by
  have hn := hW.1
  have hc := zcs_lt a w
  refine ⟨rfl, zFix_in ?_⟩
  refine And.intro (vp_in_nI (N := 16) hw (by decide)) ?_
  refine And.intro (by rw [fc_eq hS hw]; exact vp_in_nI (N := 28) (by omega) (by decide)) ?_
  rw [fc_eq hS hw, nI_clamp (by omega), ((hS.2.2.2.2 f hf).2.2 _ hc).2.1]
  exact h
theorem t_voices {f w cl : Nat} (hW : zWF a) (hS : zSv σ a kd bk) (hf : f < a 2 0) (hw : w < 16) (hcl : cl < 2 ^ 31) (h : Q (some (.int (nI (if zb cl f = 0 then zSo a kd bk f (zcs a w) else 0)))) σ) : T_X8_voices [.ref 53, .int (nI f), .int (nI w), .int (nI cl)] σ Q := by
  have hn := hW.1
  have hc := zcs_lt a w
  refine ⟨rfl, zFix_in ?_⟩
  refine t_X11_bit hcl (by omega) ?_
  refine And.intro (fun d => ?_) (fun d => ?_)
  · rw [if_pos (zb_eq0 d)] at h
    refine And.intro (vp_in_nI (N := 16) hw (by decide)) ?_
    refine And.intro (by rw [fc_eq hS hw]; exact vp_in_nI (N := 28) (by omega) (by decide)) ?_
    rw [fc_eq hS hw, nI_clamp (by omega), ((hS.2.2.2.2 f hf).2.2 _ hc).2.2]
    exact h
  · rw [if_neg (by rw [zb_eq1 d]; decide)] at h
    exact h
def zSee (a : zA) (kd bk : Nat → Nat) (f c : Nat) : Prop := ∀ g, g < a 2 0 → a 7 g < a 7 f → zHi a kd bk g c < zHi a kd bk f c
theorem zHi_lt (hW : zWF a) {f c : Nat} (hf : f < a 2 0) : zHi a kd bk f c ≤ 10 := by
  have := (hW.2.2.2.1 f hf).2.2.1
  have := @zhi_le (kd f) (a 5 f) (zKn kd bk f c)
  unfold zHi
  omega
theorem t_sees {f w : Nat} (hW : zWF a) (hS : zSv σ a kd bk) (hf : f < a 2 0) (hw : w < 16) (h1 : zSee a kd bk f (zcs a w) → Q (some (.int 1)) σ) (h0 : ¬ zSee a kd bk f (zcs a w) → Q (some (.int 0)) σ) : T_X8_sees [.ref 53, .int (nI f), .int (nI w)] σ Q := by
  have hn := hW.1
  have L : ∀ g, g ≤ a 2 0 → (∀ x, x < g → a 7 x < a 7 f → zHi a kd bk x (zcs a w) < zHi a kd bk f (zcs a w)) → zFix (F_X8_sees Q) 1 [.ref 53, .int (nI f), .int (nI w), .int (nI g)] [] σ := by
    refine zloop (a 2 0) (fun g hg ih => ?_)
    intro inv
    refine zFix_in ?_
    refine pk_le (a 2 0) g (fun q => ?_) (fun q => ?_) hS.1 rfl
    · exact And.intro (Or.inr rfl) (h1 (fun x hx => inv x (by omega)))
    · have B2 : (a 7 g < a 7 f → zHi a kd bk g (zcs a w) < zHi a kd bk f (zcs a w)) → zFix (F_X8_sees Q) 2 [.ref 53, .int (nI f), .int (nI w), .int (nI g)] [] σ := by
        intro z
        refine zFix_in ?_
        show zFix (F_X8_sees Q) 1 [.ref 53, .int (nI f), .int (nI w), .int (nI g + 1)] [] σ
        rw [nI_1]
        refine ih (g + 1) (by omega) (by omega) (fun x hx => ?_)
        by_cases e : x = g
        · rw [e]; exact z
        · exact inv x (by omega)
      have pg := (hW.2.2.2.1 g q).2.2.2.2.1
      have pf := (hW.2.2.2.1 f hf).2.2.2.2.1
      refine And.intro (vp_in_nI (N := 7) (by omega) (by decide)) ?_
      rw [nI_clamp (by omega), (hS.2.2.2.2 g q).2.1]
      refine And.intro (vp_in_nI (N := 7) (by omega) (by decide)) ?_
      rw [nI_clamp (by omega), (hS.2.2.2.2 f hf).2.1]
      refine pk_le (a 7 f) (a 7 g) (fun d => ?_) (fun d => ?_)
      · exact B2 (fun z => by omega)
      · refine t_high hW hS q hw ?_
        refine t_high hW hS hf hw ?_
        have hg1 := zHi_lt (kd := kd) (bk := bk) (c := zcs a w) hW q
        have hf1 := zHi_lt (kd := kd) (bk := bk) (c := zcs a w) hW hf
        refine pk_lt (zHi a kd bk g (zcs a w)) (zHi a kd bk f (zcs a w)) (fun e => ?_) (fun e => ?_)
        · exact B2 (fun _ => e)
        · refine And.intro (Or.inl rfl) (h0 (fun z => ?_))
          have := z g q d
          omega
  refine ⟨rfl, zFix_in ?_⟩
  exact L 0 (Nat.zero_le _) (fun x hx => absurd hx (Nat.not_lt_zero x))
def zAg (a : zA) (kd bk : Nat → Nat) (cl : Nat) : Prop := ∀ k, k < a 9 0 → zLd a kd bk cl (zcs a (a 10 k)) (a 11 k) (a 2 0) = a 12 k
theorem t_agrees {cl : Nat} (hW : zWF a) (hX : zCX 1 σ a) (hS : zSv σ a kd bk) (hbk : ∀ f, f < a 2 0 → bk f < 2) (hcl : cl < 2 ^ 31) (h1 : zAg a kd bk cl → Q (some (.int 1)) σ) (h0 : ¬ zAg a kd bk cl → Q (some (.int 0)) σ) : T_X8_agreesWith [.ref 53, .ref 1, .int (nI cl)] σ Q := by
  have hh := hW.2.2.2.2.2.2.1
  have L : ∀ k, k ≤ a 9 0 → (∀ j, j < k → zLd a kd bk cl (zcs a (a 10 j)) (a 11 j) (a 2 0) = a 12 j) → zFix (F_X8_agreesWith Q) 1 [.ref 53, .ref 1, .int (nI cl), .int (nI k)] [] σ := by
    refine zloop (a 9 0) (fun k hk ih => ?_)
    intro inv
    refine zFix_in ?_
    refine pk_le (a 9 0) k (fun q => ?_) (fun q => ?_) hX.2.2.2.2.2.1 rfl
    · exact And.intro (Or.inr rfl) (h1 (fun j hj => inv j (by omega)))
    · obtain ⟨x1, x2, x3⟩ := hX.2.2.2.2.2.2.1 k q
      obtain ⟨w1, w2, w3⟩ := hW.2.2.2.2.2.2.2.1 k q
      refine And.intro (vp_in_nI (N := 6) (by omega) (by decide)) ?_
      rw [nI_clamp (by omega), x1]
      refine And.intro (vp_in_nI (N := 6) (by omega) (by decide)) ?_
      rw [nI_clamp (by omega), x2]
      refine t_loudness hW hS hbk w1 w2 hcl ?_
      refine And.intro (vp_in_nI (N := 6) (by omega) (by decide)) ?_
      rw [nI_clamp (by omega), x3]
      have l0 := zLd_lt (kd := kd) (bk := bk) (cl := cl) (c := zcs a (a 10 k)) (b := a 11 k) hW
      refine pk_eq (zLd a kd bk cl (zcs a (a 10 k)) (a 11 k) (a 2 0)) (a 12 k) (fun e => ?_) (fun e => ?_)
      · show zFix (F_X8_agreesWith Q) 1 [.ref 53, .ref 1, .int (nI cl), .int (nI k + 1)] [] σ
        rw [nI_1]
        refine ih (k + 1) (by omega) (by omega) (fun j hj => ?_)
        by_cases e2 : j = k
        · rw [e2]; exact e
        · exact inv j (by omega)
      · exact And.intro (Or.inl rfl) (h0 (fun z => e (z k q)))
  refine ⟨rfl, zFix_in ?_⟩
  exact L 0 (Nat.zero_le _) (fun x hx => absurd hx (Nat.not_lt_zero x))
end
