/-! The reference's seats; the pair. -/
theorem m1_add (x : Int32) : x + (-1) = x - 1 := by rw [Int32.sub_eq_add_neg]
section
variable {a : zA} {σ : zM} {Q : zQ}
/-- the seats from family k on differ -/
def zDf (a : zA) (c k : Nat) : Prop := ∀ f g, k ≤ f → f < a 2 0 → k ≤ g → g < a 2 0 → zcod a c f = zcod a c g → f = g
theorem zcod_r (hW : zWF a) {c f : Nat} (hf : f < a 2 0) : zcod a c f < 10 ∧ zcod a c f % 2 = a 4 f := by
  have := (hW.2.2.2.1 f hf).2.1
  have := Nat.mod_lt (c / 5 ^ (a 2 0 - 1 - f)) (show 0 < 5 by decide)
  unfold zcod
  omega
theorem r_laySeats {c : Nat} (hW : zWF a) (hc : c < 5 ^ a 2 0) (e0' : σ.1 76 0 = nI (a 2 0)) (e81 : ∀ f, f < a 2 0 → σ.1 81 f = nI (a 4 f)) (h1 : zDf a c 0 → ∀ τ : zM, (∀ k, k ≠ 82 → τ.1 k = σ.1 k) → τ.2 = σ.2 → (∀ f, f < a 2 0 → τ.1 82 f = nI (zcod a c f)) → Q (some (.int 1)) τ) (h0 : ¬ zDf a c 0 → ∀ τ : zM, (∀ k, k ≠ 82 → τ.1 k = σ.1 k) → τ.2 = σ.2 → Q (some (.int 0)) τ) : T_X12_laySeats [.ref 75, .int (nI c)] σ Q := by
  have hn := hW.1
  have p7 : 5 ^ a 2 0 ≤ 5 ^ 7 := Nat.pow_le_pow_right (by decide) hn
  have L : ∀ k, k ≤ a 2 0 → ∀ (τ : zM) (u d : Nat), (∀ j, j ≠ 82 → τ.1 j = σ.1 j) → τ.2 = σ.2 → (∀ f, k ≤ f → f < a 2 0 → τ.1 82 f = nI (zcod a c f)) → d < 2 → (d = 1 ↔ zDf a c k) → u < 1024 → (∀ p, p < 10 → (zb u p = 1 ↔ ∃ f, k ≤ f ∧ f < a 2 0 ∧ zcod a c f = p)) → zFix (F_X12_laySeats Q) 1 [.ref 75, .null, .int (nI (c / 5 ^ (a 2 0 - k))), .int (nI u), .int (nI d), .int (nI k - 1)] [] τ := by
    intro k
    induction k with
    | zero =>
      intro _ τ u d g1 g2 g3 hd id' hu iu
      refine zFix_in ?_
      refine And.intro (fun _ => ?_) (fun z => absurd (by decide) z)
      rcases (show d = 0 ∨ d = 1 by omega) with rfl | rfl
      · exact And.intro (Or.inl rfl) (h0 (fun q => absurd (id'.mpr q) (by decide)) τ g1 g2)
      · exact And.intro (Or.inr rfl) (h1 (id'.mp rfl) τ g1 g2 (fun f hf => g3 f (Nat.zero_le _) hf))
    | succ k ih =>
      intro hk τ u d g1 g2 g3 hd id' hu iu
      obtain ⟨c1, c2⟩ := zcod_r (c := c) hW (show k < a 2 0 by omega)
      have hb := (hW.2.2.2.1 k (by omega)).2.1
      have ll : c / 5 ^ (a 2 0 - (k + 1)) ≤ c := Nat.div_le_self _ _
      have ed : c / 5 ^ (a 2 0 - (k + 1)) / 5 = c / 5 ^ (a 2 0 - k) := by rw [Nat.div_div_eq_div_mul, ← Nat.pow_succ, show (a 2 0 - (k + 1)).succ = a 2 0 - k by omega]
      have ec : 2 * (c / 5 ^ (a 2 0 - (k + 1)) % 5) + a 4 k = zcod a c k := by unfold zcod; rw [show a 2 0 - (k + 1) = a 2 0 - 1 - k by omega]
      rw [nI_pred]
      refine zFix_in ?_
      refine And.intro (fun z => absurd z (nI_pos (by omega))) (fun _ => ?_)
      have e81' : τ.1 81 k = nI (a 4 k) := by rw [g1 81 (by decide)]; exact e81 k (by omega)
      refine And.intro (by decide) (And.intro (vp_in_nI (N := 7) (by omega) (by decide)) (And.intro (vp_in_nI (N := 7) (by omega) (by decide)) (And.intro (by decide) ?_)))
      have es : (2 : Int32) * (nI (c / 5 ^ (a 2 0 - (k + 1))) - nI (c / 5 ^ (a 2 0 - (k + 1))) / 5 * 5) + τ.1 81 (nI k).toNatClampNeg = nI (zcod a c k) := by
        rw [nI_clamp (by omega), e81', show (5 : Int32) = nI 5 from rfl, pk_rem (by omega) (by decide) (by decide), show (2 : Int32) = nI 2 from rfl, pk_mul, nI_add, ec]
      have ev : nI (c / 5 ^ (a 2 0 - (k + 1))) / 5 = nI (c / 5 ^ (a 2 0 - k)) := by
        rw [show (5 : Int32) = nI 5 from rfl, pk_div (by omega) (by decide) (by decide), ed]
      show (nI d = 0 → zFix (F_X12_laySeats Q) 2 [.ref 75, .null, .int (nI (c / 5 ^ (a 2 0 - (k + 1))) / 5), .int (nI u), .null, .int (nI k)] [] (zput τ 82 (nI k).toNatClampNeg ((2 : Int32) * (nI (c / 5 ^ (a 2 0 - (k + 1))) - nI (c / 5 ^ (a 2 0 - (k + 1))) / 5 * 5) + τ.1 81 (nI k).toNatClampNeg))) ∧ (¬ nI d = 0 → vp_in (nI k) 7 ∧ T_X12_has [.int (nI u), .int ((zput τ 82 (nI k).toNatClampNeg ((2 : Int32) * (nI (c / 5 ^ (a 2 0 - (k + 1))) - nI (c / 5 ^ (a 2 0 - (k + 1))) / 5 * 5) + τ.1 81 (nI k).toNatClampNeg)).1 82 (nI k).toNatClampNeg)] (zput τ 82 (nI k).toNatClampNeg ((2 : Int32) * (nI (c / 5 ^ (a 2 0 - (k + 1))) - nI (c / 5 ^ (a 2 0 - (k + 1))) / 5 * 5) + τ.1 81 (nI k).toNatClampNeg)) (fun v τ' => (i_ifne (i_jmp (zFix (F_X12_laySeats Q)) 2 [true, false, true, true, false, true]) <| i_ic 1 <| i_jmp (zFix (F_X12_laySeats Q)) 3 [true, false, true, true, false, true]) [.ref 75, .null, .int (nI (c / 5 ^ (a 2 0 - (k + 1))) / 5), .int (nI u), .int (nI d), .int (nI k)] (zvl v []) τ'))
      rw [es, ev, nI_clamp (by omega), zput_s]
      have B3 : ∀ e, e < 2 → (e = 1 ↔ zDf a c k) → zFix (F_X12_laySeats Q) 3 [.ref 75, .null, .int (nI (c / 5 ^ (a 2 0 - k))), .int (nI u), .null, .int (nI k)] [.int (nI e)] (zput τ 82 k (nI (zcod a c k))) := by
        intro e he ie
        refine zFix_in ?_
        refine And.intro (vp_in_nI (N := 7) (by omega) (by decide)) ?_
        show zFix (F_X12_laySeats Q) 1 [.ref 75, .null, .int (nI (c / 5 ^ (a 2 0 - k))), .int (nI u ||| (1 : Int32) <<< ((zput τ 82 k (nI (zcod a c k))).1 82 (nI k).toNatClampNeg &&& 31)), .int (nI e), .int (nI k + (-1))] [] (zput τ 82 k (nI (zcod a c k)))
        rw [nI_clamp (by omega), zput_s, nI_shl1 (by omega), nI_or, m1_add]
        refine ih (by omega) _ _ e (fun j hj => (zput_ne hj).trans (g1 j hj)) g2 (fun f h1 h2 => ?_) he ie (Nat.or_lt_two_pow (n := 10) hu (Nat.pow_lt_pow_right (by decide) c1)) (fun p hp => ?_)
        · rw [zputj]
          by_cases q : f = k
          · rw [if_pos q, q]
          · rw [if_neg q]
            exact g3 f (by omega) h2
        · rw [zb_o, zb_p, iu p hp]
          refine ⟨fun q => ?_, fun ⟨f, q1, q2, q3⟩ => ?_⟩
          · rcases q with ⟨f, q1, q2, q3⟩ | q
            · exact ⟨f, by omega, q2, q3⟩
            · exact ⟨k, Nat.le_refl _, by omega, q⟩
          · by_cases q : f = k
            · exact Or.inr (by rw [← q3, q])
            · exact Or.inl ⟨f, by omega, q2, q3⟩
      have dn : zDf a c k → zDf a c (k + 1) := fun q f g h1 h2 h3 h4 => q f g (by omega) h2 (by omega) h4
      rcases (show d = 0 ∨ d = 1 by omega) with rfl | rfl
      · exact e0 (zFix_in (B3 0 (by decide) ⟨fun q => absurd q (by decide), fun q => absurd (id'.mpr (dn q)) (by decide)⟩))
      · refine e1 ⟨vp_in_nI (by omega) (by decide), ?_⟩
        have df := id'.mp rfl
        refine t_has (by omega) (by omega) ?_
        rcases zb_01 u (zcod a c k) with q | q
        · rw [q]
          refine n0 (B3 1 (by decide) ⟨fun _ f g h1 h2 h3 h4 e => ?_, fun _ => rfl⟩)
          have no : ¬ ∃ f, k + 1 ≤ f ∧ f < a 2 0 ∧ zcod a c f = zcod a c k := fun z => by have := (iu _ c1).mpr z; omega
          by_cases f1 : f = k
          · by_cases g1' : g = k
            · omega
            · exact absurd ⟨g, by omega, h4, by rw [← e, f1]⟩ no
          · by_cases g1' : g = k
            · exact absurd ⟨f, by omega, h2, by rw [e, g1']⟩ no
            · exact df f g (by omega) h2 (by omega) h4 e
        · rw [q]
          refine n1 (zFix_in (B3 0 (by decide) ⟨fun z => absurd z (by decide), fun z => ?_⟩))
          obtain ⟨f, q1, q2, q3⟩ := (iu _ c1).mp q
          have := z f k (by omega) q2 (Nat.le_refl _) (by omega) q3
          omega
  refine ⟨rfl, zFix_in (t_many ?_)⟩
  show zFix (F_X12_laySeats Q) 1 [.ref 75, .null, .int (nI c), .int (nI 0), .int (nI 1), .int (σ.1 76 0 - 1)] [] σ
  rw [e0']
  have B := L (a 2 0) (Nat.le_refl _) σ 0 1 (fun _ _ => rfl) rfl (fun f h1 h2 => by omega) (by decide) ⟨fun _ f g h1 h2 => by omega, fun _ => rfl⟩ (by decide) (fun p _ => ⟨fun z => absurd z (by unfold zb; rw [Nat.zero_div]; decide), fun ⟨f, h1, h2, _⟩ => by omega⟩)
  rw [Nat.sub_self, Nat.pow_zero, Nat.div_one] at B
  exact B
theorem r_seeing {r : Nat → Nat} (hW : zWF a) (e0' : σ.1 76 0 = nI (a 2 0)) (hr : ∀ f, f < a 2 0 → r f < 10 ∧ σ.1 82 f = nI (r f)) (hh : ∀ f, f < a 2 0 → ∀ w, w < 16 → σ.1 83 (16 * f + w) = nI (zH a f (zcs a w))) (h : Q (some (.int (nI (zcS a r)))) σ) : T_X12_seeing [.ref 75] σ Q := by
  have hn := hW.1
  have hl : ∀ f, f < a 2 0 → ∀ c, zH a f c ≤ 10 := fun f hf c => zHi_lt hW hf
  obtain ⟨V, eV⟩ : ∃ V : Nat → Nat → Nat, V = fun f w => zsu (fun w => zpp (zSe a (2 ^ a 2 0 - 1) r f (zcs a w))) w := ⟨_, rfl⟩
  have V16 : ∀ f, V f 16 = zVs a (2 ^ a 2 0 - 1) r f := fun f => by
    have c := zcount a (fun c => zpp (zSe a (2 ^ a 2 0 - 1) r f c)) 16
    rw [eV]
    show zsu (fun w => zpp (zSe a (2 ^ a 2 0 - 1) r f (zcs a w))) 16 = _
    rw [c]
    have e : zVs a (2 ^ a 2 0 - 1) r f = 0 + zpp (zSe a (2 ^ a 2 0 - 1) r f 0) * zwc a 0 16 + zpp (zSe a (2 ^ a 2 0 - 1) r f 1) * zwc a 1 16 + zpp (zSe a (2 ^ a 2 0 - 1) r f 2) * zwc a 2 16 + zpp (zSe a (2 ^ a 2 0 - 1) r f 3) * zwc a 3 16 := rfl
    omega
  have Vs : ∀ f w, V f (w + 1) = V f w + zpp (zSe a (2 ^ a 2 0 - 1) r f (zcs a w)) := fun f w => by rw [eV]; rfl
  have V0 : ∀ f, V f 0 = 0 := fun f => by rw [eV]; rfl
  have L : ∀ f, f ≤ a 2 0 → zFix (F_X12_seeing Q) 1 [.ref 75, .int (nI (zsu (fun f => zVs a (2 ^ a 2 0 - 1) r f) f)), .int (nI f)] [] σ := by
    refine zloop (a 2 0) (fun f hf ih => ?_)
    refine zFix_in (t_many ?_)
    refine pk_le (a 2 0) f (fun d => ?_) (fun d => ?_) e0' rfl
    · have ef : f = a 2 0 := by omega
      subst ef
      exact h
    · have L2 : ∀ w, w ≤ 16 → zFix (F_X12_seeing Q) 2 [.ref 75, .int (nI (zsu (fun f => zVs a (2 ^ a 2 0 - 1) r f) f + V f w)), .int (nI f), .int (nI w)] [] σ := by
        refine zloop 16 (fun w hw ih2 => ?_)
        refine zFix_in ?_
        refine pk_le 16 w (fun e => ?_) (fun e => ?_)
        · have ew : w = 16 := by omega
          subst ew
          show zFix (F_X12_seeing Q) 1 [.ref 75, .int (nI (zsu (fun f => zVs a (2 ^ a 2 0 - 1) r f) f + V f 16)), .int (nI f + 1)] [] σ
          rw [nI_1, V16]
          exact ih (f + 1) (by omega) (by omega)
        · have B6 : ∀ x, x < 2 → (x = 1 ↔ zSe a (2 ^ a 2 0 - 1) r f (zcs a w)) → zFix (F_X12_seeing Q) 6 [.ref 75, .int (nI (zsu (fun f => zVs a (2 ^ a 2 0 - 1) r f) f + V f w)), .int (nI f), .int (nI w), .int (nI x)] [] σ := by
            intro x hx ix
            refine zFix_in ?_
            have B7 : ∀ y, y = zpp (zSe a (2 ^ a 2 0 - 1) r f (zcs a w)) → zFix (F_X12_seeing Q) 7 [.ref 75, .null, .int (nI f), .int (nI w)] [.int (nI y), .int (nI (zsu (fun f => zVs a (2 ^ a 2 0 - 1) r f) f + V f w))] σ := by
              intro y hy
              refine zFix_in ?_
              show zFix (F_X12_seeing Q) 2 [.ref 75, .int (nI (zsu (fun f => zVs a (2 ^ a 2 0 - 1) r f) f + V f w) + nI y), .int (nI f), .int (nI w + 1)] [] σ
              rw [nI_1, nI_add, Nat.add_assoc, hy, ← Vs]
              exact ih2 (w + 1) (by omega) (by omega)
            rcases (show x = 0 ∨ x = 1 by omega) with rfl | rfl
            · exact e0 (B7 0 (zpp_0 (fun q => absurd (ix.mpr q) (by decide))).symm)
            · exact e1 (B7 1 (zpp_1 (ix.mp rfl)).symm)
          have L3 : ∀ o, o ≤ a 2 0 → ∀ x, x < 2 → (x = 1 ↔ ∀ g, g < o → r g < r f → zH a g (zcs a w) < zH a f (zcs a w)) → zFix (F_X12_seeing Q) 3 [.ref 75, .int (nI (zsu (fun f => zVs a (2 ^ a 2 0 - 1) r f) f + V f w)), .int (nI f), .int (nI w), .int (nI x), .int (nI o)] [] σ := by
            refine zloop (a 2 0) (fun o ho ih3 => ?_)
            intro x hx ix
            refine zFix_in (t_many ?_)
            refine pk_le (a 2 0) o (fun c => ?_) (fun c => ?_) e0' rfl
            · have eo : o = a 2 0 := by omega
              subst eo
              exact B6 x hx ⟨fun q g hg _ l => ix.mp q g hg l, fun q => ix.mpr (fun g hg l => q g hg (zfull _ (by omega) g hg) l)⟩
            · rcases (show x = 0 ∨ x = 1 by omega) with rfl | rfl
              · exact e0 (B6 0 (by decide) ⟨fun q => absurd q (by decide), fun q => absurd (ix.mpr (fun g hg l => q g (by omega) (zfull _ (by omega) g (by omega)) l)) (by decide)⟩)
              · refine e1 ?_
                have all := ix.mp rfl
                obtain ⟨r1, r2⟩ := hr o c
                obtain ⟨r3, r4⟩ := hr f d
                have h1 := hh o c w e
                have h2 := hh f d w e
                have l1 := hl o c (zcs a w)
                have l2 := hl f d (zcs a w)
                have B5 : ∀ x, x < 2 → (x = 1 ↔ ∀ g, g < o + 1 → r g < r f → zH a g (zcs a w) < zH a f (zcs a w)) → zFix (F_X12_seeing Q) 5 [.ref 75, .int (nI (zsu (fun f => zVs a (2 ^ a 2 0 - 1) r f) f + V f w)), .int (nI f), .int (nI w), .null, .int (nI o)] [.int (nI x)] σ := by
                  intro x hx ix
                  refine zFix_in ?_
                  show zFix (F_X12_seeing Q) 3 [.ref 75, .int (nI (zsu (fun f => zVs a (2 ^ a 2 0 - 1) r f) f + V f w)), .int (nI f), .int (nI w), .int (nI x), .int (nI o + 1)] [] σ
                  rw [nI_1]
                  exact ih3 (o + 1) (by omega) (by omega) x hx ix
                have B4 : (r o < r f → zH a o (zcs a w) < zH a f (zcs a w)) → zFix (F_X12_seeing Q) 4 [.ref 75, .int (nI (zsu (fun f => zVs a (2 ^ a 2 0 - 1) r f) f + V f w)), .int (nI f), .int (nI w), .null, .int (nI o)] [] σ := fun q => zFix_in (B5 1 (by decide) ⟨fun _ g hg l => by
                  by_cases eg : g = o
                  · rw [eg] at l ⊢; exact q l
                  · exact all g (by omega) l, fun _ => rfl⟩)
                have m : ∀ x : Nat, (16 : Int32) * nI x + nI w = nI (16 * x + w) := fun x => by rw [show (16 : Int32) = nI 16 from rfl, pk_mul, nI_add]
                show vp_in (nI o) 7 ∧ vp_in (nI f) 7 ∧ (σ.1 82 (nI f).toNatClampNeg ≤ σ.1 82 (nI o).toNatClampNeg → zFix (F_X12_seeing Q) 4 [.ref 75, .int (nI (zsu (fun f => zVs a (2 ^ a 2 0 - 1) r f) f + V f w)), .int (nI f), .int (nI w), .null, .int (nI o)] [] σ) ∧ (¬ σ.1 82 (nI f).toNatClampNeg ≤ σ.1 82 (nI o).toNatClampNeg → vp_in ((16 : Int32) * nI o + nI w) 112 ∧ vp_in ((16 : Int32) * nI f + nI w) 112 ∧ (σ.1 83 ((16 : Int32) * nI f + nI w).toNatClampNeg ≤ σ.1 83 ((16 : Int32) * nI o + nI w).toNatClampNeg → zFix (F_X12_seeing Q) 5 [.ref 75, .int (nI (zsu (fun f => zVs a (2 ^ a 2 0 - 1) r f) f + V f w)), .int (nI f), .int (nI w), .null, .int (nI o)] [.int (nI 0)] σ) ∧ (¬ σ.1 83 ((16 : Int32) * nI f + nI w).toNatClampNeg ≤ σ.1 83 ((16 : Int32) * nI o + nI w).toNatClampNeg → zFix (F_X12_seeing Q) 4 [.ref 75, .int (nI (zsu (fun f => zVs a (2 ^ a 2 0 - 1) r f) f + V f w)), .int (nI f), .int (nI w), .null, .int (nI o)] [] σ))
                rw [m, m, nI_clamp (by omega), nI_clamp (by omega), nI_clamp (by omega), nI_clamp (by omega), r2, r4, h1, h2]
                refine ⟨vp_in_nI (by omega) (by decide), vp_in_nI (by omega) (by decide), ?_⟩
                refine pk_le (r f) (r o) (fun z => B4 (fun q => by omega)) (fun z => ⟨vp_in_nI (by omega) (by decide), vp_in_nI (by omega) (by decide), ?_⟩)
                refine pk_le (zH a f (zcs a w)) (zH a o (zcs a w)) (fun y => B5 0 (by decide) ⟨fun q => absurd q (by decide), fun q => ?_⟩) (fun y => B4 (fun _ => y))
                have := q o (by omega) z
                omega
          exact L3 0 (Nat.zero_le _) 1 (by decide) ⟨fun _ g hg => absurd hg (Nat.not_lt_zero g), fun _ => rfl⟩
      have B := L2 0 (Nat.zero_le _)
      rw [V0, Nat.add_zero] at B
      exact B
  exact ⟨rfl, zFix_in (L 0 (Nat.zero_le _))⟩
end
