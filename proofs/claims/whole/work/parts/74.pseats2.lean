/-! Pair: seats. -/
section
variable {σ : zM}
theorem zDf_PS {a : zA} {k : Nat} (hW : zWF a) (h : zDf a k 0) : zPS a 10 (2 ^ a 2 0 - 1) (zcod a k) := ⟨fun f hf _ => zcod_r hW hf, fun f g hf hg _ _ e => h f g (Nat.zero_le _) hf (Nat.zero_le _) hg e⟩
theorem zPS_Df {a : zA} {k : Nat} (hW : zWF a) (h : zPS a 10 (2 ^ a 2 0 - 1) (zcod a k)) : zDf a k 0 := fun f g _ hf _ hg e => h.2 f g hf hg (zfull _ (by have := hW.1; omega) f hf) (zfull _ (by have := hW.1; omega) g hg) e
theorem zPS_7 {a : zA} (hW : zWF a) : zPS a 10 (2 ^ a 2 0 - 1) (a 7) := ⟨fun f hf _ => ⟨by have := (hW.2.2.2.1 f hf).2.2.2.2.1; omega, (hW.2.2.2.1 f hf).2.2.2.2.2⟩, fun f g hf hg _ _ e => hW.2.2.2.2.1 f g hf hg e⟩
theorem p_seats (x : Int32) (h : zR σ) : zPr T_X11_seats T_X12_seats [.int x] σ := by
  obtain ⟨a, hW, hX, hM, hO⟩ := id h
  have hn := hW.1
  have n1' : (nI (a 2 0) - 1).toInt64.toInt = (a 2 0 : Int) - 1 := by
    rw [i64]
    exact pk_sub_toInt (b := 1) (by omega) (by decide)
  have m1' : ((-1 : Int64)).toInt = -1 := by decide
  by_cases ok : x = -1 ∨ ∃ f, f < a 2 0 ∧ x = nI f
  · have xr : (-1 : Int) ≤ x.toInt64.toInt ∧ x.toInt64.toInt ≤ (a 2 0 : Int) - 1 := by
      rw [i64]
      rcases ok with rfl | ⟨f, hf, rfl⟩
      · rw [show (-1 : Int32).toInt = -1 from by decide]; omega
      · rw [nI_toInt (by omega)]; omega
    -- what both tell
    have body : zFix (F_X11_seats (fun v τ => ∃ r : Int32, v = some (.int r) ∧ T_X12_seats [.ref 75, .int x] τ (fun w υ => w = some (.int r) ∧ zR υ))) 1 [.ref 0, .int x] [] σ := by
      refine zFix_in (t_hold hW hX (fun τ fr s => ?_))
      refine t_findSeats hW s (fun τ2 g1 g2 g3 => ?_)
      have qx : zQX σ τ2 := fr.Q.tr ⟨fun k hk => g1 k (by omega) (by omega) (by omega), by rw [g1 51 (by decide) (by decide) (by decide)], g2⟩
      rcases g3 with ⟨_, no⟩ | ⟨s0, b1, b2, b3⟩
      · exact absurd (zPS_7 hW) (no _)
      · have sl := zSC_le (a := a) (set := 2 ^ a 2 0 - 1) (s := s0) hn
        have hM2 : zCM (τ2.1 76) a := by rw [qx.1 76 (by omega)]; exact hM
        have R : ∀ r : Int32, (∀ i, zSC a (2 ^ a 2 0 - 1) s0 = zcS a (zcod a i) * 10000000 + zcG (zcod a i) (a 2 0) → ∀ υ : zM, υ.1 75 12 = nI (zcS a (zcod a i)) → (∀ f, f < a 2 0 → υ.1 84 f = nI (zcod a i f)) → (x = -1 → r = υ.1 75 12) ∧ (∀ f, f < a 2 0 → x = nI f → r = υ.1 84 f)) → T_X12_seats [.ref 75, .int x] τ2 (fun w υ => w = some (.int r) ∧ zR υ) := by
          intro r hr
          refine ⟨rfl, zFix_in (t_many ?_)⟩
          show T_X12_in [.long x.toInt64, .long (-1), .long (τ2.1 76 0 - 1).toInt64] τ2 _
          rw [hM2.1]
          refine t_in (fun _ _ => n1 ?_) (fun z => absurd ⟨by rw [m1']; exact xr.1, by rw [n1']; exact xr.2⟩ z)
          refine r_laySeating hW hM2 (fun υ q kb => ?_)
          have hR := (h.X qx).M q
          have er : ∀ f, f < a 2 0 → zcod a (zcC (a 7) (a 2 0)) f = a 7 f := fun f hf => by
            have w := (hW.2.2.2.1 f hf).2.2.2.2
            have wb := (hW.2.2.2.1 f hf).2.1
            rw [zcod, zcC_d (fun f hf => by have := (hW.2.2.2.1 f hf).2.2.2.2.1; omega) f hf]
            omega
          have lk : zcC (a 7) (a 2 0) < 5 ^ a 2 0 := zcC_lt (fun f hf => by have := (hW.2.2.2.1 f hf).2.2.2.2.1; omega)
          have d7 : zDf a (zcC (a 7) (a 2 0)) 0 := fun f g _ hf _ hg e => hW.2.2.2.2.1 f g hf hg (by rw [er f hf, er g hg] at e; exact e)
          rcases kb with ⟨_, no⟩ | ⟨i, i1, i2, i3, i4, i5⟩
          · exact absurd d7 (no _ lk)
          · have le1 := zbest hW (fun k hk p => i5 k hk (zPS_Df hW p)) i1 s0 b1
            have le2 := b3 _ (zDf_PS hW i2)
            have eq : zSC a (2 ^ a 2 0 - 1) s0 = zcS a (zcod a i) * 10000000 + zcG (zcod a i) (a 2 0) := by rw [← zSC_f hn]; omega
            obtain ⟨r1, r2⟩ := hr i eq υ i3 i4
            refine And.intro (fun z => ?_) (fun z => ?_)
            · rcases ok with e | ⟨f, hf, e⟩
              · exact absurd e z
              · subst e
                refine And.intro (vp_in_nI (N := 7) (by omega) (by decide)) ?_
                show some (Value.int (υ.1 84 (nI f).toNatClampNeg)) = _ ∧ zR υ
                rw [nI_clamp (by omega), r2 f hf rfl]
                exact ⟨rfl, hR⟩
            · show some (Value.int (υ.1 75 12)) = _ ∧ zR υ
              rw [r1 z]
              exact ⟨rfl, hR⟩
        refine And.intro (fun z => ?_) (fun z => ?_)
        · rcases ok with e | ⟨f, hf, e⟩
          · exact absurd e z
          · subst e
            refine ⟨rfl, zFix_in ?_⟩
            refine And.intro (vp_in_nI (N := 7) (by omega) (by decide)) ?_
            have pp : 0 < 10 ^ (6 - f) := Nat.pow_pos (by decide)
            have pl : 10 ^ (6 - f) ≤ 10 ^ 6 := Nat.pow_le_pow_right (by decide) (by omega)
            have dl : zSC a (2 ^ a 2 0 - 1) s0 / 10 ^ (6 - f) ≤ zSC a (2 ^ a 2 0 - 1) s0 := Nat.div_le_self _ _
            show ¬ zfigs.getD (nI f).toNatClampNeg 0 = 0 ∧ ¬ (10 : Int32) = 0 ∧ ∃ r : Int32, some (Value.int (9 - (τ2.1 68 2 / zfigs.getD (nI f).toNatClampNeg 0 - τ2.1 68 2 / zfigs.getD (nI f).toNatClampNeg 0 / 10 * 10))) = some (.int r) ∧ T_X12_seats [.ref 75, .int (nI f)] τ2 (fun w υ => w = some (.int r) ∧ zR υ)
            rw [nI_clamp (by omega), zfig_I f (by omega), b2, pk_div (by omega) pp (by omega), show (10 : Int32) = nI 10 from rfl, pk_rem (by omega) (by decide) (by decide), show (9 : Int32) = nI 9 from rfl, pk_sub (by omega)]
            refine ⟨nI_ne0 pp (by omega), by decide, _, rfl, R _ (fun i ei υ _ i4 => ⟨fun y => absurd y.symm (m1_ne (by omega)), fun g hg eg => ?_⟩)⟩
            have eg := nI_inj (by omega) (by omega) eg
            subst eg
            rw [i4 f hg, ei, zdig hn hg]
            have := (zcod_r (c := i) hW hg).1
            congr 1
            omega
        · subst z
          refine ⟨rfl, zFix_in ?_⟩
          show ¬ (10000000 : Int32) = 0 ∧ ∃ r : Int32, some (Value.int (τ2.1 68 2 / 10000000)) = some (.int r) ∧ T_X12_seats [.ref 75, .int (-1)] τ2 (fun w υ => w = some (.int r) ∧ zR υ)
          rw [b2, show (10000000 : Int32) = nI 10000000 from rfl, pk_div (by omega) (by decide) (by decide)]
          refine ⟨by decide, _, rfl, R _ (fun i ei υ i3 _ => ⟨fun _ => ?_, fun g hg eg => absurd eg (m1_ne (by omega))⟩)⟩
          have gl := zcG_7 (r := zcod a i) hn
          rw [i3, ei]
          congr 1
          omega
    refine ⟨rfl, zFix_in ?_⟩
    refine And.intro (fun _ => body) (fun z => ?_)
    rcases ok with e | ⟨f, hf, rfl⟩
    · exact absurd e z
    · exact isF hn hX.2.2.1 hf (n1 body)
  · have n1x : x ≠ -1 := fun e => ok (Or.inl e)
    have nf : ∀ f, f < a 2 0 → x ≠ nI f := fun f hf e => ok (Or.inr ⟨f, hf, e⟩)
    refine zPr_bad (r := -10) (j := 0) h (fun Q hQ => ⟨rfl, zFix_in (And.intro (fun z => absurd z n1x) (fun _ => noF hn hX.2.2.1 nf (n0 (t_refBad hQ))))⟩) (fun τ Q e hQ => ⟨rfl, zFix_in (t_many ?_)⟩)
    show T_X12_in [.long x.toInt64, .long (-1), .long (τ.1 76 0 - 1).toInt64] τ _
    rw [e, hM.1]
    refine t_in (fun l1 l2 => ?_) (fun _ => n0 (r_bad hQ))
    exfalso
    rw [m1', i64] at l1
    rw [n1', i64] at l2
    by_cases e1 : x.toInt = -1
    · exact n1x (Int32.toInt_inj.mp (by rw [e1]; decide))
    · exact nf x.toInt.toNat (by omega) (nI_of_toInt (by omega) (by omega))
end
