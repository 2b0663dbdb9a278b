/-! Pair: seats. -/
section
variable {a : zA} {σ : zM} {Q : zQ}
/-- what the reference knows of the codes below k -/
def zKb (a : zA) (τ : zM) (k : Nat) : Prop := (τ.1 75 12 = -1 ∧ ∀ j, j < k → ¬ zDf a j 0) ∨ ∃ i, i < k ∧ zDf a i 0 ∧ τ.1 75 12 = nI (zcS a (zcod a i)) ∧ (∀ f, f < a 2 0 → τ.1 84 f = nI (zcod a i f)) ∧ ∀ j, j < k → zDf a j 0 → zcS a (zcod a j) < zcS a (zcod a i) ∨ (zcS a (zcod a j) = zcS a (zcod a i) ∧ i ≤ j)
theorem zcS_le (hn : a 2 0 ≤ 7) (r : Nat → Nat) : zcS a r ≤ 112 := by
  have := zsu_le (g := fun f => zVs a (2 ^ a 2 0 - 1) r f) (m := 16) (n := a 2 0) (fun f _ => zVs_le)
  unfold zcS
  omega
theorem r_laySeating (hW : zWF a) (hM : zCM (σ.1 76) a) (h : ∀ τ, zQM σ τ → zKb a τ (5 ^ a 2 0) → Q none τ) : T_X12_laySeating [.ref 75] σ Q := by
  have hn := hW.1
  obtain ⟨k1, k2, k3⟩ := c_ok hW
  have p7 : 5 ^ a 2 0 ≤ 5 ^ 7 := Nat.pow_le_pow_right (by decide) hn
  refine ⟨rfl, zFix_in ?_⟩
  have hM0 : zCM ((zput σ 75 12 (-1)).1 76) a := hM
  have q00 : zQM σ (zput σ 75 12 (-1)) := ⟨fun k hk => zput_ne (by omega), zput_u (by decide), rfl⟩
  refine t_layHand hW hM0 (fun τ fr hd => ?_)
  have q0 : zQM σ τ := q00.tr fr.Q
  have e12 : τ.1 75 12 = -1 := by rw [fr.2.1 12 (by decide), zput_s]
  have B3 : ∀ c, c ≤ 5 ^ a 2 0 → ∀ υ : zM, zQM σ υ → (∀ f, f < a 2 0 → υ.1 81 f = nI (a 4 f)) → (∀ f, f < a 2 0 → ∀ w, w < 16 → υ.1 83 (16 * f + w) = nI (zH a f (zcs a w))) → zKb a υ c → zFix (F_X12_laySeating Q) 3 [.ref 75, .int (nI (5 ^ a 2 0)), .int (nI c)] [] υ := by
    refine zloop (5 ^ a 2 0) (fun c hc ih => ?_)
    intro υ q e81 hh kb
    have e0' : υ.1 76 0 = nI (a 2 0) := by rw [q.1 76 (by omega)]; exact hM.1
    refine zFix_in ?_
    refine pk_le (5 ^ a 2 0) c (fun d => ?_) (fun d => ?_)
    · have ec : c = 5 ^ a 2 0 := by omega
      subst ec
      exact h υ q kb
    · have sl := zcS_le hn (zcod a c)
      have fin : ∀ (ω : zM), zQM σ ω → (∀ f, f < a 2 0 → ω.1 81 f = nI (a 4 f)) → (∀ f, f < a 2 0 → ∀ w, w < 16 → ω.1 83 (16 * f + w) = nI (zH a f (zcs a w))) → zKb a ω (c + 1) → zFix (F_X12_laySeating Q) 3 [.ref 75, .int (nI (5 ^ a 2 0)), .int (nI c + 1)] [] ω := by
        intro ω q e81 hh kb
        rw [nI_1]
        exact ih (c + 1) (by omega) (by omega) ω q e81 hh kb
      -- not better than the best so far
      have keep : ∀ (ω : zM) (x : Int32), (∀ k, k ≠ 82 → ω.1 k = υ.1 k) → ω.2 = υ.2 → x ≤ υ.1 75 12 → zKb a υ (c + 1) → zFix (F_X12_laySeating Q) 4 [.ref 75, .int (nI (5 ^ a 2 0)), .int (nI c)] [.int x] ω := by
        intro ω x g1 g2 le kb'
        have e75 : ω.1 75 = υ.1 75 := g1 75 (by decide)
        have qω : zQM σ ω := q.tr ⟨fun k hk => g1 k (by omega), by rw [e75], g2⟩
        have e0ω : ω.1 76 0 = nI (a 2 0) := by rw [g1 76 (by decide)]; exact e0'
        have B6 : zFix (F_X12_laySeating Q) 6 [.ref 75, .int (nI (5 ^ a 2 0)), .int (nI c), .int x] [] ω := by
          refine zFix_in ?_
          refine And.intro (fun _ => zFix_in ?_) (fun z => absurd (by show x ≤ ω.1 75 12; rw [e75]; exact le) z)
          show zFix (F_X12_laySeating Q) 3 [.ref 75, .int (nI (5 ^ a 2 0)), .int (nI c + 1)] [] (zput ω 75 12 (ω.1 75 12))
          have same : ∀ j, (zput ω 75 12 (ω.1 75 12)).1 75 j = υ.1 75 j := fun j => by
            rw [zputj]
            by_cases e : j = 12
            · rw [if_pos e, e, e75]
            · rw [if_neg e, e75]
          refine fin _ (qω.tr ⟨fun k hk => zput_ne (by omega), zput_u (by decide), rfl⟩) (fun f hf => by rw [zput_ne (by decide), g1 81 (by decide)]; exact e81 f hf) (fun f hf w hw => by rw [zput_ne (by decide), g1 83 (by decide)]; exact hh f hf w hw) ?_
          unfold zKb at kb' ⊢
          rw [same 12, zput_ne (by decide), g1 84 (by decide)]
          exact kb'
        refine zFix_in (zFix_in (t_many ?_))
        refine pk_le (a 2 0) 0 (fun z => B6) (fun z => ?_) e0ω rfl
        exact And.intro (fun _ => B6) (fun z => absurd (by show x ≤ ω.1 75 12; rw [e75]; exact le) z)
      refine r_laySeats hW d e0' e81 (fun df τ1 g1 g2 g3 => e1 ?_) (fun nd τ1 g1 g2 => e0 ?_)
      · have e75 : τ1.1 75 = υ.1 75 := g1 75 (by decide)
        have e01 : τ1.1 76 0 = nI (a 2 0) := by rw [g1 76 (by decide)]; exact e0'
        refine r_seeing (r := zcod a c) hW e01 (fun f hf => ⟨(zcod_r hW hf).1, g3 f hf⟩) (fun f hf w hw => by rw [g1 83 (by decide)]; exact hh f hf w hw) ?_
        -- better?
        have better : (τ1.1 75 12 < nI (zcS a (zcod a c))) → (∀ j, j < c → zDf a j 0 → zcS a (zcod a j) < zcS a (zcod a c)) → zFix (F_X12_laySeating Q) 4 [.ref 75, .int (nI (5 ^ a 2 0)), .int (nI c)] [.int (nI (zcS a (zcod a c)))] τ1 := by
          intro lt all
          refine zFix_in ?_
          have L5 : ∀ f, f ≤ a 2 0 → ∀ ω : zM, (∀ k, k ≠ 84 → ω.1 k = τ1.1 k) → ω.2 = τ1.2 → (∀ g, g < f → ω.1 84 g = nI (zcod a c g)) → zFix (F_X12_laySeating Q) 5 [.ref 75, .int (nI (5 ^ a 2 0)), .int (nI c), .int (nI (zcS a (zcod a c))), .int (nI f)] [] ω := by
            refine zloop (a 2 0) (fun f hf ih5 => ?_)
            intro ω j1 j2 j3
            have w75 : ω.1 75 = τ1.1 75 := j1 75 (by decide)
            refine zFix_in (t_many ?_)
            refine pk_le (a 2 0) f (fun y => ?_) (fun y => ?_) (by rw [j1 76 (by decide)]; exact e01) rfl
            · have ef : f = a 2 0 := by omega
              subst ef
              refine zFix_in ?_
              refine And.intro (fun z => absurd lt (Int32.not_lt.mpr (by have z : nI (zcS a (zcod a c)) ≤ ω.1 75 12 := z; rw [w75] at z; exact z))) (fun _ => zFix_in ?_)
              show zFix (F_X12_laySeating Q) 3 [.ref 75, .int (nI (5 ^ a 2 0)), .int (nI c + 1)] [] (zput ω 75 12 (nI (zcS a (zcod a c))))
              have qω : zQM σ ω := q.tr ⟨fun k hk => by rw [j1 k (by omega), g1 k (by omega)], by rw [w75, e75], j2.trans g2⟩
              refine fin _ (qω.tr ⟨fun k hk => zput_ne (by omega), zput_u (by decide), rfl⟩) (fun f hf => by rw [zput_ne (by decide), j1 81 (by decide), g1 81 (by decide)]; exact e81 f hf) (fun f hf w hw => by rw [zput_ne (by decide), j1 83 (by decide), g1 83 (by decide)]; exact hh f hf w hw) ?_
              refine Or.inr ⟨c, by omega, df, zput_s, fun f hf => by rw [zput_ne (by decide)]; exact j3 f hf, fun j hj dj => ?_⟩
              by_cases e : j = c
              · rw [e]; exact Or.inr ⟨rfl, Nat.le_refl _⟩
              · exact Or.inl (all j (by omega) dj)
            · refine And.intro (fun z => absurd lt (Int32.not_lt.mpr (by have z : nI (zcS a (zcod a c)) ≤ ω.1 75 12 := z; rw [w75] at z; exact z))) (fun _ => ?_)
              refine And.intro (vp_in_nI (N := 7) (by omega) (by decide)) (And.intro (vp_in_nI (N := 7) (by omega) (by decide)) ?_)
              show zFix (F_X12_laySeating Q) 5 [.ref 75, .int (nI (5 ^ a 2 0)), .int (nI c), .int (nI (zcS a (zcod a c))), .int (nI f + 1)] [] (zput ω 84 (nI f).toNatClampNeg (ω.1 82 (nI f).toNatClampNeg))
              rw [nI_1, nI_clamp (by omega), j1 82 (by decide), g3 f y]
              refine ih5 (f + 1) (by omega) (by omega) _ (fun k hk => (zput_ne hk).trans (j1 k hk)) j2 (fun g hg => ?_)
              rw [zputj]
              by_cases e : g = f
              · rw [if_pos e, e]
              · rw [if_neg e]
                exact j3 g (by omega)
          exact L5 0 (Nat.zero_le _) τ1 (fun _ _ => rfl) rfl (fun g hg => absurd hg (Nat.not_lt_zero g))
        rcases id kb with ⟨b1, b2⟩ | ⟨i, b1, b2, b3, b4, b5⟩
        · refine better ?_ (fun j hj dj => absurd dj (b2 j hj))
          rw [e75, b1, Int32.lt_iff_toInt_lt, nI_toInt (by omega), show (-1 : Int32).toInt = -1 from by decide]
          omega
        · have si := zcS_le hn (zcod a i)
          by_cases lt : zcS a (zcod a i) < zcS a (zcod a c)
          · refine better ?_ (fun j hj dj => ?_)
            · rw [e75, b3]
              exact (nI_ltI (by omega) (by omega)).mpr lt
            · rcases b5 j hj dj with z | z
              · omega
              · omega
          · refine keep τ1 _ g1 g2 ?_ (Or.inr ⟨i, by omega, b2, b3, b4, fun j hj dj => ?_⟩)
            · rw [b3, Int32.le_iff_toInt_le, nI_toInt (by omega), nI_toInt (by omega)]
              omega
            · by_cases e : j = c
              · rw [e]; omega
              · exact b5 j (by omega) dj
      · refine keep τ1 (-1) g1 g2 ?_ ?_
        · rcases kb with ⟨b1, b2⟩ | ⟨i, b1, b2, b3, b4, b5⟩
          · rw [b1]; decide
          · have si := zcS_le hn (zcod a i)
            rw [b3, Int32.le_iff_toInt_le, nI_toInt (by omega), show (-1 : Int32).toInt = -1 from by decide]
            omega
        · rcases kb with ⟨b1, b2⟩ | ⟨i, b1, b2, b3, b4, b5⟩
          · refine Or.inl ⟨b1, fun j hj => ?_⟩
            by_cases e : j = c
            · rw [e]; exact nd
            · exact b2 j (by omega)
          · refine Or.inr ⟨i, by omega, b2, b3, b4, fun j hj dj => ?_⟩
            by_cases e : j = c
            · rw [e] at dj; exact absurd dj nd
            · exact b5 j (by omega) dj
  have L1 : ∀ f, f ≤ a 2 0 → ∀ υ : zM, zQM σ υ → zHd υ a (a 3) (a 4) (a 7) (a 8 0) → υ.1 75 12 = -1 → (∀ g, g < f → ∀ w, w < 16 → υ.1 83 (16 * g + w) = nI (zH a g (zcs a w))) → zFix (F_X12_laySeating Q) 1 [.ref 75, .int (nI (5 ^ f)), .int (nI f)] [] υ := by
    refine zloop (a 2 0) (fun f hf ih => ?_)
    intro υ q hd' e12 hh
    have hM' : zCM (υ.1 76) a := by rw [q.1 76 (by omega)]; exact hM
    refine zFix_in (t_many ?_)
    refine pk_le (a 2 0) f (fun d => ?_) (fun d => ?_) hM'.1 rfl
    · have ef : f = a 2 0 := by omega
      subst ef
      exact B3 0 (Nat.zero_le _) υ q (fun f hf => (hd'.2 f hf).2.1) hh (Or.inl ⟨e12, fun j hj => absurd hj (Nat.not_lt_zero j)⟩)
    · show zFix (F_X12_laySeating Q) 2 [.ref 75, .int (nI (5 ^ f) * 5), .int (nI f), .int (nI 0)] [] υ
      rw [show (5 : Int32) = nI 5 from rfl, pk_mul, ← Nat.pow_succ]
      have L2 : ∀ w, w ≤ 16 → ∀ ω : zM, zQM σ ω → zHd ω a (a 3) (a 4) (a 7) (a 8 0) → ω.1 75 12 = -1 → (∀ g, g < f → ∀ w, w < 16 → ω.1 83 (16 * g + w) = nI (zH a g (zcs a w))) → (∀ v, v < w → ω.1 83 (16 * f + v) = nI (zH a f (zcs a v))) → zFix (F_X12_laySeating Q) 2 [.ref 75, .int (nI (5 ^ f.succ)), .int (nI f), .int (nI w)] [] ω := by
        refine zloop 16 (fun w hw ih2 => ?_)
        intro ω q hd' e12 hh hw'
        have hM' : zCM (ω.1 76) a := by rw [q.1 76 (by omega)]; exact hM
        refine zFix_in ?_
        refine pk_le 16 w (fun e => ?_) (fun e => ?_)
        · show zFix (F_X12_laySeating Q) 1 [.ref 75, .int (nI (5 ^ f.succ)), .int (nI f + 1)] [] ω
          rw [nI_1]
          refine ih (f + 1) (by omega) (by omega) ω q hd' e12 (fun g hg v hv => ?_)
          by_cases eg : g = f
          · rw [eg]; exact hw' v (by omega)
          · exact hh g (by omega) v hv
        · refine r_high hW hM' hd' d (k1 f d) (k2 f d) e ?_
          have m : (16 : Int32) * nI f + nI w = nI (16 * f + w) := by rw [show (16 : Int32) = nI 16 from rfl, pk_mul, nI_add]
          show vp_in ((16 : Int32) * nI f + nI w) 112 ∧ zFix (F_X12_laySeating Q) 2 [.ref 75, .int (nI (5 ^ f.succ)), .int (nI f), .int (nI w + 1)] [] (zput ω 83 ((16 : Int32) * nI f + nI w).toNatClampNeg (nI (zH a f (zcs a w))))
          rw [m, nI_clamp (by omega), nI_1]
          refine ⟨vp_in_nI (by omega) (by decide), ?_⟩
          refine ih2 (w + 1) (by omega) (by omega) _ (q.tr ⟨fun k hk => zput_ne (by omega), rfl, rfl⟩) ⟨hd'.1, fun g hg => hd'.2 g hg⟩ e12 (fun g hg v hv => ?_) (fun v hv => ?_)
          · rw [zput_u (by omega)]
            exact hh g hg v hv
          · rw [zputj]
            by_cases ev : v = w
            · rw [if_pos (by rw [ev]), ev]
            · rw [if_neg (by omega)]
              exact hw' v (by omega)
      exact L2 0 (Nat.zero_le _) υ q hd' e12 hh (fun v hv => absurd hv (Nat.not_lt_zero v))
  exact L1 0 (Nat.zero_le _) τ q0 hd e12 (fun g hg => absurd hg (Nat.not_lt_zero g))
end
