/-! Pairs: cold, undo, count. -/
def zsb1 (c f i : Nat) : Nat := c - zb c f * 2 ^ f + i * 2 ^ f
theorem zsb1_I : ∀ c, c < 128 → ∀ f, f < 7 → ∀ i, i < 2 → (nI c &&& ((1 : Int32) <<< (nI f &&& 31) ^^^ (-1))) ||| nI i <<< (nI f &&& 31) = nI (zsb1 c f i) := by decide +kernel
theorem zsb1_b : ∀ c, c < 128 → ∀ f, f < 7 → ∀ i, i < 2 → ∀ g, g < 7 → zb (zsb1 c f i) g = if g = f then i else zb c g := by decide +kernel
theorem zsb1_l : ∀ n, n < 8 → ∀ c, c < 2 ^ n → ∀ f, f < n → ∀ i, i < 2 → zsb1 c f i < 2 ^ n := by decide +kernel
section
variable {σ : zM}
def zAcl (a : zA) (f i : Nat) : zA := zs1 (zAre a) 8 (fun _ => zsb1 (a 8 0) f i)
theorem p_cold (x y : Int32) (h : zR σ) : zPr T_X11_cold T_X12_cold [.int x, .int y] σ := by
  obtain ⟨a, hW, hX, hM, hO⟩ := id h
  have hn := hW.1
  rcases or_w (x := x) (n := a 2 0) with ⟨f, hf, rfl⟩ | nv
  · rcases or_r (x := y) (a := 0) (b := 1) with ⟨i, hi, rfl⟩ | nv
    · have c128 := zC128 hW
      refine ⟨rfl, zFix_in (isF hn hX.2.2.1 hf (e1 (inX (a := 0) (b := 1) (by decide) hi (n1 ?_))))⟩
      show T_X11_bit [.int (σ.1 1 8), .int (nI f)] σ _
      rw [hX.2.2.2.2.1]
      refine t_X11_bit (by omega) (by omega) ?_
      refine t_remember hW hX (fun τ g1 g2 g3 => ?_)
      have k8 : zAre a 8 = a 8 := zAre_k (by decide) (by decide) (by decide)
      have kf : zAre a 2 0 = a 2 0 := by rw [zAre_k (by decide) (by decide) (by decide)]
      have wf := zAre_wf hW
      refine ⟨_, rfl, ?_⟩
      show T_X12_cold [.ref 75, .int (nI f), .int (nI i)] (zput τ 1 8 ((τ.1 1 8 &&& ((1 : Int32) <<< (nI f &&& 31) ^^^ (-1))) ||| nI i <<< (nI f &&& 31))) _
      have e8 : τ.1 1 8 = nI (a 8 0) := by rw [g3.2.2.2.2.1, k8]
      rw [e8, zsb1_I _ c128 f (by omega) i (by omega)]
      have e76 : (zput τ 1 8 (nI (zsb1 (a 8 0) f i))).1 76 = σ.1 76 := (zput_ne (by decide)).trans (g1 76 (by decide))
      have hM' : zCM ((zput τ 1 8 (nI (zsb1 (a 8 0) f i))).1 76) a := by rw [e76]; exact hM
      refine ⟨rfl, zFix_in (isFr hn hM'.1 hf (e1 (inR (a := 0) (b := 1) (by decide) rfl rfl hi (n1 ?_))))⟩
      refine t_get (f := f) (w := 5) (by omega) (by decide) ?_
      refine r_keep hW hM' (fun υ k1 k2 k3 => ?_)
      have ei : (6 : Int32) + 6 * nI f + 5 = nI (11 + 6 * f) := by
        rw [show (6 : Int32) = nI 6 from rfl, show (5 : Int32) = nI 5 from rfl, pk_mul, nI_add, nI_add]
        congr 1
        omega
      refine And.intro (by rw [ei]; exact vp_in_nI (N := 178) (by omega) (by decide)) ?_
      show some (Value.int ((zput τ 1 8 (nI (zsb1 (a 8 0) f i))).1 76 (6 + 6 * f + 5))) = some (.int (nI (zb (a 8 0) f))) ∧ zR (zput υ 76 ((6 : Int32) + 6 * nI f + 5).toNatClampNeg (nI i))
      rw [ei, nI_clamp (by omega), show 6 + 6 * f + 5 = 11 + 6 * f by omega, e76, (hM.2.2.2.2.2.1 f hf).2.2.2.2.2]
      refine ⟨rfl, zR.up (a := zAcl a f i) hO (τ := zput τ 1 8 (nI (zsb1 (a 8 0) f i))) (fun k hk => (zput_ne (by omega)).trans (g1 k hk)) g2 (fun k hk => (zput_ne hk).trans (k1 k hk)) k2 ?_ ?_ ?_⟩
      · refine ⟨wf.1, wf.2.1, wf.2.2.1, wf.2.2.2.1, wf.2.2.2.2.1, ?_, wf.2.2.2.2.2.2⟩
        show zsb1 (a 8 0) f i < 2 ^ zAre a 2 0
        rw [kf]
        exact zsb1_l _ (by omega) _ hW.2.2.2.2.2.1 f hf i (by omega)
      · obtain ⟨q0, q1, q2, q3, q4, q5, q6, q7, q8⟩ := g3
        exact ⟨q0, fun i hi => q1 i hi, q2, fun g hg => q3 g hg, zput_s, q5, fun k hk => q6 k hk, q7, fun u hu => q8 u hu⟩
      · obtain ⟨q0, q1, q2, q4, q5, q6, q7, q8⟩ := k3
        have z : ∀ j, j ≠ 11 + 6 * f → (zput υ 76 (11 + 6 * f) (nI i)).1 76 j = υ.1 76 j := fun j hj => zput_u hj
        refine ⟨(z 0 (by omega)).trans q0, (z 1 (by omega)).trans q1, ⟨(z 2 (by omega)).trans q2.1, (z 3 (by omega)).trans q2.2⟩, (z 4 (by omega)).trans q4, (z 5 (by omega)).trans q5, fun g hg => ?_, fun k hk => ?_, fun u hu g hg => ?_⟩
        · have hg' : g < zAre a 2 0 := hg
          rw [kf] at hg'
          obtain ⟨r1, r2, r3, r4, r5, r6⟩ := q6 g hg
          refine ⟨(z _ (by omega)).trans r1, (z _ (by omega)).trans r2, (z _ (by omega)).trans r3, (z _ (by omega)).trans r4, (z _ (by omega)).trans r5, ?_⟩
          show (zput υ 76 (11 + 6 * f) (nI i)).1 76 (11 + 6 * g) = nI (zb (zsb1 (a 8 0) f i) g)
          rw [zsb1_b _ c128 f (by omega) i (by omega) g (by omega)]
          by_cases e : g = f
          · rw [e, if_pos rfl, zput_s]
          · rw [if_neg e, z _ (by omega), ← k8]
            exact r6
        · obtain ⟨r1, r2, r3⟩ := q7 k hk
          exact ⟨(z _ (by omega)).trans r1, (z _ (by omega)).trans r2, (z _ (by omega)).trans r3⟩
        · obtain ⟨r1, r2⟩ := q8 u hu g hg
          exact ⟨(z _ (by omega)).trans r1, (z _ (by omega)).trans r2⟩
    · exact zPr_bad (j := 0) h (fun Q hQ => ⟨rfl, zFix_in (isF hn hX.2.2.1 hf (e1 (noX (a := 0) (b := 1) (by decide) (by decide) nv (n0 (zFix_in (t_refBad hQ))))))⟩) (fun τ Q e hQ => ⟨rfl, zFix_in (isFr hn (by rw [e]; exact hM.1) hf (e1 (noR (a := 0) (b := 1) (by decide) rfl rfl nv (n0 (zFix_in (r_bad hQ))))))⟩)
  · exact zPr_bad (j := 0) h (fun Q hQ => ⟨rfl, zFix_in (noF hn hX.2.2.1 nv (e0 (zFix_in (t_refBad hQ))))⟩) (fun τ Q e hQ => ⟨rfl, zFix_in (noFr hn (by rw [e]; exact hM.1) nv (e0 (zFix_in (r_bad hQ))))⟩)
def zAun (a : zA) : zA := zs1 (zs1 (zs1 a 13 (fun _ => a 13 0 - 1)) 7 (fun f => a 14 (7 * (a 13 0 - 1) + f))) 8 (fun _ => a 15 (a 13 0 - 1))
theorem zAun_wf {a : zA} (hW : zWF a) (h0 : 0 < a 13 0) : zWF (zAun a) := by
  have h8 := hW.2.2.2.2.2.2.2.2.1
  obtain ⟨r1, r2, r3⟩ := hW.2.2.2.2.2.2.2.2.2 (a 13 0 - 1) (by omega)
  refine ⟨hW.1, hW.2.1, hW.2.2.1, fun f hf => ?_, fun f g hf hg => r3 f g hf hg, r1, hW.2.2.2.2.2.2.1, hW.2.2.2.2.2.2.2.1, show a 13 0 - 1 ≤ 8 by omega, fun u hu => ?_⟩
  · obtain ⟨s1, s2, s3, s4, s5⟩ := hW.2.2.2.1 f hf
    exact ⟨s1, s2, s3, s4, r2 f hf⟩
  · have hu : u < a 13 0 - 1 := hu
    exact hW.2.2.2.2.2.2.2.2.2 u (by omega)
theorem p_undo (h : zR σ) : zPr T_X11_undo T_X12_undo [] σ := by
  obtain ⟨a, hW, hX, hM, hO⟩ := id h
  have hn := hW.1
  have h8 := hW.2.2.2.2.2.2.2.2.1
  obtain ⟨q0, q1, q2, q3, q4, q5, q6, q7, q8⟩ := id hX
  refine ⟨rfl, zFix_in ?_⟩
  refine pk_lt 0 (a 13 0) (fun d => ?_) (fun d => ?_) rfl q7
  · obtain ⟨w1, w2⟩ := q8 (a 13 0 - 1) (by omega)
    have e13 : σ.1 1 13 - 1 = nI (a 13 0 - 1) := by rw [q7, show a 13 0 = a 13 0 - 1 + 1 by omega, nI_pred]; rfl
    have ei : (nI (a 13 0 - 1)) * 7 = nI (7 * (a 13 0 - 1)) := by rw [show (7 : Int32) = nI 7 from rfl, pk_mul, Nat.mul_comm]
    refine ⟨rfl, zFix_in ?_⟩
    show (¬ (σ.1 1 13 - 1) * 7 < 0 ∧ ¬ (0 : Int32) < 0 ∧ ¬ (7 : Int32) < 0) ∧ (((σ.1 1 13 - 1) * 7).toNatClampNeg + (7 : Int32).toNatClampNeg ≤ 56 ∧ (0 : Int32).toNatClampNeg + (7 : Int32).toNatClampNeg ≤ 7) ∧ vp_in (σ.1 1 13 - 1) 8 ∧ T_J6_bitCount_0f7a4 [.int (σ.1 12 (σ.1 1 13 - 1).toNatClampNeg)] (zput (zcpy (zput σ 1 13 (σ.1 1 13 - 1)) 11 7 ((σ.1 1 13 - 1) * 7).toNatClampNeg 0 7) 1 8 (σ.1 12 (σ.1 1 13 - 1).toNatClampNeg)) _
    rw [e13, ei, nI_clamp (by omega), nI_clamp (by omega), w1]
    refine ⟨⟨nI_pos (by omega), by decide, by decide⟩, ⟨show 7 * (a 13 0 - 1) + 7 ≤ 56 by omega, by decide⟩, vp_in_nI (by omega) (by decide), ?_⟩
    have wf := zAun_wf hW d
    have cx : zCX 1 (zput (zcpy (zput σ 1 13 (nI (a 13 0 - 1))) 11 7 (7 * (a 13 0 - 1)) 0 7) 1 8 (nI (a 15 (a 13 0 - 1)))) (zAun a) := by
      refine ⟨q0, fun i hi => q1 i hi, q2, fun f hf => ?_, zput_s, q5, fun k hk => q6 k hk, rfl, fun u hu => q8 u (by have hu : u < a 13 0 - 1 := hu; omega)⟩
      have hf : f < a 2 0 := hf
      obtain ⟨r1, r2, r3, r4, r5⟩ := q3 f hf
      refine ⟨r1, r2, r3, r4, ?_⟩
      show va_cpy (σ.1 11) (σ.1 7) (7 * (a 13 0 - 1)) 0 7 f = nI (a 14 (7 * (a 13 0 - 1) + f))
      rw [pk_cpy_in (by omega) (by omega), Nat.sub_zero]
      exact w2 f hf
    have g1 : ∀ k, 13 ≤ k → (zput (zcpy (zput σ 1 13 (nI (a 13 0 - 1))) 11 7 (7 * (a 13 0 - 1)) 0 7) 1 8 (nI (a 15 (a 13 0 - 1)))).1 k = σ.1 k := fun k hk => by rw [zput_ne (by omega), zcpy_ne (by omega), zput_ne (by omega)]
    have g2 : (zput (zcpy (zput σ 1 13 (nI (a 13 0 - 1))) 11 7 (7 * (a 13 0 - 1)) 0 7) 1 8 (nI (a 15 (a 13 0 - 1)))).2 = σ.2 := rfl
    generalize (zput (zcpy (zput σ 1 13 (nI (a 13 0 - 1))) 11 7 (7 * (a 13 0 - 1)) 0 7) 1 8 (nI (a 15 (a 13 0 - 1)))) = τ at cx g1 g2 ⊢
    refine t_bitC (zC128 wf) ?_
    refine ⟨_, rfl, rfl, zFix_in ?_⟩
    have e76 : τ.1 76 = σ.1 76 := g1 76 (by decide)
    have e5 : τ.1 76 5 = nI (a 13 0) := by rw [e76]; exact hM.2.2.2.2.1
    have e5' : τ.1 76 5 - 1 = nI (a 13 0 - 1) := by rw [e5, show a 13 0 = a 13 0 - 1 + 1 by omega, nI_pred]; rfl
    refine And.intro (vp_in_nI (n := 5) (N := 178) (by decide) (by decide)) ?_
    refine And.intro (fun _ => ?_) (fun z => absurd (nI_inj (b := 0) (by omega) (by decide) (e5.symm.trans z)) (by omega))
    refine And.intro (vp_in_nI (n := 5) (N := 178) (by decide) (by decide)) (And.intro (vp_in_nI (n := 5) (N := 178) (by decide) (by decide)) (And.intro (vp_in_nI (n := 5) (N := 178) (by decide) (by decide)) ?_))
    have em : (66 : Int32) + 14 * nI (a 13 0 - 1) = nI (66 + 14 * (a 13 0 - 1)) := by rw [show (66 : Int32) = nI 66 from rfl, show (14 : Int32) = nI 14 from rfl, pk_mul, nI_add]
    show zFix (F_X12_undo _) 1 [.ref 75, .int ((66 : Int32) + 14 * (zput τ 76 5 (τ.1 76 5 - 1)).1 76 5), .int (nI 0)] [] (zput τ 76 5 (τ.1 76 5 - 1))
    rw [e5', zput_s, em]
    obtain ⟨m0, m1, m2, m4, m5, m6, m7, m8⟩ := hM
    have L : ∀ f, f ≤ 7 → ∀ υ : zM, (∀ k, k ≠ 76 → υ.1 k = τ.1 k) → υ.2 = τ.2 → υ.1 76 5 = nI (a 13 0 - 1) → (∀ j, j ≠ 5 → (j < 6 ∨ 48 ≤ j) → υ.1 76 j = σ.1 76 j) → (∀ g, g < 7 → υ.1 76 (6 + 6 * g) = σ.1 76 (6 + 6 * g) ∧ υ.1 76 (7 + 6 * g) = σ.1 76 (7 + 6 * g) ∧ υ.1 76 (8 + 6 * g) = σ.1 76 (8 + 6 * g) ∧ υ.1 76 (9 + 6 * g) = σ.1 76 (9 + 6 * g)) → (∀ g, g < f → υ.1 76 (10 + 6 * g) = σ.1 76 (66 + 14 * (a 13 0 - 1) + g) ∧ υ.1 76 (11 + 6 * g) = σ.1 76 (73 + 14 * (a 13 0 - 1) + g)) → zFix (F_X12_undo (fun w υ => w = some (.int (nI (zpc (zAun a 8 0)))) ∧ zR υ)) 1 [.ref 75, .int (nI (66 + 14 * (a 13 0 - 1))), .int (nI f)] [] υ := by
      refine zloop 7 (fun f hf ih => ?_)
      intro υ f1 f2 f3 f4 f5 f6
      refine zFix_in ?_
      refine pk_le 7 f (fun c => ?_) (fun c => ?_)
      · have cm : zCM (υ.1 76) (zAun a) := by
          have hk6 := hW.2.2.2.2.2.2.1
          refine ⟨(f4 0 (by decide) (by decide)).trans m0, (f4 1 (by decide) (by decide)).trans m1, ⟨(f4 2 (by decide) (by decide)).trans m2.1, (f4 3 (by decide) (by decide)).trans m2.2⟩, (f4 4 (by decide) (by decide)).trans m4, f3, fun g hg => ?_, fun k hk => ?_, fun u hu g hg => ?_⟩
          · have hg : g < a 2 0 := hg
            obtain ⟨s1, s2, s3, s4⟩ := f5 g (by omega)
            obtain ⟨t1, t2⟩ := f6 g (by omega)
            obtain ⟨r1, r2, r3, r4, r5, r6⟩ := m6 g hg
            obtain ⟨u1, u2⟩ := m8 (a 13 0 - 1) (by omega) g hg
            exact ⟨s1.trans r1, s2.trans r2, s3.trans r3, s4.trans r4, t1.trans u1, t2.trans u2⟩
          · obtain ⟨r1, r2, r3⟩ := m7 k hk
            exact ⟨(f4 _ (by omega) (by omega)).trans r1, (f4 _ (by omega) (by omega)).trans r2, (f4 _ (by omega) (by omega)).trans r3⟩
          · have hu : u < a 13 0 - 1 := hu
            obtain ⟨r1, r2⟩ := m8 u (by omega) g hg
            exact ⟨(f4 _ (by omega) (by omega)).trans r1, (f4 _ (by omega) (by omega)).trans r2⟩
        exact r_manyColds wf cm ⟨rfl, zR.up hO g1 g2 f1 f2 wf cx cm⟩
      · have j1 : (6 : Int32) + 6 * nI f + 4 = nI (10 + 6 * f) := by
          rw [show (6 : Int32) = nI 6 from rfl, show (4 : Int32) = nI 4 from rfl, pk_mul, nI_add, nI_add]
          congr 1
          omega
        have j2 : (6 : Int32) + 6 * nI f + 5 = nI (11 + 6 * f) := by
          rw [show (6 : Int32) = nI 6 from rfl, show (5 : Int32) = nI 5 from rfl, pk_mul, nI_add, nI_add]
          congr 1
          omega
        have j3 : nI (66 + 14 * (a 13 0 - 1)) + nI f = nI (66 + 14 * (a 13 0 - 1) + f) := nI_add _ _
        have j4 : nI (66 + 14 * (a 13 0 - 1)) + 7 + nI f = nI (73 + 14 * (a 13 0 - 1) + f) := by rw [show (7 : Int32) = nI 7 from rfl, nI_add, nI_add]; congr 1; omega
        refine And.intro (by rw [j3]; exact vp_in_nI (N := 178) (by omega) (by decide)) ?_
        refine And.intro (by rw [j1]; exact vp_in_nI (N := 178) (by omega) (by decide)) ?_
        refine And.intro (by rw [j4]; exact vp_in_nI (N := 178) (by omega) (by decide)) ?_
        refine And.intro (by rw [j2]; exact vp_in_nI (N := 178) (by omega) (by decide)) ?_
        show zFix (F_X12_undo _) 1 [.ref 75, .int (nI (66 + 14 * (a 13 0 - 1))), .int (nI f + 1)] [] (zput (zput υ 76 ((6 : Int32) + 6 * nI f + 4).toNatClampNeg (υ.1 76 (nI (66 + 14 * (a 13 0 - 1)) + nI f).toNatClampNeg)) 76 ((6 : Int32) + 6 * nI f + 5).toNatClampNeg ((zput υ 76 ((6 : Int32) + 6 * nI f + 4).toNatClampNeg (υ.1 76 (nI (66 + 14 * (a 13 0 - 1)) + nI f).toNatClampNeg)).1 76 (nI (66 + 14 * (a 13 0 - 1)) + 7 + nI f).toNatClampNeg))
        rw [j1, j2, j4, j3, nI_clamp (by omega), nI_clamp (by omega), nI_clamp (by omega), nI_clamp (by omega), zput_u (show 73 + 14 * (a 13 0 - 1) + f ≠ 10 + 6 * f by omega), nI_1, f4 _ (by omega) (by omega), f4 _ (by omega) (by omega)]
        refine ih (f + 1) (by omega) (by omega) _ (fun k hk => by rw [zput_ne hk, zput_ne hk, f1 k hk]) f2 (by rw [zput_u (by omega), zput_u (by omega), f3]) (fun j h1 h2 => by rw [zput_u (by omega), zput_u (by omega), f4 j h1 h2]) (fun g hg => ?_) (fun g hg => ?_)
        · rw [zput_u (by omega), zput_u (by omega), zput_u (by omega), zput_u (by omega), zput_u (by omega), zput_u (by omega), zput_u (by omega), zput_u (by omega)]
          exact f5 g hg
        · by_cases e : g = f
          · subst e
            rw [zput_u (by omega), zput_s, zput_s]
            exact ⟨rfl, rfl⟩
          · rw [zput_u (by omega), zput_u (by omega), zput_u (by omega), zput_u (by omega)]
            exact f6 g (by omega)
    refine L 0 (Nat.zero_le _) _ (fun k hk => zput_ne hk) rfl zput_s (fun j h1 h2 => by rw [zput_u h1, e76]) (fun g hg => ?_) (fun g hg => absurd hg (Nat.not_lt_zero g))
    rw [zput_u (by omega), zput_u (by omega), zput_u (by omega), zput_u (by omega), e76]
    exact ⟨rfl, rfl, rfl, rfl⟩
  · have e0 : a 13 0 = 0 := by omega
    refine t_refNo ⟨_, rfl, rfl, zFix_in ?_⟩
    refine And.intro (vp_in_nI (n := 5) (N := 178) (by decide) (by decide)) ?_
    refine And.intro (fun z => absurd ?_ z) (fun _ => r_no ⟨rfl, h.bb⟩)
    show (zBx σ 1).1 76 5 = 0
    rw [show (zBx σ 1).1 76 = σ.1 76 from zput_ne (by decide), hM.2.2.2.2.1, e0]
    rfl
end
