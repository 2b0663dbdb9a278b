/-! Pairs: image, from. -/
section
variable {σ : zM}
theorem zcm_row {σ : zM} {N : Nat → Int32} {a : zA} (h : zCM (σ.1 76) a) (e : ∀ k, k < 178 → N k = σ.1 76 k) (hW : zWF a) : zCM N a := by
  obtain ⟨q0, q1, q2, q4, q5, q6, q7, q8⟩ := h
  have hn := hW.1
  have hk := hW.2.2.2.2.2.2.1
  have hu8 := hW.2.2.2.2.2.2.2.2.1
  refine ⟨(e 0 (by omega)).trans q0, (e 1 (by omega)).trans q1, ⟨(e 2 (by omega)).trans q2.1, (e 3 (by omega)).trans q2.2⟩, (e 4 (by omega)).trans q4, (e 5 (by omega)).trans q5, fun f hf => ?_, fun k hk => ?_, fun u hu f hf => ?_⟩
  · obtain ⟨r1, r2, r3, r4, r5, r6⟩ := q6 f hf
    exact ⟨(e _ (by omega)).trans r1, (e _ (by omega)).trans r2, (e _ (by omega)).trans r3, (e _ (by omega)).trans r4, (e _ (by omega)).trans r5, (e _ (by omega)).trans r6⟩
  · obtain ⟨r1, r2, r3⟩ := q7 k hk
    exact ⟨(e _ (by omega)).trans r1, (e _ (by omega)).trans r2, (e _ (by omega)).trans r3⟩
  · obtain ⟨r1, r2⟩ := q8 u hu f hf
    exact ⟨(e _ (by omega)).trans r1, (e _ (by omega)).trans r2⟩
theorem zcm_rw {M N : Nat → Int32} {a : zA} (h : zCM M a) (e : ∀ k, k < 178 → N k = M k) (hW : zWF a) : zCM N a := zcm_row (σ := (fun _ => M, fun _ _ => 0)) h e hW
theorem p_image (x : Int32) (h : zR σ) : zPr T_X11_image T_X12_image [.int x] σ := by
  rcases or_r (x := x) (a := 0) (b := 1) with ⟨c, hc, rfl⟩ | nv
  · obtain ⟨a, hW, hX, hM, hO⟩ := id h
    refine ⟨rfl, zFix_in (inX (a := 0) (b := 1) (by decide) hc (n1 ?_))⟩
    refine And.intro (vp_in_nI (N := 2) (by omega) (by decide)) ?_
    have B : ∀ τ : zM, (∀ k, (k < 25 + 12 * c ∨ 25 + 12 * c + 12 ≤ k) → τ.1 k = σ.1 k) → τ.2 = σ.2 → zCX (25 + 12 * c) τ a → T_X12_image [.ref 75, .int (nI c)] (zput τ 50 c 1) (fun w υ => w = some (.int 1) ∧ zR υ) := by
      intro τ g1 g2 g3
      refine ⟨rfl, zFix_in (inR (a := 0) (b := 1) (by decide) rfl rfl hc (n1 ?_))⟩
      have e76 : (zput τ 50 c 1).1 76 = σ.1 76 := (zput_ne (by decide)).trans (g1 76 (by omega))
      have L : ∀ k, k ≤ 178 → ∀ υ : zM, (∀ j, j ≠ 77 → υ.1 j = (zput τ 50 c 1).1 j) → υ.2 = τ.2 → (∀ j, j < k → υ.1 77 (178 * c + j) = σ.1 76 j) → (∀ j, (j < 178 * c ∨ 178 * c + 178 ≤ j) → υ.1 77 j = σ.1 77 j) → zFix (F_X12_image (fun w υ => w = some (.int 1) ∧ zR υ)) 1 [.ref 75, .int (nI c), .int (nI k)] [] υ := by
        refine zloop 178 (fun k hk ih => ?_)
        intro υ f1 f2 f3 f4
        refine zFix_in ?_
        refine pk_le 178 k (fun d => ?_) (fun d => ?_)
        · have ek : k = 178 := by omega
          subst ek
          refine And.intro (vp_in_nI (N := 2) (by omega) (by decide)) (And.intro (Or.inr rfl) ?_)
          show some (Value.int 1) = _ ∧ zR (zput υ 78 (nI c).toNatClampNeg 1)
          rw [nI_clamp (by omega)]
          refine ⟨rfl, ?_⟩
          obtain ⟨o1, ⟨t, t1, t2, t3, t4⟩, o3, o4⟩ := hO
          have old : ∀ j, j ≠ 77 → j ≠ 50 → j ≠ 78 → (j < 25 + 12 * c ∨ 25 + 12 * c + 12 ≤ j) → (zput υ 78 c 1).1 j = σ.1 j := fun j h1 h2 h3 h4 => by rw [zput_ne h3, f1 j h1, zput_ne h2, g1 j h4]
          refine ⟨a, hW, hX.eq (fun k h1 h2 => old k (by omega) (by omega) (by omega) (by omega)), by rw [old 76 (by decide) (by decide) (by decide) (by omega)]; exact hM, fun j hj => ?_, ⟨t, t1, ?_, ?_, fun j hj => ?_⟩, by rw [show (zput υ 78 c 1).2 = σ.2 from f2.trans g2]; exact o3, fun i hi => ?_⟩
          · rw [old 74 (by decide) (by decide) (by decide) (by omega), old 79 (by decide) (by decide) (by decide) (by omega)]; exact o1 j hj
          · rw [old 51 (by decide) (by decide) (by decide) (by omega)]; exact t2
          · rw [old 75 (by decide) (by decide) (by decide) (by omega)]; exact t3
          · rw [old 52 (by decide) (by decide) (by decide) (by omega), old 88 (by decide) (by decide) (by decide) (by omega)]; exact t4 j hj
          · have e50 : (zput υ 78 c 1).1 50 = (zput τ 50 c 1).1 50 := by rw [zput_ne (by decide), f1 50 (by decide)]
            have e50' : (zput υ 78 c 1).1 50 i = if i = c then 1 else σ.1 50 i := by rw [e50, zputj, g1 50 (by omega)]
            have e78 : (zput υ 78 c 1).1 78 i = if i = c then 1 else σ.1 78 i := by rw [zputj, f1 78 (by decide), zput_ne (by decide), g1 78 (by omega)]
            have e77 : (zput υ 78 c 1).1 77 = υ.1 77 := zput_ne (by decide)
            unfold zIm
            rw [e50', e78, e77]
            by_cases q : i = c
            · subst q
              rw [if_pos rfl, if_pos rfl]
              refine ⟨rfl, Or.inr ⟨rfl, a, hW, g3.eq (fun k h1 h2 => ?_), zcm_rw hM (fun k hk => f3 k hk) hW⟩⟩
              rw [zput_ne (by omega), f1 k (by omega), zput_ne (by omega)]
            · rw [if_neg q, if_neg q]
              obtain ⟨i1, i2⟩ := o4 i hi
              refine ⟨i1, i2.imp id (fun ⟨i3, b, b1, b2, b3⟩ => ⟨i3, b, b1, b2.eq (fun k h1 h2 => old k (by omega) (by omega) (by omega) (by omega)), zcm_rw b3 (fun k hk => f4 _ (by omega)) b1⟩)⟩
        · have ei : (178 : Int32) * nI c + nI k = nI (178 * c + k) := by rw [show (178 : Int32) = nI 178 from rfl, pk_mul, nI_add]
          refine And.intro (vp_in_nI (N := 178) (by omega) (by decide)) ?_
          refine And.intro (by rw [ei]; exact vp_in_nI (N := 356) (by omega) (by decide)) ?_
          show zFix (F_X12_image (fun w υ => w = some (.int 1) ∧ zR υ)) 1 [.ref 75, .int (nI c), .int (nI k + 1)] [] (zput υ 77 ((178 : Int32) * nI c + nI k).toNatClampNeg (υ.1 76 (nI k).toNatClampNeg))
          rw [ei, nI_clamp (by omega), nI_clamp (by omega), nI_1]
          refine ih (k + 1) (by omega) (by omega) _ (fun j hj => (zput_ne hj).trans (f1 j hj)) f2 (fun j hj => ?_) (fun j hj => ?_)
          · rw [zputj]
            by_cases q : j = k
            · rw [if_pos (by omega), f1 76 (by decide), e76, q]
            · rw [if_neg (by omega)]
              exact f3 j (by omega)
          · rw [zput_u (by omega)]
            exact f4 j hj
      exact L 0 (Nat.zero_le _) _ (fun _ _ => rfl) rfl (fun j hj => absurd hj (Nat.not_lt_zero j)) (fun j hj => by rw [zput_ne (by decide), g1 77 (by omega)])
    rcases (show c = 0 ∨ c = 1 by omega) with rfl | rfl
    · refine t_like (t := 25) (o := 1) (a := a) (Or.inr (Or.inl ⟨rfl, rfl⟩)) hW hX (fun τ g1 g2 g3 => ?_)
      exact And.intro (vp_in_nI (n := 0) (N := 2) (by omega) (by decide)) (And.intro (Or.inr rfl) ⟨1, rfl, B τ g1 g2 g3⟩)
    · refine t_like (t := 37) (o := 1) (a := a) (Or.inr (Or.inr (Or.inl ⟨rfl, rfl⟩))) hW hX (fun τ g1 g2 g3 => ?_)
      exact And.intro (vp_in_nI (n := 1) (N := 2) (by omega) (by decide)) (And.intro (Or.inr rfl) ⟨1, rfl, B τ g1 g2 g3⟩)
  · exact zPr_bad (j := 0) h (fun Q hQ => ⟨rfl, zFix_in (noX (a := 0) (b := 1) (by decide) (by decide) nv (n0 (t_refBad hQ)))⟩) (fun τ Q _ hQ => ⟨rfl, zFix_in (noR (a := 0) (b := 1) (by decide) rfl rfl nv (n0 (r_bad hQ)))⟩)
theorem p_from (x : Int32) (h : zR σ) : zPr T_X11_from T_X12_from [.int x] σ := by
  rcases or_r (x := x) (a := 0) (b := 1) with ⟨c, hc, rfl⟩ | nv
  · obtain ⟨a, hW, hX, hM, hO⟩ := id h
    refine ⟨rfl, zFix_in (inX (a := 0) (b := 1) (by decide) hc (n1 ?_))⟩
    refine And.intro (vp_in_nI (N := 2) (by omega) (by decide)) ?_
    obtain ⟨i1, i2⟩ := hO.2.2.2 c (by omega)
    show (¬ σ.1 50 (nI c).toNatClampNeg = 0 → _) ∧ (σ.1 50 (nI c).toNatClampNeg = 0 → _)
    rw [nI_clamp (by omega), i1]
    rcases i2 with i2 | ⟨i2, b, b1, b2, b3⟩
    · rw [i2]
      refine n0 (t_refNo ⟨_, rfl, rfl, zFix_in (inR (a := 0) (b := 1) (by decide) rfl rfl hc (n1 ?_))⟩)
      refine And.intro (vp_in_nI (N := 2) (by omega) (by decide)) ?_
      show (¬ (zBx σ 1).1 78 (nI c).toNatClampNeg = 0 → _) ∧ ((zBx σ 1).1 78 (nI c).toNatClampNeg = 0 → _)
      rw [nI_clamp (by omega), show (zBx σ 1).1 78 = σ.1 78 from zput_ne (by decide), i2]
      exact n0 (r_no ⟨rfl, h.bb⟩)
    · rw [i2]
      refine n1 ?_
      refine And.intro (vp_in_nI (N := 2) (by omega) (by decide)) ?_
      have B : ∀ τ : zM, (∀ k, (k < 1 ∨ 1 + 12 ≤ k) → τ.1 k = σ.1 k) → τ.2 = σ.2 → zCX 1 τ b → T_X12_from [.ref 75, .int (nI c)] τ (fun w υ => w = some (.int 1) ∧ zR υ) := by
        intro τ g1 g2 g3
        refine ⟨rfl, zFix_in (inR (a := 0) (b := 1) (by decide) rfl rfl hc (n1 ?_))⟩
        refine And.intro (vp_in_nI (N := 2) (by omega) (by decide)) ?_
        show (¬ τ.1 78 (nI c).toNatClampNeg = 0 → _) ∧ (τ.1 78 (nI c).toNatClampNeg = 0 → _)
        rw [nI_clamp (by omega), g1 78 (by decide), i2]
        refine n1 ?_
        have L : ∀ k, k ≤ 178 → ∀ υ : zM, (∀ j, j ≠ 76 → υ.1 j = τ.1 j) → υ.2 = τ.2 → (∀ j, j < k → υ.1 76 j = σ.1 77 (178 * c + j)) → zFix (F_X12_from (fun w υ => w = some (.int 1) ∧ zR υ)) 1 [.ref 75, .int (nI c), .int (nI k)] [] υ := by
          refine zloop 178 (fun k hk ih => ?_)
          intro υ f1 f2 f3
          refine zFix_in ?_
          refine pk_le 178 k (fun d => ?_) (fun d => ?_)
          · have ek : k = 178 := by omega
            subst ek
            exact ⟨rfl, zR.up hO (fun k hk => g1 k (by omega)) g2 f1 f2 b1 g3 (zcm_rw b3 f3 b1)⟩
          · have ei : (178 : Int32) * nI c + nI k = nI (178 * c + k) := by rw [show (178 : Int32) = nI 178 from rfl, pk_mul, nI_add]
            refine And.intro (by rw [ei]; exact vp_in_nI (N := 356) (by omega) (by decide)) ?_
            refine And.intro (vp_in_nI (N := 178) (by omega) (by decide)) ?_
            show zFix (F_X12_from (fun w υ => w = some (.int 1) ∧ zR υ)) 1 [.ref 75, .int (nI c), .int (nI k + 1)] [] (zput υ 76 (nI k).toNatClampNeg (υ.1 77 ((178 : Int32) * nI c + nI k).toNatClampNeg))
            rw [ei, nI_clamp (by omega), nI_clamp (by omega), nI_1]
            refine ih (k + 1) (by omega) (by omega) _ (fun j hj => (zput_ne hj).trans (f1 j hj)) f2 (fun j hj => ?_)
            rw [zputj]
            by_cases q : j = k
            · rw [if_pos q, f1 77 (by decide), g1 77 (by decide), q]
            · rw [if_neg q]
              exact f3 j (by omega)
        exact L 0 (Nat.zero_le _) _ (fun _ _ => rfl) rfl (fun j hj => absurd hj (Nat.not_lt_zero j))
      rcases (show c = 0 ∨ c = 1 by omega) with rfl | rfl
      · exact t_like (t := 1) (o := 25) (a := b) (Or.inr (Or.inr (Or.inr (Or.inl ⟨rfl, rfl⟩)))) b1 b2 (fun τ g1 g2 g3 => ⟨1, rfl, B τ g1 g2 g3⟩)
      · exact t_like (t := 1) (o := 37) (a := b) (Or.inr (Or.inr (Or.inr (Or.inr ⟨rfl, rfl⟩)))) b1 b2 (fun τ g1 g2 g3 => ⟨1, rfl, B τ g1 g2 g3⟩)
  · exact zPr_bad (j := 0) h (fun Q hQ => ⟨rfl, zFix_in (noX (a := 0) (b := 1) (by decide) (by decide) nv (n0 (t_refBad hQ)))⟩) (fun τ Q _ hQ => ⟨rfl, zFix_in (noR (a := 0) (b := 1) (by decide) rfl rfl nv (n0 (r_bad hQ)))⟩)
end
