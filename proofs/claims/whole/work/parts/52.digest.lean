/-! Pairs: count, digest. -/
def zHm (a : zA) (t w : Nat) : Nat := if w = 0 then a 2 0 else if w = 1 then a 0 0 else if w = 2 then zpc (a 8 0) else if w = 3 then zPs a (a 3) (a 4) (a 8 0) else if w = 4 then a 9 0 else if w = 5 then a 13 0 else t
theorem t_howMany {a : zA} {t w : Nat} {σ : zM} {Q : zQ} (hW : zWF a) (hX : zCX 1 σ a) (ht : σ.1 51 1 = nI t) (hw : w < 7) (h : ∀ τ, zSF σ τ → Q (some (.int (nI (zHm a t w)))) τ) : T_X11_howMany [.ref 0, .int (nI w)] σ Q := by
  obtain ⟨k1, k2, k3⟩ := c_ok hW
  have h0 := h σ zSF.rf
  have no : ∀ {i j : Nat} {P : Prop}, i < 100 → j < 100 → i ≠ j → nI i = nI j → P := fun {i j P} h1 h2 h3 h4 => absurd (nI_inj (by omega) (by omega) h4) h3
  refine ⟨rfl, zFix_in ?_⟩
  rcases (show w = 0 ∨ w = 1 ∨ w = 2 ∨ w = 3 ∨ w = 4 ∨ w = 5 ∨ w = 6 by omega) with rfl | rfl | rfl | rfl | rfl | rfl | rfl
  · refine ⟨⟨fun _ => ?_, no (j := 1) (by decide) (by decide) (by decide), no (j := 2) (by decide) (by decide) (by decide), no (j := 3) (by decide) (by decide) (by decide), no (j := 4) (by decide) (by decide) (by decide), no (j := 5) (by decide) (by decide) (by decide), True.intro⟩, fun z => absurd rfl z.1⟩
    show Q (some (.int (σ.1 1 2))) σ
    rw [hX.2.2.1]
    exact h0
  · refine ⟨⟨no (j := 0) (by decide) (by decide) (by decide), fun _ => ?_, no (j := 2) (by decide) (by decide) (by decide), no (j := 3) (by decide) (by decide) (by decide), no (j := 4) (by decide) (by decide) (by decide), no (j := 5) (by decide) (by decide) (by decide), True.intro⟩, fun z => absurd rfl z.2.1⟩
    show Q (some (.int (σ.1 1 0))) σ
    rw [hX.1]
    exact h0
  · refine ⟨⟨no (j := 0) (by decide) (by decide) (by decide), no (j := 1) (by decide) (by decide) (by decide), fun _ => ?_, no (j := 3) (by decide) (by decide) (by decide), no (j := 4) (by decide) (by decide) (by decide), no (j := 5) (by decide) (by decide) (by decide), True.intro⟩, fun z => absurd rfl z.2.2.1⟩
    show T_J6_bitCount_0f7a4 [.int (σ.1 1 8)] σ _
    rw [hX.2.2.2.2.1]
    exact t_bitC (zC128 hW) h0
  · refine ⟨⟨no (j := 0) (by decide) (by decide) (by decide), no (j := 1) (by decide) (by decide) (by decide), no (j := 2) (by decide) (by decide) (by decide), fun _ => ?_, no (j := 4) (by decide) (by decide) (by decide), no (j := 5) (by decide) (by decide) (by decide), True.intro⟩, fun z => absurd rfl z.2.2.2.1⟩
    refine t_hold hW hX (fun τ fr s => ?_)
    show T_X8_peacefulWords [.ref 53, .int (τ.1 1 8)] τ _
    rw [(fr.X hX).2.2.2.2.1]
    exact t_peaces hW s k2 k3 (h τ fr)
  · refine ⟨⟨no (j := 0) (by decide) (by decide) (by decide), no (j := 1) (by decide) (by decide) (by decide), no (j := 2) (by decide) (by decide) (by decide), no (j := 3) (by decide) (by decide) (by decide), fun _ => ?_, no (j := 5) (by decide) (by decide) (by decide), True.intro⟩, fun z => absurd rfl z.2.2.2.2.1⟩
    show Q (some (.int (σ.1 1 9))) σ
    rw [hX.2.2.2.2.2.1]
    exact h0
  · refine ⟨⟨no (j := 0) (by decide) (by decide) (by decide), no (j := 1) (by decide) (by decide) (by decide), no (j := 2) (by decide) (by decide) (by decide), no (j := 3) (by decide) (by decide) (by decide), no (j := 4) (by decide) (by decide) (by decide), fun _ => ?_, True.intro⟩, fun z => absurd rfl z.2.2.2.2.2.1⟩
    show Q (some (.int (σ.1 1 13))) σ
    rw [hX.2.2.2.2.2.2.2.1]
    exact h0
  · refine ⟨⟨no (j := 0) (by decide) (by decide) (by decide), no (j := 1) (by decide) (by decide) (by decide), no (j := 2) (by decide) (by decide) (by decide), no (j := 3) (by decide) (by decide) (by decide), no (j := 4) (by decide) (by decide) (by decide), no (j := 5) (by decide) (by decide) (by decide), True.intro⟩, fun _ => ?_⟩
    show Q (some (.int (σ.1 51 1))) σ
    rw [ht]
    exact h0
theorem r_counted {a : zA} {t w : Nat} {σ : zM} {Q : zQ} (hW : zWF a) (hM : zCM (σ.1 76) a) (ht : σ.1 75 18 = nI t) (hw : w < 7) (h : ∀ τ, zMF σ τ → Q (some (.int (nI (zHm a t w)))) τ) : T_X12_counted [.ref 75, .int (nI w)] σ Q := by
  obtain ⟨k1, k2, k3⟩ := c_ok hW
  have no : ∀ {i j : Nat} {P : Prop}, i < 100 → j < 100 → i ≠ j → nI i = nI j → P := fun {i j P} h1 h2 h3 h4 => absurd (nI_inj (by omega) (by omega) h4) h3
  refine ⟨rfl, zFix_in (t_layHand hW hM (fun τ fr hd => ?_))⟩
  have hM' := fr.M hM
  have h0 := h τ fr
  rcases (show w = 0 ∨ w = 1 ∨ w = 2 ∨ w = 3 ∨ w = 4 ∨ w = 5 ∨ w = 6 by omega) with rfl | rfl | rfl | rfl | rfl | rfl | rfl
  · refine ⟨⟨fun _ => t_many ?_, no (j := 1) (by decide) (by decide) (by decide), no (j := 2) (by decide) (by decide) (by decide), no (j := 3) (by decide) (by decide) (by decide), no (j := 4) (by decide) (by decide) (by decide), no (j := 5) (by decide) (by decide) (by decide), True.intro⟩, fun z => absurd rfl z.1⟩
    show Q (some (.int (τ.1 76 0))) τ
    rw [hM'.1]
    exact h0
  · refine ⟨⟨no (j := 0) (by decide) (by decide) (by decide), fun _ => And.intro (vp_in_nI (n := 1) (N := 178) (by decide) (by decide)) ?_, no (j := 2) (by decide) (by decide) (by decide), no (j := 3) (by decide) (by decide) (by decide), no (j := 4) (by decide) (by decide) (by decide), no (j := 5) (by decide) (by decide) (by decide), True.intro⟩, fun z => absurd rfl z.2.1⟩
    show Q (some (.int (τ.1 76 1))) τ
    rw [hM'.2.1]
    exact h0
  · refine ⟨⟨no (j := 0) (by decide) (by decide) (by decide), no (j := 1) (by decide) (by decide) (by decide), fun _ => ?_, no (j := 3) (by decide) (by decide) (by decide), no (j := 4) (by decide) (by decide) (by decide), no (j := 5) (by decide) (by decide) (by decide), True.intro⟩, fun z => absurd rfl z.2.2.1⟩
    show T_X12_bits [.int (τ.1 75 9)] τ _
    rw [hd.1]
    exact r_bits (zC128 hW) h0
  · refine ⟨⟨no (j := 0) (by decide) (by decide) (by decide), no (j := 1) (by decide) (by decide) (by decide), no (j := 2) (by decide) (by decide) (by decide), fun _ => ?_, no (j := 4) (by decide) (by decide) (by decide), no (j := 5) (by decide) (by decide) (by decide), True.intro⟩, fun z => absurd rfl z.2.2.2.1⟩
    exact r_peaces hW hM' hd k1 k2 k3 h0
  · refine ⟨⟨no (j := 0) (by decide) (by decide) (by decide), no (j := 1) (by decide) (by decide) (by decide), no (j := 2) (by decide) (by decide) (by decide), no (j := 3) (by decide) (by decide) (by decide), fun _ => And.intro (vp_in_nI (n := 4) (N := 178) (by decide) (by decide)) ?_, no (j := 5) (by decide) (by decide) (by decide), True.intro⟩, fun z => absurd rfl z.2.2.2.2.1⟩
    show Q (some (.int (τ.1 76 4))) τ
    rw [hM'.2.2.2.1]
    exact h0
  · refine ⟨⟨no (j := 0) (by decide) (by decide) (by decide), no (j := 1) (by decide) (by decide) (by decide), no (j := 2) (by decide) (by decide) (by decide), no (j := 3) (by decide) (by decide) (by decide), no (j := 4) (by decide) (by decide) (by decide), fun _ => And.intro (vp_in_nI (n := 5) (N := 178) (by decide) (by decide)) ?_, True.intro⟩, fun z => absurd rfl z.2.2.2.2.2.1⟩
    show Q (some (.int (τ.1 76 5))) τ
    rw [hM'.2.2.2.2.1]
    exact h0
  · refine ⟨⟨no (j := 0) (by decide) (by decide) (by decide), no (j := 1) (by decide) (by decide) (by decide), no (j := 2) (by decide) (by decide) (by decide), no (j := 3) (by decide) (by decide) (by decide), no (j := 4) (by decide) (by decide) (by decide), no (j := 5) (by decide) (by decide) (by decide), True.intro⟩, fun _ => ?_⟩
    show Q (some (.int (τ.1 75 18))) τ
    rw [fr.2.1 18 (by decide), ht]
    exact h0
theorem t_trait {a : zA} {f w : Nat} {σ : zM} {Q : zQ} (hW : zWF a) (hX : zCX 1 σ a) (hM : zCM (σ.1 76) a) (hf : f < a 2 0) (hw : w < 6) (h : Q (some (.int (σ.1 76 (6 + (6 * f + w))))) σ) : T_X1_trait [.ref 1, .int (nI f), .int (nI w)] σ Q := by
  have hn := hW.1
  obtain ⟨x1, x2, x3, x4, x5⟩ := hX.2.2.2.1 f hf
  obtain ⟨m1, m2, m3, m4, m5, m6⟩ := hM.2.2.2.2.2.1 f hf
  have no : ∀ {i j : Nat} {P : Prop}, i < 100 → j < 100 → i ≠ j → nI i = nI j → P := fun {i j P} h1 h2 h3 h4 => absurd (nI_inj (by omega) (by omega) h4) h3
  refine ⟨rfl, zFix_in ?_⟩
  rcases (show w = 0 ∨ w = 1 ∨ w = 2 ∨ w = 3 ∨ w = 4 ∨ w = 5 by omega) with rfl | rfl | rfl | rfl | rfl | rfl
  · refine ⟨⟨fun _ => And.intro (vp_in_nI (N := 7) (by omega) (by decide)) ?_, no (j := 1) (by decide) (by decide) (by decide), no (j := 2) (by decide) (by decide) (by decide), no (j := 3) (by decide) (by decide) (by decide), no (j := 4) (by decide) (by decide) (by decide), True.intro⟩, fun z => absurd rfl z.1⟩
    rw [nI_clamp (by omega)]
    show Q (some (.int (σ.1 3 f))) σ
    rw [x1.trans m1.symm]
    exact h
  · refine ⟨⟨no (j := 0) (by decide) (by decide) (by decide), fun _ => And.intro (vp_in_nI (N := 7) (by omega) (by decide)) ?_, no (j := 2) (by decide) (by decide) (by decide), no (j := 3) (by decide) (by decide) (by decide), no (j := 4) (by decide) (by decide) (by decide), True.intro⟩, fun z => absurd rfl z.2.1⟩
    rw [nI_clamp (by omega)]
    show Q (some (.int (σ.1 4 f))) σ
    rw [x2.trans m2.symm, show 7 + 6 * f = 6 + (6 * f + 1) by omega]
    exact h
  · refine ⟨⟨no (j := 0) (by decide) (by decide) (by decide), no (j := 1) (by decide) (by decide) (by decide), fun _ => And.intro (vp_in_nI (N := 7) (by omega) (by decide)) ?_, no (j := 3) (by decide) (by decide) (by decide), no (j := 4) (by decide) (by decide) (by decide), True.intro⟩, fun z => absurd rfl z.2.2.1⟩
    rw [nI_clamp (by omega)]
    show Q (some (.int (σ.1 5 f))) σ
    rw [x3.trans m3.symm, show 8 + 6 * f = 6 + (6 * f + 2) by omega]
    exact h
  · refine ⟨⟨no (j := 0) (by decide) (by decide) (by decide), no (j := 1) (by decide) (by decide) (by decide), no (j := 2) (by decide) (by decide) (by decide), fun _ => And.intro (vp_in_nI (N := 7) (by omega) (by decide)) ?_, no (j := 4) (by decide) (by decide) (by decide), True.intro⟩, fun z => absurd rfl z.2.2.2.1⟩
    rw [nI_clamp (by omega)]
    show Q (some (.int (σ.1 6 f))) σ
    rw [x4.trans m4.symm, show 9 + 6 * f = 6 + (6 * f + 3) by omega]
    exact h
  · refine ⟨⟨no (j := 0) (by decide) (by decide) (by decide), no (j := 1) (by decide) (by decide) (by decide), no (j := 2) (by decide) (by decide) (by decide), no (j := 3) (by decide) (by decide) (by decide), fun _ => And.intro (vp_in_nI (N := 7) (by omega) (by decide)) ?_, True.intro⟩, fun z => absurd rfl z.2.2.2.2.1⟩
    rw [nI_clamp (by omega)]
    show Q (some (.int (σ.1 7 f))) σ
    rw [x5.trans m5.symm, show 10 + 6 * f = 6 + (6 * f + 4) by omega]
    exact h
  · refine ⟨⟨no (j := 0) (by decide) (by decide) (by decide), no (j := 1) (by decide) (by decide) (by decide), no (j := 2) (by decide) (by decide) (by decide), no (j := 3) (by decide) (by decide) (by decide), no (j := 4) (by decide) (by decide) (by decide), True.intro⟩, fun _ => ?_⟩
    show T_X11_bit [.int (σ.1 1 8), .int (nI f)] σ _
    rw [hX.2.2.2.2.1]
    have c8 := zC128 hW
    refine t_X11_bit (by omega) (by omega) ?_
    rw [← m6, show 11 + 6 * f = 6 + (6 * f + 5) by omega]
    exact h
section
variable {σ : zM}
theorem p_count (x : Int32) (h : zR σ) : zPr T_X11_count T_X12_count [.int x] σ := by
  rcases or_r (x := x) (a := 0) (b := 6) with ⟨w, hw, rfl⟩ | nv
  · obtain ⟨a, hW, hX, hM, hO, ⟨t, t1, t2, t3, t4⟩, hO2⟩ := id h
    refine ⟨rfl, zFix_in (inX (a := 0) (b := 6) (by decide) hw (n1 ?_))⟩
    refine t_howMany hW hX t2 (by omega) (fun τ fr => ?_)
    have q := fr.Q
    refine ⟨_, rfl, rfl, zFix_in (inR (a := 0) (b := 6) (by decide) rfl rfl hw (e1 ?_))⟩
    exact r_counted hW (by rw [q.1 76 (by omega)]; exact hM) (by rw [q.1 75 (by omega)]; exact t3) (by omega) (fun υ g => ⟨rfl, (h.X q).M g.Q⟩)
  · exact zPr_bad (j := 0) h (fun Q hQ => ⟨rfl, zFix_in (noX (a := 0) (b := 6) (by decide) (by decide) nv (n0 (t_refBad hQ)))⟩) (fun τ Q _ hQ => ⟨rfl, zFix_in (noR (a := 0) (b := 6) (by decide) rfl rfl nv (e0 (r_bad hQ)))⟩)
def zdg (h : Int64) (g : Nat → Int32) : Nat → Int64
  | 0 => h
  | n + 1 => 31 * zdg h g n + (g n).toInt64
theorem r_sums {h0 : Int64} {o n : Nat} {σ : zM} {Q : zQ} (hb : o + n ≤ 178) (h : Q (some (.long (zdg h0 (fun k => σ.1 76 (o + k)) n))) σ) : T_X12_sums [.ref 75, .long h0, .int (nI o), .int (nI n)] σ Q := by
  have L : ∀ k, k ≤ n → zFix (F_X12_sums Q) 1 [.ref 75, .null, .null, .int (nI o), .int (nI n), .long (zdg h0 (fun k => σ.1 76 (o + k)) k), .null, .int (nI k)] [] σ := by
    refine zloop n (fun k hk ih => ?_)
    refine zFix_in ?_
    refine pk_le n k (fun d => ?_) (fun d => ?_)
    · have ek : k = n := by omega
      rw [ek]
      exact h
    · refine And.intro (by rw [nI_add]; exact vp_in_nI (N := 178) (by omega) (by decide)) ?_
      show zFix (F_X12_sums Q) 1 [.ref 75, .null, .null, .int (nI o), .int (nI n), .long (31 * zdg h0 (fun k => σ.1 76 (o + k)) k + (σ.1 76 (nI o + nI k).toNatClampNeg).toInt64), .null, .int (nI k + 1)] [] σ
      rw [nI_add, nI_clamp (by omega), nI_1]
      exact ih (k + 1) (by omega) (by omega)
  exact ⟨rfl, zFix_in (L 0 (Nat.zero_le _))⟩
theorem p_digest (h : zR σ) : zPl T_X11_digest T_X12_digest [] σ := by
  obtain ⟨a, hW, hX, hM, hO, ⟨t, t1, t2, t3, t4⟩, ⟨hA, hB⟩, hO2⟩ := id h
  have hn := hW.1
  have hk6 := hW.2.2.2.2.2.2.1
  obtain ⟨H1, eH1⟩ : ∃ H, H = fun n => zdg 1171 (fun w => nI (zHm a t w)) n := ⟨_, rfl⟩
  obtain ⟨H2, eH2⟩ : ∃ H, H = fun n => zdg (H1 7) (fun k => σ.1 76 (2 + k)) n := ⟨_, rfl⟩
  obtain ⟨H3, eH3⟩ : ∃ H, H = fun n => zdg (H2 2) (fun k => σ.1 76 (6 + k)) n := ⟨_, rfl⟩
  obtain ⟨H4, eH4⟩ : ∃ H, H = fun n => zdg (H3 (6 * a 2 0)) (fun k => σ.1 76 (48 + k)) n := ⟨_, rfl⟩
  have s1 : ∀ n, H1 (n + 1) = 31 * H1 n + (nI (zHm a t n)).toInt64 := by intro n; rw [eH1]; rfl
  have s2 : ∀ n, H2 (n + 1) = 31 * H2 n + (σ.1 76 (2 + n)).toInt64 := by intro n; rw [eH2]; rfl
  have s3 : ∀ n, H3 (n + 1) = 31 * H3 n + (σ.1 76 (6 + n)).toInt64 := by intro n; rw [eH3]; rfl
  have s4 : ∀ n, H4 (n + 1) = 31 * H4 n + (σ.1 76 (48 + n)).toInt64 := by intro n; rw [eH4]; rfl
  have z2 : H2 0 = H1 7 := by rw [eH2]; rfl
  have z3 : H3 0 = H2 2 := by rw [eH3]; rfl
  have z4 : H4 0 = H3 (6 * a 2 0) := by rw [eH4]; rfl
  have z1 : H1 0 = 1171 := by rw [eH1]; rfl
  -- the reference
  have R : ∀ τ : zM, zSF σ τ → T_X12_digest [.ref 75] τ (fun w υ => w = some (.long (31 * (31 * H4 (3 * a 9 0) + σ.2 75 4) + σ.2 75 5)) ∧ zR υ) := by
    intro τ fr
    have q := fr.Q
    have hR := h.X q
    have e76 : τ.1 76 = σ.1 76 := q.1 76 (by omega)
    have hM' : zCM (τ.1 76) a := by rw [e76]; exact hM
    have e18 : τ.1 75 18 = nI t := by rw [q.1 75 (by omega)]; exact t3
    have L : ∀ w, w ≤ 7 → ∀ υ : zM, zMF τ υ → zFix (F_X12_digest (fun w υ => w = some (.long (31 * (31 * H4 (3 * a 9 0) + σ.2 75 4) + σ.2 75 5)) ∧ zR υ)) 1 [.ref 75, .long (H1 w), .null, .int (nI w)] [] υ := by
      refine zloop 7 (fun w hw ih => ?_)
      intro υ g
      have hM2 := g.M hM'
      have u76 : υ.1 76 = σ.1 76 := by rw [g.1 76 (by decide) (by decide) (by decide) (by decide), e76]
      refine zFix_in ?_
      refine pk_le 7 w (fun d => ?_) (fun d => ?_)
      · have ew : w = 7 := by omega
        rw [ew]
        refine r_sums (o := 2) (n := 2) (by decide) ?_
        refine t_many ?_
        show T_X12_sums [.ref 75, .long (zdg (H1 7) (fun k => υ.1 76 (2 + k)) 2), .int (nI 6), .int (6 * υ.1 76 0)] υ _
        rw [u76, show zdg (H1 7) (fun k => σ.1 76 (2 + k)) 2 = H2 2 by rw [eH2], hM.1, show (6 : Int32) = nI 6 from rfl, pk_mul]
        refine r_sums (o := 6) (n := 6 * a 2 0) (by omega) ?_
        refine And.intro (vp_in_nI (n := 4) (N := 178) (by decide) (by decide)) ?_
        show T_X12_sums [.ref 75, .long (zdg (H2 2) (fun k => υ.1 76 (6 + k)) (6 * a 2 0)), .int (nI 48), .int (3 * υ.1 76 4)] υ _
        rw [u76, show zdg (H2 2) (fun k => σ.1 76 (6 + k)) (6 * a 2 0) = H3 (6 * a 2 0) by rw [eH3], hM.2.2.2.1, show (3 : Int32) = nI 3 from rfl, pk_mul]
        refine r_sums (o := 48) (n := 3 * a 9 0) (by omega) ?_
        show some (Value.long (31 * (31 * zdg (H3 (6 * a 2 0)) (fun k => υ.1 76 (48 + k)) (3 * a 9 0) + υ.2 75 4) + υ.2 75 5)) = _ ∧ zR υ
        rw [u76, show zdg (H3 (6 * a 2 0)) (fun k => σ.1 76 (48 + k)) (3 * a 9 0) = H4 (3 * a 9 0) by rw [eH4], g.2.2, fr.2]
        exact ⟨rfl, hR.M g.Q⟩
      · refine r_counted hW hM2 (by rw [g.2.1 18 (by decide)]; exact e18) d (fun υ2 g2 => ?_)
        show zFix (F_X12_digest _) 1 [.ref 75, .long (31 * H1 w + (nI (zHm a t w)).toInt64), .null, .int (nI w + 1)] [] υ2
        rw [nI_1, ← s1]
        exact ih (w + 1) (by omega) (by omega) υ2 (g.tr g2)
    refine ⟨rfl, zFix_in ?_⟩
    have := L 0 (Nat.zero_le _) τ zMF.rf
    rw [z1] at this
    exact this
  -- the class
  have B5 : ∀ τ : zM, zSF σ τ → ∀ k, k ≤ a 9 0 → zFix (F_X11_digest (fun v τ => ∃ r : Int64, v = some (.long r) ∧ T_X12_digest [.ref 75] τ (fun w υ => w = some (.long r) ∧ zR υ))) 5 [.ref 0, .long (H4 (3 * k)), .null, .int (nI k)] [] τ := by
    intro τ fr
    have hX' := fr.X hX
    refine zloop (a 9 0) (fun k hk ih => ?_)
    refine zFix_in ?_
    refine pk_le (a 9 0) k (fun d => ?_) (fun d => ?_) hX'.2.2.2.2.2.1 rfl
    · have ek : k = a 9 0 := by omega
      rw [ek]
      refine ⟨31 * (31 * H4 (3 * a 9 0) + σ.2 75 4) + σ.2 75 5, ?_, R τ fr⟩
      show some (Value.long (31 * (31 * H4 (3 * a 9 0) + τ.2 0 9) + τ.2 0 10)) = _
      rw [fr.2, hA, hB]
    · obtain ⟨x1, x2, x3⟩ := hX'.2.2.2.2.2.2.1 k d
      obtain ⟨m1, m2, m3⟩ := hM.2.2.2.2.2.2.1 k d
      refine And.intro (vp_in_nI (N := 6) (by omega) (by decide)) (And.intro (vp_in_nI (N := 6) (by omega) (by decide)) (And.intro (vp_in_nI (N := 6) (by omega) (by decide)) ?_))
      show zFix (F_X11_digest _) 5 [.ref 0, .long (31 * (31 * (31 * H4 (3 * k) + (τ.1 8 (nI k).toNatClampNeg).toInt64) + (τ.1 9 (nI k).toNatClampNeg).toInt64) + (τ.1 10 (nI k).toNatClampNeg).toInt64), .null, .int (nI k + 1)] [] τ
      rw [nI_clamp (by omega), nI_1, show τ.1 8 k = σ.1 76 (48 + (3 * k)) from x1.trans m1.symm, show τ.1 9 k = σ.1 76 (48 + (3 * k + 1)) by rw [show 48 + (3 * k + 1) = 49 + 3 * k by omega]; exact x2.trans m2.symm, show τ.1 10 k = σ.1 76 (48 + (3 * k + 2)) by rw [show 48 + (3 * k + 2) = 50 + 3 * k by omega]; exact x3.trans m3.symm, ← s4, ← s4, ← s4]
      exact ih (k + 1) (by omega) (by omega)
  have B3 : ∀ τ : zM, zSF σ τ → ∀ f, f ≤ a 2 0 → zFix (F_X11_digest (fun v τ => ∃ r : Int64, v = some (.long r) ∧ T_X12_digest [.ref 75] τ (fun w υ => w = some (.long r) ∧ zR υ))) 3 [.ref 0, .long (H3 (6 * f)), .null, .int (nI f)] [] τ := by
    intro τ fr
    have hX' := fr.X hX
    have e76 : τ.1 76 = σ.1 76 := fr.Q.1 76 (by omega)
    have hM' : zCM (τ.1 76) a := by rw [e76]; exact hM
    refine zloop (a 2 0) (fun f hf ih => ?_)
    refine zFix_in ?_
    refine pk_le (a 2 0) f (fun d => ?_) (fun d => ?_) hX'.2.2.1 rfl
    · have ef : f = a 2 0 := by omega
      rw [ef, ← z4]
      exact B5 τ fr 0 (Nat.zero_le _)
    · have L : ∀ w, w ≤ 6 → zFix (F_X11_digest (fun v τ => ∃ r : Int64, v = some (.long r) ∧ T_X12_digest [.ref 75] τ (fun w υ => w = some (.long r) ∧ zR υ))) 4 [.ref 0, .long (H3 (6 * f + w)), .null, .int (nI f), .int (nI w)] [] τ := by
        refine zloop 6 (fun w hw ih2 => ?_)
        refine zFix_in ?_
        refine pk_lt 5 w (fun c => ?_) (fun c => ?_)
        · have ew : w = 6 := by omega
          rw [ew]
          show zFix (F_X11_digest _) 3 [.ref 0, .long (H3 (6 * f + 6)), .null, .int (nI f + 1)] [] τ
          rw [nI_1]
          exact ih (f + 1) (by omega) (by omega)
        · refine t_trait hW hX' hM' d (by omega) ?_
          show zFix (F_X11_digest _) 4 [.ref 0, .long (31 * H3 (6 * f + w) + (τ.1 76 (6 + (6 * f + w))).toInt64), .null, .int (nI f), .int (nI w + 1)] [] τ
          rw [nI_1, e76, ← s3]
          exact ih2 (w + 1) (by omega) (by omega)
      exact L 0 (Nat.zero_le _)
  have B2 : ∀ τ : zM, zSF σ τ → ∀ b, b ≤ 2 → zFix (F_X11_digest (fun v τ => ∃ r : Int64, v = some (.long r) ∧ T_X12_digest [.ref 75] τ (fun w υ => w = some (.long r) ∧ zR υ))) 2 [.ref 0, .long (H2 b), .null, .int (nI b)] [] τ := by
    intro τ fr
    have hX' := fr.X hX
    refine zloop 2 (fun b hb ih => ?_)
    refine zFix_in ?_
    refine pk_le 2 b (fun d => ?_) (fun d => ?_)
    · have eb : b = 2 := by omega
      rw [eb, ← z3]
      exact B3 τ fr 0 (Nat.zero_le _)
    · refine And.intro (vp_in_nI (N := 2) d (by decide)) ?_
      show zFix (F_X11_digest _) 2 [.ref 0, .long (31 * H2 b + (τ.1 2 (nI b).toNatClampNeg).toInt64), .null, .int (nI b + 1)] [] τ
      have em : τ.1 2 b = σ.1 76 (2 + b) := by
        rw [show τ.1 2 b = nI (a 1 b) from hX'.2.1 b d]
        rcases (show b = 0 ∨ b = 1 by omega) with rfl | rfl
        · exact hM.2.2.1.1.symm
        · exact hM.2.2.1.2.symm
      rw [nI_clamp (by omega), nI_1, em, ← s2]
      exact ih (b + 1) (by omega) (by omega)
  have B1 : ∀ w, w ≤ 7 → ∀ τ : zM, zSF σ τ → zFix (F_X11_digest (fun v τ => ∃ r : Int64, v = some (.long r) ∧ T_X12_digest [.ref 75] τ (fun w υ => w = some (.long r) ∧ zR υ))) 1 [.ref 0, .long (H1 w), .null, .int (nI w)] [] τ := by
    refine zloop 7 (fun w hw ih => ?_)
    intro τ fr
    have hX' := fr.X hX
    refine zFix_in ?_
    refine pk_lt 6 w (fun d => ?_) (fun d => ?_)
    · have ew : w = 7 := by omega
      rw [ew, ← z2]
      exact B2 τ fr 0 (Nat.zero_le _)
    · refine t_howMany hW hX' (by rw [fr.Q.2.1]; exact t2) (by omega) (fun υ g => ?_)
      show zFix (F_X11_digest _) 1 [.ref 0, .long (31 * H1 w + (nI (zHm a t w)).toInt64), .null, .int (nI w + 1)] [] υ
      rw [nI_1, ← s1]
      exact ih (w + 1) (by omega) (by omega) υ (fr.tr g)
  have := B1 0 (Nat.zero_le _) σ zSF.rf
  rw [z1] at this
  exact ⟨rfl, zFix_in this⟩
end
