/-- the reference's family is laid; the steps are not yet forgotten -/
theorem r_layFamily {o k b t v p : Nat} {a : zA} {σ : zM} {Q : zQ} (ho : o = 76 ∨ o = 89) (hn : a 2 0 < 7) (hw : a 8 0 < 2 ^ a 2 0) (hM : zCM (σ.1 o) a) (h : ∀ τ : zM, (∀ k, k ≠ o → τ.1 k = σ.1 k) → τ.2 = σ.2 → τ.1 o 5 = nI (a 13 0) → (∀ υ : zM, (∀ j, j ≠ 5 → υ.1 o j = τ.1 o j) → υ.1 o 5 = 0 → zCM (υ.1 o) (zAf a k b t v p)) → Q none τ) : T_X12_layFamily [.ref o, .int (nI k), .int (nI b), .int (nI t), .int (nI v), .int (nI p)] σ Q := by
  have hz : zil o = 178 ∨ zil o = 66 := by rcases ho with rfl | rfl; exact Or.inl rfl; exact Or.inr rfl
  have hin : ∀ {i : Nat}, i < 66 → vp_in (nI i) (zil o) := fun {i} hi => by rcases hz with z | z <;> (rw [z]; exact vp_in_nI (by omega) (by decide))
  obtain ⟨q0, q1, q2, q4, q5, q6, q7, q8⟩ := hM
  refine ⟨rfl, zFix_in ?_⟩
  refine And.intro (hin (i := 0) (by decide)) ?_
  have s : ∀ j : Nat, (6 : Int32) + 6 * σ.1 o 0 + nI j = nI (6 + 6 * a 2 0 + j) := fun j => by rw [q0, show (6 : Int32) = nI 6 from rfl, pk_mul, nI_add, nI_add]
  have si : ∀ j, j < 6 → vp_in ((6 : Int32) + 6 * σ.1 o 0 + nI j) (zil o) := fun j hj => by rw [s]; exact hin (by omega)
  refine And.intro (si 0 (by decide)) (And.intro (si 1 (by decide)) (And.intro (si 2 (by decide)) (And.intro (si 3 (by decide)) (And.intro (si 4 (by decide)) (And.intro (si 5 (by decide)) (And.intro (hin (i := 0) (by decide)) (And.intro (hin (i := 0) (by decide)) ?_)))))))
  show Q none (zput (zput (zput (zput (zput (zput (zput σ o ((6 : Int32) + 6 * σ.1 o 0 + nI 0).toNatClampNeg (nI k)) o ((6 : Int32) + 6 * σ.1 o 0 + nI 1).toNatClampNeg (nI b)) o ((6 : Int32) + 6 * σ.1 o 0 + nI 2).toNatClampNeg (nI t)) o ((6 : Int32) + 6 * σ.1 o 0 + nI 3).toNatClampNeg (nI v)) o ((6 : Int32) + 6 * σ.1 o 0 + nI 4).toNatClampNeg (nI p)) o ((6 : Int32) + 6 * σ.1 o 0 + nI 5).toNatClampNeg 0) o 0 ((zput (zput (zput (zput (zput (zput σ o ((6 : Int32) + 6 * σ.1 o 0 + nI 0).toNatClampNeg (nI k)) o ((6 : Int32) + 6 * σ.1 o 0 + nI 1).toNatClampNeg (nI b)) o ((6 : Int32) + 6 * σ.1 o 0 + nI 2).toNatClampNeg (nI t)) o ((6 : Int32) + 6 * σ.1 o 0 + nI 3).toNatClampNeg (nI v)) o ((6 : Int32) + 6 * σ.1 o 0 + nI 4).toNatClampNeg (nI p)) o ((6 : Int32) + 6 * σ.1 o 0 + nI 5).toNatClampNeg 0).1 o 0 + 1))
  rw [s, s, s, s, s, s, nI_clamp (by omega), nI_clamp (by omega), nI_clamp (by omega), nI_clamp (by omega), nI_clamp (by omega), nI_clamp (by omega), zput_u (show 0 ≠ 6 + 6 * a 2 0 + 5 by omega), zput_u (show 0 ≠ 6 + 6 * a 2 0 + 4 by omega), zput_u (show 0 ≠ 6 + 6 * a 2 0 + 3 by omega), zput_u (show 0 ≠ 6 + 6 * a 2 0 + 2 by omega), zput_u (show 0 ≠ 6 + 6 * a 2 0 + 1 by omega), zput_u (show 0 ≠ 6 + 6 * a 2 0 + 0 by omega), q0, nI_1]
  have hn9 := hn
  refine h _ (fun j hj => ?_) rfl ?_ (fun υ u1 u2 => ?_)
  · rw [zput_ne hj, zput_ne hj, zput_ne hj, zput_ne hj, zput_ne hj, zput_ne hj, zput_ne hj]
  · rw [zput_u (by omega), zput_u (by omega), zput_u (by omega), zput_u (by omega), zput_u (by omega), zput_u (by omega), zput_u (by omega)]
    exact q5
  · have z : ∀ j, j ≠ 0 → j ≠ 5 → (j < 6 + 6 * a 2 0 ∨ 12 + 6 * a 2 0 ≤ j) → υ.1 o j = σ.1 o j := fun j h1 h2 h3 => by rw [u1 j h2, zput_u h1, zput_u (by omega), zput_u (by omega), zput_u (by omega), zput_u (by omega), zput_u (by omega), zput_u (by omega)]
    refine ⟨?_, (z 1 (by decide) (by decide) (by omega)).trans q1, ⟨(z 2 (by decide) (by decide) (by omega)).trans q2.1, (z 3 (by decide) (by decide) (by omega)).trans q2.2⟩, (z 4 (by decide) (by decide) (by omega)).trans q4, u2, fun f hf => ?_, fun j hj => ?_, fun u hu => absurd hu (Nat.not_lt_zero u)⟩
    · rw [u1 0 (by decide), zput_s]
      rfl
    · have hf : f < a 2 0 + 1 := hf
      show _ = nI (zup (a 3) (a 2 0) k f) ∧ _ = nI (zup (a 4) (a 2 0) b f) ∧ _ = nI (zup (a 5) (a 2 0) t f) ∧ _ = nI (zup (a 6) (a 2 0) v f) ∧ _ = nI (zup (a 7) (a 2 0) p f) ∧ _ = nI (zb (a 8 0) f)
      by_cases q : f = a 2 0
      · rw [q, zup_s, zup_s, zup_s, zup_s, zup_s, u1 _ (by omega), u1 _ (by omega), u1 _ (by omega), u1 _ (by omega), u1 _ (by omega), u1 _ (by omega)]
        refine ⟨?_, ?_, ?_, ?_, ?_, ?_⟩
        · rw [zput_u (by omega), zput_u (by omega), zput_u (by omega), zput_u (by omega), zput_u (by omega), zput_u (by omega), show 6 + 6 * a 2 0 = 6 + 6 * a 2 0 + 0 from rfl, zput_s]
        · rw [zput_u (by omega), zput_u (by omega), zput_u (by omega), zput_u (by omega), zput_u (by omega), show 7 + 6 * a 2 0 = 6 + 6 * a 2 0 + 1 by omega, zput_s]
        · rw [zput_u (by omega), zput_u (by omega), zput_u (by omega), zput_u (by omega), show 8 + 6 * a 2 0 = 6 + 6 * a 2 0 + 2 by omega, zput_s]
        · rw [zput_u (by omega), zput_u (by omega), zput_u (by omega), show 9 + 6 * a 2 0 = 6 + 6 * a 2 0 + 3 by omega, zput_s]
        · rw [zput_u (by omega), zput_u (by omega), show 10 + 6 * a 2 0 = 6 + 6 * a 2 0 + 4 by omega, zput_s]
        · rw [zput_u (by omega), show 11 + 6 * a 2 0 = 6 + 6 * a 2 0 + 5 by omega, zput_s, zb_hi hw]
          rfl
      · rw [zup_n q, zup_n q, zup_n q, zup_n q, zup_n q]
        obtain ⟨r1, r2, r3, r4, r5, r6⟩ := q6 f (by omega)
        exact ⟨(z _ (by omega) (by omega) (by omega)).trans r1, (z _ (by omega) (by omega) (by omega)).trans r2, (z _ (by omega) (by omega) (by omega)).trans r3, (z _ (by omega) (by omega) (by omega)).trans r4, (z _ (by omega) (by omega) (by omega)).trans r5, (z _ (by omega) (by omega) (by omega)).trans r6⟩
    · obtain ⟨r1, r2, r3⟩ := q7 j hj
      exact ⟨(z _ (by omega) (by omega) (by omega)).trans r1, (z _ (by omega) (by omega) (by omega)).trans r2, (z _ (by omega) (by omega) (by omega)).trans r3⟩
section
variable {σ : zM}
theorem isP {p : Nat} {τ : zM} {Q : zQ} (hp : p ≤ 9) (h : Q (some (.int 1)) τ) : T_X11_isPewOf [.int (nI p), .int (nI (p % 2))] τ Q := t_isPewOf (fun _ _ _ _ => h) (fun e => absurd rfl (e p hp rfl))
theorem isPr {p : Nat} {τ : zM} {Q : zQ} (hp : p ≤ 9) (h : Q (some (.int 1)) τ) : T_X12_isPewOf [.int (nI p), .int (nI (p % 2))] τ Q := r_isPewOf (fun _ _ _ _ => h) (fun e => absurd rfl (e p hp rfl))
theorem noP {x y : Int32} {τ : zM} {Q : zQ} (nv : ∀ p, p ≤ 9 → x = nI p → y ≠ nI (p % 2)) (h : Q (some (.int 0)) τ) : T_X11_isPewOf [.int x, .int y] τ Q := t_isPewOf (fun p h1 h2 h3 => absurd h3 (nv p h1 h2)) (fun _ => h)
theorem noPr {x y : Int32} {τ : zM} {Q : zQ} (nv : ∀ p, p ≤ 9 → x = nI p → y ≠ nI (p % 2)) (h : Q (some (.int 0)) τ) : T_X12_isPewOf [.int x, .int y] τ Q := r_isPewOf (fun p h1 h2 h3 => absurd h3 (nv p h1 h2)) (fun _ => h)
theorem or_p {x y : Int32} : (∃ p, p ≤ 9 ∧ x = nI p ∧ y = nI (p % 2)) ∨ ∀ p, p ≤ 9 → x = nI p → y ≠ nI (p % 2) := by
  by_cases h : ∃ p, p ≤ 9 ∧ x = nI p ∧ y = nI (p % 2)
  · exact Or.inl h
  · exact Or.inr (fun p h1 h2 h3 => h ⟨p, h1, h2, h3⟩)
theorem p_family (x1 x2 x3 x4 x5 : Int32) (h : zR σ) : zPr T_X11_family T_X12_family [.int x1, .int x2, .int x3, .int x4, .int x5] σ := by
  rcases or_r (x := x1) (a := 0) (b := 5) with ⟨k, hk, rfl⟩ | nv
  · rcases or_w (x := x2) (n := 2) with ⟨b, hb, rfl⟩ | nv
    · rcases or_r (x := x3) (a := 1) (b := 9) with ⟨t, ht, rfl⟩ | nv
      · rcases or_r (x := x4) (a := 1) (b := 20) with ⟨v, hv, rfl⟩ | nv
        · rcases or_p (x := x5) (y := nI b) with ⟨p, hp, rfl, eb⟩ | nv
          · have eb := nI_inj (by omega) (by omega) eb
            subst eb
            obtain ⟨a, hW, hX, hM, hO⟩ := id h
            refine ⟨rfl, zFix_in (inX (a := 0) (b := 5) (by decide) hk (e1 (isB hb (e1 (inX (a := 1) (b := 9) (by decide) ht (e1 (inX (a := 1) (b := 20) (by decide) hv (e1 (isP hp (n1 ?_))))))))))⟩
            have hx6 : ∀ f, f < a 2 0 → σ.1 7 f = nI (a 7 f) := fun f hf => (hX.2.2.2.1 f hf).2.2.2.2
            have hm6 : ∀ f, f < a 2 0 → σ.1 76 (10 + 6 * f) = nI (a 7 f) := fun f hf => (hM.2.2.2.2.2.1 f hf).2.2.2.2.1
            refine t_isTaken (b := 1) (n := a 2 0) (Or.inl rfl) hW.1 hX.2.2.1 (fun tk => e1 ?_) (fun nt => e0 ?_)
            · refine t_refNo ⟨_, rfl, rfl, zFix_in (inR (a := 0) (b := 5) (by decide) rfl rfl hk (e1 (isBr hb (e1 (inR (a := 1) (b := 9) (by decide) rfl rfl ht (e1 (inR (a := 1) (b := 20) (by decide) rfl rfl hv (e1 (isPr hp (n1 ?_))))))))))⟩
              have e76 : (zBx σ 1).1 76 = σ.1 76 := zput_ne (by decide)
              refine r_isTaken (o := 76) (n := a 2 0) (Or.inl rfl) hW.1 (by rw [e76]; exact hM.1) (fun _ => e1 (r_no ⟨rfl, h.bb⟩)) (fun z => ?_)
              obtain ⟨f, hf, ef⟩ := tk
              exact absurd (by rw [e76, hm6 f hf, ← hx6 f hf]; exact ef) (z f hf)
            · have nt2 : ∀ f, f < a 2 0 → a 7 f ≠ p := fun f hf e => nt f hf (by rw [hx6 f hf, e])
              have hn := hW.1
              refine pk_lt (a 2 0) 7 (fun d => ?_) (fun d => ?_) hX.2.2.1 rfl
              · refine t_admit (b0 := 1) (a := a) (Or.inl rfl) d hX (fun τ g1 g2 g3 => ?_)
                have e76 : τ.1 76 = σ.1 76 := g1 76 (by decide)
                have hM' : zCM (τ.1 76) a := by rw [e76]; exact hM
                refine ⟨_, rfl, rfl, zFix_in (inR (a := 0) (b := 5) (by decide) rfl rfl hk (e1 (isBr hb (e1 (inR (a := 1) (b := 9) (by decide) rfl rfl ht (e1 (inR (a := 1) (b := 20) (by decide) rfl rfl hv (e1 (isPr hp (n1 ?_))))))))))⟩
                refine r_isTaken (o := 76) (n := a 2 0) (Or.inl rfl) hW.1 hM'.1 (fun tk => ?_) (fun _ => e0 (t_many ?_))
                · obtain ⟨f, hf, ef⟩ := tk
                  exact absurd (show σ.1 (1 + 6) f = nI p by rw [← ef, e76, hm6 f hf]; exact hx6 f hf) (nt f hf)
                · refine And.intro (fun _ => ?_) (fun z => absurd (nI_inj (b := 7) (by omega) (by decide) (hM'.1.symm.trans z)) (by omega))
                  refine r_layFamily (o := 76) (a := a) (Or.inl rfl) d hW.2.2.2.2.2.1 hM' (fun υ k1 k2 _ k4 => ?_)
                  refine And.intro (vp_in_nI (n := 5) (N := 178) (by decide) (by decide)) (t_many ?_)
                  have cm := k4 (zput υ 76 5 0) (fun j hj => zput_u hj) zput_s
                  refine ⟨?_, zR.up hO (fun k hk => g1 k (by omega)) g2 (υ := zput υ 76 5 0) (fun k hk => (zput_ne hk).trans (k1 k hk)) k2 (zAf_wf hW d (by omega) hb ht hv hp rfl nt2) g3 cm⟩
                  show some (Value.int ((zput υ 76 5 0).1 76 0 - 1)) = _
                  rw [cm.1]
                  exact congrArg (fun z => some (Value.int z)) (nI_pred (a 2 0))
              · have en : a 2 0 = 7 := by omega
                refine t_refFull ⟨_, rfl, rfl, zFix_in (inR (a := 0) (b := 5) (by decide) rfl rfl hk (e1 (isBr hb (e1 (inR (a := 1) (b := 9) (by decide) rfl rfl ht (e1 (inR (a := 1) (b := 20) (by decide) rfl rfl hv (e1 (isPr hp (n1 ?_))))))))))⟩
                have e76 : (zBx σ 2).1 76 = σ.1 76 := zput_ne (by decide)
                refine r_isTaken (o := 76) (n := a 2 0) (Or.inl rfl) hW.1 (by rw [e76]; exact hM.1) (fun tk => ?_) (fun _ => e0 (t_many ?_))
                · obtain ⟨f, hf, ef⟩ := tk
                  exact absurd (show σ.1 (1 + 6) f = nI p by rw [← ef, e76, hm6 f hf]; exact hx6 f hf) (nt f hf)
                · refine And.intro (fun z => absurd ?_ z) (fun _ => r_full ⟨rfl, h.bb⟩)
                  rw [e76, hM.1, en]
                  rfl
          · exact zPr_bad (j := 0) h (fun Q hQ => ⟨rfl, zFix_in (inX (a := 0) (b := 5) (by decide) hk (e1 (isB hb (e1 (inX (a := 1) (b := 9) (by decide) ht (e1 (inX (a := 1) (b := 20) (by decide) hv (e1 (noP nv (n0 (zFix_in (t_refBad hQ))))))))))))⟩) (fun τ Q _ hQ => ⟨rfl, zFix_in (inR (a := 0) (b := 5) (by decide) rfl rfl hk (e1 (isBr hb (e1 (inR (a := 1) (b := 9) (by decide) rfl rfl ht (e1 (inR (a := 1) (b := 20) (by decide) rfl rfl hv (e1 (noPr nv (n0 (zFix_in (r_bad hQ))))))))))))⟩)
        · exact zPr_bad (j := 0) h (fun Q hQ => ⟨rfl, zFix_in (inX (a := 0) (b := 5) (by decide) hk (e1 (isB hb (e1 (inX (a := 1) (b := 9) (by decide) ht (e1 (noX (a := 1) (b := 20) (by decide) (by decide) nv (e0 (zFix_in (t_refBad hQ))))))))))⟩) (fun τ Q _ hQ => ⟨rfl, zFix_in (inR (a := 0) (b := 5) (by decide) rfl rfl hk (e1 (isBr hb (e1 (inR (a := 1) (b := 9) (by decide) rfl rfl ht (e1 (noR (a := 1) (b := 20) (by decide) rfl rfl nv (e0 (zFix_in (r_bad hQ))))))))))⟩)
      · exact zPr_bad (j := 0) h (fun Q hQ => ⟨rfl, zFix_in (inX (a := 0) (b := 5) (by decide) hk (e1 (isB hb (e1 (noX (a := 1) (b := 9) (by decide) (by decide) nv (e0 (zFix_in (t_refBad hQ))))))))⟩) (fun τ Q _ hQ => ⟨rfl, zFix_in (inR (a := 0) (b := 5) (by decide) rfl rfl hk (e1 (isBr hb (e1 (noR (a := 1) (b := 9) (by decide) rfl rfl nv (e0 (zFix_in (r_bad hQ))))))))⟩)
    · exact zPr_bad (j := 0) h (fun Q hQ => ⟨rfl, zFix_in (inX (a := 0) (b := 5) (by decide) hk (e1 (noB nv (e0 (zFix_in (t_refBad hQ))))))⟩) (fun τ Q _ hQ => ⟨rfl, zFix_in (inR (a := 0) (b := 5) (by decide) rfl rfl hk (e1 (noBr nv (e0 (zFix_in (r_bad hQ))))))⟩)
  · exact zPr_bad (j := 0) h (fun Q hQ => ⟨rfl, zFix_in (noX (a := 0) (b := 5) (by decide) (by decide) nv (e0 (zFix_in (t_refBad hQ))))⟩) (fun τ Q _ hQ => ⟨rfl, zFix_in (noR (a := 0) (b := 5) (by decide) rfl rfl nv (e0 (zFix_in (r_bad hQ))))⟩)
end
