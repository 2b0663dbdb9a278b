/-! Pairs: book, heard, forget, type, clear, status, part. -/
theorem zr1 {σ : zM} {o i k j : Nat} {v : Int32} : (zput σ o i v).1 k j = if k = o then (if j = i then v else σ.1 k j) else σ.1 k j := rfl
theorem zR.up {σ τ υ : zM} {a : zA} (hO : zRo σ) (g1 : ∀ k, 13 ≤ k → τ.1 k = σ.1 k) (g2 : τ.2 = σ.2) (k1 : ∀ k, k ≠ 76 → υ.1 k = τ.1 k) (k2 : υ.2 = τ.2) (w : zWF a) (cx : zCX 1 τ a) (cm : zCM (υ.1 76) a) : zR υ :=
  ⟨a, w, cx.eq (fun k h1 h2 => k1 k (by omega)), cm, hO.C ⟨fun k hk => by rw [k1 k (by omega), g1 k (by omega)], by rw [k1 51 (by decide), g1 51 (by decide)], by rw [k1 75 (by decide), g1 75 (by decide)], k2.trans g2⟩⟩
section
variable {σ : zM}
theorem p_book (x y : Int32) (h : zR σ) : zPr T_X11_book T_X12_book [.int x, .int y] σ := by
  rcases or_w (x := x) (n := 2) with ⟨b, hb, rfl⟩ | nv
  · rcases or_r (x := y) (a := 0) (b := 65535) with ⟨v, hv, rfl⟩ | nv
    · obtain ⟨a, hW, hX, hM, hO⟩ := id h
      have i2 : (2 : Int32) + nI b = nI (2 + b) := nI_add 2 _
      refine ⟨rfl, zFix_in (isB hb (e1 (inX (a := 0) (b := 65535) (by decide) hv (n1 ?_))))⟩
      refine And.intro (vp_in_nI (N := 2) hb (by decide)) ?_
      refine And.intro (vp_in_nI (N := 2) hb (by decide)) ?_
      refine ⟨nI (a 1 b), ?_, rfl, zFix_in (isBr hb (e1 (inR (a := 0) (b := 65535) (by decide) rfl rfl hv (n1 ?_))))⟩
      · show some (Value.int (σ.1 2 (nI b).toNatClampNeg)) = _
        rw [nI_clamp (by omega), hX.2.1 b hb]
      · refine And.intro (by rw [i2]; exact vp_in_nI (N := 178) (by omega) (by decide)) ?_
        refine And.intro (by rw [i2]; exact vp_in_nI (N := 178) (by omega) (by decide)) ?_
        show some (Value.int ((zput σ 2 (nI b).toNatClampNeg (nI v)).1 76 ((2 : Int32) + nI b).toNatClampNeg)) = some (.int (nI (a 1 b))) ∧ zR (zput (zput σ 2 (nI b).toNatClampNeg (nI v)) 76 ((2 : Int32) + nI b).toNatClampNeg (nI v))
        rw [i2, nI_clamp (by omega), nI_clamp (by omega), zput_ne (by decide)]
        have m2 := hM.2.2.1
        refine ⟨?_, zR.up (a := zs1 a 1 (fun i => if i = b then v else a 1 i)) hO (fun k hk => zput_ne (show k ≠ 2 by omega)) rfl (fun k hk => zput_ne hk) rfl ?_ ?_ ?_⟩
        · rcases (show b = 0 ∨ b = 1 by omega) with rfl | rfl
          · rw [m2.1]
          · rw [m2.2]
        · refine ⟨hW.1, hW.2.1, fun i hi => ?_, hW.2.2.2⟩
          show (if i = b then v else a 1 i) < 65536
          have := hW.2.2.1 i hi
          split <;> omega
        · refine ⟨hX.1, fun i hi => ?_, hX.2.2⟩
          show (zput σ 2 b (nI v)).1 2 i = nI (if i = b then v else a 1 i)
          rw [zputj]
          split
          · rfl
          · exact hX.2.1 i hi
        · have z : ∀ j, j ≠ 2 + b → (zput (zput σ 2 b (nI v)) 76 (2 + b) (nI v)).1 76 j = σ.1 76 j := fun j hj => by rw [zput_u hj, zput_ne (by decide)]
          have z2 : ∀ i, i < 2 → (zput (zput σ 2 b (nI v)) 76 (2 + b) (nI v)).1 76 (2 + i) = nI (if i = b then v else a 1 i) := fun i hi => by
            by_cases e : i = b
            · rw [e, zput_s, if_pos rfl]
            · rw [z (2 + i) (by omega), if_neg e]
              rcases (show i = 0 ∨ i = 1 by omega) with rfl | rfl
              · exact m2.1
              · exact m2.2
          obtain ⟨q0, q1, _, q4, q5, q6, q7, q8⟩ := hM
          refine ⟨(z 0 (by omega)).trans q0, (z 1 (by omega)).trans q1, ⟨z2 0 (by decide), z2 1 (by decide)⟩, (z 4 (by omega)).trans q4, (z 5 (by omega)).trans q5, fun f hf => ?_, fun k hk => ?_, fun u hu f hf => ?_⟩
          · obtain ⟨r1, r2, r3, r4, r5, r6⟩ := q6 f hf
            exact ⟨(z _ (by omega)).trans r1, (z _ (by omega)).trans r2, (z _ (by omega)).trans r3, (z _ (by omega)).trans r4, (z _ (by omega)).trans r5, (z _ (by omega)).trans r6⟩
          · obtain ⟨r1, r2, r3⟩ := q7 k hk
            exact ⟨(z _ (by omega)).trans r1, (z _ (by omega)).trans r2, (z _ (by omega)).trans r3⟩
          · obtain ⟨r1, r2⟩ := q8 u hu f hf
            exact ⟨(z _ (by omega)).trans r1, (z _ (by omega)).trans r2⟩
    · exact zPr_bad (j := 0) h (fun Q hQ => ⟨rfl, zFix_in (isB hb (e1 (noX (a := 0) (b := 65535) (by decide) (by decide) nv (n0 (zFix_in (t_refBad hQ))))))⟩) (fun τ Q _ hQ => ⟨rfl, zFix_in (isBr hb (e1 (noR (a := 0) (b := 65535) (by decide) rfl rfl nv (n0 (zFix_in (r_bad hQ))))))⟩)
  · exact zPr_bad (j := 0) h (fun Q hQ => ⟨rfl, zFix_in (noB nv (e0 (zFix_in (t_refBad hQ))))⟩) (fun τ Q _ hQ => ⟨rfl, zFix_in (noBr nv (e0 (zFix_in (r_bad hQ))))⟩)
theorem p_forget (h : zR σ) : zPr T_X11_forget T_X12_forget [] σ := by
  obtain ⟨a, hW, hX, hM, hO⟩ := id h
  refine ⟨rfl, zFix_in ?_⟩
  refine ⟨nI (a 9 0), ?_, rfl, zFix_in ?_⟩
  · show some (Value.int (σ.1 1 9)) = _
    rw [hX.2.2.2.2.2.1]
  · refine And.intro (vp_in_nI (n := 4) (N := 178) (by omega) (by decide)) ?_
    refine And.intro (vp_in_nI (n := 4) (N := 178) (by omega) (by decide)) ?_
    show some (Value.int ((zput σ 1 9 0).1 76 4)) = _ ∧ zR (zput (zput σ 1 9 0) 76 4 0)
    rw [zput_ne (by decide)]
    refine ⟨by rw [hM.2.2.2.1], zR.up (a := zs1 a 9 (fun _ => 0)) hO (fun k hk => zput_ne (show k ≠ 1 by omega)) rfl (fun k hk => zput_ne hk) rfl ?_ ?_ ?_⟩
    · exact ⟨hW.1, hW.2.1, hW.2.2.1, hW.2.2.2.1, hW.2.2.2.2.1, hW.2.2.2.2.2.1, Nat.zero_le _, fun k hk => absurd hk (Nat.not_lt_zero k), hW.2.2.2.2.2.2.2.2⟩
    · have z : ∀ j, j ≠ 9 → (zput σ 1 9 0).1 1 j = σ.1 1 j := fun j hj => zput_u hj
      have z2 : ∀ k, k ≠ 1 → (zput σ 1 9 0).1 k = σ.1 k := fun j hj => zput_ne hj
      obtain ⟨q0, q1, q2, q3, q4, q5, q6, q7, q8⟩ := hX
      exact ⟨(z 0 (by decide)).trans q0, fun i hi => by rw [z2 _ (by omega)]; exact q1 i hi, (z 2 (by decide)).trans q2, fun f hf => q3 f hf, (z 8 (by decide)).trans q4, zput_s, fun k hk => absurd hk (Nat.not_lt_zero k), (z 13 (by decide)).trans q7, fun u hu => q8 u hu⟩
    · have z : ∀ j, j ≠ 4 → (zput (zput σ 1 9 0) 76 4 0).1 76 j = σ.1 76 j := fun j hj => by rw [zput_u hj, zput_ne (by decide)]
      obtain ⟨q0, q1, q2, q4, q5, q6, q7, q8⟩ := hM
      refine ⟨(z 0 (by omega)).trans q0, (z 1 (by omega)).trans q1, ⟨(z 2 (by omega)).trans q2.1, (z 3 (by omega)).trans q2.2⟩, zput_s, (z 5 (by omega)).trans q5, fun f hf => ?_, fun k hk => absurd hk (Nat.not_lt_zero k), fun u hu f hf => ?_⟩
      · obtain ⟨r1, r2, r3, r4, r5, r6⟩ := q6 f hf
        exact ⟨(z _ (by omega)).trans r1, (z _ (by omega)).trans r2, (z _ (by omega)).trans r3, (z _ (by omega)).trans r4, (z _ (by omega)).trans r5, (z _ (by omega)).trans r6⟩
      · obtain ⟨r1, r2⟩ := q8 u hu f hf
        exact ⟨(z _ (by omega)).trans r1, (z _ (by omega)).trans r2⟩
/-- the text alone changes -/
theorem zR.tx {σ τ : zM} (h : zR σ) (e : ∀ k, k ≠ 51 → k ≠ 52 → k ≠ 75 → k ≠ 88 → τ.1 k = σ.1 k) (e2 : τ.2 = σ.2) (t : zTx τ) : zR τ := by
  obtain ⟨a, h1, h2, h3, h4, h5, h6, h7⟩ := h
  exact ⟨a, h1, h2.eq (fun k q1 q2 => e k (by omega) (by omega) (by omega) (by omega)), by rw [e 76 (by decide) (by decide) (by decide) (by decide)]; exact h3, fun j hj => by rw [e 74 (by decide) (by decide) (by decide) (by decide), e 79 (by decide) (by decide) (by decide) (by decide)]; exact h4 j hj, t, by rw [e2]; exact h6, fun i hi => (h7 i hi).eq hi (e 50 (by decide) (by decide) (by decide) (by decide)) (e 78 (by decide) (by decide) (by decide) (by decide)) (e 77 (by decide) (by decide) (by decide) (by decide)) (fun k h5 h6 => e k (by omega) (by omega) (by omega) (by omega))⟩
theorem p_clear (h : zR σ) : zPr T_X11_clear T_X12_clear [] σ := by
  obtain ⟨a, hW, hX, hM, hO, ⟨t, t1, t2, t3, t4⟩, hO2⟩ := id h
  refine ⟨rfl, zFix_in ?_⟩
  refine ⟨nI t, ?_, rfl, zFix_in ?_⟩
  · show some (Value.int (σ.1 51 1)) = _
    rw [t2]
  · show some (Value.int ((zput σ 51 1 0).1 75 18)) = _ ∧ zR (zput (zput σ 51 1 0) 75 18 0)
    rw [zput_ne (by decide), t3]
    refine ⟨rfl, h.tx (fun k h1 h2 h3 h4 => by rw [zput_ne h3, zput_ne h1]) rfl ⟨0, by decide, ?_, zput_s, fun j hj => absurd hj (Nat.not_lt_zero j)⟩⟩
    rw [zput_ne (by decide), zput_s]
    rfl
theorem p_type (x : Int32) (h : zR σ) : zPr T_X11_type T_X12_type [.int x] σ := by
  rcases or_r (x := x) (a := 0) (b := 127) with ⟨c, hc, rfl⟩ | nv
  · obtain ⟨a, hW, hX, hM, hO, ⟨t, t1, t2, t3, t4⟩, hO2⟩ := id h
    refine ⟨rfl, zFix_in (inX (a := 0) (b := 127) (by decide) hc (n1 ?_))⟩
    refine pk_lt t 150 (fun d => ?_) (fun d => ?_) t2 rfl
    · refine ⟨rfl, zFix_in ?_⟩
      refine And.intro (by rw [t2]; exact vp_in_nI (N := 150) d (by decide)) ?_
      show ∃ r, _
      refine ⟨nI (t + 1), ?_, rfl, zFix_in (inR (a := 0) (b := 127) (by decide) rfl rfl hc (n1 ?_))⟩
      · show some (Value.int ((zput (zput σ 52 (σ.1 51 1).toNatClampNeg (nI c)) 51 1 ((zput σ 52 (σ.1 51 1).toNatClampNeg (nI c)).1 51 1 + 1)).1 51 1)) = _
        rw [zput_s, zput_ne (by decide), t2, nI_1]
      · show (¬ (zput (zput σ 52 (σ.1 51 1).toNatClampNeg (nI c)) 51 1 ((zput σ 52 (σ.1 51 1).toNatClampNeg (nI c)).1 51 1 + 1)).1 75 18 = 150 → _) ∧ _
        rw [zput_ne (show 51 ≠ 52 by decide), t2, nI_clamp (by omega), nI_1]
        have ev : (zput (zput σ 52 t (nI c)) 51 1 (nI (t + 1))).1 75 18 = nI t := by rw [zput_ne (by decide), zput_ne (by decide), t3]
        refine And.intro (fun _ => ?_) (fun z => absurd (nI_inj (b := 150) (by omega) (by decide) (ev.symm.trans z)) (by omega))
        refine And.intro (by rw [ev]; exact vp_in_nI (N := 150) d (by decide)) ?_
        show some (Value.int ((zput (zput (zput (zput σ 52 t (nI c)) 51 1 (nI (t + 1))) 88 ((zput (zput σ 52 t (nI c)) 51 1 (nI (t + 1))).1 75 18).toNatClampNeg (nI c)) 75 18 ((zput (zput (zput σ 52 t (nI c)) 51 1 (nI (t + 1))) 88 ((zput (zput σ 52 t (nI c)) 51 1 (nI (t + 1))).1 75 18).toNatClampNeg (nI c)).1 75 18 + 1)).1 75 18)) = _ ∧ zR (zput (zput (zput (zput σ 52 t (nI c)) 51 1 (nI (t + 1))) 88 ((zput (zput σ 52 t (nI c)) 51 1 (nI (t + 1))).1 75 18).toNatClampNeg (nI c)) 75 18 ((zput (zput (zput σ 52 t (nI c)) 51 1 (nI (t + 1))) 88 ((zput (zput σ 52 t (nI c)) 51 1 (nI (t + 1))).1 75 18).toNatClampNeg (nI c)).1 75 18 + 1))
        rw [ev, nI_clamp (by omega), zput_s, zput_ne (show 75 ≠ 88 by decide), ev, nI_1]
        refine ⟨rfl, h.tx (fun k h1 h2 h3 h4 => by rw [zput_ne h3, zput_ne h4, zput_ne h1, zput_ne h2]) rfl ⟨t + 1, by omega, ?_, zput_s, fun j hj => ?_⟩⟩
        · rw [zput_ne (by decide), zput_ne (by decide), zput_s]
        · rw [zput_ne (by decide), zput_ne (by decide), zput_ne (by decide), zput_ne (show 88 ≠ 75 by decide), zputj, zputj, zput_ne (by decide), zput_ne (by decide)]
          by_cases e : j = t
          · exact ⟨c, by omega, by rw [if_pos e], by rw [if_pos e]⟩
          · rw [if_neg e, if_neg e]
            exact t4 j (by omega)
    · have et : t = 150 := by omega
      refine t_refFull ⟨_, rfl, rfl, zFix_in (inR (a := 0) (b := 127) (by decide) rfl rfl hc (n1 ?_))⟩
      refine And.intro (fun z => absurd ?_ z) (fun _ => r_full ⟨rfl, h.bb⟩)
      show (zBx σ 2).1 75 18 = 150
      rw [show (zBx σ 2).1 75 = σ.1 75 from zput_ne (by decide), t3, et]
      rfl
  · exact zPr_bad (j := 0) h (fun Q hQ => ⟨rfl, zFix_in (noX (a := 0) (b := 127) (by decide) (by decide) nv (n0 (t_refBad hQ)))⟩) (fun τ Q _ hQ => ⟨rfl, zFix_in (noR (a := 0) (b := 127) (by decide) rfl rfl nv (n0 (r_bad hQ)))⟩)
theorem p_status (x : Int32) (h : zR σ) : zPr T_X11_status T_X12_status [.int x] σ := by
  rcases or_r (x := x) (a := 0) (b := 2) with ⟨c, hc, rfl⟩ | nv
  · obtain ⟨a, hW, hX, hM, hO, hT, hO2⟩ := id h
    refine ⟨rfl, zFix_in (inX (a := 0) (b := 2) (by decide) hc (n1 ?_))⟩
    refine And.intro (vp_in_nI (N := 3) (by omega) (by decide)) ?_
    refine ⟨σ.1 74 c, ?_, rfl, zFix_in (inR (a := 0) (b := 2) (by decide) rfl rfl hc (e1 ?_))⟩
    · show some (Value.int (σ.1 74 (nI c).toNatClampNeg)) = _
      rw [nI_clamp (by omega)]
    · refine And.intro (vp_in_nI (N := 3) (by omega) (by decide)) ?_
      show some (Value.int (σ.1 79 (nI c).toNatClampNeg)) = _ ∧ zR σ
      rw [nI_clamp (by omega), hO c (by omega)]
      exact ⟨rfl, h⟩
  · exact zPr_bad (j := 0) h (fun Q hQ => ⟨rfl, zFix_in (noX (a := 0) (b := 2) (by decide) (by decide) nv (n0 (t_refBad hQ)))⟩) (fun τ Q _ hQ => ⟨rfl, zFix_in (noR (a := 0) (b := 2) (by decide) rfl rfl nv (e0 (r_bad hQ)))⟩)
theorem p_part (x : Int32) (h : zR σ) : zPl T_X11_part T_X12_part [.int x] σ := by
  obtain ⟨a, hW, hX, hM, hO, hT, ⟨g1, g2⟩, hO2⟩ := id h
  rcases or_r (x := x) (a := 0) (b := 1) with ⟨c, hc, rfl⟩ | nv
  · refine ⟨rfl, zFix_in (inX (a := 0) (b := 1) (by decide) hc (n1 ?_))⟩
    rcases (show c = 0 ∨ c = 1 by omega) with rfl | rfl
    · refine n0 ⟨σ.2 0 9, rfl, rfl, zFix_in (n0 ?_)⟩
      exact ⟨by rw [g1], h⟩
    · refine n1 ⟨σ.2 0 10, rfl, rfl, zFix_in (n1 (And.intro (fun z => absurd rfl z) (fun _ => ?_)))⟩
      exact ⟨by rw [g2], h⟩
  · refine ⟨rfl, zFix_in (noX (a := 0) (b := 1) (by decide) (by decide) nv (n0 (t_refBad ⟨_, rfl, rfl, zFix_in ?_⟩)))⟩
    refine And.intro (fun _ => And.intro (fun _ => r_bad ⟨rfl, h.bb⟩) (fun z => absurd z (nv 1 (by decide) (by decide)))) (fun z => absurd z (nv 0 (by decide) (by decide)))
end
