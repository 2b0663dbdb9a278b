/-! Pairs: heard; becoming like another church: image, from. -/
section
variable {σ : zM}
theorem zAh_wf {a : zA} {w b n : Nat} (hW : zWF a) (hk : a 9 0 < 6) (hw : w < 16) (hb : b < 2) (hn : n ≤ 140) : zWF (zAh a w b n) := by
  refine ⟨hW.1, hW.2.1, hW.2.2.1, hW.2.2.2.1, hW.2.2.2.2.1, hW.2.2.2.2.2.1, hk, fun k h1 => ?_, hW.2.2.2.2.2.2.2.2⟩
  have h1 : k < a 9 0 + 1 := h1
  show zup (a 10) (a 9 0) w k < 16 ∧ zup (a 11) (a 9 0) b k < 2 ∧ zup (a 12) (a 9 0) n k ≤ 140
  by_cases q : k = a 9 0
  · rw [q, zup_s, zup_s, zup_s]
    exact ⟨hw, hb, hn⟩
  · rw [zup_n q, zup_n q, zup_n q]
    exact hW.2.2.2.2.2.2.2.1 k (by omega)
theorem p_heard (x1 x2 x3 : Int32) (h : zR σ) : zPr T_X11_heard T_X12_heard [.int x1, .int x2, .int x3] σ := by
  rcases or_w (x := x1) (n := 16) with ⟨w, hw, rfl⟩ | nv
  · rcases or_w (x := x2) (n := 2) with ⟨b, hb, rfl⟩ | nv
    · rcases or_r (x := x3) (a := 0) (b := 140) with ⟨n, hn, rfl⟩ | nv
      · obtain ⟨a, hW, hX, hM, hO⟩ := id h
        have hk := hW.2.2.2.2.2.2.1
        refine ⟨rfl, zFix_in (isW hw (e1 (isB hb (e1 (inX (a := 0) (b := 140) (by decide) hn (n1 ?_))))))⟩
        refine pk_lt (a 9 0) 6 (fun d => ?_) (fun d => ?_) hX.2.2.2.2.2.1 rfl
        · obtain ⟨q0, q1, q2, q3, q4, q5, q6, q7, q8⟩ := hX
          obtain ⟨m0, m1, m2, m4, m5, m6, m7, m8⟩ := hM
          refine ⟨rfl, zFix_in ?_⟩
          have ein : vp_in (σ.1 1 9) 6 := by rw [q5]; exact vp_in_nI d (by decide)
          refine And.intro ein (And.intro ein (And.intro ein ?_))
          show ∃ r, some (Value.int ((zput (zput (zput (zput σ 8 (σ.1 1 9).toNatClampNeg (nI w)) 9 (σ.1 1 9).toNatClampNeg (nI b)) 10 (σ.1 1 9).toNatClampNeg (nI n)) 1 9 (σ.1 1 9 + 1)).1 1 9)) = _ ∧ T_X12_heard _ (zput (zput (zput (zput σ 8 (σ.1 1 9).toNatClampNeg (nI w)) 9 (σ.1 1 9).toNatClampNeg (nI b)) 10 (σ.1 1 9).toNatClampNeg (nI n)) 1 9 (σ.1 1 9 + 1)) _
          rw [zput_s, q5, nI_clamp (by omega), nI_1]
          have cx : zCX 1 (zput (zput (zput (zput σ 8 (a 9 0) (nI w)) 9 (a 9 0) (nI b)) 10 (a 9 0) (nI n)) 1 9 (nI (a 9 0 + 1))) (zAh a w b n) := by
            refine ⟨q0, fun i hi => q1 i hi, q2, fun f hf => q3 f hf, q4, zput_s, fun k hk => ?_, q7, fun u hu => q8 u hu⟩
            have hk : k < a 9 0 + 1 := hk
            show (if k = a 9 0 then nI w else σ.1 8 k) = nI (zup (a 10) (a 9 0) w k) ∧ (if k = a 9 0 then nI b else σ.1 9 k) = nI (zup (a 11) (a 9 0) b k) ∧ (if k = a 9 0 then nI n else σ.1 10 k) = nI (zup (a 12) (a 9 0) n k)
            by_cases q : k = a 9 0
            · rw [q, zup_s, zup_s, zup_s, if_pos rfl, if_pos rfl, if_pos rfl]
              exact ⟨rfl, rfl, rfl⟩
            · rw [zup_n q, zup_n q, zup_n q, if_neg q, if_neg q, if_neg q]
              exact q6 k (by omega)
          have g1 : ∀ k, 13 ≤ k → (zput (zput (zput (zput σ 8 (a 9 0) (nI w)) 9 (a 9 0) (nI b)) 10 (a 9 0) (nI n)) 1 9 (nI (a 9 0 + 1))).1 k = σ.1 k := fun k hk => by rw [zput_ne (by omega), zput_ne (by omega), zput_ne (by omega), zput_ne (by omega)]
          have g2 : (zput (zput (zput (zput σ 8 (a 9 0) (nI w)) 9 (a 9 0) (nI b)) 10 (a 9 0) (nI n)) 1 9 (nI (a 9 0 + 1))).2 = σ.2 := rfl
          generalize (zput (zput (zput (zput σ 8 (a 9 0) (nI w)) 9 (a 9 0) (nI b)) 10 (a 9 0) (nI n)) 1 9 (nI (a 9 0 + 1))) = τ at cx g1 g2 ⊢
          have e76 : τ.1 76 = σ.1 76 := g1 76 (by decide)
          have e4 : τ.1 76 4 = nI (a 9 0) := by rw [e76]; exact m4
          refine ⟨_, rfl, rfl, zFix_in (isWr hw (e1 (isBr hb (e1 (inR (a := 0) (b := 140) (by decide) rfl rfl hn (n1 ?_))))))⟩
          refine And.intro (vp_in_nI (n := 4) (N := 178) (by decide) (by decide)) ?_
          refine And.intro (fun _ => ?_) (fun z => absurd (nI_inj (b := 6) (by omega) (by decide) (e4.symm.trans z)) (by omega))
          refine And.intro (vp_in_nI (n := 4) (N := 178) (by decide) (by decide)) ?_
          have s : ∀ j : Nat, (48 : Int32) + 3 * τ.1 76 4 + nI j = nI (48 + 3 * a 9 0 + j) := fun j => by rw [e4, show (48 : Int32) = nI 48 from rfl, show (3 : Int32) = nI 3 from rfl, pk_mul, nI_add, nI_add]
          have s0 : (48 : Int32) + 3 * τ.1 76 4 = nI (48 + 3 * a 9 0) := by rw [e4, show (48 : Int32) = nI 48 from rfl, show (3 : Int32) = nI 3 from rfl, pk_mul, nI_add]
          refine And.intro (show vp_in ((48 : Int32) + 3 * τ.1 76 4) 178 by rw [s0]; exact vp_in_nI (by omega) (by decide)) ?_
          refine And.intro (show vp_in ((48 : Int32) + 3 * τ.1 76 4 + nI 1) 178 by rw [s]; exact vp_in_nI (by omega) (by decide)) ?_
          refine And.intro (show vp_in ((48 : Int32) + 3 * τ.1 76 4 + nI 2) 178 by rw [s]; exact vp_in_nI (by omega) (by decide)) ?_
          refine And.intro (vp_in_nI (n := 4) (N := 178) (by decide) (by decide)) (And.intro (vp_in_nI (n := 4) (N := 178) (by decide) (by decide)) (And.intro (vp_in_nI (n := 4) (N := 178) (by decide) (by decide)) ?_))
          show some (Value.int ((zput (zput (zput (zput τ 76 ((48 : Int32) + 3 * τ.1 76 4).toNatClampNeg (nI w)) 76 ((48 : Int32) + 3 * τ.1 76 4 + nI 1).toNatClampNeg (nI b)) 76 ((48 : Int32) + 3 * τ.1 76 4 + nI 2).toNatClampNeg (nI n)) 76 4 ((zput (zput (zput τ 76 ((48 : Int32) + 3 * τ.1 76 4).toNatClampNeg (nI w)) 76 ((48 : Int32) + 3 * τ.1 76 4 + nI 1).toNatClampNeg (nI b)) 76 ((48 : Int32) + 3 * τ.1 76 4 + nI 2).toNatClampNeg (nI n)).1 76 4 + 1)).1 76 4)) = _ ∧ zR (zput (zput (zput (zput τ 76 ((48 : Int32) + 3 * τ.1 76 4).toNatClampNeg (nI w)) 76 ((48 : Int32) + 3 * τ.1 76 4 + nI 1).toNatClampNeg (nI b)) 76 ((48 : Int32) + 3 * τ.1 76 4 + nI 2).toNatClampNeg (nI n)) 76 4 ((zput (zput (zput τ 76 ((48 : Int32) + 3 * τ.1 76 4).toNatClampNeg (nI w)) 76 ((48 : Int32) + 3 * τ.1 76 4 + nI 1).toNatClampNeg (nI b)) 76 ((48 : Int32) + 3 * τ.1 76 4 + nI 2).toNatClampNeg (nI n)).1 76 4 + 1))
          rw [s, s, s0, nI_clamp (by omega), nI_clamp (by omega), nI_clamp (by omega), zput_s, zput_u (show 4 ≠ 48 + 3 * a 9 0 + 2 by omega), zput_u (show 4 ≠ 48 + 3 * a 9 0 + 1 by omega), zput_u (show 4 ≠ 48 + 3 * a 9 0 by omega), e4, nI_1]
          refine ⟨rfl, zR.up hO g1 g2 (fun k hk => by rw [zput_ne hk, zput_ne hk, zput_ne hk, zput_ne hk]) rfl (zAh_wf hW d hw hb hn.2) cx ?_⟩
          generalize hυ : (zput (zput (zput (zput τ 76 (48 + 3 * a 9 0) (nI w)) 76 (48 + 3 * a 9 0 + 1) (nI b)) 76 (48 + 3 * a 9 0 + 2) (nI n)) 76 4 (nI (a 9 0 + 1))) = υ
          have z : ∀ j, j ≠ 4 → (j < 48 + 3 * a 9 0 ∨ 51 + 3 * a 9 0 ≤ j) → υ.1 76 j = σ.1 76 j := fun j h1 h2 => by rw [← hυ, zput_u h1, zput_u (by omega), zput_u (by omega), zput_u (by omega), e76]
          refine ⟨(z 0 (by decide) (by omega)).trans m0, (z 1 (by decide) (by omega)).trans m1, ⟨(z 2 (by decide) (by omega)).trans m2.1, (z 3 (by decide) (by omega)).trans m2.2⟩, by rw [← hυ, zput_s]; rfl, (z 5 (by decide) (by omega)).trans m5, fun f hf => ?_, fun k hk => ?_, fun u hu f hf => ?_⟩
          · have hf : f < a 2 0 := hf
            have hn7 := hW.1
            obtain ⟨r1, r2, r3, r4, r5, r6⟩ := m6 f hf
            exact ⟨(z _ (by omega) (by omega)).trans r1, (z _ (by omega) (by omega)).trans r2, (z _ (by omega) (by omega)).trans r3, (z _ (by omega) (by omega)).trans r4, (z _ (by omega) (by omega)).trans r5, (z _ (by omega) (by omega)).trans r6⟩
          · have hk : k < a 9 0 + 1 := hk
            show _ = nI (zup (a 10) (a 9 0) w k) ∧ _ = nI (zup (a 11) (a 9 0) b k) ∧ _ = nI (zup (a 12) (a 9 0) n k)
            by_cases q : k = a 9 0
            · rw [q, zup_s, zup_s, zup_s, ← hυ]
              refine ⟨?_, ?_, ?_⟩
              · rw [zput_u (by omega), zput_u (by omega), zput_u (by omega), zput_s]
              · rw [zput_u (by omega), zput_u (by omega), show 49 + 3 * a 9 0 = 48 + 3 * a 9 0 + 1 by omega, zput_s]
              · rw [zput_u (by omega), show 50 + 3 * a 9 0 = 48 + 3 * a 9 0 + 2 by omega, zput_s]
            · rw [zup_n q, zup_n q, zup_n q]
              obtain ⟨r1, r2, r3⟩ := m7 k (by omega)
              exact ⟨(z _ (by omega) (by omega)).trans r1, (z _ (by omega) (by omega)).trans r2, (z _ (by omega) (by omega)).trans r3⟩
          · obtain ⟨r1, r2⟩ := m8 u hu f hf
            exact ⟨(z _ (by omega) (by omega)).trans r1, (z _ (by omega) (by omega)).trans r2⟩
        · have ek : a 9 0 = 6 := by omega
          refine t_refFull ⟨_, rfl, rfl, zFix_in (isWr hw (e1 (isBr hb (e1 (inR (a := 0) (b := 140) (by decide) rfl rfl hn (n1 ?_))))))⟩
          refine And.intro (vp_in_nI (n := 4) (N := 178) (by decide) (by decide)) ?_
          refine And.intro (fun z => absurd ?_ z) (fun _ => r_full ⟨rfl, h.bb⟩)
          show (zBx σ 2).1 76 4 = 6
          rw [show (zBx σ 2).1 76 = σ.1 76 from zput_ne (by decide), hM.2.2.2.1, ek]
          rfl
      · exact zPr_bad (j := 0) h (fun Q hQ => ⟨rfl, zFix_in (isW hw (e1 (isB hb (e1 (noX (a := 0) (b := 140) (by decide) (by decide) nv (n0 (zFix_in (t_refBad hQ))))))))⟩) (fun τ Q _ hQ => ⟨rfl, zFix_in (isWr hw (e1 (isBr hb (e1 (noR (a := 0) (b := 140) (by decide) rfl rfl nv (n0 (zFix_in (r_bad hQ))))))))⟩)
    · exact zPr_bad (j := 0) h (fun Q hQ => ⟨rfl, zFix_in (isW hw (e1 (noB nv (e0 (zFix_in (t_refBad hQ))))))⟩) (fun τ Q _ hQ => ⟨rfl, zFix_in (isWr hw (e1 (noBr nv (e0 (zFix_in (r_bad hQ))))))⟩)
  · exact zPr_bad (j := 0) h (fun Q hQ => ⟨rfl, zFix_in (noW nv (e0 (zFix_in (t_refBad hQ))))⟩) (fun τ Q _ hQ => ⟨rfl, zFix_in (noWr nv (e0 (zFix_in (r_bad hQ))))⟩)
end
theorem t_copy {o d N : Nat} {σ : zM} {Q : zQ} (ho : zil o = N) (hd : zil d = N) (h0 : ¬ N = 0) (hN : N < 1000) (h : ∀ τ : zM, (∀ k, k ≠ d → τ.1 k = σ.1 k) → τ.2 = σ.2 → (∀ i, i < N → τ.1 d i = σ.1 o i) → Q none τ) : T_X1_copy [.ref o, .ref d] σ Q := by
  have b0 : (!(Nat.beq (zil o) 0)) = true := by rw [ho]; cases e : Nat.beq N 0; rfl; exact absurd (Nat.eq_of_beq_eq_true e) h0
  have b1 : (!(Nat.beq (zil d) 0)) = true := by rw [hd]; cases e : Nat.beq N 0; rfl; exact absurd (Nat.eq_of_beq_eq_true e) h0
  refine ⟨rfl, zFix_in ?_⟩
  show cond (!(Nat.beq (zil o) 0)) _ False
  rw [b0]
  show cond (!(Nat.beq (zil d) 0)) _ False
  rw [b1]
  show cond (!(Nat.beq (zil o) 0) && !(Nat.beq (zil d) 0)) ((¬ (0 : Int32) < 0 ∧ ¬ (0 : Int32) < 0 ∧ ¬ (if nI (zil d) < nI (zil o) then nI (zil d) else nI (zil o)) < 0) ∧ ((0 : Int32).toNatClampNeg + (if nI (zil d) < nI (zil o) then nI (zil d) else nI (zil o)).toNatClampNeg ≤ zil o ∧ (0 : Int32).toNatClampNeg + (if nI (zil d) < nI (zil o) then nI (zil d) else nI (zil o)).toNatClampNeg ≤ zil d) ∧ Q none (zcpy σ o d (0 : Int32).toNatClampNeg (0 : Int32).toNatClampNeg (if nI (zil d) < nI (zil o) then nI (zil d) else nI (zil o)).toNatClampNeg)) False
  rw [b0, b1, ho, hd, ite_self, nI_clamp (by omega)]
  refine ⟨⟨by decide, by decide, nI_pos (by omega)⟩, ⟨by show 0 + N ≤ N; omega, by show 0 + N ≤ N; omega⟩, ?_⟩
  refine h _ (fun k hk => zcpy_ne hk) rfl (fun i hi => ?_)
  show (if d = d then va_cpy (σ.1 o) (σ.1 d) 0 0 N else σ.1 d) i = _
  rw [if_pos rfl, pk_cpy_in (Nat.zero_le _) (by omega), Nat.zero_add, Nat.sub_zero]
def zrest (C : Nat → zM → zQ → Prop) (K : zM → Prop) : Nat → Nat → zM → Prop
  | 0, _ => K
  | n + 1, j => fun σ => C j σ (fun _ τ => zrest C K n (j + 1) τ)
set_option maxRecDepth 20000 in
/-- a church becomes like another one -/
theorem t_like {t o : Nat} {a : zA} {σ : zM} {Q : zQ} (hto : (t = 1 ∧ o = 13) ∨ (t = 25 ∧ o = 1) ∨ (t = 37 ∧ o = 1) ∨ (t = 1 ∧ o = 25) ∨ (t = 1 ∧ o = 37)) (hW : zWF a) (hX : zCX o σ a) (h : ∀ τ : zM, (∀ k, (k < t ∨ t + 12 ≤ k) → τ.1 k = σ.1 k) → τ.2 = σ.2 → zCX t τ a → Q none τ) : T_X1_becomeLike [.ref t, .ref o] σ Q := by
  have fin : ∀ (z1 : ∀ j, j < 12 → 1 ≤ j → zil (t + j) = zil (o + j) ∧ ¬ zil (o + j) = 0 ∧ zil (o + j) < 1000) (sz : zil (o + 1) = 2 ∧ zil (o + 2) = 7 ∧ zil (o + 3) = 7 ∧ zil (o + 4) = 7 ∧ zil (o + 5) = 7 ∧ zil (o + 6) = 7 ∧ zil (o + 7) = 6 ∧ zil (o + 8) = 6 ∧ zil (o + 9) = 6 ∧ zil (o + 10) = 56 ∧ zil (o + 11) = 8), ∀ υ : zM, (∀ k, (k < t ∨ t + 12 ≤ k) → υ.1 k = σ.1 k) → υ.2 = σ.2 → υ.1 t 0 = σ.1 o 0 → υ.1 t 2 = σ.1 o 2 → υ.1 t 8 = σ.1 o 8 → υ.1 t 9 = σ.1 o 9 → υ.1 t 13 = σ.1 o 13 → (∀ j, 1 ≤ j → j < 12 → ∀ i, i < zil (o + j) → υ.1 (t + j) i = σ.1 (o + j) i) → Q none υ := by
    intro z1 sz υ f1 f2 f3 f4 f5 f6 f7 f8
    obtain ⟨s1, s2, s3, s4, s5, s6, s7, s8, s9, s10, s11⟩ := sz
    obtain ⟨q0, q1, q2, q3, q4, q5, q6, q7, q8⟩ := hX
    have hn := hW.1
    have hk := hW.2.2.2.2.2.2.1
    have hu8 := hW.2.2.2.2.2.2.2.2.1
    refine h υ f1 f2 ⟨f3.trans q0, fun i hi => (f8 1 (by decide) (by decide) i (by omega)).trans (q1 i hi), f4.trans q2, fun f hf => ?_, f5.trans q4, f6.trans q5, fun k hk => ?_, f7.trans q7, fun u hu => ?_⟩
    · obtain ⟨r1, r2, r3, r4, r5⟩ := q3 f hf
      exact ⟨(f8 2 (by decide) (by decide) f (by omega)).trans r1, (f8 3 (by decide) (by decide) f (by omega)).trans r2, (f8 4 (by decide) (by decide) f (by omega)).trans r3, (f8 5 (by decide) (by decide) f (by omega)).trans r4, (f8 6 (by decide) (by decide) f (by omega)).trans r5⟩
    · obtain ⟨r1, r2, r3⟩ := q6 k hk
      exact ⟨(f8 7 (by decide) (by decide) k (by omega)).trans r1, (f8 8 (by decide) (by decide) k (by omega)).trans r2, (f8 9 (by decide) (by decide) k (by omega)).trans r3⟩
    · obtain ⟨r1, r2⟩ := q8 u hu
      exact ⟨(f8 11 (by decide) (by decide) u (by omega)).trans r1, fun f hf => (f8 10 (by decide) (by decide) _ (by omega)).trans (r2 f hf)⟩
  have go : (t < o → t + 12 ≤ o) → (o < t → o + 12 ≤ t) → t ≠ o → ∀ (z1 : ∀ j, j < 12 → 1 ≤ j → zil (t + j) = zil (o + j) ∧ ¬ zil (o + j) = 0 ∧ zil (o + j) < 1000) (sz : zil (o + 1) = 2 ∧ zil (o + 2) = 7 ∧ zil (o + 3) = 7 ∧ zil (o + 4) = 7 ∧ zil (o + 5) = 7 ∧ zil (o + 6) = 7 ∧ zil (o + 7) = 6 ∧ zil (o + 8) = 6 ∧ zil (o + 9) = 6 ∧ zil (o + 10) = 56 ∧ zil (o + 11) = 8), ∀ m, m ≤ 11 → ∀ υ : zM, (∀ k, (k < t ∨ t + 12 ≤ k) → υ.1 k = σ.1 k) → υ.2 = σ.2 → υ.1 t 0 = σ.1 o 0 → υ.1 t 2 = σ.1 o 2 → υ.1 t 8 = σ.1 o 8 → υ.1 t 9 = σ.1 o 9 → υ.1 t 13 = σ.1 o 13 → (∀ j, 1 ≤ j → j ≤ m → ∀ i, i < zil (o + j) → υ.1 (t + j) i = σ.1 (o + j) i) → (zrest (fun j w => T_X1_copy [.ref (o + j), .ref (t + j)] w) (Q none) (11 - m) (m + 1)) υ := by
    intro d1 d2 d3 z1 sz
    refine zloop 11 (fun m hm ih => ?_)
    intro υ f1 f2 f3 f4 f5 f6 f7 f8
    by_cases e : m = 11
    · subst e
      exact fin z1 sz υ f1 f2 f3 f4 f5 f6 f7 (fun j h1 h2 => f8 j h1 (by omega))
    · rw [show 11 - m = (11 - (m + 1)) + 1 by omega]
      obtain ⟨y1, y2, y3⟩ := z1 (m + 1) (by omega) (by omega)
      refine t_copy (N := zil (o + (m + 1))) rfl y1 y2 y3 (fun τ g1 g2 g3 => ?_)
      refine ih (m + 1) (by omega) (by omega) τ (fun k hk => (g1 k (by omega)).trans (f1 k hk)) (g2.trans f2) (by rw [g1 t (by omega)]; exact f3) (by rw [g1 t (by omega)]; exact f4) (by rw [g1 t (by omega)]; exact f5) (by rw [g1 t (by omega)]; exact f6) (by rw [g1 t (by omega)]; exact f7) (fun j h1 h2 i hi => ?_)
      by_cases ej : j = m + 1
      · subst ej
        rw [g3 i hi, f1 (o + (m + 1)) (by omega)]
      · rw [g1 (t + j) (by omega)]
        exact f8 j h1 (by omega) i hi
  rcases hto with ⟨rfl, rfl⟩ | ⟨rfl, rfl⟩ | ⟨rfl, rfl⟩ | ⟨rfl, rfl⟩ | ⟨rfl, rfl⟩
  · have G := go (by decide) (by decide) (by decide) (by decide +kernel) (by decide) 0 (Nat.zero_le _) (zput (zput (zput (zput (zput σ 1 0 (σ.1 13 0)) 1 2 (σ.1 13 2)) 1 8 (σ.1 13 8)) 1 9 (σ.1 13 9)) 1 13 (σ.1 13 13)) (fun k hk => by rw [zput_ne (by omega), zput_ne (by omega), zput_ne (by omega), zput_ne (by omega), zput_ne (by omega)]) rfl rfl rfl rfl rfl rfl (fun j h1 h2 => absurd h2 (by omega))
    exact ⟨rfl, zFix_in G⟩
  · have G := go (by decide) (by decide) (by decide) (by decide +kernel) (by decide) 0 (Nat.zero_le _) (zput (zput (zput (zput (zput σ 25 0 (σ.1 1 0)) 25 2 (σ.1 1 2)) 25 8 (σ.1 1 8)) 25 9 (σ.1 1 9)) 25 13 (σ.1 1 13)) (fun k hk => by rw [zput_ne (by omega), zput_ne (by omega), zput_ne (by omega), zput_ne (by omega), zput_ne (by omega)]) rfl rfl rfl rfl rfl rfl (fun j h1 h2 => absurd h2 (by omega))
    exact ⟨rfl, zFix_in G⟩
  · have G := go (by decide) (by decide) (by decide) (by decide +kernel) (by decide) 0 (Nat.zero_le _) (zput (zput (zput (zput (zput σ 37 0 (σ.1 1 0)) 37 2 (σ.1 1 2)) 37 8 (σ.1 1 8)) 37 9 (σ.1 1 9)) 37 13 (σ.1 1 13)) (fun k hk => by rw [zput_ne (by omega), zput_ne (by omega), zput_ne (by omega), zput_ne (by omega), zput_ne (by omega)]) rfl rfl rfl rfl rfl rfl (fun j h1 h2 => absurd h2 (by omega))
    exact ⟨rfl, zFix_in G⟩
  · have G := go (by decide) (by decide) (by decide) (by decide +kernel) (by decide) 0 (Nat.zero_le _) (zput (zput (zput (zput (zput σ 1 0 (σ.1 25 0)) 1 2 (σ.1 25 2)) 1 8 (σ.1 25 8)) 1 9 (σ.1 25 9)) 1 13 (σ.1 25 13)) (fun k hk => by rw [zput_ne (by omega), zput_ne (by omega), zput_ne (by omega), zput_ne (by omega), zput_ne (by omega)]) rfl rfl rfl rfl rfl rfl (fun j h1 h2 => absurd h2 (by omega))
    exact ⟨rfl, zFix_in G⟩
  · have G := go (by decide) (by decide) (by decide) (by decide +kernel) (by decide) 0 (Nat.zero_le _) (zput (zput (zput (zput (zput σ 1 0 (σ.1 37 0)) 1 2 (σ.1 37 2)) 1 8 (σ.1 37 8)) 1 9 (σ.1 37 9)) 1 13 (σ.1 37 13)) (fun k hk => by rw [zput_ne (by omega), zput_ne (by omega), zput_ne (by omega), zput_ne (by omega), zput_ne (by omega)]) rfl rfl rfl rfl rfl rfl (fun j h1 h2 => absurd h2 (by omega))
    exact ⟨rfl, zFix_in G⟩
