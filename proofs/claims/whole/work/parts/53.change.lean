/-! Pairs: change, is. -/
theorem one_sub {b : Nat} (hb : b < 2) : (1 : Int32) - nI b = nI (1 - b) := by
  rcases (show b = 0 ∨ b = 1 by omega) with rfl | rfl <;> decide
theorem zuN_id {g : Nat → Nat} {f : Nat} : zuN g f (g f) = g := by funext x; unfold zuN; split; rename_i e; rw [e]; rfl
theorem zuN_uN {g : Nat → Nat} {f v w : Nat} : zuN (zuN g f v) f w = zuN g f w := by funext x; unfold zuN; split <;> rfl
theorem zMF_p {σ : zM} {o j : Nat} {v : Int32} (h : o = 80 ∨ o = 81 ∨ o = 82) : zMF σ (zput σ o j v) := ⟨fun x h1 h2 h3 _ => zput_ne (by rcases h with rfl | rfl | rfl <;> assumption), fun _ _ => by rw [zput_ne (by omega)], rfl⟩
theorem zMF_c {σ : zM} {v : Int32} : zMF σ (zput σ 75 9 v) := ⟨fun x _ _ _ h4 => zput_ne h4, fun j hj => zput_u hj, rfl⟩
theorem zHd_k {τ : zM} {a : zA} {kd bk pw : Nat → Nat} {cl f v : Nat} (h : zHd τ a kd bk pw cl) : zHd (zput τ 80 f (nI v)) a (zuN kd f v) bk pw cl := by
  refine ⟨h.1, fun g hg => ?_⟩
  obtain ⟨r1, r2, r3⟩ := h.2 g hg
  refine ⟨?_, r2, r3⟩
  rw [zputj]
  unfold zuN
  split
  · rfl
  · exact r1
theorem zHd_b {τ : zM} {a : zA} {kd bk pw : Nat → Nat} {cl f v : Nat} (h : zHd τ a kd bk pw cl) : zHd (zput τ 81 f (nI v)) a kd (zuN bk f v) pw cl := by
  refine ⟨h.1, fun g hg => ?_⟩
  obtain ⟨r1, r2, r3⟩ := h.2 g hg
  refine ⟨r1, ?_, r3⟩
  rw [zputj]
  unfold zuN
  split
  · rfl
  · exact r2
theorem zHd_c {τ : zM} {a : zA} {kd bk pw : Nat → Nat} {cl v : Nat} (h : zHd τ a kd bk pw cl) : zHd (zput τ 75 9 (nI v)) a kd bk pw v := ⟨zput_s, fun g hg => h.2 g hg⟩
def zchp (a : zA) (f : Nat) : Nat := zPs a (a 3) (zuN (a 4) f (1 - a 4 f)) (a 8 0)
def zch (a : zA) : Nat → Nat × Nat
  | 0 => (7, zPs a (a 3) (a 4) (a 8 0))
  | f + 1 => if (zch a f).2 < zchp a f then (f, zchp a f) else zch a f
theorem zch_le (a : zA) : ∀ f, (zch a f).2 ≤ 16
  | 0 => zPs_le
  | f + 1 => by
    have := zch_le a f
    unfold zch
    split
    · exact zPs_le
    · exact this
section
variable {σ : zM}
theorem p_change (x : Int32) (h : zR σ) : zPr T_X11_change T_X12_change [.int x] σ := by
  rcases or_r (x := x) (a := 0) (b := 1) with ⟨w, hw, rfl⟩ | nv
  · refine zPr_q (r := fun a => if w = 0 then nI (zch a (a 2 0)).1 else nI (zch a (a 2 0)).2) h (fun a Q hW hX hQ => ?_) (fun a σ Q hW hM hQ => ?_)
    · have hn := hW.1
      obtain ⟨k1, k2, k3⟩ := c_ok hW
      refine ⟨rfl, zFix_in (inX (a := 0) (b := 1) (by decide) hw (n1 (t_hold hW hX (fun τ fr s => ?_))))⟩
      show T_X8_peacefulWords [.ref 53, .int (τ.1 1 8)] τ _
      rw [(fr.X hX).2.2.2.2.1]
      refine t_peaces hW s k2 k3 ?_
      have L : ∀ f, f ≤ a 2 0 → ∀ τ : zM, zSF σ τ → zSv τ a (a 3) (a 4) → zFix (F_X11_change Q) 1 [.ref 0, .int (nI w), .int (nI (zch a f).1), .int (nI (zch a f).2), .int (nI f)] [] τ := by
        refine zloop (a 2 0) (fun f hf ih => ?_)
        intro τ fr s
        have hX' := fr.X hX
        refine zFix_in ?_
        refine pk_le (a 2 0) f (fun c => ?_) (fun c => ?_) hX'.2.2.1 rfl
        · have ef : f = a 2 0 := by omega
          subst ef
          have hq := hQ τ fr.Q
          rcases (show w = 0 ∨ w = 1 by omega) with rfl | rfl
          · exact n0 hq
          · exact n1 hq
        · obtain ⟨x1, x2, -⟩ := hX'.2.2.2.1 f c
          have hb := k2 f c
          refine And.intro (vp_in_nI (N := 7) (by omega) (by decide)) (And.intro (vp_in_nI (N := 7) (by omega) (by decide)) ?_)
          show T_X8_suppose [.ref 53, .ref 1, .int (nI f), .int (τ.1 3 (nI f).toNatClampNeg), .int (1 - τ.1 4 (nI f).toNatClampNeg)] τ _
          rw [nI_clamp (by omega), x1, x2, one_sub hb]
          refine t_supposeS hW hX' s c (k1 f c) (by omega) (fun τ2 fr2 s2 => ?_)
          rw [zuN_id] at s2
          have hX2 := fr2.X hX'
          show T_X8_peacefulWords [.ref 53, .int (τ2.1 1 8)] τ2 _
          rw [hX2.2.2.2.2.1]
          refine t_peaces hW s2 (fun g hg => ?_) k3 ?_
          · by_cases e : g = f
            · rw [e, zuN_s]; omega
            · rw [zuN_n e]; exact k2 g hg
          · obtain ⟨x1, x2, -⟩ := hX2.2.2.2.1 f c
            refine And.intro (vp_in_nI (N := 7) (by omega) (by decide)) (And.intro (vp_in_nI (N := 7) (by omega) (by decide)) ?_)
            show T_X8_suppose [.ref 53, .ref 1, .int (nI f), .int (τ2.1 3 (nI f).toNatClampNeg), .int (τ2.1 4 (nI f).toNatClampNeg)] τ2 _
            rw [nI_clamp (by omega), x1, x2]
            refine t_supposeS hW hX2 s2 c (k1 f c) hb (fun τ3 fr3 s3 => ?_)
            rw [zuN_id, zuN_uN, zuN_id] at s3
            have fr4 := (fr.tr fr2).tr fr3
            have l1 := zch_le a f
            have B2 : ∀ p q, zch a (f + 1) = (p, q) → zFix (F_X11_change Q) 2 [.ref 0, .int (nI w), .int (nI p), .int (nI q), .int (nI f)] [] τ3 := by
              intro p q e
              refine zFix_in ?_
              show zFix (F_X11_change Q) 1 [.ref 0, .int (nI w), .int (nI p), .int (nI q), .int (nI f + 1)] [] τ3
              rw [nI_1]
              have := ih (f + 1) (by omega) (by omega) τ3 fr4 s3
              rw [e] at this
              exact this
            have l2 : zchp a f ≤ 16 := zPs_le
            refine pk_le (zchp a f) (zch a f).2 (fun d => ?_) (fun d => ?_)
            · exact B2 _ _ (by show (if (zch a f).2 < zchp a f then (f, zchp a f) else zch a f) = _; rw [if_neg (by omega)])
            · exact B2 _ _ (by show (if (zch a f).2 < zchp a f then (f, zchp a f) else zch a f) = _; rw [if_pos d]; rfl)
      exact L 0 (Nat.zero_le _) τ fr s
    · have hn := hW.1
      obtain ⟨k1, k2, k3⟩ := c_ok hW
      refine ⟨rfl, zFix_in (inR (a := 0) (b := 1) (by decide) rfl rfl hw (n1 (t_layHand hW hM (fun τ fr hd => ?_))))⟩
      refine r_peaces hW (fr.M hM) hd k1 k2 k3 ?_
      have L : ∀ f, f ≤ a 2 0 → ∀ τ : zM, zMF σ τ → zHd τ a (a 3) (a 4) (a 7) (a 8 0) → zFix (F_X12_change Q) 1 [.ref 75, .int (nI w), .int (nI (zch a f).1), .int (nI (zch a f).2), .int (nI f)] [] τ := by
        refine zloop (a 2 0) (fun f hf ih => ?_)
        intro τ fr hd
        have hM' := fr.M hM
        refine zFix_in (t_many ?_)
        refine pk_le (a 2 0) f (fun c => ?_) (fun c => ?_) hM'.1 rfl
        · have ef : f = a 2 0 := by omega
          subst ef
          have hq := hQ τ fr.Q
          rcases (show w = 0 ∨ w = 1 by omega) with rfl | rfl
          · exact n0 hq
          · exact n1 hq
        · have hb := k2 f c
          have x2 := (hd.2 f c).2.1
          refine And.intro (vp_in_nI (N := 7) (by omega) (by decide)) (And.intro (vp_in_nI (N := 7) (by omega) (by decide)) ?_)
          show T_X12_peaces [.ref 75] (zput τ 81 (nI f).toNatClampNeg (1 - τ.1 81 (nI f).toNatClampNeg)) _
          rw [nI_clamp (by omega), x2, one_sub hb]
          have f1 := fr.tr (zMF_p (σ := τ) (j := f) (v := nI (1 - a 4 f)) (Or.inr (Or.inl rfl)))
          have h1 := zHd_b (f := f) (v := 1 - a 4 f) hd
          refine r_peaces hW (f1.M hM) h1 k1 (fun g hg => ?_) k3 ?_
          · by_cases e : g = f
            · rw [e, zuN_s]; omega
            · rw [zuN_n e]; exact k2 g hg
          · refine And.intro (vp_in_nI (N := 7) (by omega) (by decide)) (And.intro (vp_in_nI (N := 7) (by omega) (by decide)) ?_)
            show (nI (zchp a f) ≤ nI (zch a f).2 → zFix (F_X12_change Q) 2 [.ref 75, .int (nI w), .null, .int (nI (zch a f).2), .int (nI f), .int (nI (zchp a f))] [.int (nI (zch a f).1)] (zput (zput τ 81 f (nI (1 - a 4 f))) 81 (nI f).toNatClampNeg (1 - (zput τ 81 f (nI (1 - a 4 f))).1 81 (nI f).toNatClampNeg))) ∧ (¬ nI (zchp a f) ≤ nI (zch a f).2 → zFix (F_X12_change Q) 2 [.ref 75, .int (nI w), .null, .int (nI (zch a f).2), .int (nI f), .int (nI (zchp a f))] [.int (nI f)] (zput (zput τ 81 f (nI (1 - a 4 f))) 81 (nI f).toNatClampNeg (1 - (zput τ 81 f (nI (1 - a 4 f))).1 81 (nI f).toNatClampNeg)))
            rw [nI_clamp (by omega), zput_s, one_sub (show 1 - a 4 f < 2 by omega), show 1 - (1 - a 4 f) = a 4 f by omega]
            have f2 := f1.tr (zMF_p (σ := zput τ 81 f (nI (1 - a 4 f))) (j := f) (v := nI (a 4 f)) (Or.inr (Or.inl rfl)))
            have h2 := zHd_b (f := f) (v := a 4 f) h1
            rw [zuN_uN, zuN_id] at h2
            have l1 := zch_le a f
            have l2 : zchp a f ≤ 16 := zPs_le
            have B3 : ∀ p q, zch a (f + 1) = (p, q) → zFix (F_X12_change Q) 3 [.ref 75, .int (nI w), .int (nI p), .null, .int (nI f)] [.int (nI q)] (zput (zput τ 81 f (nI (1 - a 4 f))) 81 f (nI (a 4 f))) := by
              intro p q e
              refine zFix_in ?_
              show zFix (F_X12_change Q) 1 [.ref 75, .int (nI w), .int (nI p), .int (nI q), .int (nI f + 1)] [] _
              rw [nI_1]
              have := ih (f + 1) (by omega) (by omega) _ f2 h2
              rw [e] at this
              exact this
            refine pk_le (zchp a f) (zch a f).2 (fun d => ?_) (fun d => ?_)
            · refine zFix_in (pk_le (zchp a f) (zch a f).2 (fun _ => ?_) (fun d2 => ?_))
              · exact B3 _ _ (by show (if (zch a f).2 < zchp a f then (f, zchp a f) else zch a f) = _; rw [if_neg (by omega)])
              · omega
            · refine zFix_in (pk_le (zchp a f) (zch a f).2 (fun d2 => ?_) (fun _ => ?_))
              · omega
              · exact B3 _ _ (by show (if (zch a f).2 < zchp a f then (f, zchp a f) else zch a f) = _; rw [if_pos d])
      exact L 0 (Nat.zero_le _) τ fr hd
  · exact zPr_bad (j := 0) h (fun Q hQ => ⟨rfl, zFix_in (noX (a := 0) (b := 1) (by decide) (by decide) nv (n0 (t_refBad hQ)))⟩) (fun τ Q _ hQ => ⟨rfl, zFix_in (noR (a := 0) (b := 1) (by decide) rfl rfl nv (n0 (r_bad hQ)))⟩)
theorem r_heardSo {a : zA} {kd bk pw : Nat → Nat} {cl : Nat} {σ : zM} {Q : zQ} (hW : zWF a) (hM : zCM (σ.1 76) a) (hH : zHd σ a kd bk pw cl) (hk : ∀ f, f < a 2 0 → kd f < 6) (hb : ∀ f, f < a 2 0 → bk f < 2) (hcl : cl < 2 ^ 31) (h1 : zAg a kd bk cl → Q (some (.int 1)) σ) (h0 : ¬ zAg a kd bk cl → Q (some (.int 0)) σ) : T_X12_isHeardSo [.ref 75] σ Q := by
  have hk6 := hW.2.2.2.2.2.2.1
  have m4 := hM.2.2.2.1
  have L : ∀ k, k ≤ a 9 0 → ∀ d, d < 2 → (d = 1 ↔ ∀ j, j < k → zLd a kd bk cl (zcs a (a 10 j)) (a 11 j) (a 2 0) = a 12 j) → zFix (F_X12_isHeardSo Q) 1 [.ref 75, .int (nI d), .int (nI k)] [] σ := by
    refine zloop (a 9 0) (fun k hk' ih => ?_)
    intro d hd inv
    refine zFix_in ?_
    refine And.intro (vp_in_nI (n := 4) (N := 178) (by decide) (by decide)) ?_
    refine pk_le (a 9 0) k (fun c => ?_) (fun c => ?_) m4 rfl
    · have ek : k = a 9 0 := by omega
      subst ek
      rcases (show d = 0 ∨ d = 1 by omega) with rfl | rfl
      · exact And.intro (Or.inl rfl) (h0 (fun z => absurd (inv.mpr z) (by decide)))
      · exact And.intro (Or.inr rfl) (h1 (inv.mp rfl))
    · rcases (show d = 0 ∨ d = 1 by omega) with rfl | rfl
      · exact e0 (And.intro (Or.inl rfl) (h0 (fun z => absurd (inv.mpr (fun j hj => z j (by omega))) (by decide))))
      · refine e1 ?_
        obtain ⟨r1, r2, r3⟩ := hM.2.2.2.2.2.2.1 k c
        obtain ⟨w1, w2, w3⟩ := hW.2.2.2.2.2.2.2.1 k c
        have ei : (48 : Int32) + 3 * nI k = nI (48 + 3 * k) := by rw [show (48 : Int32) = nI 48 from rfl, show (3 : Int32) = nI 3 from rfl, pk_mul, nI_add]
        have e1' : (48 : Int32) + 3 * nI k + 1 = nI (49 + 3 * k) := by rw [ei, show (1 : Int32) = nI 1 from rfl, nI_add]; congr 1; omega
        have e2' : nI (48 + 3 * k) + 2 = nI (50 + 3 * k) := by rw [show (2 : Int32) = nI 2 from rfl, nI_add]; congr 1; omega
        refine And.intro (by rw [ei]; exact vp_in_nI (N := 178) (by omega) (by decide)) ?_
        refine And.intro (by rw [e1']; exact vp_in_nI (N := 178) (by omega) (by decide)) ?_
        show T_X12_loudOf [.ref 75, .int (σ.1 76 ((48 : Int32) + 3 * nI k).toNatClampNeg), .int (σ.1 76 ((48 : Int32) + 3 * nI k + 1).toNatClampNeg)] σ _
        rw [e1', ei, nI_clamp (by omega), nI_clamp (by omega), r1, r2]
        refine r_loud hW hM hH hk hb w1 w2 hcl ?_
        refine And.intro (by show vp_in (nI (48 + 3 * k) + 2) 178; rw [e2']; exact vp_in_nI (N := 178) (by omega) (by decide)) ?_
        have ll := @zLd_lt a kd bk cl (zcs a (a 10 k)) (a 11 k) hW
        have B : ∀ d, d < 2 → (d = 1 ↔ ∀ j, j < k + 1 → zLd a kd bk cl (zcs a (a 10 j)) (a 11 j) (a 2 0) = a 12 j) → zFix (F_X12_isHeardSo Q) 2 [.ref 75, .null, .int (nI k)] [.int (nI d)] σ := by
          intro d hd inv
          refine zFix_in ?_
          show zFix (F_X12_isHeardSo Q) 1 [.ref 75, .int (nI d), .int (nI k + 1)] [] σ
          rw [nI_1]
          exact ih (k + 1) (by omega) (by omega) d hd inv
        show (¬ nI (zLd a kd bk cl (zcs a (a 10 k)) (a 11 k) (a 2 0)) = σ.1 76 (nI (48 + 3 * k) + 2).toNatClampNeg → zFix (F_X12_isHeardSo Q) 2 [.ref 75, .null, .int (nI k)] [.int (nI 0)] σ) ∧ (nI (zLd a kd bk cl (zcs a (a 10 k)) (a 11 k) (a 2 0)) = σ.1 76 (nI (48 + 3 * k) + 2).toNatClampNeg → zFix (F_X12_isHeardSo Q) 2 [.ref 75, .null, .int (nI k)] [.int (nI 1)] σ)
        rw [e2', nI_clamp (by omega), r3]
        refine And.intro (fun c2 => B 0 (by decide) ⟨fun z => absurd z (by decide), fun z => absurd (by rw [z k (by omega)]) c2⟩) (fun c2 => B 1 (by decide) ⟨fun _ j hj => ?_, fun _ => rfl⟩)
        by_cases e : j = k
        · rw [e]; exact nI_inj (by omega) (by omega) c2
        · exact inv.mp rfl j (by omega)
  exact ⟨rfl, zFix_in (L 0 (Nat.zero_le _) 1 (by decide) ⟨fun _ j hj => absurd hj (Nat.not_lt_zero j), fun _ => rfl⟩)⟩
theorem p_is (x : Int32) (h : zR σ) : zPr T_X11_is T_X12_is [.int x] σ := by
  obtain ⟨a0, hW0, hX0, hM0, hO0⟩ := id h
  rcases or_w (x := x) (n := a0 2 0) with ⟨f, hf0, rfl⟩ | nv
  · have go : ∀ (a : zA), zCX 1 σ a → zWF a → a 2 0 = a0 2 0 := fun a hX hW => nI_inj (by have := hW.1; omega) (by have := hW0.1; omega) (hX.2.2.1.symm.trans hX0.2.2.1)
    have R : ∀ (a : zA), zWF a → f < a 2 0 → ∀ (σ : zM) (Q : zQ), zCM (σ.1 76) a → (∀ υ, zQM σ υ → Q (some (.int (nI (zbt (fun k => zpp (zAg a (zuN (a 3) f k) (a 4) (a 8 0))) 6)))) υ) → T_X12_is [.ref 75, .int (nI f)] σ Q := by
      intro a hW hf σ Q hM hQ
      have hn := hW.1
      obtain ⟨k1, k2, k3⟩ := c_ok hW
      have pl : ∀ k, zbt (fun k => zpp (zAg a (zuN (a 3) f k) (a 4) (a 8 0))) k < 2 ^ k := fun k => zbt_lt (fun g _ => zpp_le)
      refine ⟨rfl, zFix_in (isFr hn hM.1 hf (n1 (t_layHand hW hM (fun τ fr hd => ?_))))⟩
      have L : ∀ k, k ≤ 6 → ∀ (τ : zM) (kd : Nat → Nat), zMF σ τ → (∀ v, zuN kd f v = zuN (a 3) f v) → zHd τ a kd (a 4) (a 7) (a 8 0) → zFix (F_X12_is Q) 1 [.ref 75, .int (nI f), .int (nI (zbt (fun k => zpp (zAg a (zuN (a 3) f k) (a 4) (a 8 0))) k)), .int (nI k)] [] τ := by
        refine zloop 6 (fun k hk ih => ?_)
        intro τ kd fr ek hd
        refine zFix_in ?_
        refine pk_le 6 k (fun c => ?_) (fun c => ?_)
        · have e6 : k = 6 := by omega
          subst e6
          exact hQ τ fr.Q
        · refine And.intro (vp_in_nI (N := 7) (by omega) (by decide)) ?_
          show T_X12_isHeardSo [.ref 75] (zput τ 80 (nI f).toNatClampNeg (nI k)) _
          rw [nI_clamp (by omega)]
          have f1 := fr.tr (zMF_p (σ := τ) (j := f) (v := nI k) (Or.inl rfl))
          have h1 := zHd_k (f := f) (v := k) hd
          rw [ek] at h1
          have B : ∀ y : Int32, nI (zbt (fun k => zpp (zAg a (zuN (a 3) f k) (a 4) (a 8 0))) k) ||| y = nI (zbt (fun k => zpp (zAg a (zuN (a 3) f k) (a 4) (a 8 0))) (k + 1)) → zFix (F_X12_is Q) 2 [.ref 75, .int (nI f), .null, .int (nI k)] [.int y, .int (nI (zbt (fun k => zpp (zAg a (zuN (a 3) f k) (a 4) (a 8 0))) k))] (zput τ 80 f (nI k)) := by
            intro y hy
            refine zFix_in ?_
            show zFix (F_X12_is Q) 1 [.ref 75, .int (nI f), .int (nI (zbt (fun k => zpp (zAg a (zuN (a 3) f k) (a 4) (a 8 0))) k) ||| y), .int (nI k + 1)] [] _
            rw [nI_1, hy]
            exact ih (k + 1) (by omega) (by omega) _ _ f1 (fun v => zuN_uN) h1
          refine r_heardSo hW (f1.M hM) h1 (fun g hg => ?_) k2 k3 (fun d => e1 ?_) (fun d => e0 ?_)
          · by_cases e : g = f
            · rw [e, zuN_s]; omega
            · rw [zuN_n e]; exact k1 g hg
          · refine B _ ?_
            rw [or_sh (by omega) (pl k), zbt_s, zpp_1 d, Nat.one_mul]
          · refine B _ ?_
            rw [or_0, zbt_s, zpp_0 d, Nat.zero_mul]
            rfl
      exact L 0 (Nat.zero_le _) τ (a 3) fr (fun _ => rfl) hd
    have hn := hW0.1
    obtain ⟨k1, k2, k3⟩ := c_ok hW0
    have pl : ∀ k, zbt (fun k => zpp (zAg a0 (zuN (a0 3) f k) (a0 4) (a0 8 0))) k < 2 ^ k := fun k => zbt_lt (fun g _ => zpp_le)
    refine ⟨rfl, zFix_in (isF hn hX0.2.2.1 hf0 (n1 (t_hold hW0 hX0 (fun τ fr s => ?_))))⟩
    have L : ∀ k, k ≤ 6 → ∀ (τ : zM) (kd : Nat → Nat), zSF σ τ → (∀ v, zuN kd f v = zuN (a0 3) f v) → zSv τ a0 kd (a0 4) → zFix (F_X11_is (fun v τ => ∃ r : Int32, v = some (.int r) ∧ T_X12_is [.ref 75, .int (nI f)] τ (fun w υ => w = some (.int r) ∧ zR υ))) 1 [.ref 0, .int (nI f), .int (nI (zbt (fun k => zpp (zAg a0 (zuN (a0 3) f k) (a0 4) (a0 8 0))) k)), .int (nI k)] [] τ := by
      refine zloop 6 (fun k hk ih => ?_)
      intro τ kd fr ek s
      have hX' := fr.X hX0
      refine zFix_in ?_
      refine pk_le 6 k (fun c => ?_) (fun c => ?_)
      · have e6 : k = 6 := by omega
        subst e6
        exact ⟨_, rfl, R a0 hW0 hf0 τ _ (by rw [fr.Q.1 76 (by omega)]; exact hM0) (fun υ g => ⟨rfl, (h.X fr.Q).M g⟩)⟩
      · refine And.intro (vp_in_nI (N := 7) (by omega) (by decide)) ?_
        show T_X8_suppose [.ref 53, .ref 1, .int (nI f), .int (nI k), .int (τ.1 4 (nI f).toNatClampNeg)] τ _
        rw [nI_clamp (by omega), show τ.1 4 f = nI (a0 4 f) from (hX'.2.2.2.1 f hf0).2.1]
        refine t_supposeS hW0 hX' s hf0 c (k2 f hf0) (fun τ2 fr2 s2 => ?_)
        rw [ek, zuN_id] at s2
        have hX2 := fr2.X hX'
        show T_X8_agreesWith [.ref 53, .ref 1, .int (τ2.1 1 8)] τ2 _
        rw [hX2.2.2.2.2.1]
        have B : ∀ v, v = zbt (fun k => zpp (zAg a0 (zuN (a0 3) f k) (a0 4) (a0 8 0))) (k + 1) → zFix (F_X11_is (fun v τ => ∃ r : Int32, v = some (.int r) ∧ T_X12_is [.ref 75, .int (nI f)] τ (fun w υ => w = some (.int r) ∧ zR υ))) 2 [.ref 0, .int (nI f), .int (nI v), .int (nI k)] [] τ2 := by
          intro v hv
          refine zFix_in ?_
          show zFix (F_X11_is _) 1 [.ref 0, .int (nI f), .int (nI v), .int (nI k + 1)] [] τ2
          rw [nI_1, hv]
          exact ih (k + 1) (by omega) (by omega) τ2 _ (fr.tr fr2) (fun v => zuN_uN) s2
        refine t_agrees hW0 hX2 s2 k2 k3 (fun d => e1 ?_) (fun d => e0 ?_)
        · have B' := B _ (by rw [zbt_s, zpp_1 d])
          rw [Nat.one_mul, ← or_sh (by omega) (pl k)] at B'
          exact B'
        · exact B _ (by rw [zbt_s, zpp_0 d, Nat.zero_mul]; rfl)
    exact L 0 (Nat.zero_le _) τ (a0 3) fr (fun _ => rfl) s
  · exact zPr_bad (j := 0) h (fun Q hQ => ⟨rfl, zFix_in (noF hW0.1 hX0.2.2.1 nv (n0 (t_refBad hQ)))⟩) (fun τ Q e hQ => ⟨rfl, zFix_in (noFr hW0.1 (by rw [e]; exact hM0.1) nv (n0 (r_bad hQ)))⟩)
end
