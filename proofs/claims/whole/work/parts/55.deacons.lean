/-! Pairs: deacons, feasts. -/
def zmv (a : zA) (b : Nat) : Nat → Nat
  | 0 => 200
  | f + 1 => if a 4 f = b ∧ (zmv a b f = 200 ∨ a 6 (zmv a b f) < a 6 f) then f else zmv a b f
theorem zmv_r (a : zA) (b : Nat) : ∀ f, zmv a b f < f ∨ zmv a b f = 200
  | 0 => Or.inr rfl
  | f + 1 => by
    have := zmv_r a b f
    unfold zmv
    split
    · omega
    · omega
def zdb (a : zA) (b : Nat) : Nat := if zmv a b (a 2 0) = 200 then 0 else 2 ^ zmv a b (a 2 0)
theorem zdb_lt {a : zA} {b : Nat} (hn : a 2 0 ≤ 7) : zdb a b < 128 := by
  unfold zdb
  have := zmv_r a b (a 2 0)
  split
  · decide
  · exact (Nat.pow_lt_pow_right (by decide) (by omega) : 2 ^ zmv a b (a 2 0) < 2 ^ 7)
/-- the colds when the deacons of pair p have theirs be still -/
def zdc (a : zA) (p : Nat) : Nat → Nat
  | 0 => a 8 0
  | b + 1 => zdc a p b ||| (if zb p b = 1 then zdb a b else 0)
theorem zdc_lt {a : zA} {p : Nat} (hW : zWF a) : ∀ b, zdc a p b < 128
  | 0 => zC128 hW
  | b + 1 => by
    refine or_128 (zdc_lt hW b) ?_
    split
    · exact zdb_lt hW.1
    · decide
def zle (a : zA) (c p : Nat) : Int32 := nI (zLd a (a 3) (a 4) (zdc a p 2) c 0 (a 2 0)) - nI (zLd a (a 3) (a 4) (zdc a p 2) c 1 (a 2 0))
def zrs (a : zA) (c p : Nat) : Prop := ¬ zle a c p < zle a c (p ^^^ 1) ∧ ¬ zle a c (p ^^^ 2) < zle a c p
theorem t_most {a : zA} {b : Nat} {σ : zM} {Q : zQ} (hW : zWF a) (hX : zCX 1 σ a) (hb : b < 2) (h : Q (some (.int (zen (zmv a b (a 2 0))))) σ) : T_X1_mostVoiced [.ref 1, .int (nI b)] σ Q := by
  have hn := hW.1
  have L : ∀ f, f ≤ a 2 0 → zFix (F_X1_mostVoiced Q) 1 [.ref 1, .int (nI b), .int (zen (zmv a b f)), .int (nI f)] [] σ := by
    refine zloop (a 2 0) (fun f hf ih => ?_)
    refine zFix_in ?_
    refine pk_le (a 2 0) f (fun d => ?_) (fun d => ?_) hX.2.2.1 rfl
    · have ef : f = a 2 0 := by omega
      rw [ef]
      exact h
    · have r := zmv_r a b f
      obtain ⟨x1, x2, x3, x4, x5⟩ := hX.2.2.2.1 f d
      obtain ⟨w1, w2, w3, w4, w5⟩ := hW.2.2.2.1 f d
      have B3 : ∀ x, x = zmv a b (f + 1) → zFix (F_X1_mostVoiced Q) 3 [.ref 1, .int (nI b), .int (zen x), .int (nI f)] [] σ := by
        intro x hx
        refine zFix_in ?_
        show zFix (F_X1_mostVoiced Q) 1 [.ref 1, .int (nI b), .int (zen x), .int (nI f + 1)] [] σ
        rw [nI_1, hx]
        exact ih (f + 1) (by omega) (by omega)
      have no : ¬ (a 4 f = b ∧ (zmv a b f = 200 ∨ a 6 (zmv a b f) < a 6 f)) → zmv a b f = zmv a b (f + 1) := fun z => by
        show _ = if _ then _ else _
        rw [if_neg z]
      have B2 : a 4 f = b ∧ (zmv a b f = 200 ∨ a 6 (zmv a b f) < a 6 f) → zFix (F_X1_mostVoiced Q) 2 [.ref 1, .int (nI b), .null, .int (nI f)] [] σ := by
        intro z
        have e : zmv a b (f + 1) = f := by
          show (if _ then _ else _) = _
          rw [if_pos z]
        have B := B3 f e.symm
        rw [zen_n (by omega)] at B
        exact zFix_in B
      refine And.intro (vp_in_nI (N := 7) (by omega) (by decide)) ?_
      show (¬ σ.1 4 (nI f).toNatClampNeg = nI b → zFix (F_X1_mostVoiced Q) 3 [.ref 1, .int (nI b), .int (zen (zmv a b f)), .int (nI f)] [] σ) ∧ (σ.1 4 (nI f).toNatClampNeg = nI b → (zen (zmv a b f) = -1 → zFix (F_X1_mostVoiced Q) 2 [.ref 1, .int (nI b), .null, .int (nI f)] [] σ) ∧ (¬ zen (zmv a b f) = -1 → vp_in (nI f) 7 ∧ vp_in (zen (zmv a b f)) 7 ∧ (σ.1 6 (nI f).toNatClampNeg ≤ σ.1 6 (zen (zmv a b f)).toNatClampNeg → zFix (F_X1_mostVoiced Q) 3 [.ref 1, .int (nI b), .int (zen (zmv a b f)), .int (nI f)] [] σ) ∧ (¬ σ.1 6 (nI f).toNatClampNeg ≤ σ.1 6 (zen (zmv a b f)).toNatClampNeg → zFix (F_X1_mostVoiced Q) 2 [.ref 1, .int (nI b), .null, .int (nI f)] [] σ)))
      rw [nI_clamp (by omega), show σ.1 4 f = nI (a 4 f) from x2, show σ.1 6 f = nI (a 6 f) from x4]
      refine And.intro (fun z => B3 _ (no (fun y => z (by rw [y.1])))) (fun z => ?_)
      have z := nI_inj (by omega) (by omega) z
      refine And.intro (fun y => B2 ⟨z, Or.inl ((zen_m (by omega)).mp y)⟩) (fun y => ?_)
      have nz : zmv a b f ≠ 200 := fun x => y ((zen_m (by omega)).mpr x)
      have x6 : σ.1 6 (zmv a b f) = nI (a 6 (zmv a b f)) := (hX.2.2.2.1 (zmv a b f) (by omega)).2.2.2.1
      have w6 := (hW.2.2.2.1 (zmv a b f) (by omega)).2.2.2.1
      rw [zen_n nz, nI_clamp (by omega), x6]
      refine ⟨vp_in_nI (by omega) (by decide), vp_in_nI (by omega) (by decide), ?_⟩
      refine pk_le (a 6 f) (a 6 (zmv a b f)) (fun q => ?_) (fun q => B2 ⟨z, Or.inr q⟩)
      have B := B3 _ (no (fun x => by rcases x.2 with x | x; exact nz x; omega))
      rw [zen_n nz] at B
      exact B
  exact ⟨rfl, zFix_in (L 0 (Nat.zero_le _))⟩
theorem t_lead {a : zA} {w p : Nat} {σ : zM} {Q : zQ} (hW : zWF a) (hX : zCX 1 σ a) (hS : zSv σ a (a 3) (a 4)) (hw : w < 16) (hp : p < 4) (h : Q (some (.int (zle a (zcs a w) p))) σ) : T_X11_leadOfBook0 [.ref 0, .int (nI w), .int (nI p)] σ Q := by
  have hn := hW.1
  obtain ⟨k1, k2, k3⟩ := c_ok hW
  have L : ∀ b, b ≤ 2 → zFix (F_X11_leadOfBook0 Q) 1 [.ref 0, .int (nI w), .int (nI p), .int (nI (zdc a p b)), .int (nI b)] [] σ := by
    refine zloop 2 (fun b hb ih => ?_)
    have l := zdc_lt (p := p) hW b
    refine zFix_in ?_
    refine pk_le 2 b (fun d => ?_) (fun d => ?_)
    · have eb : b = 2 := by omega
      subst eb
      refine t_loudness (b := 0) hW hS k2 hw (by decide) (by omega) ?_
      exact t_loudness (b := 1) hW hS k2 hw (by decide) (by omega) h
    · refine t_most hW hX d ?_
      have B2 : ∀ x, x = zdc a p (b + 1) → zFix (F_X11_leadOfBook0 Q) 2 [.ref 0, .int (nI w), .int (nI p), .int (nI x), .int (nI b)] [] σ := by
        intro x hx
        refine zFix_in ?_
        show zFix (F_X11_leadOfBook0 Q) 1 [.ref 0, .int (nI w), .int (nI p), .int (nI x), .int (nI b + 1)] [] σ
        rw [nI_1, hx]
        exact ih (b + 1) (by omega) (by omega)
      have es : zdc a p (b + 1) = zdc a p b ||| (if zb p b = 1 then zdb a b else 0) := rfl
      have r := zmv_r a b (a 2 0)
      refine t_X11_bit (by omega) (by omega) ?_
      refine And.intro (fun z => B2 _ ?_) (fun z => ?_)
      · rw [es, if_neg (fun y => z (by rw [y]; rfl)), Nat.or_zero]
      · rw [if_pos (zb_eq1 z)] at es
        refine And.intro (fun y => B2 _ ?_) (fun y => ?_)
        · rw [es, zdb, if_pos ((zen_m (by omega)).mp y), Nat.or_zero]
        · have nz : zmv a b (a 2 0) ≠ 200 := fun x => y ((zen_m (by omega)).mpr x)
          rw [zdb, if_neg nz] at es
          have B := B2 _ es.symm
          rw [← nI_or, ← nI_shl1 (by omega)] at B
          show zFix (F_X11_leadOfBook0 Q) 2 [.ref 0, .int (nI w), .int (nI p), .int (nI (zdc a p b) ||| (1 : Int32) <<< (zen (zmv a b (a 2 0)) &&& 31)), .int (nI b)] [] σ
          rw [zen_n nz]
          exact B
  refine ⟨rfl, zFix_in ?_⟩
  show zFix (F_X11_leadOfBook0 Q) 1 [.ref 0, .int (nI w), .int (nI p), .int (σ.1 1 8), .int (nI 0)] [] σ
  rw [hX.2.2.2.2.1]
  exact L 0 (Nat.zero_le _)
theorem r_deaconOf {a : zA} {b : Nat} {σ : zM} {Q : zQ} (hW : zWF a) (hM : zCM (σ.1 76) a) (hb : b < 2) (h : Q (some (.int (nI (zdb a b)))) σ) : T_X12_deaconOf [.ref 75, .int (nI b)] σ Q := by
  have hn := hW.1
  have L : ∀ f, f ≤ a 2 0 → zFix (F_X12_deaconOf Q) 1 [.ref 75, .int (nI b), .int (zen (zmv a b f)), .int (nI f)] [] σ := by
    refine zloop (a 2 0) (fun f hf ih => ?_)
    have r := zmv_r a b f
    refine zFix_in (t_many ?_)
    refine pk_le (a 2 0) f (fun d => ?_) (fun d => ?_) hM.1 rfl
    · have ef : f = a 2 0 := by omega
      subst ef
      refine And.intro (fun y => ?_) (fun y => ?_)
      · have nz : zmv a b (a 2 0) ≠ 200 := fun x => y ((zen_m (by omega)).mpr x)
        show Q (some (.int ((1 : Int32) <<< (zen (zmv a b (a 2 0)) &&& 31)))) σ
        rw [zen_n nz, nI_shl1 (by omega)]
        rw [zdb, if_neg nz] at h
        exact h
      · rw [zdb, if_pos ((zen_m (by omega)).mp y)] at h
        exact h
    · obtain ⟨x1, x2, x3, x4, x5, x6⟩ := hM.2.2.2.2.2.1 f d
      obtain ⟨w1, w2, w3, w4, w5⟩ := hW.2.2.2.1 f d
      have B5 : ∀ x, x = zmv a b (f + 1) → zFix (F_X12_deaconOf Q) 5 [.ref 75, .int (nI b), .null, .int (nI f)] [.int (zen x)] σ := by
        intro x hx
        refine zFix_in ?_
        show zFix (F_X12_deaconOf Q) 1 [.ref 75, .int (nI b), .int (zen x), .int (nI f + 1)] [] σ
        rw [nI_1, hx]
        exact ih (f + 1) (by omega) (by omega)
      have no : ¬ (a 4 f = b ∧ (zmv a b f = 200 ∨ a 6 (zmv a b f) < a 6 f)) → zmv a b f = zmv a b (f + 1) := fun z => by
        show _ = if _ then _ else _
        rw [if_neg z]
      have B3 : ∀ m, m < 2 → (m = 1 ↔ (zmv a b f = 200 ∨ a 6 (zmv a b f) < a 6 f)) → zFix (F_X12_deaconOf Q) 3 [.ref 75, .int (nI b), .int (zen (zmv a b f)), .int (nI f)] [.int (nI m)] σ := by
        intro m hm inv
        refine zFix_in ?_
        refine t_get (f := f) (w := 1) (by omega) (by decide) ?_
        show (¬ σ.1 76 (6 + 6 * f + 1) = nI b → zFix (F_X12_deaconOf Q) 4 [.ref 75, .int (nI b), .int (zen (zmv a b f)), .int (nI f)] [] σ) ∧ (σ.1 76 (6 + 6 * f + 1) = nI b → (nI m = 0 → zFix (F_X12_deaconOf Q) 4 [.ref 75, .int (nI b), .int (zen (zmv a b f)), .int (nI f)] [] σ) ∧ (¬ nI m = 0 → zFix (F_X12_deaconOf Q) 5 [.ref 75, .int (nI b), .null, .int (nI f)] [.int (nI f)] σ))
        rw [show 6 + 6 * f + 1 = 7 + 6 * f by omega, x2]
        refine And.intro (fun z => zFix_in (B5 _ (no (fun y => z (by rw [y.1]))))) (fun z => ?_)
        have z := nI_inj (by omega) (by omega) z
        refine And.intro (fun y => zFix_in (B5 _ (no (fun x => ?_)))) (fun y => ?_)
        · have y := nI_inj (b := 0) (by omega) (by decide) y
          have := inv.mpr x.2
          omega
        · have m1 : m = 1 := by
            rcases (show m = 0 ∨ m = 1 by omega) with q | q
            · exact absurd (by rw [q]; rfl) y
            · exact q
          have e : zmv a b (f + 1) = f := by
            show (if _ then _ else _) = _
            rw [if_pos ⟨z, inv.mp m1⟩]
          have B := B5 f e.symm
          rw [zen_n (by omega)] at B
          exact B
      refine And.intro (fun y => zFix_in (B3 1 (by decide) ⟨fun _ => Or.inl ((zen_m (by omega)).mp y), fun _ => rfl⟩)) (fun y => ?_)
      have nz : zmv a b f ≠ 200 := fun x => y ((zen_m (by omega)).mpr x)
      have x6 : σ.1 76 (9 + 6 * zmv a b f) = nI (a 6 (zmv a b f)) := (hM.2.2.2.2.2.1 (zmv a b f) (by omega)).2.2.2.1
      have w6 := (hW.2.2.2.1 (zmv a b f) (by omega)).2.2.2.1
      refine t_get (f := f) (w := 3) (by omega) (by decide) ?_
      show T_X12_get [.ref 75, .int (zen (zmv a b f)), .int (nI 3)] σ _
      rw [zen_n nz]
      refine t_get (f := zmv a b f) (w := 3) (by omega) (by decide) ?_
      show (σ.1 76 (6 + 6 * f + 3) ≤ σ.1 76 (6 + 6 * zmv a b f + 3) → zFix (F_X12_deaconOf Q) 3 [.ref 75, .int (nI b), .int (nI (zmv a b f)), .int (nI f)] [.int (nI 0)] σ) ∧ (¬ σ.1 76 (6 + 6 * f + 3) ≤ σ.1 76 (6 + 6 * zmv a b f + 3) → zFix (F_X12_deaconOf Q) 2 [.ref 75, .int (nI b), .int (nI (zmv a b f)), .int (nI f)] [] σ)
      rw [show 6 + 6 * f + 3 = 9 + 6 * f by omega, show 6 + 6 * zmv a b f + 3 = 9 + 6 * zmv a b f by omega, x4, x6]
      refine pk_le (a 6 f) (a 6 (zmv a b f)) (fun q => ?_) (fun q => zFix_in ?_)
      · have B := B3 0 (by decide) ⟨fun z => absurd z (by decide), fun z => by rcases z with z | z; exact absurd z nz; omega⟩
        rw [zen_n nz] at B
        exact B
      · have B := B3 1 (by decide) ⟨fun _ => Or.inr q, fun _ => rfl⟩
        rw [zen_n nz] at B
        exact B
  exact ⟨rfl, zFix_in (L 0 (Nat.zero_le _))⟩
section
variable {σ : zM}
theorem x1_4 : ∀ p, p < 4 → nI p ^^^ (1 : Int32) = nI (p ^^^ 1) ∧ p ^^^ 1 < 4 ∧ nI p ^^^ (2 : Int32) = nI (p ^^^ 2) ∧ p ^^^ 2 < 4 := by decide +kernel
theorem zb_4 : ∀ p, p < 4 → (zb p 0 = 1 ↔ nI p &&& 1 = 1) ∧ (zb p 1 = 1 ↔ 1 < p) := by decide +kernel
theorem p_deacons (x : Int32) (h : zR σ) : zPr T_X11_deacons T_X12_deacons [.int x] σ := by
  rcases or_w (x := x) (n := 16) with ⟨w, hw, rfl⟩ | nv
  · refine zPr_q (r := fun a => nI (zbt (fun p => zpp (zrs a (zcs a w) p)) 4)) h (fun a Q hW hX hQ => ?_) (fun a σ Q hW hM hQ => ?_)
    · have hn := hW.1
      obtain ⟨k1, k2, k3⟩ := c_ok hW
      have pl : ∀ p, zbt (fun p => zpp (zrs a (zcs a w) p)) p < 2 ^ p := fun p => zbt_lt (fun g _ => zpp_le)
      refine ⟨rfl, zFix_in (isW hw (n1 (t_hold hW hX (fun τ fr s => ?_))))⟩
      have hX' := fr.X hX
      have L : ∀ p, p ≤ 4 → zFix (F_X11_deacons Q) 1 [.ref 0, .int (nI w), .int (nI (zbt (fun p => zpp (zrs a (zcs a w) p)) p)), .int (nI p)] [] τ := by
        refine zloop 4 (fun p hp ih => ?_)
        refine zFix_in ?_
        refine pk_le 4 p (fun d => ?_) (fun d => ?_)
        · have ep : p = 4 := by omega
          rw [ep]
          exact hQ τ fr.Q
        · obtain ⟨y1, y2, y3, y4⟩ := x1_4 p d
          have B2 : ∀ v, v = zbt (fun p => zpp (zrs a (zcs a w) p)) (p + 1) → zFix (F_X11_deacons Q) 2 [.ref 0, .int (nI w), .int (nI v), .int (nI p)] [] τ := by
            intro v hv
            refine zFix_in ?_
            show zFix (F_X11_deacons Q) 1 [.ref 0, .int (nI w), .int (nI v), .int (nI p + 1)] [] τ
            rw [nI_1, hv]
            exact ih (p + 1) (by omega) (by omega)
          refine t_lead hW hX' s hw d ?_
          show T_X11_leadOfBook0 [.ref 0, .int (nI w), .int (nI p ^^^ 1)] τ _
          rw [y1]
          refine t_lead hW hX' s hw y2 ?_
          refine And.intro (fun z => B2 _ ?_) (fun z => ?_)
          · rw [zbt_s, zpp_0 (fun q => q.1 z), Nat.zero_mul]; rfl
          · show T_X11_leadOfBook0 [.ref 0, .int (nI w), .int (nI p ^^^ 2)] τ _
            rw [y3]
            refine t_lead hW hX' s hw y4 ?_
            refine And.intro (fun z2 => B2 _ ?_) (fun z2 => ?_)
            · rw [zbt_s, zpp_0 (fun q => q.2 z2), Nat.zero_mul]; rfl
            · have B := B2 _ (by rw [zbt_s, zpp_1 (show zrs a (zcs a w) p from ⟨z, z2⟩)])
              rw [Nat.one_mul, ← or_sh (by omega) (pl p)] at B
              exact B
      exact L 0 (Nat.zero_le _)
    · have hn := hW.1
      obtain ⟨k1, k2, k3⟩ := c_ok hW
      have pl : ∀ p, zbt (fun p => zpp (zrs a (zcs a w) p)) p < 2 ^ p := fun p => zbt_lt (fun g _ => zpp_le)
      refine ⟨rfl, zFix_in (isWr hw (n1 (t_layHand hW hM (fun τ fr hd => ?_))))⟩
      have E : ∀ υ : zM, zQM σ υ → (∀ p, p < 4 → υ.1 87 p = zle a (zcs a w) p) → ∀ p, p ≤ 4 → zFix (F_X12_deacons Q) 4 [.ref 75, .null, .null, .int (nI (zbt (fun p => zpp (zrs a (zcs a w) p)) p)), .int (nI p)] [] υ := by
        intro υ g hl
        refine zloop 4 (fun p hp ih => ?_)
        refine zFix_in ?_
        refine pk_le 4 p (fun d => ?_) (fun d => ?_)
        · have ep : p = 4 := by omega
          rw [ep]
          exact hQ υ g
        · obtain ⟨y1, y2, y3, y4⟩ := x1_4 p d
          have B7 : ∀ y : Int32, nI (zbt (fun p => zpp (zrs a (zcs a w) p)) p) ||| y = nI (zbt (fun p => zpp (zrs a (zcs a w) p)) (p + 1)) → zFix (F_X12_deacons Q) 7 [.ref 75, .null, .null, .null, .int (nI p)] [.int y, .int (nI (zbt (fun p => zpp (zrs a (zcs a w) p)) p))] υ := by
            intro y hy
            refine zFix_in ?_
            show zFix (F_X12_deacons Q) 4 [.ref 75, .null, .null, .int (nI (zbt (fun p => zpp (zrs a (zcs a w) p)) p) ||| y), .int (nI p + 1)] [] υ
            rw [nI_1, hy]
            exact ih (p + 1) (by omega) (by omega)
          have n5 : ¬ zrs a (zcs a w) p → zFix (F_X12_deacons Q) 5 [.ref 75, .null, .null, .int (nI (zbt (fun p => zpp (zrs a (zcs a w) p)) p)), .int (nI p)] [] υ := fun z => zFix_in (zFix_in (e0 (B7 0 (by rw [or_0, zbt_s, zpp_0 z, Nat.zero_mul]; rfl))))
          refine And.intro (vp_in_nI (N := 4) d (by decide)) (And.intro (by show vp_in (nI p ^^^ 1) 4; rw [y1]; exact vp_in_nI y2 (by decide)) ?_)
          show (υ.1 87 (nI p).toNatClampNeg < υ.1 87 (nI p ^^^ 1).toNatClampNeg → zFix (F_X12_deacons Q) 5 [.ref 75, .null, .null, .int (nI (zbt (fun p => zpp (zrs a (zcs a w) p)) p)), .int (nI p)] [] υ) ∧ (¬ υ.1 87 (nI p).toNatClampNeg < υ.1 87 (nI p ^^^ 1).toNatClampNeg → vp_in (nI p) 4 ∧ vp_in (nI p ^^^ 2) 4 ∧ (υ.1 87 (nI p ^^^ 2).toNatClampNeg < υ.1 87 (nI p).toNatClampNeg → zFix (F_X12_deacons Q) 5 [.ref 75, .null, .null, .int (nI (zbt (fun p => zpp (zrs a (zcs a w) p)) p)), .int (nI p)] [] υ) ∧ (¬ υ.1 87 (nI p ^^^ 2).toNatClampNeg < υ.1 87 (nI p).toNatClampNeg → zFix (F_X12_deacons Q) 6 [.ref 75, .null, .null, .int (nI (zbt (fun p => zpp (zrs a (zcs a w) p)) p)), .int (nI p)] [.int 1] υ))
          rw [y1, y3, nI_clamp (by omega), nI_clamp (by omega), nI_clamp (by omega), hl p d, hl _ y2, hl _ y4]
          refine And.intro (fun z => n5 (fun q => q.1 z)) (fun z => ⟨vp_in_nI d (by decide), vp_in_nI y4 (by decide), fun z2 => n5 (fun q => q.2 z2), fun z2 => zFix_in (e1 (B7 _ ?_))⟩)
          rw [or_sh (by omega) (pl p), zbt_s, zpp_1 (show zrs a (zcs a w) p from ⟨z, z2⟩), Nat.one_mul]
      have L : ∀ p, p ≤ 4 → ∀ (υ : zM) (cl : Nat), zQM σ υ → zHd υ a (a 3) (a 4) (a 7) cl → (∀ q, q < p → υ.1 87 q = zle a (zcs a w) q) → zFix (F_X12_deacons Q) 1 [.ref 75, .int (nI w), .int (nI (a 8 0)), .int (nI p)] [] υ := by
        refine zloop 4 (fun p hp ih => ?_)
        intro υ cl g hd hl
        have hM' : zCM (υ.1 76) a := by rw [g.1 76 (by omega)]; exact hM
        refine zFix_in ?_
        refine pk_le 4 p (fun d => ?_) (fun d => ?_)
        · exact E υ g (fun q hq => hl q (by omega)) 0 (Nat.zero_le _)
        · obtain ⟨b1, b2⟩ := zb_4 p d
          have lt1 := zdb_lt (a := a) (b := 0) hn
          have lt2 := zdb_lt (a := a) (b := 1) hn
          have ld := zdc_lt (p := p) hW 2
          have B3 : ∀ y : Int32, nI (zdc a p 1) ||| y = nI (zdc a p 2) → zFix (F_X12_deacons Q) 3 [.ref 75, .int (nI w), .int (nI (a 8 0)), .int (nI p)] [.int y, .int (nI (zdc a p 1)), .ref 75] υ := by
            intro y hy
            refine zFix_in ?_
            show T_X12_loudOf [.ref 75, .int (nI w), .int (nI 0)] (zput υ 75 9 (nI (zdc a p 1) ||| y)) _
            rw [hy]
            have h1 := zHd_c (v := zdc a p 2) hd
            have hM2 : zCM ((zput υ 75 9 (nI (zdc a p 2))).1 76) a := hM'
            refine r_loud (b := 0) hW hM2 h1 k1 k2 hw (by decide) (by omega) ?_
            refine r_loud (b := 1) hW hM2 h1 k1 k2 hw (by decide) (by omega) ?_
            refine And.intro (vp_in_nI (N := 4) d (by decide)) ?_
            show zFix (F_X12_deacons Q) 1 [.ref 75, .int (nI w), .int (nI (a 8 0)), .int (nI p + 1)] [] (zput (zput υ 75 9 (nI (zdc a p 2))) 87 (nI p).toNatClampNeg (zle a (zcs a w) p))
            rw [nI_1, nI_clamp (by omega)]
            refine ih (p + 1) (by omega) (by omega) _ (zdc a p 2) (g.tr ⟨fun k hk => by rw [zput_ne (by omega), zput_ne (by omega)], rfl, rfl⟩) ⟨h1.1, fun f hf => h1.2 f hf⟩ (fun q hq => ?_)
            rw [zputj]
            by_cases e : q = p
            · rw [if_pos e, e]
            · rw [if_neg e]
              exact hl q (by omega)
          have es1 : zdc a p 1 = a 8 0 ||| (if zb p 0 = 1 then zdb a 0 else 0) := rfl
          have es2 : zdc a p 2 = zdc a p 1 ||| (if zb p 1 = 1 then zdb a 1 else 0) := rfl
          have B2 : ∀ y : Int32, nI (a 8 0) ||| y = nI (zdc a p 1) → zFix (F_X12_deacons Q) 2 [.ref 75, .int (nI w), .int (nI (a 8 0)), .int (nI p)] [.int y, .int (nI (a 8 0)), .ref 75] υ := by
            intro y hy
            refine zFix_in ?_
            show (nI p ≤ 1 → zFix (F_X12_deacons Q) 3 [.ref 75, .int (nI w), .int (nI (a 8 0)), .int (nI p)] [.int 0, .int (nI (a 8 0) ||| y), .ref 75] υ) ∧ (¬ nI p ≤ 1 → T_X12_deaconOf [.ref 75, .int (nI 1)] υ (fun v τ => i_jmp (zFix (F_X12_deacons Q)) 3 [true, true, true, true] [.ref 75, .int (nI w), .int (nI (a 8 0)), .int (nI p)] (zvl v [.int (nI (a 8 0) ||| y), .ref 75]) τ))
            rw [hy]
            refine pk_le p 1 (fun z => B3 0 ?_) (fun z => r_deaconOf hW hM' (by decide) (B3 _ ?_))
            · rw [or_0, es2, if_neg (fun q => by have := b2.mp q; omega), Nat.or_zero]
            · rw [nI_or, es2, if_pos (b2.mpr z)]
          refine And.intro (fun z => B2 0 ?_) (fun z => r_deaconOf hW hM' (by decide) (B2 _ ?_))
          · rw [or_0, es1, if_neg (fun q => z (b1.mp q)), Nat.or_zero]
          · rw [nI_or, es1, if_pos (b1.mpr z)]
      show zFix (F_X12_deacons Q) 1 [.ref 75, .int (nI w), .int (τ.1 75 9), .int (nI 0)] [] τ
      rw [hd.1]
      exact L 0 (Nat.zero_le _) τ _ fr.Q hd (fun q hq => absurd hq (Nat.not_lt_zero q))
  · exact zPr_bad (j := 0) h (fun Q hQ => ⟨rfl, zFix_in (noW nv (n0 (t_refBad hQ)))⟩) (fun τ Q _ hQ => ⟨rfl, zFix_in (noWr nv (n0 (r_bad hQ)))⟩)
end
