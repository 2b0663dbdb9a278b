/-! Holding a church; what the service then answers. -/
def zSF (σ τ : zM) : Prop := (∀ x, x ≠ 53 → (x < 61 ∨ 67 < x) → τ.1 x = σ.1 x) ∧ τ.2 = σ.2
theorem zSF.rf {σ : zM} : zSF σ σ := ⟨fun _ _ _ => rfl, rfl⟩
theorem zSF.tr {σ τ υ : zM} (h : zSF σ τ) (g : zSF τ υ) : zSF σ υ := ⟨fun k h1 h2 => (g.1 k h1 h2).trans (h.1 k h1 h2), g.2.trans h.2⟩
theorem zSF.Q {σ τ : zM} (h : zSF σ τ) : zQX σ τ := ⟨fun k hk => h.1 k (by omega) (by omega), by rw [h.1 51 (by decide) (by decide)], h.2⟩
theorem zSF.X {σ τ : zM} {a : zA} (h : zSF σ τ) (c : zCX 1 σ a) : zCX 1 τ a := c.eq (fun k h1 h2 => h.1 k (by omega) (by omega))
def zSvR (τ : zM) (a : zA) (kd bk : Nat → Nat) (f : Nat) : Prop := τ.1 61 f = nI (bk f) ∧ τ.1 62 f = nI (a 7 f) ∧ ∀ c, c < 4 → τ.1 63 (f * 4 + c) = nI (zKn kd bk f c) ∧ τ.1 64 (f * 4 + c) = nI (zHi a kd bk f c) ∧ τ.1 65 (f * 4 + c) = nI (zSo a kd bk f c)
def zSv (τ : zM) (a : zA) (kd bk : Nat → Nat) : Prop := τ.1 53 1 = nI (a 2 0) ∧ τ.1 53 2 = nI (a 0 0) ∧ (∀ w, w < 16 → τ.1 66 w = nI (zcs a w)) ∧ (∀ c, c < 4 → τ.1 67 c = nI (zwc a c 16)) ∧ ∀ f, f < a 2 0 → zSvR τ a kd bk f
def zuN (g : Nat → Nat) (f v : Nat) : Nat → Nat := fun x => if x = f then v else g x
theorem zuN_s {g : Nat → Nat} {f v : Nat} : zuN g f v f = v := by simp [zuN]
theorem zuN_n {g : Nat → Nat} {f v x : Nat} (h : x ≠ f) : zuN g f v x = g x := by simp [zuN, h]
theorem zSup.F {σ τ : zM} {f k b tl v : Nat} (h : zSup σ τ f k b tl v) : zSF σ τ := ⟨fun x h1 h2 => h.1 x (by omega) (by omega) (by omega) (by omega), h.2.1⟩
theorem zSup.row {σ τ : zM} {a : zA} {kd bk : Nat → Nat} {f k b g : Nat} (h : zSup σ τ f k b (a 5 f) (a 6 f)) (h62 : σ.1 62 f = nI (a 7 f)) (hr : g ≠ f → zSvR σ a kd bk g) : zSvR τ a (zuN kd f k) (zuN bk f b) g := by
  obtain ⟨h1, h2, h3, h4, h5, h6⟩ := h
  by_cases e : g = f
  · subst e
    refine ⟨by rw [zuN_s]; exact h4, by rw [h1 62 (by decide) (by decide) (by decide) (by decide)]; exact h62, fun c hc => ?_⟩
    unfold zHi zSo zKn
    rw [zuN_s, zuN_s]
    exact h6 c hc
  · obtain ⟨r1, r2, r3⟩ := hr e
    refine ⟨by rw [zuN_n e, h3 g e]; exact r1, by rw [h1 62 (by decide) (by decide) (by decide) (by decide)]; exact r2, fun c hc => ?_⟩
    unfold zHi zSo zKn
    rw [zuN_n e, zuN_n e, h5 63 (by decide) _ (by omega), h5 64 (by decide) _ (by omega), h5 65 (by decide) _ (by omega)]
    exact r3 c hc
theorem t_supposeS {a : zA} {kd bk : Nat → Nat} {f k b : Nat} {σ : zM} {Q : zQ} (hW : zWF a) (hX : zCX 1 σ a) (hS : zSv σ a kd bk) (hf : f < a 2 0) (hk : k < 6) (hb : b < 2) (h : ∀ τ : zM, zSF σ τ → zSv τ a (zuN kd f k) (zuN bk f b) → Q none τ) : T_X8_suppose [.ref 53, .ref 1, .int (nI f), .int (nI k), .int (nI b)] σ Q := by
  have w := hW.2.2.2.1 f hf
  have x := hX.2.2.2.1 f hf
  refine t_suppose (Nat.lt_of_lt_of_le hf hW.1) hk hb (tl := a 5 f) (v := a 6 f) (by omega) (by omega) x.2.2.1 x.2.2.2.1 (fun τ s => h τ s.F ?_)
  obtain ⟨s1, s2, s3, s4, s5⟩ := hS
  have e := s.1
  refine ⟨by rw [e 53 (by decide) (by decide) (by decide) (by decide)]; exact s1, by rw [e 53 (by decide) (by decide) (by decide) (by decide)]; exact s2, fun w hw => by rw [e 66 (by decide) (by decide) (by decide) (by decide)]; exact s3 w hw, fun c hc => by rw [e 67 (by decide) (by decide) (by decide) (by decide)]; exact s4 c hc, fun g hg => s.row (s5 f hf).2.1 (fun _ => s5 g hg)⟩
theorem zcs_or : ∀ x, x < 2 → ∀ y, y < 2 → nI x ||| nI y <<< ((1 : Int32) &&& 31) = nI (x + 2 * y) := by decide +kernel
theorem t_hold {a : zA} {σ : zM} {Q : zQ} (hW : zWF a) (hX : zCX 1 σ a) (h : ∀ τ : zM, zSF σ τ → zSv τ a (a 3) (a 4) → Q none τ) : T_X8_hold [.ref 53, .ref 1] σ Q := by
  -- the families
  have L2 : ∀ f, f ≤ a 2 0 → ∀ τ : zM, zSF σ τ → τ.1 53 1 = nI (a 2 0) → τ.1 53 2 = nI (a 0 0) → (∀ w, w < 16 → τ.1 66 w = nI (zcs a w)) → (∀ c, c < 4 → τ.1 67 c = nI (zwc a c 16)) → (∀ g, g < f → zSvR τ a (a 3) (a 4) g) → zFix (F_X8_hold Q) 2 [.ref 53, .ref 1, .int (nI f)] [] τ := by
    refine zloop (a 2 0) (fun f hf ih => ?_)
    intro τ i1 i2 i3 i4 i5 i6
    have hn := hW.1
    refine zFix_in ?_
    refine pk_le (a 2 0) f (fun q => ?_) (fun q => ?_) i2 rfl
    · exact h τ i1 ⟨i2, i3, i4, i5, fun g hg => i6 g (by omega)⟩
    · have hX' := i1.X hX
      have x := hX'.2.2.2.1 f q
      have w := hW.2.2.2.1 f q
      refine And.intro (vp_in_nI (N := 7) (by omega) (by decide)) ?_
      refine And.intro (vp_in_nI (N := 7) (by omega) (by decide)) ?_
      rw [nI_clamp (by omega)]
      refine And.intro (vp_in_nI (N := 7) (by omega) (by decide)) ?_
      rw [nI_clamp (by omega)]
      refine And.intro (vp_in_nI (N := 7) (by omega) (by decide)) ?_
      rw [nI_clamp (by omega)]
      rw [show (zput τ 62 f (τ.1 7 f)).1 3 f = nI (a 3 f) from x.1, show (zput τ 62 f (τ.1 7 f)).1 4 f = nI (a 4 f) from x.2.1, show τ.1 7 f = nI (a 7 f) from x.2.2.2.2]
      refine t_suppose (by omega) w.1 w.2.1 (tl := a 5 f) (v := a 6 f) (by omega) (by omega) x.2.2.1 x.2.2.2.1 (fun υ s => ?_)
      have e := s.1
      have f62 : zSF τ (zput τ 62 f (nI (a 7 f))) := ⟨fun y h1 h2 => zput_ne (by omega), rfl⟩
      show zFix (F_X8_hold Q) 2 [.ref 53, .ref 1, .int (nI f + 1)] [] υ
      rw [nI_1]
      refine ih (f + 1) (by omega) (by omega) υ ((i1.tr f62).tr s.F) (by rw [e 53 (by decide) (by decide) (by decide) (by decide)]; exact i2) (by rw [e 53 (by decide) (by decide) (by decide) (by decide)]; exact i3) (fun w hw => by rw [e 66 (by decide) (by decide) (by decide) (by decide)]; exact i4 w hw) (fun c hc => by rw [e 67 (by decide) (by decide) (by decide) (by decide)]; exact i5 c hc) (fun g hg => ?_)
      have rr := s.row (a := a) (kd := a 3) (bk := a 4) (g := g) zput_s (fun ne => by
        obtain ⟨r1, r2, r3⟩ := i6 g (by omega)
        exact ⟨r1, by rw [zput_u ne]; exact r2, r3⟩)
      have e3 : zuN (a 3) f (a 3 f) = a 3 := by funext y; unfold zuN; split <;> simp_all
      have e4 : zuN (a 4) f (a 4 f) = a 4 := by funext y; unfold zuN; split <;> simp_all
      rw [e3, e4] at rr
      exact rr
  -- the words
  have L1 : ∀ w, w ≤ 16 → ∀ τ : zM, zSF σ τ → τ.1 53 1 = nI (a 2 0) → τ.1 53 2 = nI (a 0 0) → (∀ v, v < w → τ.1 66 v = nI (zcs a v)) → (∀ c, c < 4 → τ.1 67 c = nI (zwc a c w)) → zFix (F_X8_hold Q) 1 [.ref 53, .ref 1, .int (nI w)] [] τ := by
    refine zloop 16 (fun w hw ih => ?_)
    intro τ i1 i2 i3 i4 i5
    have hB := hW.2.2.1
    have hX' := (i1.X hX).2.1
    refine zFix_in ?_
    refine pk_le 16 w (fun q => ?_) (fun q => ?_)
    · have ew : w = 16 := by omega
      subst ew
      exact L2 0 (Nat.zero_le _) τ i1 i2 i3 i4 i5 (fun g hg => absurd hg (Nat.not_lt_zero g))
    · refine And.intro (vp_in_nI (n := 0) (N := 2) (by decide) (by decide)) ?_
      rw [show τ.1 2 (0 : Int32).toNatClampNeg = nI (a 1 0) from hX' 0 (by decide)]
      have b0 := hB 0 (by decide)
      have b1 := hB 1 (by decide)
      refine t_X11_bit (by omega) (by omega) ?_
      refine And.intro (vp_in_nI (n := 1) (N := 2) (by decide) (by decide)) ?_
      rw [show τ.1 2 (1 : Int32).toNatClampNeg = nI (a 1 1) from hX' 1 (by decide)]
      refine t_X11_bit (by omega) (by omega) ?_
      refine And.intro (vp_in_nI (N := 16) (by omega) (by decide)) ?_
      rw [nI_clamp (by omega)]
      rw [zcs_or _ (zb_lt _ _) _ (zb_lt _ _)]
      have hc := zcs_lt a w
      refine And.intro (vp_in_nI (N := 16) (by omega) (by decide)) ?_
      rw [nI_clamp (by omega), zput_s]
      refine And.intro (vp_in_nI (N := 4) hc (by decide)) ?_
      rw [show nI (zb (a 1 0) w + 2 * zb (a 1 1) w) = nI (zcs a w) from rfl, nI_clamp (by omega), show (zput τ 66 w (nI (zcs a w))).1 67 (zcs a w) = nI (zwc a (zcs a w) w) from i5 _ hc]
      refine And.intro (vp_in_nI (N := 4) hc (by decide)) ?_
      rw [nI_clamp (by omega)]
      show zFix (F_X8_hold Q) 1 [.ref 53, .ref 1, .int (nI w + 1)] [] _
      rw [nI_1, nI_1]
      refine ih (w + 1) (by omega) (by omega) _ ⟨fun y h1 h2 => ?_, i1.2⟩ i2 i3 (fun v hv => ?_) (fun c h4 => ?_)
      · rw [zput_ne (show y ≠ 67 by omega), zput_ne (show y ≠ 66 by omega)]; exact i1.1 y h1 h2
      · rw [zput_ne (by decide)]
        by_cases e : v = w
        · rw [e]; exact zput_s
        · rw [zput_u e]; exact i4 v (by omega)
      · by_cases e : c = zcs a w
        · rw [e, zput_s]
          show _ = nI (zwc a (zcs a w) w + (if zcs a w = zcs a w then 1 else 0))
          rw [if_pos rfl]
        · rw [zput_u e, zput_ne (by decide), i5 c h4]
          show _ = nI (zwc a c w + (if zcs a w = c then 1 else 0))
          rw [if_neg (fun q => e q.symm)]
          rfl
  refine ⟨rfl, zFix_in ?_⟩
  refine t_fill (o := 67) (N := 4) rfl (by decide) (by decide) (fun τ e1 e2 e3 => ?_)
  refine L1 0 (Nat.zero_le _) τ ⟨fun y h1 h2 => ?_, e2⟩ ?_ ?_ (fun v hv => absurd hv (Nat.not_lt_zero v)) (fun c hc => e3 c hc)
  · rw [e1 y (by omega), zput_ne h1, zput_ne h1]
  · rw [e1 53 (by decide)]; exact hX.2.2.1
  · rw [e1 53 (by decide)]; exact hX.1
