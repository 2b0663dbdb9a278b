/-! Pair: next. -/
noncomputable def zak (a : zA) (c l : Nat) : Nat → Nat := zsu (fun t => if zmy a t = 1 ∧ zLd a (a 3) (a 4) t c 0 (a 2 0) = l then 1 else 0)
noncomputable def zmo (a : zA) (c : Nat) : Nat → Nat
  | 0 => 0
  | s + 1 => if zmy a s = 1 then (if zmo a c s < zak a c (zLd a (a 3) (a 4) s c 0 (a 2 0)) (s + 1) then zak a c (zLd a (a 3) (a 4) s c 0 (a 2 0)) (s + 1) else zmo a c s) else zmo a c s
theorem zak_le {a : zA} {c l : Nat} (s : Nat) : zak a c l s ≤ s := by
  have := zsu_le (g := fun t => if zmy a t = 1 ∧ zLd a (a 3) (a 4) t c 0 (a 2 0) = l then 1 else 0) (m := 1) (n := s) (fun i _ => by split <;> omega)
  unfold zak
  omega
theorem zmo_le {a : zA} {c : Nat} : ∀ s, zmo a c s ≤ s
  | 0 => Nat.le_refl _
  | s + 1 => by
    have h1 := zmo_le (a := a) (c := c) s
    have h2 := zak_le (a := a) (c := c) (l := zLd a (a 3) (a 4) s c 0 (a 2 0)) (s + 1)
    unfold zmo
    (repeat' split) <;> omega
theorem zmo_hi {a : zA} {c : Nat} : ∀ {s : Nat}, 2 ^ a 2 0 ≤ s → zmo a c s = zmo a c (2 ^ a 2 0) := by
  intro s
  induction s with
  | zero => intro h; exact absurd h (Nat.not_le.mpr (Nat.two_pow_pos _))
  | succ s ih =>
    intro h
    by_cases e : 2 ^ a 2 0 = s + 1
    · rw [e]
    · have z := zmy_hi (a := a) (s := s) (by omega)
      rw [← ih (by omega)]
      show (if _ then _ else _) = _
      rw [z, if_neg (by decide)]
theorem zak_s {a : zA} {c l s : Nat} : zak a c l (s + 1) = zak a c l s + (if zmy a s = 1 ∧ zLd a (a 3) (a 4) s c 0 (a 2 0) = l then 1 else 0) := rfl
noncomputable def zMo (a : zA) (c : Nat) : Nat := zmo a c (2 ^ a 2 0)
/-- the best word of the first ones -/
noncomputable def zbw (a : zA) : Nat → Nat
  | 0 => 200
  | w + 1 => if zbw a w = 200 ∨ zMo a (zcs a w) < zMo a (zcs a (zbw a w)) then w else zbw a w
def zIB (a : zA) (S : Nat → Prop) (w : Nat) : Prop := w < 16 ∧ S w ∧ ∀ v, v < 16 → S v → zMo a (zcs a w) < zMo a (zcs a v) ∨ (zMo a (zcs a w) = zMo a (zcs a v) ∧ w ≤ v)
theorem zbw_p (a : zA) : ∀ w, 1 ≤ w → w ≤ 16 → zIB a (fun v => v < w) (zbw a w) := by
  intro w
  induction w with
  | zero => intro h; omega
  | succ w ih =>
    intro _ h
    by_cases e : w = 0
    · subst e
      have : zbw a (0 + 1) = 0 := by
        show (if _ then _ else _) = _
        rw [if_pos (Or.inl (show zbw a 0 = 200 from rfl))]
      rw [this]
      refine ⟨by decide, by decide, fun v _ h2 => ?_⟩
      have h2 : v < 0 + 1 := h2
      have ev : v = 0 := by omega
      rw [ev]
      exact Or.inr ⟨rfl, Nat.le_refl _⟩
    · obtain ⟨i1, i2, i3⟩ := ih (by omega) (by omega)
      have i2 : zbw a w < w := i2
      by_cases c : zMo a (zcs a w) < zMo a (zcs a (zbw a w))
      · have : zbw a (w + 1) = w := by
          show (if _ then _ else _) = _
          rw [if_pos (Or.inr c)]
        rw [this]
        refine ⟨by omega, by show w < w + 1; omega, fun v h1 h2 => ?_⟩
        have h2 : v < w + 1 := h2
        by_cases ev : v = w
        · rw [ev]; exact Or.inr ⟨rfl, Nat.le_refl _⟩
        · rcases i3 v h1 (by show v < w; omega) with z | z
          · exact Or.inl (by omega)
          · exact Or.inl (by omega)
      · have : zbw a (w + 1) = zbw a w := by
          show (if _ then _ else _) = _
          rw [if_neg (by omega)]
        rw [this]
        refine ⟨by omega, by show zbw a w < w + 1; omega, fun v h1 h2 => ?_⟩
        have h2 : v < w + 1 := h2
        by_cases ev : v = w
        · rw [ev]; omega
        · exact i3 v h1 (by show v < w; omega)
theorem zIB_u {a : zA} {S : Nat → Prop} {w v : Nat} (h : zIB a S w) (g : zIB a S v) : w = v := by
  rcases h.2.2 v g.1 g.2.1 with z | z <;> rcases g.2.2 w h.1 h.2.1 with y | y <;> omega
theorem t_mostAlike {a : zA} {c : Nat} {σ : zM} {Q : zQ} (hW : zWF a) (hS : zSv σ a (a 3) (a 4)) (hc : c < 4) (e2 : σ.1 71 2 = nI (2 ^ a 2 0)) (e72 : ∀ s, s < 2 ^ a 2 0 → σ.1 72 s = nI (zmy a s)) (h : ∀ τ : zM, (∀ k, k ≠ 73 → τ.1 k = σ.1 k) → τ.2 = σ.2 → Q (some (.int (nI (zMo a c)))) τ) : T_X3_mostAlike [.ref 71, .ref 53, .int (nI c)] σ Q := by
  have hn := hW.1
  have h2n := p2_128 hn
  obtain ⟨k1, k2, k3⟩ := c_ok hW
  refine ⟨rfl, zFix_in (t_fill (o := 73) (N := 141) rfl (by decide) (by decide) (fun τ0 f1 f2 f3 => ?_))⟩
  have L : ∀ s, s ≤ 2 ^ a 2 0 → ∀ τ : zM, (∀ k, k ≠ 73 → τ.1 k = σ.1 k) → τ.2 = σ.2 → (∀ l, l < 141 → τ.1 73 l = nI (zak a c l s)) → zFix (F_X3_mostAlike Q) 1 [.ref 71, .ref 53, .int (nI c), .int (nI (zmo a c s)), .int (nI s)] [] τ := by
    refine zloop (2 ^ a 2 0) (fun s hs ih => ?_)
    intro τ g1 g2 g3
    have hS' := hS.eq (τ := τ) (fun k h1 h2 => g1 k (by omega))
    refine zFix_in ?_
    refine pk_le (2 ^ a 2 0) s (fun d => ?_) (fun d => ?_) (by show τ.1 71 2 = _; rw [g1 71 (by decide)]; exact e2) rfl
    · have es : s = 2 ^ a 2 0 := by omega
      subst es
      exact h τ g1 g2
    · refine And.intro (vp_in_nI (N := 128) (by omega) (by decide)) ?_
      have B2 : ∀ (υ : zM) (x : Int32), x = nI (zmo a c (s + 1)) → (∀ k, k ≠ 73 → υ.1 k = τ.1 k) → υ.2 = τ.2 → (∀ l, l < 141 → υ.1 73 l = nI (zak a c l (s + 1))) → zFix (F_X3_mostAlike Q) 2 [.ref 71, .ref 53, .int (nI c), .int x, .int (nI s)] [] υ := by
        intro υ x hx u1 u2 u3
        refine zFix_in ?_
        show zFix (F_X3_mostAlike Q) 1 [.ref 71, .ref 53, .int (nI c), .int x, .int (nI s + 1)] [] υ
        rw [nI_1, hx]
        exact ih (s + 1) (by omega) (by omega) υ (fun k hk => (u1 k hk).trans (g1 k hk)) (u2.trans g2) u3
      have ml := @zmy_le a s
      have em : zmo a c (s + 1) = if zmy a s = 1 then (if zmo a c s < zak a c (zLd a (a 3) (a 4) s c 0 (a 2 0)) (s + 1) then zak a c (zLd a (a 3) (a 4) s c 0 (a 2 0)) (s + 1) else zmo a c s) else zmo a c s := rfl
      show (τ.1 72 (nI s).toNatClampNeg = 0 → zFix (F_X3_mostAlike Q) 2 [.ref 71, .ref 53, .int (nI c), .int (nI (zmo a c s)), .int (nI s)] [] τ) ∧ (¬ τ.1 72 (nI s).toNatClampNeg = 0 → _)
      rw [nI_clamp (by omega), g1 72 (by decide), e72 s d]
      rcases (show zmy a s = 0 ∨ zmy a s = 1 by omega) with z | z
      · rw [z]
        refine e0 (B2 τ _ ?_ (fun _ _ => rfl) rfl (fun l hl => ?_))
        · rw [em, z, if_neg (by decide)]
        · rw [g3 l hl, zak_s, z, if_neg (fun y => by omega), Nat.add_zero]
      · rw [z]
        refine e1 ?_
        have ll := @zLd_lt a (a 3) (a 4) s c 0 hW
        refine t_loudC (b := 0) hW hS' k2 hc (by decide) (by omega) ?_
        generalize hl : zLd a (a 3) (a 4) s c 0 (a 2 0) = l0 at ll em
        refine And.intro (vp_in_nI (N := 141) (by omega) (by decide)) (And.intro (vp_in_nI (N := 141) (by omega) (by decide)) (And.intro (vp_in_nI (N := 141) (by omega) (by decide)) ?_))
        show zFix (F_X3_mostAlike Q) 2 [.ref 71, .ref 53, .int (nI c), .int (if nI (zmo a c s) < (zput τ 73 (nI l0).toNatClampNeg (τ.1 73 (nI l0).toNatClampNeg + 1)).1 73 (nI l0).toNatClampNeg then (zput τ 73 (nI l0).toNatClampNeg (τ.1 73 (nI l0).toNatClampNeg + 1)).1 73 (nI l0).toNatClampNeg else nI (zmo a c s)), .int (nI s)] [] (zput τ 73 (nI l0).toNatClampNeg (τ.1 73 (nI l0).toNatClampNeg + 1))
        rw [nI_clamp (by omega), zput_s, g3 l0 (by omega), nI_1]
        have ea : zak a c l0 (s + 1) = zak a c l0 s + 1 := by rw [zak_s, if_pos ⟨z, hl⟩]
        rw [← ea]
        have l1 := zmo_le (a := a) (c := c) s
        have l2 := zak_le (a := a) (c := c) (l := l0) (s + 1)
        refine B2 _ _ ?_ (fun k hk => zput_ne hk) rfl (fun l hl2 => ?_)
        · rw [em, z, if_pos rfl]
          by_cases q : zmo a c s < zak a c l0 (s + 1)
          · rw [if_pos q, if_pos ((nI_ltI (by omega) (by omega)).mpr q)]
          · rw [if_neg q, if_neg (fun y => q ((nI_ltI (by omega) (by omega)).mp y))]
        · rw [zputj]
          by_cases q : l = l0
          · rw [if_pos q, q]
          · rw [if_neg q, g3 l hl2, zak_s, if_neg (fun y => q (by rw [← y.2, hl])), Nat.add_zero]
  exact L 0 (Nat.zero_le _) τ0 f1 f2 (fun l hl => f3 l hl)
theorem t_firstW {a : zA} {c : Nat} {σ : zM} {Q : zQ} (hS : zSv σ a (a 3) (a 4)) (hc : c < 4) (h1 : ∀ w, w < 16 → zcs a w = c → (∀ v, v < w → zcs a v ≠ c) → Q (some (.int (nI w))) σ) (h0 : (∀ v, v < 16 → zcs a v ≠ c) → Q (some (.int (-1))) σ) : T_X3_firstWordOf [.ref 53, .int (nI c)] σ Q := by
  have L : ∀ w, w ≤ 16 → (∀ v, v < w → zcs a v ≠ c) → zFix (F_X3_firstWordOf Q) 1 [.ref 53, .int (nI c), .int (nI w)] [] σ := by
    refine zloop 16 (fun w hw ih => ?_)
    intro inv
    refine zFix_in ?_
    refine pk_le 16 w (fun d => ?_) (fun d => ?_)
    · exact h0 (fun v hv => inv v (by omega))
    · refine And.intro (vp_in_nI (N := 16) d (by decide)) ?_
      have l := zcs_lt a w
      show (¬ σ.1 66 (nI w).toNatClampNeg = nI c → zFix (F_X3_firstWordOf Q) 1 [.ref 53, .int (nI c), .int (nI w + 1)] [] σ) ∧ (σ.1 66 (nI w).toNatClampNeg = nI c → Q (some (.int (nI w))) σ)
      rw [nI_clamp (by omega), hS.2.2.1 w d, nI_1]
      refine And.intro (fun z => ih (w + 1) (by omega) (by omega) (fun v hv => ?_)) (fun z => h1 w d (nI_inj (by omega) (by omega) z) inv)
      by_cases e : v = w
      · rw [e]; intro y; exact z (by rw [y])
      · exact inv v (by omega)
  exact ⟨rfl, zFix_in (L 0 (Nat.zero_le _) (fun v hv => absurd hv (Nat.not_lt_zero v)))⟩
section
variable {σ : zM}
theorem zMo_le {a : zA} {c : Nat} (hn : a 2 0 ≤ 7) : zMo a c ≤ 128 := Nat.le_trans (zmo_le _) (p2_128 hn)
theorem p_next (h : zR σ) : zPr T_X11_next T_X12_next [] σ := by
  refine zPr_q (r := fun a => if zsu (zmy a) (2 ^ a 2 0) = 0 then -1 else nI (zbw a 16)) h (fun a Q hW hX hQ => ?_) (fun a σ Q hW hM hQ => ?_)
  · have hn := hW.1
    have h2n := p2_128 hn
    have lc := @zcn_le a (2 ^ a 2 0)
    have ml : ∀ c, zMo a c ≤ 128 := fun c => zMo_le hn
    refine ⟨rfl, zFix_in (t_hold hW hX (fun τ fr s => ?_))⟩
    refine t_find hW (fr.X hX) s (fun υ fd => ?_)
    obtain ⟨f1, f2, f3, f4, f5, f6, f7⟩ := fd
    have s' := s.eq (τ := υ) (fun k h1 h2 => f1 k (by omega) (by omega) (by omega))
    have qx : zQX σ υ := fr.Q.tr ⟨fun k hk => f1 k (by omega) (by omega) (by omega), by rw [f1 51 (by decide) (by decide) (by decide)], f2⟩
    refine ⟨rfl, zFix_in ?_⟩
    show (¬ υ.1 71 3 = 0 → zFix (F_X3_bestWord _) 1 [.ref 71, .ref 53, .int (-1), .int (nI 0), .int (nI 0)] [] υ) ∧ (υ.1 71 3 = 0 → Q (some (.int (-1))) υ)
    rw [f4]
    refine And.intro (fun z => ?_) (fun z => ?_)
    · have nz : ¬ zsu (zmy a) (2 ^ a 2 0) = 0 := fun y => z (by rw [y]; rfl)
      have hQ : ∀ τ, zQX σ τ → Q (some (.int (nI (zbw a 16)))) τ := fun τ q => by
        have := hQ τ q
        rw [if_neg nz] at this
        exact this
      have L : ∀ c, c ≤ 4 → ∀ (τ : zM) (b m : Nat), (∀ k, k ≠ 73 → τ.1 k = υ.1 k) → τ.2 = υ.2 → ((b = 200 ∧ (∀ v, v < 16 → c ≤ zcs a v)) ∨ (zIB a (fun v => zcs a v < c) b ∧ m = zMo a (zcs a b))) → m ≤ 128 → zFix (F_X3_bestWord (fun v τ => (i_ir Q) [.ref 0] (zvl v []) τ)) 1 [.ref 71, .ref 53, .int (zen b), .int (nI m), .int (nI c)] [] τ := by
        refine zloop 4 (fun c hc ih => ?_)
        intro τ b m g1 g2 inv lm
        have sτ := s'.eq (τ := τ) (fun k h1 h2 => g1 k (by omega))
        refine zFix_in ?_
        refine pk_le 4 c (fun d => ?_) (fun d => ?_)
        · have ec : c = 4 := by omega
          subst ec
          rcases inv with ⟨_, i2⟩ | ⟨i1, _⟩
          · exact absurd (i2 0 (by decide)) (by have := zcs_lt a 0; omega)
          · have ib := zbw_p a 16 (by decide) (by decide)
            have eq : b = zbw a 16 := zIB_u (S := fun v => v < 16) ⟨i1.1, i1.1, fun v h1 _ => i1.2.2 v h1 (zcs_lt a v)⟩ ib
            have hb := i1.1
            show Q (some (.int (zen b))) τ
            rw [zen_n (by omega), eq]
            exact hQ τ (qx.tr ⟨fun k hk => g1 k (by omega), by rw [g1 51 (by decide)], g2⟩)
        · have rb : b < 128 ∨ b = 200 := by
            rcases inv with ⟨i1, _⟩ | ⟨i1, _⟩
            · exact Or.inr i1
            · have := i1.1; omega
          have B6 : ∀ (τ' : zM) (b' m' : Nat), (∀ k, k ≠ 73 → τ'.1 k = υ.1 k) → τ'.2 = υ.2 → ((b' = 200 ∧ (∀ v, v < 16 → c + 1 ≤ zcs a v)) ∨ (zIB a (fun v => zcs a v < c + 1) b' ∧ m' = zMo a (zcs a b'))) → m' ≤ 128 → zFix (F_X3_bestWord (fun v τ => (i_ir Q) [.ref 0] (zvl v []) τ)) 6 [.ref 71, .ref 53, .int (zen b'), .int (nI m'), .int (nI c)] [] τ' := by
            intro τ' b' m' h1 h2 h3 h4
            refine zFix_in ?_
            show zFix (F_X3_bestWord _) 1 [.ref 71, .ref 53, .int (zen b'), .int (nI m'), .int (nI c + 1)] [] τ'
            rw [nI_1]
            exact ih (c + 1) (by omega) (by omega) τ' b' m' h1 h2 h3 h4
          refine t_firstW sτ d (fun w hw ew fw => ?_) (fun no => ?_)
          · refine And.intro (fun _ => ?_) (fun z => absurd ((zen_m (x := w) (by omega)).mp (by rw [zen_n (by omega)]; exact z)) (by omega))
            refine t_mostAlike hW sτ d (by rw [g1 71 (by decide)]; exact f3) (fun s hs => by rw [g1 72 (by decide)]; exact f7 s hs) (fun τ2 k1 k2 => ?_)
            have mlc := ml c
            have g1' : ∀ k, k ≠ 73 → τ2.1 k = υ.1 k := fun k hk => (k1 k hk).trans (g1 k hk)
            have B5 : ∀ t, t < 2 → (t = 1 ↔ (b = 200 ∨ zMo a c < m ∨ (zMo a c = m ∧ w < b))) → zFix (F_X3_bestWord (fun v τ => (i_ir Q) [.ref 0] (zvl v []) τ)) 5 [.ref 71, .ref 53, .int (zen b), .int (nI m), .int (nI c), .int (nI w), .int (nI (zMo a c))] [.int (nI t)] τ2 := by
              intro t ht it
              refine zFix_in ?_
              refine And.intro (fun z => absurd ((zen_m (x := w) (by omega)).mp (by rw [zen_n (by omega)]; exact z)) (by omega)) (fun _ => ?_)
              have sp : ∀ v, v < 16 → zcs a v = c → zMo a c < zMo a (zcs a v) ∨ (zMo a c = zMo a (zcs a v) ∧ w ≤ v) := fun v hv ev => Or.inr ⟨by rw [ev], by
                by_cases q : w ≤ v
                · exact q
                · exact absurd ev (fw v (by omega))⟩
              rcases (show t = 0 ∨ t = 1 by omega) with rfl | rfl
              · refine e0 (B6 τ2 b m g1' (k2.trans g2) ?_ lm)
                have nb : ¬ (b = 200 ∨ zMo a c < m ∨ (zMo a c = m ∧ w < b)) := fun y => absurd (it.mpr y) (by decide)
                rcases inv with ⟨i1, _⟩ | ⟨i1, i2⟩
                · exact absurd (Or.inl i1) nb
                · refine Or.inr ⟨⟨i1.1, by have := i1.2.1; show zcs a b < c + 1; have : zcs a b < c := this; omega, fun v h1 h2 => ?_⟩, i2⟩
                  have h2 : zcs a v < c + 1 := h2
                  by_cases q : zcs a v = c
                  · have := sp v h1 q
                    rw [q] at this ⊢
                    rw [← i2]
                    omega
                  · exact i1.2.2 v h1 (by show zcs a v < c; omega)
              · refine e1 ?_
                have yb := it.mp rfl
                have B := B6 τ2 w (zMo a c) g1' (k2.trans g2) (Or.inr ⟨⟨hw, by show zcs a w < c + 1; omega, fun v h1 h2 => ?_⟩, by rw [ew]⟩) mlc
                · rw [zen_n (by omega)] at B
                  exact B
                · have h2 : zcs a v < c + 1 := h2
                  rw [ew]
                  by_cases q : zcs a v = c
                  · exact sp v h1 q
                  · rcases inv with ⟨i1, i2⟩ | ⟨i1, i2⟩
                    · have := i2 v h1; omega
                    · have := i1.2.2 v h1 (by show zcs a v < c; omega)
                      have hb := i1.1
                      rw [← i2] at this
                      omega
            have B3 : (b = 200 ∨ zMo a c < m ∨ (zMo a c = m ∧ w < b)) → zFix (F_X3_bestWord (fun v τ => (i_ir Q) [.ref 0] (zvl v []) τ)) 3 [.ref 71, .ref 53, .int (zen b), .int (nI m), .int (nI c), .int (nI w), .int (nI (zMo a c))] [] τ2 := fun y => zFix_in (B5 1 (by decide) ⟨fun _ => y, fun _ => rfl⟩)
            have B4 : ¬ (b = 200 ∨ zMo a c < m ∨ (zMo a c = m ∧ w < b)) → zFix (F_X3_bestWord (fun v τ => (i_ir Q) [.ref 0] (zvl v []) τ)) 4 [.ref 71, .ref 53, .int (zen b), .int (nI m), .int (nI c), .int (nI w), .int (nI (zMo a c))] [] τ2 := fun y => zFix_in (B5 0 (by decide) ⟨fun q => absurd q (by decide), fun q => absurd q y⟩)
            refine zFix_in ?_
            refine And.intro (fun y => B3 (Or.inl ((zen_m rb).mp y))) (fun y => ?_)
            have nb : b ≠ 200 := fun q => y ((zen_m rb).mpr q)
            refine pk_lt (zMo a c) m (fun q => B3 (Or.inr (Or.inl q))) (fun q => ?_)
            refine And.intro (fun x => B4 (fun p => ?_)) (fun x => ?_)
            · rcases p with p | p | p
              · exact nb p
              · omega
              · exact x (by rw [p.1])
            · have x := nI_inj (by omega) (by omega) x
              refine pk_le b w (fun p => B4 (fun o => ?_)) (fun p => B3 (Or.inr (Or.inr ⟨x, p⟩))) (zen_n nb) rfl
              rcases o with o | o | o
              · exact nb o
              · omega
              · omega
          · refine And.intro (fun z => absurd rfl z) (fun _ => ?_)
            have fin : ∀ t : Int32, zFix (F_X3_bestWord (fun v τ => (i_ir Q) [.ref 0] (zvl v []) τ)) 5 [.ref 71, .ref 53, .int (zen b), .int (nI m), .int (nI c), .int (-1), .int (nI 0)] [.int t] τ := by
              intro t
              refine zFix_in (And.intro (fun _ => B6 τ b m g1 g2 ?_ lm) (fun z => absurd rfl z))
              have st : ∀ v, v < 16 → (zcs a v < c + 1 ↔ zcs a v < c) := fun v hv => by have := no v hv; omega
              rcases inv with ⟨i1, i2⟩ | ⟨i1, i2⟩
              · exact Or.inl ⟨i1, fun v hv => by have := i2 v hv; have := no v hv; omega⟩
              · exact Or.inr ⟨⟨i1.1, (st b i1.1).mpr i1.2.1, fun v h1 h2 => i1.2.2 v h1 ((st v h1).mp h2)⟩, i2⟩
            refine zFix_in ?_
            refine And.intro (fun _ => zFix_in (fin 1)) (fun _ => ?_)
            refine And.intro (fun _ => zFix_in (fin 1)) (fun _ => ?_)
            refine And.intro (fun _ => zFix_in (fin 0)) (fun _ => ?_)
            exact And.intro (fun _ => zFix_in (fin 0)) (fun _ => zFix_in (fin 1))
      exact L 0 (Nat.zero_le _) υ 200 0 (fun _ _ => rfl) rfl (Or.inl ⟨rfl, fun v _ => Nat.zero_le _⟩) (by decide)
    · have z := nI_inj (b := 0) (by omega) (by decide) z
      have hq := hQ υ qx
      rw [if_pos z] at hq
      exact hq
  · have hn := hW.1
    have h2n := p2_128 hn
    have lc := @zcn_le a (2 ^ a 2 0)
    have ml : ∀ c, zMo a c ≤ 128 := fun c => zMo_le hn
    obtain ⟨k1, k2, k3⟩ := c_ok hW
    refine ⟨rfl, zFix_in (r_layMay hW hM (fun υ0 my => ?_))⟩
    have L : ∀ w, w ≤ 16 → ∀ υ : zM, zMy σ υ a → zFix (F_X12_next Q) 1 [.ref 75, .int (if zsu (zmy a) (2 ^ a 2 0) = 0 then -1 else zen (zbw a w)), .int (nI (if w = 0 then 1000000 else zMo a (zcs a (zbw a w)))), .int (nI w)] [] υ := by
      refine zloop 16 (fun w hw ih => ?_)
      intro υ my
      obtain ⟨q, ⟨cl, hd⟩, m1, m2⟩ := my
      refine zFix_in ?_
      refine pk_le 16 w (fun d => ?_) (fun d => ?_)
      · have ew : w = 16 := by omega
        subst ew
        have hq := hQ υ q
        have := (zbw_p a 16 (by decide) (by decide)).1
        rw [zen_n (by omega)]
        exact hq
      · show (υ.1 75 14 ≤ 0 → Q (some (.int (if zsu (zmy a) (2 ^ a 2 0) = 0 then -1 else zen (zbw a w)))) υ) ∧ (¬ υ.1 75 14 ≤ 0 → zFix (F_X12_next Q) 2 [.ref 75, .int (if zsu (zmy a) (2 ^ a 2 0) = 0 then -1 else zen (zbw a w)), .int (nI (if w = 0 then 1000000 else zMo a (zcs a (zbw a w)))), .int (nI w), .int (nI 0), .int (nI 0)] [] υ)
        rw [m1]
        refine pk_le (zsu (zmy a) (2 ^ a 2 0)) 0 (fun z => ?_) (fun z => ?_)
        · have hq := hQ υ q
          rw [if_pos (by omega)] at hq ⊢
          exact hq
        · rw [if_neg (by omega)]
          have fin : ∀ υ : zM, zMy σ υ a → zFix (F_X12_next Q) 3 [.ref 75, .int (zen (zbw a w)), .int (nI (if w = 0 then 1000000 else zMo a (zcs a (zbw a w)))), .int (nI w), .int (nI (zMo a (zcs a w))), .int (nI 128)] [] υ := by
            intro υ my
            have M1 := ml (zcs a w)
            have M2 := ml (zcs a (zbw a w))
            have B7 : ∀ x : Int32, x = nI (zMo a (zcs a (zbw a (w + 1)))) → zFix (F_X12_next Q) 7 [.ref 75, .int (zen (zbw a (w + 1))), .null, .int (nI w)] [.int x] υ := by
              intro x hx
              refine zFix_in ?_
              show zFix (F_X12_next Q) 1 [.ref 75, .int (zen (zbw a (w + 1))), .int x, .int (nI w + 1)] [] υ
              rw [nI_1, hx]
              have := ih (w + 1) (by omega) (by omega) υ my
              rw [if_neg (by omega), if_neg (by omega)] at this
              exact this
            have eb : zbw a (w + 1) = if zbw a w = 200 ∨ zMo a (zcs a w) < zMo a (zcs a (zbw a w)) then w else zbw a w := rfl
            have key : (zMo a (zcs a w) < (if w = 0 then 1000000 else zMo a (zcs a (zbw a w)))) ↔ (zbw a w = 200 ∨ zMo a (zcs a w) < zMo a (zcs a (zbw a w))) := by
              by_cases e : w = 0
              · subst e
                rw [if_pos rfl]
                exact ⟨fun _ => Or.inl rfl, fun _ => by omega⟩
              · rw [if_neg e]
                have := (zbw_p a w (by omega) (by omega)).1
                exact ⟨fun y => Or.inr y, fun y => by rcases y with y | y; omega; exact y⟩
            have l0 : (if w = 0 then 1000000 else zMo a (zcs a (zbw a w))) < 2 ^ 31 := by split <;> omega
            refine zFix_in ?_
            refine And.intro (fun _ => ?_) (fun y => absurd (by decide) y)
            refine pk_le (if w = 0 then 1000000 else zMo a (zcs a (zbw a w))) (zMo a (zcs a w)) (fun y => ?_) (fun y => ?_)
            · rw [if_neg (fun p => by have := key.mpr p; omega)] at eb
              rw [eb] at B7
              refine zFix_in (pk_le (if w = 0 then 1000000 else zMo a (zcs a (zbw a w))) (zMo a (zcs a w)) (fun _ => ?_) (fun p => by omega))
              refine B7 _ ?_
              by_cases e : w = 0
              · rw [if_pos e] at y; omega
              · rw [if_neg e]
            · have y' := key.mp y
              rw [if_pos y'] at eb
              rw [eb, zen_n (by omega)] at B7
              refine zFix_in (pk_le (if w = 0 then 1000000 else zMo a (zcs a (zbw a w))) (zMo a (zcs a w)) (fun p => by omega) (fun _ => ?_))
              exact B7 _ rfl
          have L3 : ∀ s, s ≤ 128 → ∀ υ : zM, zMy σ υ a → (∀ l, l < 141 → υ.1 86 l = nI (zak a (zcs a w) l s)) → zFix (F_X12_next Q) 3 [.ref 75, .int (zen (zbw a w)), .int (nI (if w = 0 then 1000000 else zMo a (zcs a (zbw a w)))), .int (nI w), .int (nI (zmo a (zcs a w) s)), .int (nI s)] [] υ := by
            refine zloop 128 (fun s hs ih3 => ?_)
            intro υ my g3
            by_cases e : s = 128
            · subst e
              rw [zmo_hi (a := a) (s := 128) h2n]
              exact fin υ my
            · obtain ⟨q, ⟨cl, hd⟩, m1, m2⟩ := id my
              refine zFix_in ?_
              refine pk_le 128 s (fun d => by omega) (fun d => ?_)
              refine And.intro (vp_in_nI (N := 128) d (by decide)) ?_
              have B5 : ∀ (υ' : zM), zMy σ υ' a → (∀ l, l < 141 → υ'.1 86 l = nI (zak a (zcs a w) l (s + 1))) → zFix (F_X12_next Q) 5 [.ref 75, .int (zen (zbw a w)), .int (nI (if w = 0 then 1000000 else zMo a (zcs a (zbw a w)))), .int (nI w), .int (nI (zmo a (zcs a w) (s + 1))), .int (nI s)] [] υ' := by
                intro υ' h1 h2
                refine zFix_in ?_
                show zFix (F_X12_next Q) 3 [.ref 75, .int (zen (zbw a w)), .int (nI (if w = 0 then 1000000 else zMo a (zcs a (zbw a w)))), .int (nI w), .int (nI (zmo a (zcs a w) (s + 1))), .int (nI s + 1)] [] υ'
                rw [nI_1]
                exact ih3 (s + 1) (by omega) (by omega) υ' h1 h2
              have em : zmo a (zcs a w) (s + 1) = if zmy a s = 1 then (if zmo a (zcs a w) s < zak a (zcs a w) (zLd a (a 3) (a 4) s (zcs a w) 0 (a 2 0)) (s + 1) then zak a (zcs a w) (zLd a (a 3) (a 4) s (zcs a w) 0 (a 2 0)) (s + 1) else zmo a (zcs a w) s) else zmo a (zcs a w) s := rfl
              have mly := @zmy_le a s
              show (υ.1 85 (nI s).toNatClampNeg = 0 → zFix (F_X12_next Q) 5 [.ref 75, .int (zen (zbw a w)), .int (nI (if w = 0 then 1000000 else zMo a (zcs a (zbw a w)))), .int (nI w), .int (nI (zmo a (zcs a w) s)), .int (nI s)] [] υ) ∧ (¬ υ.1 85 (nI s).toNatClampNeg = 0 → T_X12_loudOf [.ref 75, .int (nI w), .int (nI 0)] (zput υ 75 9 (nI s)) _)
              rw [nI_clamp (by omega), m2 s d]
              rcases (show zmy a s = 0 ∨ zmy a s = 1 by omega) with z | z
              · rw [z, if_neg (by decide)] at em
                rw [z, ← em]
                refine e0 (B5 υ my (fun l hl => ?_))
                rw [g3 l hl, zak_s, z, if_neg (fun y => by omega), Nat.add_zero]
              · rw [z]
                refine e1 ?_
                have ll := @zLd_lt a (a 3) (a 4) s (zcs a w) 0 hW
                have h1 := zHd_c (v := s) hd
                have hM' : zCM ((zput υ 75 9 (nI s)).1 76) a := by rw [zput_ne (by decide), q.1 76 (by omega)]; exact hM
                refine r_loud (b := 0) hW hM' h1 k1 k2 (by omega) (by decide) (by omega) ?_
                generalize hl : zLd a (a 3) (a 4) s (zcs a w) 0 (a 2 0) = l0 at ll em
                refine And.intro (vp_in_nI (N := 141) (by omega) (by decide)) (And.intro (vp_in_nI (N := 141) (by omega) (by decide)) (And.intro (vp_in_nI (N := 141) (by omega) (by decide)) ?_))
                have ea : zak a (zcs a w) l0 (s + 1) = zak a (zcs a w) l0 s + 1 := by rw [zak_s, if_pos ⟨z, hl⟩]
                have l1 := zmo_le (a := a) (c := zcs a w) s
                have l2 := zak_le (a := a) (c := zcs a w) (l := l0) (s + 1)
                have my' : zMy σ (zput (zput υ 75 9 (nI s)) 86 l0 (nI (zak a (zcs a w) l0 (s + 1)))) a := ⟨q.tr ⟨fun k hk => by rw [zput_ne (by omega), zput_ne (by omega)], by rw [zput_ne (by decide), zput_u (by decide)], rfl⟩, ⟨s, h1.1, fun f hf => h1.2 f hf⟩, by rw [zput_ne (by decide), zput_u (by decide)]; exact m1, fun t ht => by rw [zput_ne (by decide), zput_ne (by decide)]; exact m2 t ht⟩
                have g3' : ∀ l, l < 141 → (zput (zput υ 75 9 (nI s)) 86 l0 (nI (zak a (zcs a w) l0 (s + 1)))).1 86 l = nI (zak a (zcs a w) l (s + 1)) := fun l hl2 => by
                  rw [zputj, zput_ne (by decide)]
                  by_cases q : l = l0
                  · rw [if_pos q, q]
                  · rw [if_neg q, g3 l hl2, zak_s, if_neg (fun y => q (by rw [← y.2, hl])), Nat.add_zero]
                have B5' := B5 _ my' g3'
                have rd : (zput υ 75 9 (nI s)).1 86 l0 = nI (zak a (zcs a w) l0 s) := by rw [zput_ne (by decide)]; exact g3 l0 (by omega)
                rw [nI_clamp (by omega)]
                show ((zput (zput υ 75 9 (nI s)) 86 l0 ((zput υ 75 9 (nI s)).1 86 l0 + 1)).1 86 l0 ≤ nI (zmo a (zcs a w) s) → zFix (F_X12_next Q) 4 [.ref 75, .int (zen (zbw a w)), .int (nI (if w = 0 then 1000000 else zMo a (zcs a (zbw a w)))), .int (nI w), .null, .int (nI s)] [.int (nI (zmo a (zcs a w) s))] (zput (zput υ 75 9 (nI s)) 86 l0 ((zput υ 75 9 (nI s)).1 86 l0 + 1))) ∧ (¬ (zput (zput υ 75 9 (nI s)) 86 l0 ((zput υ 75 9 (nI s)).1 86 l0 + 1)).1 86 l0 ≤ nI (zmo a (zcs a w) s) → vp_in (nI l0) 141 ∧ zFix (F_X12_next Q) 4 [.ref 75, .int (zen (zbw a w)), .int (nI (if w = 0 then 1000000 else zMo a (zcs a (zbw a w)))), .int (nI w), .null, .int (nI s)] [.int ((zput (zput υ 75 9 (nI s)) 86 l0 ((zput υ 75 9 (nI s)).1 86 l0 + 1)).1 86 (nI l0).toNatClampNeg)] (zput (zput υ 75 9 (nI s)) 86 l0 ((zput υ 75 9 (nI s)).1 86 l0 + 1)))
                rw [nI_clamp (by omega), zput_s, rd, nI_1, ← ea]
                rw [z, if_pos rfl] at em
                refine pk_le (zak a (zcs a w) l0 (s + 1)) (zmo a (zcs a w) s) (fun p => zFix_in ?_) (fun p => ⟨vp_in_nI (by omega) (by decide), zFix_in ?_⟩)
                · rw [if_neg (by omega)] at em
                  rw [em] at B5'
                  exact B5'
                · rw [if_pos p] at em
                  rw [em] at B5'
                  exact B5'
          have L2 : ∀ n, n ≤ 141 → ∀ υ : zM, zMy σ υ a → (∀ l, l < n → υ.1 86 l = 0) → zFix (F_X12_next Q) 2 [.ref 75, .int (zen (zbw a w)), .int (nI (if w = 0 then 1000000 else zMo a (zcs a (zbw a w)))), .int (nI w), .int (nI 0), .int (nI n)] [] υ := by
            refine zloop 141 (fun n hn' ih2 => ?_)
            intro υ my g
            refine zFix_in ?_
            refine pk_lt 140 n (fun d => ?_) (fun d => ?_)
            · exact L3 0 (Nat.zero_le _) υ my (fun l hl => g l (by omega))
            · refine And.intro (vp_in_nI (N := 141) (by omega) (by decide)) ?_
              show zFix (F_X12_next Q) 2 [.ref 75, .int (zen (zbw a w)), .int (nI (if w = 0 then 1000000 else zMo a (zcs a (zbw a w)))), .int (nI w), .int (nI 0), .int (nI n + 1)] [] (zput υ 86 (nI n).toNatClampNeg 0)
              rw [nI_1, nI_clamp (by omega)]
              obtain ⟨q, ⟨cl, hd⟩, m1, m2⟩ := my
              refine ih2 (n + 1) (by omega) (by omega) _ ⟨q.tr ⟨fun k hk => zput_ne (by omega), rfl, rfl⟩, ⟨cl, hd.1, fun f hf => hd.2 f hf⟩, m1, fun t ht => m2 t ht⟩ (fun l hl => ?_)
              rw [zputj]
              by_cases e : l = n
              · rw [if_pos e]
              · rw [if_neg e]
                exact g l (by omega)
          exact L2 0 (Nat.zero_le _) υ ⟨q, ⟨cl, hd⟩, m1, m2⟩ (fun l hl => absurd hl (Nat.not_lt_zero l))
    have := L 0 (Nat.zero_le _) υ0 my
    have e0' : (if zsu (zmy a) (2 ^ a 2 0) = 0 then (-1 : Int32) else zen (zbw a 0)) = -1 := by split <;> rfl
    rw [e0'] at this
    exact this
end
