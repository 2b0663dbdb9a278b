/-! Steps: remember and keep. -/
def zAsh (a : zA) : zA := zs1 (zs1 (zs1 a 14 (fun i => a 14 (i + 7))) 15 (fun u => a 15 (u + 1))) 13 (fun _ => 7)
def zApu (a : zA) : zA := zs1 (zs1 (zs1 a 14 (fun i => if 7 * a 13 0 ≤ i ∧ i < 7 * a 13 0 + 7 then a 7 (i - 7 * a 13 0) else a 14 i)) 15 (zup (a 15) (a 13 0) (a 8 0))) 13 (fun _ => a 13 0 + 1)
def zAre (a : zA) : zA := if a 13 0 = 8 then zApu (zAsh a) else zApu a
theorem zAsh_wf {a : zA} (hW : zWF a) (h : a 13 0 = 8) : zWF (zAsh a) := by
  refine ⟨hW.1, hW.2.1, hW.2.2.1, hW.2.2.2.1, hW.2.2.2.2.1, hW.2.2.2.2.2.1, hW.2.2.2.2.2.2.1, hW.2.2.2.2.2.2.2.1, show 7 ≤ 8 by decide, fun u hu => ?_⟩
  have hu : u < 7 := hu
  obtain ⟨r1, r2, r3⟩ := hW.2.2.2.2.2.2.2.2.2 (u + 1) (by omega)
  refine ⟨r1, fun f hf => ?_, fun f g hf hg e => ?_⟩
  · show a 14 (7 * u + f + 7) ≤ 9 ∧ a 14 (7 * u + f + 7) % 2 = a 4 f
    rw [show 7 * u + f + 7 = 7 * (u + 1) + f by omega]
    exact r2 f hf
  · have e : a 14 (7 * u + f + 7) = a 14 (7 * u + g + 7) := e
    rw [show 7 * u + f + 7 = 7 * (u + 1) + f by omega, show 7 * u + g + 7 = 7 * (u + 1) + g by omega] at e
    exact r3 f g hf hg e
theorem zApu_14 {a : zA} {u f : Nat} (hf : f < 7) : zApu a 14 (7 * u + f) = if u = a 13 0 then a 7 f else a 14 (7 * u + f) := by
  show (if 7 * a 13 0 ≤ 7 * u + f ∧ 7 * u + f < 7 * a 13 0 + 7 then a 7 (7 * u + f - 7 * a 13 0) else a 14 (7 * u + f)) = _
  by_cases e : u = a 13 0
  · rw [if_pos e, if_pos (by omega), e]
    congr 1
    omega
  · rw [if_neg e, if_neg (by omega)]
theorem zApu_wf {a : zA} (hW : zWF a) (h : a 13 0 < 8) : zWF (zApu a) := by
  have hn := hW.1
  refine ⟨hW.1, hW.2.1, hW.2.2.1, hW.2.2.2.1, hW.2.2.2.2.1, hW.2.2.2.2.2.1, hW.2.2.2.2.2.2.1, hW.2.2.2.2.2.2.2.1, h, fun u hu => ?_⟩
  have hu : u < a 13 0 + 1 := hu
  have h15 : zApu a 15 u = if u = a 13 0 then a 8 0 else a 15 u := rfl
  by_cases e : u = a 13 0
  · refine ⟨?_, fun f hf => ?_, fun f g hf hg => ?_⟩
    · rw [h15, if_pos e]; exact hW.2.2.2.2.2.1
    · have hf : f < a 2 0 := hf
      rw [zApu_14 (by omega), if_pos e]
      exact (hW.2.2.2.1 f hf).2.2.2.2
    · have hf : f < a 2 0 := hf
      have hg : g < a 2 0 := hg
      rw [zApu_14 (by omega), zApu_14 (by omega), if_pos e, if_pos e]
      exact hW.2.2.2.2.1 f g hf hg
  · obtain ⟨r1, r2, r3⟩ := hW.2.2.2.2.2.2.2.2.2 u (by omega)
    refine ⟨?_, fun f hf => ?_, fun f g hf hg => ?_⟩
    · rw [h15, if_neg e]; exact r1
    · have hf : f < a 2 0 := hf
      rw [zApu_14 (by omega), if_neg e]
      exact r2 f hf
    · have hf : f < a 2 0 := hf
      have hg : g < a 2 0 := hg
      rw [zApu_14 (by omega), zApu_14 (by omega), if_neg e, if_neg e]
      exact r3 f g hf hg
theorem zAre_wf {a : zA} (hW : zWF a) : zWF (zAre a) := by
  unfold zAre
  split
  · rename_i e
    exact zApu_wf (zAsh_wf hW e) (show 7 < 8 by decide)
  · have := hW.2.2.2.2.2.2.2.2.1
    exact zApu_wf hW (by omega)
theorem zAre_k {a : zA} {k : Nat} (h : k ≠ 13) (h2 : k ≠ 14) (h3 : k ≠ 15) : zAre a k = a k := by
  unfold zAre
  split
  · show zs1 (zs1 (zs1 (zAsh a) 14 _) 15 _) 13 _ k = _
    rw [zs1_n h, zs1_n h3, zs1_n h2]
    show zs1 (zs1 (zs1 a 14 _) 15 _) 13 _ k = _
    rw [zs1_n h, zs1_n h3, zs1_n h2]
  · show zs1 (zs1 (zs1 a 14 _) 15 _) 13 _ k = _
    rw [zs1_n h, zs1_n h3, zs1_n h2]
theorem t_remember {a : zA} {σ : zM} {Q : zQ} (hW : zWF a) (hX : zCX 1 σ a) (h : ∀ τ : zM, (∀ k, 13 ≤ k → τ.1 k = σ.1 k) → τ.2 = σ.2 → zCX 1 τ (zAre a) → Q none τ) : T_X1_remember [.ref 1] σ Q := by
  have hn := hW.1
  have B : ∀ (a : zA) (τ : zM), zWF a → a 13 0 < 8 → zCX 1 τ a → (∀ υ : zM, (∀ k, 13 ≤ k → υ.1 k = τ.1 k) → υ.2 = τ.2 → zCX 1 υ (zApu a) → Q none υ) → zFix (F_X1_remember Q) 1 [.ref 1] [] τ := by
    intro a τ hW h8 hX h
    have hn := hW.1
    obtain ⟨q0, q1, q2, q3, q4, q5, q6, q7, q8⟩ := hX
    refine zFix_in ?_
    have ei : τ.1 1 13 * 7 = nI (7 * a 13 0) := by rw [q7, show (7 : Int32) = nI 7 from rfl, pk_mul, Nat.mul_comm]
    show (¬ (0 : Int32) < 0 ∧ ¬ τ.1 1 13 * 7 < 0 ∧ ¬ (7 : Int32) < 0) ∧ ((0 : Int32).toNatClampNeg + (7 : Int32).toNatClampNeg ≤ 7 ∧ (τ.1 1 13 * 7).toNatClampNeg + (7 : Int32).toNatClampNeg ≤ 56) ∧ vp_in (τ.1 1 13) 8 ∧ Q none (zput (zput (zcpy τ 7 11 0 (τ.1 1 13 * 7).toNatClampNeg 7) 12 (τ.1 1 13).toNatClampNeg (τ.1 1 8)) 1 13 (τ.1 1 13 + 1))
    rw [ei, q7, nI_clamp (by omega), nI_clamp (by omega), q4, nI_1]
    refine ⟨⟨by decide, nI_pos (by omega), by decide⟩, ⟨by decide, show 7 * a 13 0 + 7 ≤ 56 by omega⟩, vp_in_nI h8 (by decide), ?_⟩
    refine h _ (fun k hk => ?_) rfl ⟨q0, fun i hi => q1 i hi, q2, fun f hf => q3 f hf, q4, q5, fun k hk => q6 k hk, zput_s, fun u hu => ?_⟩
    · rw [zput_ne (by omega), zput_ne (by omega), zcpy_ne (by omega)]
    · have hu : u < a 13 0 + 1 := hu
      show (if u = a 13 0 then nI (a 8 0) else τ.1 12 u) = nI (if u = a 13 0 then a 8 0 else a 15 u) ∧ ∀ f, f < a 2 0 → va_cpy (τ.1 7) (τ.1 11) 0 (7 * a 13 0) 7 (7 * u + f) = nI (zApu a 14 (7 * u + f))
      by_cases e : u = a 13 0
      · rw [if_pos e, if_pos e]
        refine ⟨rfl, fun f hf => ?_⟩
        rw [zApu_14 (by omega), if_pos e, pk_cpy_in (by omega) (by omega), e, show 0 + (7 * a 13 0 + f - 7 * a 13 0) = f by omega]
        exact (q3 f hf).2.2.2.2
      · rw [if_neg e, if_neg e]
        obtain ⟨r1, r2⟩ := q8 u (by omega)
        refine ⟨r1, fun f hf => ?_⟩
        rw [zApu_14 (by omega), if_neg e, pk_cpy_out (by omega)]
        exact r2 f hf
  have h8 := hW.2.2.2.2.2.2.2.2.1
  obtain ⟨q0, q1, q2, q3, q4, q5, q6, q7, q8⟩ := id hX
  refine ⟨rfl, zFix_in ?_⟩
  refine pk_lt (a 13 0) 8 (fun d => ?_) (fun d => ?_) q7 rfl
  · exact B a σ hW d hX (fun υ g1 g2 g3 => h υ g1 g2 (by unfold zAre; rw [if_neg (by omega)]; exact g3))
  · have e : a 13 0 = 8 := by omega
    refine And.intro ⟨by decide, by decide, by decide⟩ (And.intro ⟨by decide, by decide⟩ (And.intro ⟨by decide, by decide, by decide⟩ (And.intro ⟨by decide, by decide⟩ ?_)))
    show zFix (F_X1_remember Q) 1 [.ref 1] [] (zput (zcpy (zcpy σ 11 11 7 0 49) 12 12 1 0 7) 1 13 7)
    refine B (zAsh a) _ (zAsh_wf hW e) (show 7 < 8 by decide) ⟨q0, fun i hi => q1 i hi, q2, fun f hf => q3 f hf, q4, q5, fun k hk => q6 k hk, zput_s, fun u hu => ?_⟩ (fun υ g1 g2 g3 => h υ (fun k hk => by rw [g1 k hk, zput_ne (by omega), zcpy_ne (by omega), zcpy_ne (by omega)]) g2 (by unfold zAre; rw [if_pos e]; exact g3))
    have hu : u < 7 := hu
    show va_cpy (σ.1 12) (σ.1 12) 1 0 7 u = nI (a 15 (u + 1)) ∧ ∀ f, f < a 2 0 → va_cpy (σ.1 11) (σ.1 11) 7 0 49 (7 * u + f) = nI (a 14 (7 * u + f + 7))
    obtain ⟨r1, r2⟩ := q8 (u + 1) (by omega)
    refine ⟨?_, fun f hf => ?_⟩
    · rw [pk_cpy_in (by omega) (by omega), show 1 + (u - 0) = u + 1 by omega]
      exact r1
    · rw [pk_cpy_in (by omega) (by omega), show 7 + (7 * u + f - 0) = 7 * (u + 1) + f by omega, show 7 * u + f + 7 = 7 * (u + 1) + f by omega]
      exact r2 f hf
theorem r_keep {a : zA} {σ : zM} {Q : zQ} (hW : zWF a) (hM : zCM (σ.1 76) a) (h : ∀ τ : zM, (∀ k, k ≠ 76 → τ.1 k = σ.1 k) → τ.2 = σ.2 → zCM (τ.1 76) (zAre a) → Q none τ) : T_X12_keep [.ref 75] σ Q := by
  have B : ∀ (a : zA) (τ : zM), zWF a → a 13 0 < 8 → zCM (τ.1 76) a → (∀ υ : zM, (∀ k, k ≠ 76 → υ.1 k = τ.1 k) → υ.2 = τ.2 → zCM (υ.1 76) (zApu a) → Q none υ) → zFix (F_X12_keep Q) 2 [.ref 75] [] τ := by
    intro a τ hW h8 hM h
    have hn := hW.1
    have hk6 := hW.2.2.2.2.2.2.1
    obtain ⟨q0, q1, q2, q4, q5, q6, q7, q8⟩ := hM
    refine zFix_in ?_
    refine And.intro (vp_in_nI (n := 5) (N := 178) (by decide) (by decide)) ?_
    have ei : (66 : Int32) + 14 * τ.1 76 5 = nI (66 + 14 * a 13 0) := by rw [q5, show (66 : Int32) = nI 66 from rfl, show (14 : Int32) = nI 14 from rfl, pk_mul, nI_add]
    show zFix (F_X12_keep Q) 3 [.ref 75, .int ((66 : Int32) + 14 * τ.1 76 5), .int (nI 0)] [] τ
    rw [ei]
    have L : ∀ f, f ≤ 7 → ∀ υ : zM, (∀ k, k ≠ 76 → υ.1 k = τ.1 k) → υ.2 = τ.2 → (∀ j, (j < 66 + 14 * a 13 0 ∨ 66 + 14 * a 13 0 + 14 ≤ j) → υ.1 76 j = τ.1 76 j) → (∀ g, g < f → υ.1 76 (66 + 14 * a 13 0 + g) = τ.1 76 (10 + 6 * g) ∧ υ.1 76 (73 + 14 * a 13 0 + g) = τ.1 76 (11 + 6 * g)) → zFix (F_X12_keep Q) 3 [.ref 75, .int (nI (66 + 14 * a 13 0)), .int (nI f)] [] υ := by
      refine zloop 7 (fun f hf ih => ?_)
      intro υ g1 g2 g3 g4
      refine zFix_in ?_
      refine pk_le 7 f (fun d => ?_) (fun d => ?_)
      · refine And.intro (vp_in_nI (n := 5) (N := 178) (by decide) (by decide)) (And.intro (vp_in_nI (n := 5) (N := 178) (by decide) (by decide)) ?_)
        show Q none (zput υ 76 5 (υ.1 76 5 + 1))
        rw [g3 5 (by omega), q5, nI_1]
        have z : ∀ j, j ≠ 5 → (j < 66 + 14 * a 13 0 ∨ 66 + 14 * a 13 0 + 14 ≤ j) → (zput υ 76 5 (nI (a 13 0 + 1))).1 76 j = τ.1 76 j := fun j h1 h2 => by rw [zput_u h1, g3 j h2]
        refine h _ (fun k hk => (zput_ne hk).trans (g1 k hk)) g2 ⟨(z 0 (by decide) (by omega)).trans q0, (z 1 (by decide) (by omega)).trans q1, ⟨(z 2 (by decide) (by omega)).trans q2.1, (z 3 (by decide) (by omega)).trans q2.2⟩, (z 4 (by decide) (by omega)).trans q4, zput_s, fun f hf => ?_, fun k hk => ?_, fun u hu f hf => ?_⟩
        · have hf : f < a 2 0 := hf
          obtain ⟨r1, r2, r3, r4, r5, r6⟩ := q6 f hf
          exact ⟨(z _ (by omega) (by omega)).trans r1, (z _ (by omega) (by omega)).trans r2, (z _ (by omega) (by omega)).trans r3, (z _ (by omega) (by omega)).trans r4, (z _ (by omega) (by omega)).trans r5, (z _ (by omega) (by omega)).trans r6⟩
        · have hk : k < a 9 0 := hk
          obtain ⟨r1, r2, r3⟩ := q7 k hk
          exact ⟨(z _ (by omega) (by omega)).trans r1, (z _ (by omega) (by omega)).trans r2, (z _ (by omega) (by omega)).trans r3⟩
        · have hf : f < a 2 0 := hf
          have hu : u < a 13 0 + 1 := hu
          rw [zApu_14 (by omega), show zApu a 15 u = if u = a 13 0 then a 8 0 else a 15 u from rfl]
          by_cases e : u = a 13 0
          · rw [if_pos e, if_pos e, e, zput_u (by omega), zput_u (by omega), (g4 f (by omega)).1, (g4 f (by omega)).2]
            obtain ⟨r1, r2, r3, r4, r5, r6⟩ := q6 f hf
            exact ⟨r5, r6⟩
          · rw [if_neg e, if_neg e, z _ (by omega) (by omega), z _ (by omega) (by omega)]
            exact q8 u (by omega) f hf
      · have i1 : nI (66 + 14 * a 13 0) + nI f = nI (66 + 14 * a 13 0 + f) := nI_add _ _
        have i2 : nI (66 + 14 * a 13 0) + 7 + nI f = nI (73 + 14 * a 13 0 + f) := by rw [show (7 : Int32) = nI 7 from rfl, nI_add, nI_add]; congr 1; omega
        refine t_get (f := f) (w := 4) d (by decide) ?_
        refine And.intro (by rw [i1]; exact vp_in_nI (N := 178) (by omega) (by decide)) ?_
        refine t_get (f := f) (w := 5) d (by decide) ?_
        refine And.intro (by rw [i2]; exact vp_in_nI (N := 178) (by omega) (by decide)) ?_
        show zFix (F_X12_keep Q) 3 [.ref 75, .int (nI (66 + 14 * a 13 0)), .int (nI f + 1)] [] (zput (zput υ 76 (nI (66 + 14 * a 13 0) + nI f).toNatClampNeg (υ.1 76 (6 + 6 * f + 4))) 76 (nI (66 + 14 * a 13 0) + 7 + nI f).toNatClampNeg ((zput υ 76 (nI (66 + 14 * a 13 0) + nI f).toNatClampNeg (υ.1 76 (6 + 6 * f + 4))).1 76 (6 + 6 * f + 5)))
        rw [i1, i2, nI_clamp (by omega), nI_clamp (by omega), nI_1, zput_u (show 6 + 6 * f + 5 ≠ 66 + 14 * a 13 0 + f by omega)]
        refine ih (f + 1) (by omega) (by omega) _ (fun k hk => by rw [zput_ne hk, zput_ne hk, g1 k hk]) g2 (fun j hj => by rw [zput_u (by omega), zput_u (by omega), g3 j hj]) (fun g hg => ?_)
        by_cases e : g = f
        · subst e
          refine ⟨?_, ?_⟩
          · rw [zput_u (by omega), zput_s, g3 _ (by omega), show 6 + 6 * g + 4 = 10 + 6 * g by omega]
          · rw [zput_s, g3 _ (by omega), show 6 + 6 * g + 5 = 11 + 6 * g by omega]
        · rw [zput_u (by omega), zput_u (by omega), zput_u (by omega), zput_u (by omega)]
          exact g4 g (by omega)
    exact L 0 (Nat.zero_le _) τ (fun _ _ => rfl) rfl (fun _ _ => rfl) (fun g hg => absurd hg (Nat.not_lt_zero g))
  have h8 := hW.2.2.2.2.2.2.2.2.1
  have hn := hW.1
  obtain ⟨q0, q1, q2, q4, q5, q6, q7, q8⟩ := id hM
  refine ⟨rfl, zFix_in ?_⟩
  refine And.intro (vp_in_nI (n := 5) (N := 178) (by decide) (by decide)) ?_
  refine And.intro (fun d => ?_) (fun d => ?_)
  · have e : a 13 0 ≠ 8 := fun e => d (by show σ.1 76 5 = 8; rw [q5, e]; rfl)
    exact B a σ hW (by omega) hM (fun υ g1 g2 g3 => h υ g1 g2 (by unfold zAre; rw [if_neg e]; exact g3))
  · have e : a 13 0 = 8 := nI_inj (b := 8) (by omega) (by decide) (q5.symm.trans d)
    have L : ∀ k, k ≤ 98 → ∀ τ : zM, (∀ j, j ≠ 76 → τ.1 j = σ.1 j) → τ.2 = σ.2 → (∀ j, j < 66 → τ.1 76 j = σ.1 76 j) → (∀ j, 66 + k ≤ j → τ.1 76 j = σ.1 76 j) → (∀ j, j < k → τ.1 76 (66 + j) = σ.1 76 (80 + j)) → zFix (F_X12_keep Q) 1 [.ref 75, .int (nI k)] [] τ := by
      refine zloop 98 (fun k hk ih => ?_)
      intro τ g1 g2 g3 g4 g5
      refine zFix_in ?_
      refine pk_le 98 k (fun d => ?_) (fun d => ?_)
      · refine And.intro (vp_in_nI (n := 5) (N := 178) (by decide) (by decide)) ?_
        show zFix (F_X12_keep Q) 2 [.ref 75] [] (zput τ 76 5 7)
        have ek : k = 98 := by omega
        subst ek
        have z : ∀ j, j ≠ 5 → j < 66 → (zput τ 76 5 7).1 76 j = σ.1 76 j := fun j h1 h2 => by rw [zput_u h1, g3 j h2]
        have hk6 := hW.2.2.2.2.2.2.1
        refine B (zAsh a) _ (zAsh_wf hW e) (show 7 < 8 by decide) ⟨(z 0 (by decide) (by omega)).trans q0, (z 1 (by decide) (by omega)).trans q1, ⟨(z 2 (by decide) (by omega)).trans q2.1, (z 3 (by decide) (by omega)).trans q2.2⟩, (z 4 (by decide) (by omega)).trans q4, zput_s, fun f hf => ?_, fun k hk => ?_, fun u hu f hf => ?_⟩ (fun υ k1 k2 k3 => h υ (fun k hk => by rw [k1 k hk, zput_ne hk, g1 k hk]) (k2.trans g2) (by unfold zAre; rw [if_pos e]; exact k3))
        · have hf : f < a 2 0 := hf
          obtain ⟨r1, r2, r3, r4, r5, r6⟩ := q6 f hf
          exact ⟨(z _ (by omega) (by omega)).trans r1, (z _ (by omega) (by omega)).trans r2, (z _ (by omega) (by omega)).trans r3, (z _ (by omega) (by omega)).trans r4, (z _ (by omega) (by omega)).trans r5, (z _ (by omega) (by omega)).trans r6⟩
        · have hk : k < a 9 0 := hk
          obtain ⟨r1, r2, r3⟩ := q7 k hk
          exact ⟨(z _ (by omega) (by omega)).trans r1, (z _ (by omega) (by omega)).trans r2, (z _ (by omega) (by omega)).trans r3⟩
        · have hf : f < a 2 0 := hf
          have hu : u < 7 := hu
          obtain ⟨r1, r2⟩ := q8 (u + 1) (by omega) f hf
          refine ⟨?_, ?_⟩
          · rw [zput_u (by omega), show 66 + 14 * u + f = 66 + (14 * u + f) by omega, g5 _ (by omega), show 80 + (14 * u + f) = 66 + 14 * (u + 1) + f by omega, r1]
            show _ = nI (a 14 (7 * u + f + 7))
            rw [show 7 * u + f + 7 = 7 * (u + 1) + f by omega]
          · rw [zput_u (by omega), show 73 + 14 * u + f = 66 + (14 * u + 7 + f) by omega, g5 _ (by omega), show 80 + (14 * u + 7 + f) = 73 + 14 * (u + 1) + f by omega, r2]
            rfl
      · have i1 : (66 : Int32) + nI k = nI (66 + k) := nI_add 66 _
        have i2 : (80 : Int32) + nI k = nI (80 + k) := nI_add 80 _
        refine And.intro (by rw [i2]; exact vp_in_nI (N := 178) (by omega) (by decide)) ?_
        refine And.intro (by rw [i1]; exact vp_in_nI (N := 178) (by omega) (by decide)) ?_
        show zFix (F_X12_keep Q) 1 [.ref 75, .int (nI k + 1)] [] (zput τ 76 ((66 : Int32) + nI k).toNatClampNeg (τ.1 76 ((80 : Int32) + nI k).toNatClampNeg))
        rw [i1, i2, nI_clamp (by omega), nI_clamp (by omega), nI_1, g4 (80 + k) (by omega)]
        refine ih (k + 1) (by omega) (by omega) _ (fun j hj => by rw [zput_ne hj, g1 j hj]) g2 (fun j hj => by rw [zput_u (by omega), g3 j hj]) (fun j hj => by rw [zput_u (by omega), g4 j (by omega)]) (fun j hj => ?_)
        by_cases q : j = k
        · rw [q, zput_s]
        · rw [zput_u (by omega), g5 j (by omega)]
    exact L 0 (Nat.zero_le _) σ (fun _ _ => rfl) rfl (fun _ _ => rfl) (fun _ _ => rfl) (fun j hj => absurd hj (Nat.not_lt_zero j))
