/-! Pairs: move, cold, undo, count; how many bits. -/
def zpc (c : Nat) : Nat := zsu (zb c) 7
theorem zpc_rec : ∀ c, c < 128 → zpc c = c % 2 + zpc (c / 2) := by decide +kernel
theorem zpc_0 : zpc 0 = 0 := by decide
theorem zpc_le : ∀ c, c < 128 → zpc c ≤ 7 := by decide +kernel
theorem zpc_n {c n : Nat} (h : c < 2 ^ n) (hn : n ≤ 7) : zsu (zb c) n = zpc c := by
  have key : ∀ m, n ≤ m → zsu (zb c) m = zsu (zb c) n := by
    intro m hm
    induction m with
    | zero => have : n = 0 := by omega
              rw [this]
    | succ m ih =>
      by_cases e : n = m + 1
      · rw [e]
      · simp only [zsu]
        rw [ih (by omega), zb_hi (Nat.lt_of_lt_of_le h (Nat.pow_le_pow_right (by decide) (by omega))), Nat.add_zero]
  exact (key 7 hn).symm
def zBC (x : Int32) : Int32 := 
  let s (v : Int32) (k : Int32) : Int32 := (v.toUInt32 >>> (k.toUInt32 &&& Int32.toUInt32 31)).toInt32
  let a := x - (s x 1 &&& 1431655765)
  let b := (a &&& 858993459) + (s a 2 &&& 858993459)
  let c := (b + s b 4) &&& 252645135
  let d := c + s c 8
  let e := d + s d 16
  e &&& 63
theorem zBC_ok : ∀ c, c < 128 → zBC (nI c) = nI (zpc c) := by decide +kernel
theorem t_bitC {c : Nat} {σ : zM} {Q : zQ} (hc : c < 128) (h : Q (some (.int (nI (zpc c)))) σ) : T_J6_bitCount_0f7a4 [.int (nI c)] σ Q := by
  refine ⟨rfl, zFix_in ?_⟩
  show Q (some (.int (zBC (nI c)))) σ
  rw [zBC_ok c hc]
  exact h
theorem r_bits {c : Nat} {σ : zM} {Q : zQ} (hc : c < 128) (h : Q (some (.int (nI (zpc c)))) σ) : T_X12_bits [.int (nI c)] σ Q := by
  have L : ∀ m x n, x < m → x < 128 → n + zpc x = zpc c → zFix (F_X12_bits Q) 1 [.null, .int (nI n), .int (nI x)] [] σ := by
    intro m
    induction m with
    | zero => intro x n h; omega
    | succ m ih =>
      intro x n hm hx e
      refine zFix_in ?_
      refine pk_le x 0 (fun d => ?_) (fun d => ?_)
      · have : x = 0 := by omega
        subst this
        rw [zpc_0, Nat.add_zero] at e
        show Q (some (.int (nI n))) σ
        rw [e]
        exact h
      · show zFix (F_X12_bits Q) 1 [.null, .int (nI n + (nI x &&& 1)), .int (nI x >>> (nI 1 &&& 31))] [] σ
        rw [nI_and1 (by omega), nI_add, nI_shr (by omega) (by decide)]
        refine ih _ _ (by omega) (by omega) ?_
        rw [← e, zpc_rec x hx]
        show n + x % 2 + zpc (x / 2) = _
        omega
  exact ⟨rfl, zFix_in (L (c + 1) c 0 (by omega) hc (by omega))⟩
theorem r_manyColds {a : zA} {σ : zM} {Q : zQ} (hW : zWF a) (hM : zCM (σ.1 76) a) (h : Q (some (.int (nI (zpc (a 8 0))))) σ) : T_X12_manyColds [.ref 75] σ Q := by
  have hn := hW.1
  have L : ∀ f, f ≤ a 2 0 → zFix (F_X12_manyColds Q) 1 [.ref 75, .int (nI (zsu (zb (a 8 0)) f)), .int (nI f)] [] σ := by
    refine zloop (a 2 0) (fun f hf ih => ?_)
    refine zFix_in (t_many ?_)
    refine pk_le (a 2 0) f (fun d => ?_) (fun d => ?_) hM.1 rfl
    · have ef : f = a 2 0 := by omega
      rw [ef, zpc_n hW.2.2.2.2.2.1 hn]
      exact h
    · refine t_get (f := f) (w := 5) (by omega) (by decide) ?_
      show zFix (F_X12_manyColds Q) 1 [.ref 75, .int (nI (zsu (zb (a 8 0)) f) + σ.1 76 (6 + 6 * f + 5)), .int (nI f + 1)] [] σ
      rw [show 6 + 6 * f + 5 = 11 + 6 * f by omega, (hM.2.2.2.2.2.1 f d).2.2.2.2.2, nI_add, nI_1]
      exact ih (f + 1) (by omega) (by omega)
  exact ⟨rfl, zFix_in (L 0 (Nat.zero_le _))⟩
section
variable {σ : zM}
theorem isF {n f : Nat} {τ : zM} {Q : zQ} (hn : n ≤ 7) (e : τ.1 1 2 = nI n) (hf : f < n) (h : Q (some (.int 1)) τ) : T_X1_hasFamily [.ref 1, .int (nI f)] τ Q := t_hasFamily (by omega) e (fun _ _ _ => h) (fun z => absurd rfl (z f hf))
theorem noF {n : Nat} {x : Int32} {τ : zM} {Q : zQ} (hn : n ≤ 7) (e : τ.1 1 2 = nI n) (nv : ∀ f, f < n → x ≠ nI f) (h : Q (some (.int 0)) τ) : T_X1_hasFamily [.ref 1, .int x] τ Q := t_hasFamily (by omega) e (fun f h1 h2 => absurd h2 (nv f h1)) (fun _ => h)
theorem isFr {n f : Nat} {τ : zM} {Q : zQ} (hn : n ≤ 7) (e : τ.1 76 0 = nI n) (hf : f < n) (h : Q (some (.int 1)) τ) : T_X12_isFamily [.ref 75, .int (nI f)] τ Q := t_isFamily (by omega) e (fun _ _ _ => h) (fun z => absurd rfl (z f hf))
theorem noFr {n : Nat} {x : Int32} {τ : zM} {Q : zQ} (hn : n ≤ 7) (e : τ.1 76 0 = nI n) (nv : ∀ f, f < n → x ≠ nI f) (h : Q (some (.int 0)) τ) : T_X12_isFamily [.ref 75, .int x] τ Q := t_isFamily (by omega) e (fun f h1 h2 => absurd h2 (nv f h1)) (fun _ => h)
def zAmv (a : zA) (f p : Nat) : zA := zs1 (zAre a) 7 (zup (a 7) f p)
theorem p_move (x y : Int32) (h : zR σ) : zPr T_X11_move T_X12_move [.int x, .int y] σ := by
  obtain ⟨a, hW, hX, hM, hO⟩ := id h
  have hn := hW.1
  rcases or_w (x := x) (n := a 2 0) with ⟨f, hf, rfl⟩ | nv
  · have ex4 : σ.1 4 f = nI (a 4 f) := (hX.2.2.2.1 f hf).2.1
    have ex7 : σ.1 7 f = nI (a 7 f) := (hX.2.2.2.1 f hf).2.2.2.2
    have rd4 : ∀ (τ : zM) (Q : zQ), τ.1 76 = σ.1 76 → Q (some (.int (nI (a 4 f)))) τ → T_X12_get [.ref 75, .int (nI f), .int (nI 1)] τ Q := fun τ Q e hq => t_get (f := f) (w := 1) (by omega) (by decide) (by rw [e, show 6 + 6 * f + 1 = 7 + 6 * f by omega, (hM.2.2.2.2.2.1 f hf).2.1]; exact hq)
    rcases or_p (x := y) (y := nI (a 4 f)) with ⟨p, hp, rfl, eb⟩ | nv
    · have eb4 : a 4 f = p % 2 := nI_inj (by have := (hW.2.2.2.1 f hf).2.1; omega) (by omega) eb
      have hx6 : ∀ f, f < a 2 0 → σ.1 7 f = nI (a 7 f) := fun f hf => (hX.2.2.2.1 f hf).2.2.2.2
      have hm6 : ∀ f, f < a 2 0 → σ.1 76 (10 + 6 * f) = nI (a 7 f) := fun f hf => (hM.2.2.2.2.2.1 f hf).2.2.2.2.1
      refine ⟨rfl, zFix_in (isF hn hX.2.2.1 hf (e1 ?_))⟩
      refine And.intro (vp_in_nI (N := 7) (by omega) (by decide)) ?_
      show T_X11_isPewOf [.int (nI p), .int (σ.1 4 (nI f).toNatClampNeg)] σ _
      rw [nI_clamp (by omega), ex4, eb]
      refine isP hp (n1 ?_)
      refine t_isTaken (b := 1) (n := a 2 0) (Or.inl rfl) hn hX.2.2.1 (fun tk => e1 ?_) (fun nt => e0 ?_)
      · have e76 : (zBx σ 1).1 76 = σ.1 76 := zput_ne (by decide)
        refine t_refNo ⟨_, rfl, rfl, zFix_in (isFr hn (by rw [e76]; exact hM.1) hf (e1 (rd4 _ _ e76 ?_)))⟩
        show T_X12_isPewOf [.int (nI p), .int (nI (a 4 f))] _ _
        rw [eb]
        refine isPr hp (n1 ?_)
        refine r_isTaken (o := 76) (n := a 2 0) (Or.inl rfl) hW.1 (by rw [e76]; exact hM.1) (fun _ => e1 (r_no ⟨rfl, h.bb⟩)) (fun z => ?_)
        obtain ⟨g, hg, eg⟩ := tk
        exact absurd (by rw [e76, hm6 g hg, ← hx6 g hg]; exact eg) (z g hg)
      · have nt2 : ∀ g, g < a 2 0 → a 7 g ≠ p := fun g hg e => nt g hg (by show σ.1 7 g = _; rw [hx6 g hg, e])
        refine And.intro (vp_in_nI (N := 7) (by omega) (by decide)) ?_
        refine t_remember hW hX (fun τ g1 g2 g3 => ?_)
        refine And.intro (vp_in_nI (N := 7) (by omega) (by decide)) ?_
        show ∃ r, some (Value.int (σ.1 7 (nI f).toNatClampNeg)) = some (Value.int r) ∧ T_X12_move _ (zput τ 7 (nI f).toNatClampNeg (nI p)) _
        rw [nI_clamp (by omega), ex7]
        have e76 : (zput τ 7 f (nI p)).1 76 = σ.1 76 := (zput_ne (by decide)).trans (g1 76 (by decide))
        have hM' : zCM ((zput τ 7 f (nI p)).1 76) a := by rw [e76]; exact hM
        refine ⟨_, rfl, rfl, zFix_in (isFr hn hM'.1 hf (e1 (rd4 _ _ e76 ?_)))⟩
        show T_X12_isPewOf [.int (nI p), .int (nI (a 4 f))] _ _
        rw [eb]
        refine isPr hp (n1 ?_)
        refine r_isTaken (o := 76) (n := a 2 0) (Or.inl rfl) hW.1 hM'.1 (fun tk => ?_) (fun _ => e0 ?_)
        · obtain ⟨g, hg, eg⟩ := tk
          exact absurd (show σ.1 (1 + 6) g = nI p by rw [← eg, e76, hm6 g hg]; exact hx6 g hg) (nt g hg)
        · refine t_get (f := f) (w := 4) (by omega) (by decide) ?_
          refine r_keep hW hM' (fun υ k1 k2 k3 => ?_)
          have ei : (6 : Int32) + 6 * nI f + 4 = nI (10 + 6 * f) := by
            rw [show (6 : Int32) = nI 6 from rfl, show (4 : Int32) = nI 4 from rfl, pk_mul, nI_add, nI_add]
            congr 1
            omega
          refine And.intro (by rw [ei]; exact vp_in_nI (N := 178) (by omega) (by decide)) ?_
          show some (Value.int ((zput τ 7 f (nI p)).1 76 (6 + 6 * f + 4))) = _ ∧ zR (zput υ 76 ((6 : Int32) + 6 * nI f + 4).toNatClampNeg (nI p))
          rw [ei, nI_clamp (by omega), show 6 + 6 * f + 4 = 10 + 6 * f by omega, e76, hm6 f hf]
          have k7 : zAre a 7 = a 7 := zAre_k (by decide) (by decide) (by decide)
          have kf : zAre a 2 0 = a 2 0 := by rw [zAre_k (by decide) (by decide) (by decide)]
          have k4 : zAre a 4 = a 4 := zAre_k (by decide) (by decide) (by decide)
          have wf := zAre_wf hW
          refine ⟨rfl, zR.up (a := zAmv a f p) hO (τ := zput τ 7 f (nI p)) (fun k hk => (zput_ne (by omega)).trans (g1 k hk)) g2 (fun k hk => (zput_ne hk).trans (k1 k hk)) k2 ?_ ?_ ?_⟩
          · refine ⟨wf.1, wf.2.1, wf.2.2.1, fun g hg => ?_, fun g k hg hk => ?_, wf.2.2.2.2.2⟩
            · have hg' : g < zAre a 2 0 := hg
              obtain ⟨r1, r2, r3, r4, r5⟩ := wf.2.2.2.1 g hg'
              refine ⟨r1, r2, r3, r4, ?_⟩
              show zup (a 7) f p g ≤ 9 ∧ zup (a 7) f p g % 2 = zAre a 4 g
              rw [k4]
              by_cases e : g = f
              · rw [e, zup_s]
                exact ⟨hp, eb4.symm⟩
              · rw [zup_n e, ← k7, ← k4]
                exact r5
            · have hg : g < zAre a 2 0 := hg
              have hk : k < zAre a 2 0 := hk
              rw [kf] at hg hk
              show zup (a 7) f p g = zup (a 7) f p k → g = k
              by_cases e : g = f
              · by_cases e2 : k = f
                · omega
                · rw [e, zup_s, zup_n e2]
                  intro z
                  exact absurd z.symm (nt2 k hk)
              · by_cases e2 : k = f
                · rw [e2, zup_s, zup_n e]
                  intro z
                  exact absurd z (nt2 g hg)
                · rw [zup_n e, zup_n e2]
                  exact hW.2.2.2.2.1 g k hg hk
          · obtain ⟨q0, q1, q2, q3, q4, q5, q6, q7, q8⟩ := g3
            refine ⟨q0, fun i hi => q1 i hi, q2, fun g hg => ?_, q4, q5, fun k hk => q6 k hk, q7, fun u hu => q8 u hu⟩
            obtain ⟨r1, r2, r3, r4, r5⟩ := q3 g hg
            refine ⟨r1, r2, r3, r4, ?_⟩
            show (if g = f then nI p else τ.1 7 g) = nI (zup (a 7) f p g)
            by_cases e : g = f
            · rw [if_pos e, e, zup_s]
            · rw [if_neg e, zup_n e, ← k7]
              exact r5
          · obtain ⟨q0, q1, q2, q4, q5, q6, q7, q8⟩ := k3
            have z : ∀ j, j ≠ 10 + 6 * f → (zput υ 76 (10 + 6 * f) (nI p)).1 76 j = υ.1 76 j := fun j hj => zput_u hj
            refine ⟨(z 0 (by omega)).trans q0, (z 1 (by omega)).trans q1, ⟨(z 2 (by omega)).trans q2.1, (z 3 (by omega)).trans q2.2⟩, (z 4 (by omega)).trans q4, (z 5 (by omega)).trans q5, fun g hg => ?_, fun k hk => ?_, fun u hu g hg => ?_⟩
            · obtain ⟨r1, r2, r3, r4, r5, r6⟩ := q6 g hg
              refine ⟨(z _ (by omega)).trans r1, (z _ (by omega)).trans r2, (z _ (by omega)).trans r3, (z _ (by omega)).trans r4, ?_, (z _ (by omega)).trans r6⟩
              show (zput υ 76 (10 + 6 * f) (nI p)).1 76 (10 + 6 * g) = nI (zup (a 7) f p g)
              by_cases e : g = f
              · rw [e, zup_s, zput_s]
              · rw [z _ (by omega), zup_n e, ← k7]
                exact r5
            · obtain ⟨r1, r2, r3⟩ := q7 k hk
              exact ⟨(z _ (by omega)).trans r1, (z _ (by omega)).trans r2, (z _ (by omega)).trans r3⟩
            · obtain ⟨r1, r2⟩ := q8 u hu g hg
              exact ⟨(z _ (by omega)).trans r1, (z _ (by omega)).trans r2⟩
    · refine zPr_bad (j := 0) h (fun Q hQ => ⟨rfl, zFix_in (isF hn hX.2.2.1 hf (e1 (And.intro (vp_in_nI (N := 7) (by omega) (by decide)) ?_)))⟩) (fun τ Q e hQ => ⟨rfl, zFix_in (isFr hn (by rw [e]; exact hM.1) hf (e1 (rd4 _ _ e (noPr nv (n0 (zFix_in (r_bad hQ)))))))⟩)
      show T_X11_isPewOf [.int y, .int (σ.1 4 (nI f).toNatClampNeg)] σ _
      rw [nI_clamp (by omega), ex4]
      exact noP nv (n0 (zFix_in (t_refBad hQ)))
  · exact zPr_bad (j := 0) h (fun Q hQ => ⟨rfl, zFix_in (noF hn hX.2.2.1 nv (e0 (zFix_in (t_refBad hQ))))⟩) (fun τ Q e hQ => ⟨rfl, zFix_in (noFr hn (by rw [e]; exact hM.1) nv (e0 (zFix_in (r_bad hQ))))⟩)
end
