/-! The class's seating. -/
/-- x is the height of the tallest of the set in case c, -1 if there is none -/
def zTp (a : zA) (set c : Nat) (x : Int32) : Prop := ∀ h, h ≤ 10 → (x < nI h ↔ ∀ g, g < a 2 0 → zb set g = 1 → zH a g c < h)
def zTl (a : zA) (σ : zM) : Prop := ∀ set, set < 2 ^ a 2 0 → ∀ c, c < 4 → zTp a set c (σ.1 70 (set * 4 + c))
theorem zbc {a : zA} (hn : a 2 0 ≤ 7) {set : Nat} (h : set < 2 ^ a 2 0) : set < 128 := Nat.lt_of_lt_of_le h (p2_128 hn)
theorem zand_I : ∀ s, s < 128 → ∀ f, f < 7 → nI s &&& ((1 : Int32) <<< (nI f &&& 31) ^^^ (-1)) = nI (zsb1 s f 0) ∧ zsb1 s f 0 ≤ s ∧ (zsb1 s f 0 = s ↔ zb s f = 0) := by decide +kernel
theorem zfst : ∀ s, s < 128 → 0 < s → ∃ f, f < 7 ∧ zb s f = 1 ∧ 2 ^ f ≤ s ∧ ∀ g, g < f → zb s g = 0 := by decide +kernel
theorem mx_lt (x y z : Int32) : (if x < y then y else x) < z ↔ x < z ∧ y < z := by
  by_cases h : x < y
  · rw [if_pos h]
    exact ⟨fun q => ⟨Int32.lt_trans h q, q⟩, fun q => q.2⟩
  · rw [if_neg h]
    refine ⟨fun q => ⟨q, ?_⟩, fun q => q.1⟩
    have h := Int32.not_lt.mp h
    exact Int32.lt_of_le_of_lt h q
section
variable {a : zA} {σ : zM} {Q : zQ}
theorem t_firstOf {s f : Nat} (hs : s < 128) (hf : f < 7) (z1 : zb s f = 1) (z0 : ∀ g, g < f → zb s g = 0) (h : Q (some (.int (nI f))) σ) : T_X7_firstOf [.int (nI s)] σ Q := by
  have L : ∀ g, g ≤ f → zFix (F_X7_firstOf Q) 1 [.int (nI s), .int (nI g)] [] σ := by
    refine zloop f (fun g hg ih => ?_)
    refine zFix_in ?_
    refine pk_le 6 g (fun d => ?_) (fun d => ?_)
    · have : g = f := by omega
      rw [this]
      exact h
    · refine t_X11_bit (by omega) (by omega) ?_
      by_cases e : g = f
      · rw [e, z1]
        exact n1 h
      · rw [z0 g (by omega)]
        refine n0 ?_
        show zFix (F_X7_firstOf Q) 1 [.int (nI s), .int (nI g + 1)] [] σ
        rw [nI_1]
        exact ih (g + 1) (by omega) (by omega)
  exact ⟨rfl, zFix_in (L 0 (Nat.zero_le _))⟩
theorem t_tallest (hW : zWF a) (hS : zSv σ a (a 3) (a 4)) (h : ∀ τ : zM, (∀ k, k ≠ 70 → τ.1 k = σ.1 k) → τ.2 = σ.2 → zTl a τ → Q none τ) : T_X7_findTallest [.ref 68, .ref 53, .int (nI (2 ^ a 2 0))] σ Q := by
  have hn := hW.1
  have h2n := p2_128 hn
  have B2 : ∀ s, s ≤ 2 ^ a 2 0 → 1 ≤ s → ∀ τ : zM, (∀ k, k ≠ 70 → τ.1 k = σ.1 k) → τ.2 = σ.2 → (∀ set, set < s → ∀ c, c < 4 → zTp a set c (τ.1 70 (set * 4 + c))) → zFix (F_X7_findTallest Q) 2 [.ref 68, .ref 53, .int (nI (2 ^ a 2 0)), .int (nI s)] [] τ := by
    refine zloop (2 ^ a 2 0) (fun s hs ih => ?_)
    intro s1 τ g1 g2 g3
    refine zFix_in ?_
    refine pk_le (2 ^ a 2 0) s (fun d => ?_) (fun d => ?_)
    · exact h τ g1 g2 (fun set hset c hc => g3 set (by omega) c hc)
    · obtain ⟨f, f7, z1, fp, z0⟩ := zfst s (by omega) (by omega)
      have fn : f < a 2 0 := by
        by_cases q : f < a 2 0
        · exact q
        · have : 2 ^ a 2 0 ≤ 2 ^ f := Nat.pow_le_pow_right (by decide) (by omega)
          omega
      obtain ⟨i1, i2, i3⟩ := zand_I s (by omega) f f7
      have lo : zsb1 s f 0 < s := by
        have : zsb1 s f 0 ≠ s := fun q => by have := i3.mp q; omega
        omega
      refine t_firstOf (by omega) f7 z1 z0 ?_
      show zFix (F_X7_findTallest Q) 3 [.ref 68, .ref 53, .int (nI (2 ^ a 2 0)), .int (nI s), .int (nI f), .int (nI s &&& ((1 : Int32) <<< (nI f &&& 31) ^^^ (-1))), .int (nI 0)] [] τ
      rw [i1]
      have L3 : ∀ c, c ≤ 4 → ∀ υ : zM, (∀ k, k ≠ 70 → υ.1 k = σ.1 k) → υ.2 = σ.2 → (∀ set, set < s → ∀ c, c < 4 → zTp a set c (υ.1 70 (set * 4 + c))) → (∀ d, d < c → zTp a s d (υ.1 70 (s * 4 + d))) → zFix (F_X7_findTallest Q) 3 [.ref 68, .ref 53, .int (nI (2 ^ a 2 0)), .int (nI s), .int (nI f), .int (nI (zsb1 s f 0)), .int (nI c)] [] υ := by
        refine zloop 4 (fun c hc ih3 => ?_)
        intro υ k1 k2 k3 k4
        refine zFix_in ?_
        refine pk_le 4 c (fun e => ?_) (fun e => ?_)
        · show zFix (F_X7_findTallest Q) 2 [.ref 68, .ref 53, .int (nI (2 ^ a 2 0)), .int (nI s + 1)] [] υ
          rw [nI_1]
          refine ih (s + 1) (by omega) (by omega) (by omega) υ k1 k2 (fun set hset c' hc' => ?_)
          by_cases q : set = s
          · rw [q]; exact k4 c' (by omega)
          · exact k3 set (by omega) c' hc'
        · have hh : υ.1 64 (f * 4 + c) = nI (zH a f c) := by rw [k1 64 (by decide)]; exact ((hS.2.2.2.2 f fn).2.2 c e).2.1
          have hl : zH a f c ≤ 10 := zHi_lt hW fn
          have m : ∀ x : Nat, nI x * 4 + nI c = nI (x * 4 + c) := fun x => by rw [show (4 : Int32) = nI 4 from rfl, pk_mul, nI_add]
          show vp_in (nI (zsb1 s f 0) * 4 + nI c) 512 ∧ vp_in (nI f * 4 + nI c) 28 ∧ vp_in (nI s * 4 + nI c) 512 ∧ zFix (F_X7_findTallest Q) 3 [.ref 68, .ref 53, .int (nI (2 ^ a 2 0)), .int (nI s), .int (nI f), .int (nI (zsb1 s f 0)), .int (nI c + 1)] [] (zput υ 70 (nI s * 4 + nI c).toNatClampNeg (if υ.1 70 (nI (zsb1 s f 0) * 4 + nI c).toNatClampNeg < υ.1 64 (nI f * 4 + nI c).toNatClampNeg then υ.1 64 (nI f * 4 + nI c).toNatClampNeg else υ.1 70 (nI (zsb1 s f 0) * 4 + nI c).toNatClampNeg))
          rw [m, m, m, nI_clamp (by omega), nI_clamp (by omega), nI_clamp (by omega), hh, nI_1]
          refine ⟨vp_in_nI (by omega) (by decide), vp_in_nI (by omega) (by decide), vp_in_nI (by omega) (by decide), ?_⟩
          refine ih3 (c + 1) (by omega) (by omega) _ (fun k hk => (zput_ne hk).trans (k1 k hk)) k2 (fun set hset c' hc' => ?_) (fun d hd => ?_)
          · rw [zput_u (by omega)]
            exact k3 set hset c' hc'
          · by_cases q : d = c
            · subst q
              rw [zput_s]
              intro h hh10
              rw [mx_lt, k3 (zsb1 s f 0) lo d e h hh10, nI_ltI (by omega) (by omega)]
              refine ⟨fun ⟨p1, p2⟩ g hg zg => ?_, fun p => ⟨fun g hg zg => p g hg ?_, p f fn z1⟩⟩
              · by_cases eg : g = f
                · rw [eg]; exact p2
                · exact p1 g hg (by rw [zo_b (by omega) f7 (by omega), if_neg eg]; exact zg)
              · rw [zo_b (by omega) f7 (by omega)] at zg
                by_cases eg : g = f
                · rw [if_pos eg] at zg; exact absurd zg (by decide)
                · rw [if_neg eg] at zg; exact zg
            · rw [zput_u (by omega)]
              exact k4 d (by omega)
      exact L3 0 (Nat.zero_le _) τ g1 g2 g3 (fun d hd => absurd hd (Nat.not_lt_zero d))
  have B1 : ∀ c, c ≤ 4 → ∀ τ : zM, (∀ k, k ≠ 70 → τ.1 k = σ.1 k) → τ.2 = σ.2 → (∀ d, d < c → τ.1 70 d = -1) → zFix (F_X7_findTallest Q) 1 [.ref 68, .ref 53, .int (nI (2 ^ a 2 0)), .int (nI c)] [] τ := by
    refine zloop 4 (fun c hc ih => ?_)
    intro τ g1 g2 g3
    refine zFix_in ?_
    refine pk_le 4 c (fun d => ?_) (fun d => ?_)
    · refine B2 1 (Nat.two_pow_pos _) (Nat.le_refl _) τ g1 g2 (fun set hset c' hc' => ?_)
      have e0 : set = 0 := by omega
      subst e0
      rw [Nat.zero_mul, Nat.zero_add, g3 c' (by omega)]
      intro h hh
      refine ⟨fun _ g _ zg => ?_, fun _ => ?_⟩
      · exact absurd zg (by unfold zb; rw [Nat.zero_div]; decide)
      · rw [Int32.lt_iff_toInt_lt, nI_toInt (by omega), show (-1 : Int32).toInt = -1 from by decide]
        omega
    · refine And.intro (vp_in_nI (N := 512) (by omega) (by decide)) ?_
      show zFix (F_X7_findTallest Q) 1 [.ref 68, .ref 53, .int (nI (2 ^ a 2 0)), .int (nI c + 1)] [] (zput τ 70 (nI c).toNatClampNeg (-1))
      rw [nI_1, nI_clamp (by omega)]
      refine ih (c + 1) (by omega) (by omega) _ (fun k hk => (zput_ne hk).trans (g1 k hk)) g2 (fun d hd => ?_)
      rw [zputj]
      by_cases q : d = c
      · rw [if_pos q]
      · rw [if_neg q]
        exact g3 d (by omega)
  exact ⟨rfl, zFix_in (B1 0 (Nat.zero_le _) σ (fun _ _ => rfl) rfl (fun d hd => absurd hd (Nat.not_lt_zero d)))⟩
theorem zfig_I : ∀ f, f < 7 → zfigs.getD f 0 = nI (10 ^ (6 - f)) := by decide +kernel
theorem t_worth {f set P : Nat} (hW : zWF a) (hS : zSv σ a (a 3) (a 4)) (hT : zTl a σ) (hf : f < a 2 0) (hset : set < 2 ^ a 2 0) (hP : P < 10) (h : Q (some (.int (nI (zWt a f set P)))) σ) : T_X7_worth [.ref 68, .ref 53, .int (nI f), .int (nI set), .int (nI P)] σ Q := by
  have hn := hW.1
  have h2n := p2_128 hn
  have hl : ∀ c, zH a f c ≤ 10 := fun c => zHi_lt hW hf
  obtain ⟨G, eG⟩ : ∃ G : Nat → Nat, G = fun c => zpp (∀ g, g < a 2 0 → zb set g = 1 → zH a g c < zH a f c) * zwc a c 16 := ⟨_, rfl⟩
  have L : ∀ c, c ≤ 4 → zFix (F_X7_worth Q) 1 [.ref 68, .ref 53, .int (nI f), .int (nI set), .int (nI P), .int (nI (zsu G c)), .int (nI c)] [] σ := by
    refine zloop 4 (fun c hc ih => ?_)
    refine zFix_in ?_
    refine pk_le 4 c (fun d => ?_) (fun d => ?_)
    · have e4 : c = 4 := by omega
      subst e4
      refine And.intro (vp_in_nI (N := 7) (by omega) (by decide)) ?_
      show Q (some (.int (nI (zsu G 4) * 10000000 + (9 - nI P) * zfigs.getD (nI f).toNatClampNeg 0))) σ
      rw [nI_clamp (by omega), zfig_I f (by omega), show (9 : Int32) - nI P = nI (9 - P) from pk_sub (a := 9) (by omega), show (10000000 : Int32) = nI 10000000 from rfl, pk_mul, pk_mul, nI_add]
      rw [zWt, ← eG] at h
      exact h
    · have m : ∀ x : Nat, nI x * 4 + nI c = nI (x * 4 + c) := fun x => by rw [show (4 : Int32) = nI 4 from rfl, pk_mul, nI_add]
      have hh : σ.1 64 (f * 4 + c) = nI (zH a f c) := ((hS.2.2.2.2 f hf).2.2 c d).2.1
      have tp := hT set hset c d (zH a f c) (hl c)
      have es : zsu G (c + 1) = zsu G c + zpp (∀ g, g < a 2 0 → zb set g = 1 → zH a g c < zH a f c) * zwc a c 16 := by rw [eG]; rfl
      have B2 : ∀ x, x = zsu G (c + 1) → zFix (F_X7_worth Q) 2 [.ref 68, .ref 53, .int (nI f), .int (nI set), .int (nI P), .int (nI x), .int (nI c)] [] σ := by
        intro x hx
        refine zFix_in ?_
        show zFix (F_X7_worth Q) 1 [.ref 68, .ref 53, .int (nI f), .int (nI set), .int (nI P), .int (nI x), .int (nI c + 1)] [] σ
        rw [nI_1, hx]
        exact ih (c + 1) (by omega) (by omega)
      show vp_in (nI f * 4 + nI c) 28 ∧ vp_in (nI set * 4 + nI c) 512 ∧ (σ.1 64 (nI f * 4 + nI c).toNatClampNeg ≤ σ.1 70 (nI set * 4 + nI c).toNatClampNeg → zFix (F_X7_worth Q) 2 [.ref 68, .ref 53, .int (nI f), .int (nI set), .int (nI P), .int (nI (zsu G c)), .int (nI c)] [] σ) ∧ (¬ σ.1 64 (nI f * 4 + nI c).toNatClampNeg ≤ σ.1 70 (nI set * 4 + nI c).toNatClampNeg → vp_in (nI c) 4 ∧ zFix (F_X7_worth Q) 2 [.ref 68, .ref 53, .int (nI f), .int (nI set), .int (nI P), .int (nI (zsu G c) + σ.1 67 (nI c).toNatClampNeg), .int (nI c)] [] σ)
      rw [m, m, nI_clamp (by omega), nI_clamp (by omega), nI_clamp (by omega), hh, hS.2.2.2.1 c d, nI_add]
      refine ⟨vp_in_nI (by omega) (by decide), vp_in_nI (by omega) (by decide), fun z => B2 _ ?_, fun z => ⟨vp_in_nI d (by decide), B2 _ ?_⟩⟩
      · rw [es, zpp_0 (fun q => Int32.not_lt.mpr z (tp.mpr q)), Nat.zero_mul, Nat.add_zero]
      · rw [es, zpp_1 (tp.mp (Int32.not_le.mp z)), Nat.one_mul]
  exact ⟨rfl, zFix_in (L 0 (Nat.zero_le _))⟩
end
