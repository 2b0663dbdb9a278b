/-! The class's seating: pew by pew. -/
def zWk (a : zA) (P set k : Nat) (s : Nat → Nat) : Prop := zPS a (P + 1) set s ∧ (zPS a P set s ∨ ∃ f, f < k ∧ f < a 2 0 ∧ zb set f = 1 ∧ s f = P)
def zBf (a : zA) (P set k : Nat) (x : Int32) : Prop := (x = -1 ∧ ∀ s, ¬ zWk a P set k s) ∨ ∃ s, zWk a P set k s ∧ x = nI (zSC a set s) ∧ ∀ r, zWk a P set k r → zSC a set r ≤ zSC a set s
theorem zBf_0 {a : zA} {P set : Nat} {x : Int32} (h : zBe a P set x) : zBf a P set 0 x := by
  have e : ∀ s, zWk a P set 0 s → zPS a P set s := fun s w => by
    rcases w.2 with w | ⟨f, hf, _⟩
    · exact w
    · omega
  rcases h with ⟨h1, h2⟩ | ⟨s, h1, h2, h3⟩
  · exact Or.inl ⟨h1, fun s w => h2 s (e s w)⟩
  · exact Or.inr ⟨s, ⟨zPS_up h1, Or.inl h1⟩, h2, fun r w => h3 r (e r w)⟩
theorem zBf_n {a : zA} {P set : Nat} {x : Int32} (h : zBf a P set (a 2 0) x) : zBe a (P + 1) set x := by
  have e : ∀ s, zPS a (P + 1) set s → zWk a P set (a 2 0) s := fun s p => ⟨p, by
    rcases zPS_or p with q | ⟨k, h1, h2, h3, _⟩
    · exact Or.inl q
    · exact Or.inr ⟨k, h1, h1, h2, h3⟩⟩
  rcases h with ⟨h1, h2⟩ | ⟨s, h1, h2, h3⟩
  · exact Or.inl ⟨h1, fun s p => h2 s (e s p)⟩
  · exact Or.inr ⟨s, h1.1, h2, fun r p => h3 r (e r p)⟩
/-- no way has family k at this pew -/
theorem zBf_s {a : zA} {P set k : Nat} {x : Int32} (h : zBf a P set k x) (no : ∀ s, zPS a (P + 1) set s → k < a 2 0 → zb set k = 1 → s k = P → False) : zBf a P set (k + 1) x := by
  have e : ∀ s, zWk a P set (k + 1) s ↔ zWk a P set k s := fun s => by
    refine ⟨fun w => ⟨w.1, ?_⟩, fun w => ⟨w.1, ?_⟩⟩
    · rcases w.2 with q | ⟨f, h1, h2, h3, h4⟩
      · exact Or.inl q
      · by_cases q : f = k
        · subst q; exact absurd (no s w.1 h2 h3 h4) id
        · exact Or.inr ⟨f, by omega, h2, h3, h4⟩
    · rcases w.2 with q | ⟨f, h1, h2, h3, h4⟩
      · exact Or.inl q
      · exact Or.inr ⟨f, by omega, h2, h3, h4⟩
  rcases h with ⟨h1, h2⟩ | ⟨s, h1, h2, h3⟩
  · exact Or.inl ⟨h1, fun s w => h2 s ((e s).mp w)⟩
  · exact Or.inr ⟨s, (e s).mpr h1, h2, fun r w => h3 r ((e r).mp w)⟩
theorem zBf_m {a : zA} {P set k v : Nat} {x : Int32} {s0 : Nat → Nat} (hn : a 2 0 ≤ 7) (hs : set < 128) (hk : k < a 2 0) (zk : zb set k = 1) (ek : P % 2 = a 4 k) (h : zBf a P set k x) (p0 : zPS a P (zsb1 set k 0) s0) (m0 : ∀ r, zPS a P (zsb1 set k 0) r → zSC a (zsb1 set k 0) r ≤ zSC a (zsb1 set k 0) s0) (ev : v = zSC a (zsb1 set k 0) s0 + zWt a k (zsb1 set k 0) P) : zBf a P set (k + 1) (if x < nI v then nI v else x) ∧ v ≤ 1190000000 := by
  obtain ⟨q1, q2⟩ := zPS_ad hn hs hk zk ek p0
  have lv : v ≤ 1190000000 := by rw [ev, ← q2]; exact zSC_le hn
  have wn : zWk a P set (k + 1) (zup s0 k P) := ⟨q1, Or.inr ⟨k, by omega, hk, zk, zup_s⟩⟩
  have up : ∀ r, zWk a P set (k + 1) r → zWk a P set k r ∨ zSC a set r ≤ v := by
    intro r w
    rcases w.2 with q | ⟨f, h1, h2, h3, h4⟩
    · exact Or.inl ⟨w.1, Or.inl q⟩
    · by_cases e : f = k
      · subst e
        obtain ⟨r1, r2⟩ := zSC_add hn hs w.1 h2 h3 h4
        have := m0 r r1
        exact Or.inr (by omega)
      · exact Or.inl ⟨w.1, Or.inr ⟨f, by omega, h2, h3, h4⟩⟩
  refine ⟨?_, lv⟩
  rcases h with ⟨h1, h2⟩ | ⟨s, h1, h2, h3⟩
  · rw [h1]
    have : (-1 : Int32) < nI v := by
      rw [Int32.lt_iff_toInt_lt, nI_toInt (by omega), show (-1 : Int32).toInt = -1 from by decide]
      omega
    rw [if_pos this]
    refine Or.inr ⟨zup s0 k P, wn, by rw [q2, ev], fun r w => ?_⟩
    rcases up r w with u | u
    · exact absurd u (h2 r)
    · rw [q2, ← ev]; exact u
  · have ls := zSC_le (a := a) (set := set) (s := s) hn
    rw [h2]
    by_cases c : zSC a set s < v
    · rw [if_pos ((nI_ltI (by omega) (by omega)).mpr c)]
      refine Or.inr ⟨zup s0 k P, wn, by rw [q2, ev], fun r w => ?_⟩
      rw [q2, ← ev]
      rcases up r w with u | u
      · have := h3 r u; omega
      · exact u
    · rw [if_neg (fun z => c ((nI_ltI (by omega) (by omega)).mp z))]
      refine Or.inr ⟨s, ⟨h1.1, ?_⟩, rfl, fun r w => ?_⟩
      · rcases h1.2 with q | ⟨f, g1, g2, g3, g4⟩
        · exact Or.inl q
        · exact Or.inr ⟨f, by omega, g2, g3, g4⟩
      · rcases up r w with u | u
        · exact h3 r u
        · omega
section
variable {a : zA} {σ : zM} {Q : zQ}
theorem t_fillPew {P : Nat} (hW : zWF a) (hS : zSv σ a (a 3) (a 4)) (hT : zTl a σ) (hP : P < 10) (hB : ∀ s, s < 2 ^ a 2 0 → zBe a P s (σ.1 69 s)) (h : ∀ τ : zM, (∀ k, k ≠ 69 → τ.1 k = σ.1 k) → τ.2 = σ.2 → (∀ s, s < 2 ^ a 2 0 → zBe a (P + 1) s (τ.1 69 s)) → Q none τ) : T_X7_fillPew [.ref 68, .ref 53, .int (nI (2 ^ a 2 0)), .int (nI P)] σ Q := by
  have hn := hW.1
  have h2n := p2_128 hn
  have pos := Nat.two_pow_pos (a 2 0)
  have L : ∀ m, m < 2 ^ a 2 0 → ∀ τ : zM, (∀ k, k ≠ 69 → τ.1 k = σ.1 k) → τ.2 = σ.2 → (∀ s, s ≤ m → τ.1 69 s = σ.1 69 s) → (∀ s, m < s → s < 2 ^ a 2 0 → zBe a (P + 1) s (τ.1 69 s)) → zFix (F_X7_fillPew Q) 1 [.ref 68, .ref 53, .null, .int (nI P), .int (nI m)] [] τ := by
    intro m
    induction m with
    | zero =>
      intro _ τ g1 g2 g3 g4
      refine zFix_in ?_
      refine And.intro (fun _ => h τ g1 g2 (fun s hs => ?_)) (fun z => absurd (by decide) z)
      by_cases e : s = 0
      · subst e
        rw [g3 0 (Nat.le_refl _)]
        have z0 : ∀ f, zb 0 f = 1 → False := fun f z => by unfold zb at z; rw [Nat.zero_div] at z; exact absurd z (by decide)
        have al : ∀ P s, zPS a P 0 s := fun P s => ⟨fun f _ z => absurd (z0 f z) id, fun f g _ _ z => absurd (z0 f z) id⟩
        rcases hB 0 pos with ⟨q1, q2⟩ | ⟨r, q1, q2, q3⟩
        · exact absurd (al P (fun _ => 0)) (q2 _)
        · exact Or.inr ⟨r, al _ _, q2, fun t _ => q3 t (al _ _)⟩
      · exact g4 s (by omega) hs
    | succ m ih =>
      intro hm τ g1 g2 g3 g4
      refine zFix_in ?_
      refine pk_le (m + 1) 0 (fun z => by omega) (fun _ => ?_)
      have L2 : ∀ f, f ≤ a 2 0 → ∀ υ : zM, (∀ k, k ≠ 69 → υ.1 k = σ.1 k) → υ.2 = σ.2 → (∀ s, s ≤ m → υ.1 69 s = σ.1 69 s) → (∀ s, m + 1 < s → s < 2 ^ a 2 0 → zBe a (P + 1) s (υ.1 69 s)) → zBf a P (m + 1) f (υ.1 69 (m + 1)) → zFix (F_X7_fillPew Q) 2 [.ref 68, .ref 53, .null, .int (nI P), .int (nI (m + 1)), .int (nI f)] [] υ := by
        refine zloop (a 2 0) (fun f hf ih2 => ?_)
        intro υ k1 k2 k3 k4 k5
        have hS' := hS.eq (τ := υ) (fun k h1 h2 => k1 k (by omega))
        refine zFix_in ?_
        refine pk_le (a 2 0) f (fun d => ?_) (fun d => ?_) hS'.1 rfl
        · have ef : f = a 2 0 := by omega
          subst ef
          show zFix (F_X7_fillPew Q) 1 [.ref 68, .ref 53, .null, .int (nI P), .int (nI (m + 1) + (-1))] [] υ
          rw [pk_m1]
          refine ih (by omega) υ k1 k2 k3 (fun s h1 h2 => ?_)
          by_cases e : s = m + 1
          · rw [e]; exact zBf_n k5
          · exact k4 s (by omega) h2
        · obtain ⟨i1, i2, i3⟩ := zand_I (m + 1) (by omega) f (by omega)
          have hl := hW.2.2.2.1 f d
          have B3 : ∀ υ' : zM, (∀ k, k ≠ 69 → υ'.1 k = σ.1 k) → υ'.2 = σ.2 → (∀ s, s ≤ m → υ'.1 69 s = σ.1 69 s) → (∀ s, m + 1 < s → s < 2 ^ a 2 0 → zBe a (P + 1) s (υ'.1 69 s)) → zBf a P (m + 1) (f + 1) (υ'.1 69 (m + 1)) → zFix (F_X7_fillPew Q) 3 [.ref 68, .ref 53, .null, .int (nI P), .int (nI (m + 1)), .int (nI f)] [] υ' := by
            intro υ' j1 j2 j3 j4 j5
            refine zFix_in ?_
            show zFix (F_X7_fillPew Q) 2 [.ref 68, .ref 53, .null, .int (nI P), .int (nI (m + 1)), .int (nI f + 1)] [] υ'
            rw [nI_1]
            exact ih2 (f + 1) (by omega) (by omega) υ' j1 j2 j3 j4 j5
          have eb : υ.1 61 f = nI (a 4 f) := (hS'.2.2.2.2 f d).1
          show (nI (m + 1) &&& ((1 : Int32) <<< (nI f &&& 31) ^^^ (-1)) = nI (m + 1) → zFix (F_X7_fillPew Q) 3 [.ref 68, .ref 53, .null, .int (nI P), .int (nI (m + 1)), .int (nI f)] [] υ) ∧ (¬ nI (m + 1) &&& ((1 : Int32) <<< (nI f &&& 31) ^^^ (-1)) = nI (m + 1) → vp_in (nI f) 7 ∧ ¬ (2 : Int32) = 0 ∧ (¬ υ.1 61 (nI f).toNatClampNeg = nI P - nI P / 2 * 2 → zFix (F_X7_fillPew Q) 3 [.ref 68, .ref 53, .null, .int (nI P), .int (nI (m + 1)), .int (nI f)] [] υ) ∧ (υ.1 61 (nI f).toNatClampNeg = nI P - nI P / 2 * 2 → vp_in (nI (m + 1) &&& ((1 : Int32) <<< (nI f &&& 31) ^^^ (-1))) 128 ∧ (υ.1 69 (nI (m + 1) &&& ((1 : Int32) <<< (nI f &&& 31) ^^^ (-1))).toNatClampNeg = -1 → zFix (F_X7_fillPew Q) 3 [.ref 68, .ref 53, .null, .int (nI P), .int (nI (m + 1)), .int (nI f)] [] υ) ∧ (¬ υ.1 69 (nI (m + 1) &&& ((1 : Int32) <<< (nI f &&& 31) ^^^ (-1))).toNatClampNeg = -1 → vp_in (nI (m + 1)) 128 ∧ vp_in (nI (m + 1) &&& ((1 : Int32) <<< (nI f &&& 31) ^^^ (-1))) 128 ∧ T_X7_worth [.ref 68, .ref 53, .int (nI f), .int (nI (m + 1) &&& ((1 : Int32) <<< (nI f &&& 31) ^^^ (-1))), .int (nI P)] υ (fun v τ => (i_iadd <| i_mmax <| i_iast <| i_jmp (zFix (F_X7_fillPew Q)) 3 [true, true, false, true, true, true]) [.ref 68, .ref 53, .null, .int (nI P), .int (nI (m + 1)), .int (nI f), .int (nI (m + 1) &&& ((1 : Int32) <<< (nI f &&& 31) ^^^ (-1)))] (zvl v [.int (υ.1 69 (nI (m + 1) &&& ((1 : Int32) <<< (nI f &&& 31) ^^^ (-1))).toNatClampNeg), .int (υ.1 69 (nI (m + 1)).toNatClampNeg), .int (nI (m + 1)), .ref 69]) τ))))
          rw [i1, nI_clamp (by omega), nI_clamp (by omega), nI_clamp (by omega), eb, rem2 (by omega)]
          refine And.intro (fun z => ?_) (fun z => ⟨vp_in_nI (by omega) (by decide), by decide, fun y => ?_, fun y => ⟨vp_in_nI (by omega) (by decide), fun x => ?_, fun x => ⟨vp_in_nI (by omega) (by decide), vp_in_nI (by omega) (by decide), ?_⟩⟩⟩)
          · have z0 := i3.mp (nI_inj (by omega) (by omega) z)
            exact B3 υ k1 k2 k3 k4 (zBf_s k5 (fun s _ _ zk _ => by omega))
          · refine B3 υ k1 k2 k3 k4 (zBf_s k5 (fun s p _ zk e => y ?_))
            rw [← (p.1 f d zk).2, e]
          · have zk : zb (m + 1) f = 1 := by
              rcases zb_01 (m + 1) f with q | q
              · exact absurd (by rw [i3.mpr q]) z
              · exact q
            have lo : zsb1 (m + 1) f 0 ≤ m := by
              have : zsb1 (m + 1) f 0 ≠ m + 1 := fun q => by have := i3.mp q; omega
              omega
            rw [k3 _ lo] at x
            refine B3 υ k1 k2 k3 k4 (zBf_s k5 (fun s p _ zk2 e => ?_))
            have pp := (zSC_add hn (by omega) p d zk2 e).1
            rcases hB _ (show zsb1 (m + 1) f 0 < 2 ^ a 2 0 by omega) with ⟨_, q2⟩ | ⟨r, _, q2, _⟩
            · exact q2 s pp
            · have ls := zSC_le (a := a) (set := zsb1 (m + 1) f 0) (s := r) hn
              exact m1_ne (by omega) (x.symm.trans q2)
          · have zk : zb (m + 1) f = 1 := by
              rcases zb_01 (m + 1) f with q | q
              · exact absurd (by rw [i3.mpr q]) z
              · exact q
            have lo : zsb1 (m + 1) f 0 ≤ m := by
              have : zsb1 (m + 1) f 0 ≠ m + 1 := fun q => by have := i3.mp q; omega
              omega
            rw [k3 _ lo] at x ⊢
            rcases hB _ (show zsb1 (m + 1) f 0 < 2 ^ a 2 0 by omega) with ⟨q1, _⟩ | ⟨r, q1, q2, q3⟩
            · exact absurd q1 x
            · have hT' : zTl a υ := fun set hset c hc => by rw [k1 70 (by decide)]; exact hT set hset c hc
              refine t_worth hW hS' hT' d (by omega) hP ?_
              have ek : P % 2 = a 4 f := (nI_inj (by omega) (by omega) y).symm
              obtain ⟨w1, w2⟩ := zBf_m hn (by omega) d zk ek k5 q1 q3 rfl
              rw [q2]
              show vp_in (nI (m + 1)) 128 ∧ zFix (F_X7_fillPew Q) 3 [.ref 68, .ref 53, .null, .int (nI P), .int (nI (m + 1)), .int (nI f)] [] (zput υ 69 (nI (m + 1)).toNatClampNeg (if υ.1 69 (m + 1) < nI (zSC a (zsb1 (m + 1) f 0) r) + nI (zWt a f (zsb1 (m + 1) f 0) P) then nI (zSC a (zsb1 (m + 1) f 0) r) + nI (zWt a f (zsb1 (m + 1) f 0) P) else υ.1 69 (m + 1)))
              rw [nI_add, nI_clamp (by omega)]
              refine ⟨vp_in_nI (by omega) (by decide), B3 _ (fun k hk => (zput_ne hk).trans (k1 k hk)) k2 (fun s hs => by rw [zput_u (by omega)]; exact k3 s hs) (fun s h1 h2 => by rw [zput_u (by omega)]; exact k4 s h1 h2) ?_⟩
              rw [zput_s]
              exact w1
      refine L2 0 (Nat.zero_le _) τ g1 g2 (fun s hs => g3 s (by omega)) (fun s h1 h2 => g4 s h1 h2) ?_
      rw [g3 (m + 1) (Nat.le_refl _)]
      exact zBf_0 (hB _ hm)
  refine ⟨rfl, zFix_in ?_⟩
  show zFix (F_X7_fillPew Q) 1 [.ref 68, .ref 53, .null, .int (nI P), .int (nI (2 ^ a 2 0) - 1)] [] σ
  rw [show nI (2 ^ a 2 0) - 1 = nI (2 ^ a 2 0 - 1) from pk_sub (b := 1) (by omega)]
  exact L (2 ^ a 2 0 - 1) (by omega) σ (fun _ _ => rfl) rfl (fun _ _ => rfl) (fun s h1 h2 => by omega)
theorem t_findSeats (hW : zWF a) (hS : zSv σ a (a 3) (a 4)) (h : ∀ τ : zM, (∀ k, k ≠ 68 → k ≠ 69 → k ≠ 70 → τ.1 k = σ.1 k) → τ.2 = σ.2 → zBe a 10 (2 ^ a 2 0 - 1) (τ.1 68 2) → Q none τ) : T_X7_find [.ref 68, .ref 53] σ Q := by
  have hn := hW.1
  have h2n := p2_128 hn
  have pos := Nat.two_pow_pos (a 2 0)
  refine ⟨rfl, zFix_in ?_⟩
  show T_X7_findTallest [.ref 68, .ref 53, .int ((1 : Int32) <<< (σ.1 53 1 &&& 31))] σ (fun v τ => (i_al 0 <| i_gf 7 0 <| i_ic (-1) <| i_call 2 T_J7_fill_53178 <| i_al 0 <| i_gf 7 0 <| i_ic 0 <| i_ic 0 <| i_iast <| i_ic 0 <| i_is 3 <| i_jmp (zFix (F_X7_find Q)) 1 [true, true, true, true]) [.ref 68, .ref 53, .int ((1 : Int32) <<< (σ.1 53 1 &&& 31)), .null] (zvl v []) τ)
  rw [hS.1, nI_shl1 (by omega)]
  refine t_tallest hW hS (fun τ1 g1 g2 g3 => ?_)
  refine t_fill (o := 69) (N := 128) rfl (by decide) (by decide) (fun τ2 f1 f2 f3 => ?_)
  refine And.intro (vp_in_nI (n := 0) (N := 128) (by decide) (by decide)) ?_
  have L : ∀ P, P ≤ 10 → ∀ τ : zM, (∀ k, k ≠ 69 → k ≠ 70 → τ.1 k = σ.1 k) → τ.2 = σ.2 → zTl a τ → (∀ s, s < 2 ^ a 2 0 → zBe a P s (τ.1 69 s)) → zFix (F_X7_find Q) 1 [.ref 68, .ref 53, .int (nI (2 ^ a 2 0)), .int (nI P)] [] τ := by
    refine zloop 10 (fun P hP ih => ?_)
    intro τ k1 k2 k3 k4
    refine zFix_in ?_
    refine pk_le 10 P (fun d => ?_) (fun d => ?_)
    · have e10 : P = 10 := by omega
      subst e10
      have es : nI (2 ^ a 2 0) - 1 = nI (2 ^ a 2 0 - 1) := pk_sub (b := 1) (by omega)
      show vp_in (nI (2 ^ a 2 0) - 1) 128 ∧ Q none (zput τ 68 2 (τ.1 69 (nI (2 ^ a 2 0) - 1).toNatClampNeg))
      rw [es, nI_clamp (by omega)]
      refine ⟨vp_in_nI (by omega) (by decide), h _ (fun k h1 h2 h3 => (zput_ne h1).trans (k1 k h2 h3)) k2 ?_⟩
      rw [zput_s]
      exact k4 _ (by omega)
    · refine t_fillPew hW (hS.eq (fun k h1 h2 => k1 k (by omega) (by omega))) k3 d k4 (fun υ j1 j2 j3 => ?_)
      show zFix (F_X7_find Q) 1 [.ref 68, .ref 53, .int (nI (2 ^ a 2 0)), .int (nI P + 1)] [] υ
      rw [nI_1]
      exact ih (P + 1) (by omega) (by omega) υ (fun k h1 h2 => (j1 k h1).trans (k1 k h1 h2)) (j2.trans k2) (fun set hset c hc => by rw [j1 70 (by decide)]; exact k3 set hset c hc) j3
  refine L 0 (Nat.zero_le _) _ (fun k h1 h2 => by rw [zput_ne h1, f1 k h1, g1 k h2]) (f2.trans g2) (fun set hset c hc => by rw [zput_ne (by decide), f1 70 (by decide)]; exact g3 set hset c hc) (fun s hs => ?_)
  by_cases e : s = 0
  · subst e
    have z0 : ∀ f, zb 0 f = 0 := fun f => by unfold zb; rw [Nat.zero_div]
    have al : ∀ r, zPS a 0 0 r := fun r => ⟨fun f _ z => by rw [z0 f] at z; exact absurd z (by decide), fun f g _ _ z => by rw [z0 f] at z; exact absurd z (by decide)⟩
    have sc : ∀ r, zSC a 0 r = 0 := fun r => by
      have := zsu_le (g := fun f => zb 0 f * (zVs a 0 r f * 10000000 + (9 - r f) * 10 ^ (6 - f))) (m := 0) (n := a 2 0) (fun f _ => by show zb 0 f * _ ≤ 0; rw [z0 f, Nat.zero_mul]; exact Nat.le_refl _)
      unfold zSC
      omega
    refine Or.inr ⟨fun _ => 0, al _, ?_, fun r _ => by rw [sc, sc]; exact Nat.le_refl _⟩
    rw [sc]
    exact zput_s
  · refine Or.inl ⟨?_, fun r p => ?_⟩
    · show (zput τ2 69 0 0).1 69 s = -1
      rw [zput_u e]
      exact f3 s (by omega)
    · obtain ⟨f, f7, z1, fp, _⟩ := zfst s (by omega) (by omega)
      have fn : f < a 2 0 := by
        by_cases q : f < a 2 0
        · exact q
        · have : 2 ^ a 2 0 ≤ 2 ^ f := Nat.pow_le_pow_right (by decide) (by omega)
          omega
      have := (p.1 f fn z1).1
      omega
end
