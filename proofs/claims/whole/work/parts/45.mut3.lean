/-! Pairs: heard, family; becoming like another church: image, from. -/
def zup (g : Nat → Nat) (k v : Nat) : Nat → Nat := fun i => if i = k then v else g i
theorem zup_s {g : Nat → Nat} {k v : Nat} : zup g k v k = v := if_pos rfl
theorem zup_n {g : Nat → Nat} {k v i : Nat} (h : i ≠ k) : zup g k v i = g i := if_neg h
def zAh (a : zA) (w b n : Nat) : zA := zs1 (zs1 (zs1 (zs1 a 10 (zup (a 10) (a 9 0) w)) 11 (zup (a 11) (a 9 0) b)) 12 (zup (a 12) (a 9 0) n)) 9 (fun _ => a 9 0 + 1)
def zAf (a : zA) (k b t v p : Nat) : zA := fun j => if j = 2 then (fun _ => a 2 0 + 1) else if j = 3 then zup (a 3) (a 2 0) k else if j = 4 then zup (a 4) (a 2 0) b else if j = 5 then zup (a 5) (a 2 0) t else if j = 6 then zup (a 6) (a 2 0) v else if j = 7 then zup (a 7) (a 2 0) p else if j = 13 then (fun _ => 0) else a j
theorem zAf_wf {a : zA} {k b t v p : Nat} (hW : zWF a) (hn : a 2 0 < 7) (hk : k < 6) (hb : b < 2) (ht : 1 ≤ t ∧ t ≤ 9) (hv : 1 ≤ v ∧ v ≤ 20) (hp : p ≤ 9) (e : p % 2 = b) (nt : ∀ f, f < a 2 0 → a 7 f ≠ p) : zWF (zAf a k b t v p) := by
  refine ⟨hn, hW.2.1, hW.2.2.1, fun f hf => ?_, fun f g hf hg => ?_, ?_, hW.2.2.2.2.2.2.1, hW.2.2.2.2.2.2.2.1, Nat.zero_le _, fun u hu => absurd hu (Nat.not_lt_zero u)⟩
  · show zup (a 3) (a 2 0) k f < 6 ∧ zup (a 4) (a 2 0) b f < 2 ∧ (1 ≤ zup (a 5) (a 2 0) t f ∧ zup (a 5) (a 2 0) t f ≤ 9) ∧ (1 ≤ zup (a 6) (a 2 0) v f ∧ zup (a 6) (a 2 0) v f ≤ 20) ∧ zup (a 7) (a 2 0) p f ≤ 9 ∧ zup (a 7) (a 2 0) p f % 2 = zup (a 4) (a 2 0) b f
    have hf : f < a 2 0 + 1 := hf
    by_cases q : f = a 2 0
    · rw [q, zup_s, zup_s, zup_s, zup_s, zup_s]
      exact ⟨hk, hb, ht, hv, hp, e⟩
    · rw [zup_n q, zup_n q, zup_n q, zup_n q, zup_n q]
      exact hW.2.2.2.1 f (by omega)
  · have hf : f < a 2 0 + 1 := hf
    have hg : g < a 2 0 + 1 := hg
    show zup (a 7) (a 2 0) p f = zup (a 7) (a 2 0) p g → f = g
    by_cases q : f = a 2 0
    · by_cases r : g = a 2 0
      · omega
      · rw [q, zup_s, zup_n r]
        intro z
        exact absurd z.symm (nt g (by omega))
    · by_cases r : g = a 2 0
      · rw [r, zup_s, zup_n q]
        intro z
        exact absurd z (nt f (by omega))
      · rw [zup_n q, zup_n r]
        exact hW.2.2.2.2.1 f g (by omega) (by omega)
  · show a 8 0 < 2 ^ (a 2 0 + 1)
    have := hW.2.2.2.2.2.1
    rw [Nat.pow_succ]
    omega
theorem zb_hi {x n : Nat} (h : x < 2 ^ n) : zb x n = 0 := by unfold zb; rw [Nat.div_eq_of_lt h]
theorem t_admit {b0 k b t v p : Nat} {a : zA} {σ : zM} {Q : zQ} (hb0 : b0 = 1 ∨ b0 = 13) (hn : a 2 0 < 7) (hX : zCX b0 σ a) (h : ∀ τ : zM, (∀ k, (k < b0 ∨ b0 + 12 ≤ k) → τ.1 k = σ.1 k) → τ.2 = σ.2 → zCX b0 τ (zAf a k b t v p) → Q (some (.int (nI (a 2 0)))) τ) : T_X1_admit [.ref b0, .int (nI k), .int (nI b), .int (nI t), .int (nI v), .int (nI p)] σ Q := by
  obtain ⟨q0, q1, q2, q3, q4, q5, q6, q7, q8⟩ := hX
  have fin : Q (some (.int (nI (a 2 0)))) (zput (zput (zput (zput (zput (zput (zput σ (b0 + 2) (a 2 0) (nI k)) (b0 + 3) (a 2 0) (nI b)) (b0 + 4) (a 2 0) (nI t)) (b0 + 5) (a 2 0) (nI v)) (b0 + 6) (a 2 0) (nI p)) b0 2 (nI (a 2 0 + 1))) b0 13 0) := by
    refine h _ (fun j hj => ?_) rfl ⟨?_, fun i hi => ?_, ?_, fun f hf => ?_, ?_, ?_, fun j hj => ?_, ?_, fun u hu => absurd hu (Nat.not_lt_zero u)⟩
    · rw [zput_ne (by omega), zput_ne (by omega), zput_ne (by omega), zput_ne (by omega), zput_ne (by omega), zput_ne (by omega), zput_ne (by omega)]
    · rw [zput_u (by decide), zput_u (by decide), zput_ne (by omega), zput_ne (by omega), zput_ne (by omega), zput_ne (by omega), zput_ne (by omega)]
      exact q0
    · rw [zput_ne (by omega), zput_ne (by omega), zput_ne (by omega), zput_ne (by omega), zput_ne (by omega), zput_ne (by omega), zput_ne (by omega)]
      exact q1 i hi
    · rw [zput_u (by decide), zput_s]
      rfl
    · have hf : f < a 2 0 + 1 := hf
      show _ = nI (zup (a 3) (a 2 0) k f) ∧ _ = nI (zup (a 4) (a 2 0) b f) ∧ _ = nI (zup (a 5) (a 2 0) t f) ∧ _ = nI (zup (a 6) (a 2 0) v f) ∧ _ = nI (zup (a 7) (a 2 0) p f)
      by_cases q : f = a 2 0
      · rw [q, zup_s, zup_s, zup_s, zup_s, zup_s]
        refine ⟨?_, ?_, ?_, ?_, ?_⟩
        · rw [zput_ne (by omega), zput_ne (by omega), zput_ne (by omega), zput_ne (by omega), zput_ne (by omega), zput_ne (by omega), zput_s]
        · rw [zput_ne (by omega), zput_ne (by omega), zput_ne (by omega), zput_ne (by omega), zput_ne (by omega), zput_s]
        · rw [zput_ne (by omega), zput_ne (by omega), zput_ne (by omega), zput_ne (by omega), zput_s]
        · rw [zput_ne (by omega), zput_ne (by omega), zput_ne (by omega), zput_s]
        · rw [zput_ne (by omega), zput_ne (by omega), zput_s]
      · rw [zup_n q, zup_n q, zup_n q, zup_n q, zup_n q]
        obtain ⟨r1, r2, r3, r4, r5⟩ := q3 f (by omega)
        refine ⟨?_, ?_, ?_, ?_, ?_⟩
        · rw [zput_ne (by omega), zput_ne (by omega), zput_ne (by omega), zput_ne (by omega), zput_ne (by omega), zput_ne (by omega), zput_u q]
          exact r1
        · rw [zput_ne (by omega), zput_ne (by omega), zput_ne (by omega), zput_ne (by omega), zput_ne (by omega), zput_u q, zput_ne (by omega)]
          exact r2
        · rw [zput_ne (by omega), zput_ne (by omega), zput_ne (by omega), zput_ne (by omega), zput_u q, zput_ne (by omega), zput_ne (by omega)]
          exact r3
        · rw [zput_ne (by omega), zput_ne (by omega), zput_ne (by omega), zput_u q, zput_ne (by omega), zput_ne (by omega), zput_ne (by omega)]
          exact r4
        · rw [zput_ne (by omega), zput_ne (by omega), zput_u q, zput_ne (by omega), zput_ne (by omega), zput_ne (by omega), zput_ne (by omega)]
          exact r5
    · rw [zput_u (by decide), zput_u (by decide), zput_ne (by omega), zput_ne (by omega), zput_ne (by omega), zput_ne (by omega), zput_ne (by omega)]
      exact q4
    · rw [zput_u (by decide), zput_u (by decide), zput_ne (by omega), zput_ne (by omega), zput_ne (by omega), zput_ne (by omega), zput_ne (by omega)]
      exact q5
    · rw [zput_ne (by omega), zput_ne (by omega), zput_ne (by omega), zput_ne (by omega), zput_ne (by omega), zput_ne (by omega), zput_ne (by omega), zput_ne (by omega), zput_ne (by omega), zput_ne (by omega), zput_ne (by omega), zput_ne (by omega), zput_ne (by omega), zput_ne (by omega), zput_ne (by omega), zput_ne (by omega), zput_ne (by omega), zput_ne (by omega), zput_ne (by omega), zput_ne (by omega), zput_ne (by omega)]
      exact q6 j hj
    · rw [zput_s]
      rfl
  have ein : vp_in (σ.1 b0 2) 7 := by rw [q2]; exact vp_in_nI hn (by decide)
  have es : zput (zput (zput (zput (zput (zput (zput σ (b0 + 2) (σ.1 b0 2).toNatClampNeg (nI k)) (b0 + 3) (σ.1 b0 2).toNatClampNeg (nI b)) (b0 + 4) (σ.1 b0 2).toNatClampNeg (nI t)) (b0 + 5) (σ.1 b0 2).toNatClampNeg (nI v)) (b0 + 6) (σ.1 b0 2).toNatClampNeg (nI p)) b0 2 ((zput (zput (zput (zput (zput σ (b0 + 2) (σ.1 b0 2).toNatClampNeg (nI k)) (b0 + 3) (σ.1 b0 2).toNatClampNeg (nI b)) (b0 + 4) (σ.1 b0 2).toNatClampNeg (nI t)) (b0 + 5) (σ.1 b0 2).toNatClampNeg (nI v)) (b0 + 6) (σ.1 b0 2).toNatClampNeg (nI p)).1 b0 2 + 1)) b0 13 0 = zput (zput (zput (zput (zput (zput (zput σ (b0 + 2) (a 2 0) (nI k)) (b0 + 3) (a 2 0) (nI b)) (b0 + 4) (a 2 0) (nI t)) (b0 + 5) (a 2 0) (nI v)) (b0 + 6) (a 2 0) (nI p)) b0 2 (nI (a 2 0 + 1))) b0 13 0 := by
    rw [zput_ne (show b0 ≠ b0 + 6 by omega), zput_ne (show b0 ≠ b0 + 5 by omega), zput_ne (show b0 ≠ b0 + 4 by omega), zput_ne (show b0 ≠ b0 + 3 by omega), zput_ne (show b0 ≠ b0 + 2 by omega), q2, nI_clamp (by omega), nI_1]
  rw [← es, ← q2] at fin
  rcases hb0 with rfl | rfl
  · exact ⟨rfl, zFix_in (And.intro ein (And.intro ein (And.intro ein (And.intro ein (And.intro ein fin)))))⟩
  · exact ⟨rfl, zFix_in (And.intro ein (And.intro ein (And.intro ein (And.intro ein (And.intro ein fin)))))⟩
