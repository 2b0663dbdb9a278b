/-! The class's service: filling a row, supposing a kind and a book, holding a church. -/
theorem t_fill {o N : Nat} {v : Int32} {σ : zM} {Q : zQ} (hN : zil o = N) (h0 : ¬ N = 0) (hb : N < 1000) (h : ∀ τ : zM, (∀ k, k ≠ o → τ.1 k = σ.1 k) → τ.2 = σ.2 → (∀ i, i < N → τ.1 o i = v) → Q none τ) : T_J7_fill_53178 [.ref o, .int v] σ Q := by
  have L : ∀ i, i ≤ N → ∀ τ : zM, (∀ k, k ≠ o → τ.1 k = σ.1 k) → τ.2 = σ.2 → (∀ j, j < i → τ.1 o j = v) → zFix (F_J7_fill_53178 Q) 1 [.ref o, .int v, .int (nI i), .int (nI N)] [] τ := by
    refine zloop N (fun i hi ih => ?_)
    intro τ e1 e2 e3
    refine zFix_in ?_
    refine pk_le N i (fun c => ?_) (fun c => ?_)
    · exact h τ e1 e2 (fun j hj => e3 j (by omega))
    · refine And.intro (by rw [hN]; exact vp_in_nI c (by omega)) ?_
      rw [nI_clamp (by omega)]
      show zFix (F_J7_fill_53178 Q) 1 [.ref o, .int v, .int (nI i + 1), .int (nI N)] [] (zput τ o i v)
      rw [nI_1]
      refine ih (i + 1) (by omega) (by omega) _ (fun k hk => by rw [zput_ne hk]; exact e1 k hk) e2 (fun j hj => ?_)
      rw [zput_eq]
      by_cases e : j = i
      · rw [e]; exact pk_us
      · rw [pk_un e]; exact e3 j (by omega)
  refine ⟨rfl, zFix_in ?_⟩
  refine zci (zbn (by rw [hN]; exact h0)) ?_
  rw [hN]
  exact L 0 (Nat.zero_le _) σ (fun _ _ => rfl) rfl (fun j hj => absurd hj (Nat.not_lt_zero j))
/-- what supposing a kind and a book of family f leaves -/
def zSup (σ τ : zM) (f k b tl v : Nat) : Prop :=
  (∀ x, x ≠ 61 → x ≠ 63 → x ≠ 64 → x ≠ 65 → τ.1 x = σ.1 x) ∧ τ.2 = σ.2 ∧ (∀ g, g ≠ f → τ.1 61 g = σ.1 61 g) ∧ τ.1 61 f = nI b ∧
  (∀ x, x = 63 ∨ x = 64 ∨ x = 65 → ∀ i, i < f * 4 ∨ f * 4 + 4 ≤ i → τ.1 x i = σ.1 x i) ∧
  ∀ c, c < 4 → τ.1 63 (f * 4 + c) = nI (zkn k (zb c b) (zb c (1 - b))) ∧ τ.1 64 (f * 4 + c) = nI (zhi k tl (zkn k (zb c b) (zb c (1 - b)))) ∧ τ.1 65 (f * 4 + c) = nI (zso k v (zkn k (zb c b) (zb c (1 - b))))
theorem zrt54 : ∀ k, k < 6 → zrt 54 k = 55 + k := by decide
theorem zput_u {σ : zM} {k j i : Nat} {v : Int32} (h : i ≠ j) : (zput σ k j v).1 k i = σ.1 k i := by rw [zput_eq]; exact pk_un h
theorem zput_s {σ : zM} {k j : Nat} {v : Int32} : (zput σ k j v).1 k j = v := by rw [zput_eq]; exact pk_us
theorem zb_eq0 {c b : Nat} (d : ¬ nI (zb c b) = 1) : zb c b = 0 := by
  rcases zb_01 c b with e | e
  · exact e
  · exact absurd (by rw [e]; rfl) d
theorem zb_eq1 {c b : Nat} (d : nI (zb c b) = 1) : zb c b = 1 := nI_inj (by have := zb_lt c b; omega) (by decide) d
theorem t_suppose {f k b tl v : Nat} {σ : zM} {Q : zQ} (hf : f < 7) (hk : k < 6) (hb : b < 2) (htl : tl < 100) (hv : v < 100) (e5 : σ.1 5 f = nI tl) (e6 : σ.1 6 f = nI v) (h : ∀ τ : zM, zSup σ τ f k b tl v → Q none τ) : T_X8_suppose [.ref 53, .ref 1, .int (nI f), .int (nI k), .int (nI b)] σ Q := by
  have L : ∀ c, c ≤ 4 → ∀ τ : zM, ((∀ x, x ≠ 61 → x ≠ 63 → x ≠ 64 → x ≠ 65 → τ.1 x = σ.1 x) ∧ τ.2 = σ.2 ∧ (∀ g, g ≠ f → τ.1 61 g = σ.1 61 g) ∧ τ.1 61 f = nI b ∧
  (∀ x, x = 63 ∨ x = 64 ∨ x = 65 → ∀ i, i < f * 4 ∨ f * 4 + 4 ≤ i → τ.1 x i = σ.1 x i) ∧
  ∀ d, d < c → τ.1 63 (f * 4 + d) = nI (zkn k (zb d b) (zb d (1 - b))) ∧ τ.1 64 (f * 4 + d) = nI (zhi k tl (zkn k (zb d b) (zb d (1 - b)))) ∧ τ.1 65 (f * 4 + d) = nI (zso k v (zkn k (zb d b) (zb d (1 - b))))) → zFix (F_X8_suppose Q) 1 [.ref 53, .ref 1, .int (nI f), .null, .int (nI b), .ref (55 + k), .int (nI c)] [] τ := by
    refine zloop 4 (fun c hc ih => ?_)
    rintro τ ⟨i1, i2, i3, i4, i5, i6⟩
    refine zFix_in ?_
    refine pk_le 4 c (fun q => ?_) (fun q => ?_)
    · exact h τ ⟨i1, i2, i3, i4, i5, fun d hd => i6 d (by omega)⟩
    -- block 3: both bits on the stack
    have B3 : zFix (F_X8_suppose Q) 3 [.ref 53, .ref 1, .int (nI f), .null, .int (nI b), .ref (55 + k), .int (nI c), .int (nI (f * 4 + c))] [.int (nI (zb c (1 - b))), .int (nI (zb c b)), .ref (55 + k), .int (nI (f * 4 + c)), .ref 63] τ := by
      have hkn : zkn k (zb c b) (zb c (1 - b)) < 2 := zkn_lt (zb_lt _ _) (zb_lt _ _)
      generalize hK : zkn k (zb c b) (zb c (1 - b)) = kn at hkn
      refine zFix_in ?_
      refine t_kneelsAt hk (zb_lt _ _) (zb_lt _ _) ?_
      rw [hK]
      refine And.intro (vp_in_nI (N := 28) (by omega) (by decide)) (And.intro (nI_b0 hkn) ?_)
      rw [nI_clamp (by omega)]
      refine And.intro (vp_in_nI (N := 7) hf (by decide)) ?_
      rw [nI_clamp (by omega)]
      refine And.intro (vp_in_nI (N := 28) (by omega) (by decide)) ?_
      rw [nI_clamp (by omega), zput_s, show (zput τ 63 (f * 4 + c) (nI kn)).1 5 f = nI tl by rw [zput_ne (by decide), i1 5 (by decide) (by decide) (by decide) (by decide)]; exact e5]
      refine t_height hk htl hkn ?_
      refine And.intro (vp_in_nI (N := 28) (by omega) (by decide)) ?_
      rw [nI_clamp (by omega)]
      refine And.intro (vp_in_nI (N := 7) hf (by decide)) ?_
      rw [nI_clamp (by omega)]
      refine And.intro (vp_in_nI (N := 28) (by omega) (by decide)) ?_
      rw [nI_clamp (by omega), zput_ne (show 63 ≠ 64 by decide), zput_s, show (zput (zput τ 63 (f * 4 + c) (nI kn)) 64 (f * 4 + c) (nI (zhi k tl kn))).1 6 f = nI v by rw [zput_ne (by decide), zput_ne (by decide), i1 6 (by decide) (by decide) (by decide) (by decide)]; exact e6]
      refine t_sound hk hv hkn ?_
      refine And.intro (vp_in_nI (N := 28) (by omega) (by decide)) ?_
      rw [nI_clamp (by omega)]
      show zFix (F_X8_suppose Q) 1 [.ref 53, .ref 1, .int (nI f), .null, .int (nI b), .ref (55 + k), .int (nI c + 1)] [] _
      rw [nI_1]
      refine ih (c + 1) (by omega) (by omega) _ ⟨fun x x1 x2 x3 x4 => ?_, i2, fun g hg => ?_, ?_, fun x hx i hi => ?_, fun d hd => ?_⟩
      · rw [zput_ne x4, zput_ne x3, zput_ne x2]; exact i1 x x1 x2 x3 x4
      · rw [zput_ne (by decide), zput_ne (by decide), zput_ne (by decide)]; exact i3 g hg
      · rw [zput_ne (by decide), zput_ne (by decide), zput_ne (by decide)]; exact i4
      · rcases hx with rfl | rfl | rfl
        · rw [zput_ne (by decide), zput_ne (by decide), zput_u (by omega)]; exact i5 63 (by decide) i hi
        · rw [zput_ne (by decide), zput_u (by omega), zput_ne (by decide)]; exact i5 64 (by decide) i hi
        · rw [zput_u (by omega), zput_ne (by decide), zput_ne (by decide)]; exact i5 65 (by decide) i hi
      · rw [zput_ne (show 63 ≠ 65 by decide), zput_ne (show 63 ≠ 64 by decide), zput_ne (show 64 ≠ 65 by decide)]
        by_cases e : d = c
        · subst e
          rw [zput_s, zput_s, zput_s, hK]
          exact ⟨rfl, rfl, rfl⟩
        · rw [zput_u (by omega), zput_u (by omega), zput_u (by omega), zput_ne (show 64 ≠ 63 by decide), zput_ne (show 65 ≠ 64 by decide), zput_ne (show 65 ≠ 63 by decide)]
          exact i6 d (by omega)
    have B2 : zFix (F_X8_suppose Q) 2 [.ref 53, .ref 1, .int (nI f), .null, .int (nI b), .ref (55 + k), .int (nI c), .int (nI (f * 4 + c))] [.int (nI (zb c b)), .ref (55 + k), .int (nI (f * 4 + c)), .ref 63] τ := by
      refine zFix_in ?_
      show T_X11_bit [.int (nI c), .int (nI 1 - nI b)] τ _
      rw [pk_sub (by omega)]
      refine t_X11_bit (by omega) (by omega) ?_
      refine And.intro (fun d => ?_) (fun d => ?_)
      · rw [zb_eq0 d] at B3
        exact B3
      · rw [zb_eq1 d] at B3
        exact B3
    refine t_X11_bit (by omega) (by omega) ?_
    have em : nI f * 4 + nI c = nI (f * 4 + c) := by rw [show (4 : Int32) = nI 4 from rfl, pk_mul, nI_add]
    refine And.intro (fun d => ?_) (fun d => ?_)
    · rw [zb_eq0 d, ← em] at B2
      exact B2
    · rw [zb_eq1 d, ← em] at B2
      exact B2
  refine ⟨rfl, zFix_in ?_⟩
  refine And.intro (vp_in_nI (N := 6) hk (by decide)) ?_
  rw [nI_clamp (by omega), zrt54 k hk]
  refine And.intro (vp_in_nI (N := 7) hf (by decide)) ?_
  rw [nI_clamp (by omega)]
  refine L 0 (Nat.zero_le _) _ ⟨fun x x1 _ _ _ => zput_ne x1, rfl, fun g hg => zput_u hg, zput_s, fun x hx i _ => ?_, fun d hd => absurd hd (Nat.not_lt_zero d)⟩
  rcases hx with rfl | rfl | rfl <;> rw [zput_ne (by decide)]
