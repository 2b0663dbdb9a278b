/-! Pair: colds. -/
theorem zsu_list {p : Nat → Bool} {F : Nat → Nat} : ∀ N, zsu (fun s => if p s = true then F s else 0) N = (((List.range N).filter p).map F).sum := by
  intro N
  induction N with
  | zero => rfl
  | succ N ih =>
    rw [List.range_succ, List.filter_append, List.map_append, List.sum_append, ← ih]
    show _ + (if p N = true then F N else 0) = _
    cases e : p N
    · simp [e]
    · simp [e]
theorem sup_list : ∀ n, n < 8 → ∀ C, C < 2 ^ n → (List.range (2 ^ n)).filter (fun s => decide (s &&& C = C)) = ((List.range (2 ^ n)).filter (fun s => decide (s &&& C = 0))).map (fun s => s ||| C) := by decide +kernel
def zc1 (C s : Nat) : Nat → Nat := zsu (fun f => if zb C f = 0 ∧ zb s f = 1 then 1 else 0)
def zc2 (C s : Nat) : Nat → Nat := zsu (fun f => if zb C f = 0 ∧ zb s f = 0 then 1 else 0)
theorem zc_ok : ∀ n, n < 8 → ∀ C, C < 2 ^ n → ∀ s, s < 2 ^ n → s &&& C = 0 → zc1 C s n = zpc ((s ||| C) - ((s ||| C) &&& C)) ∧ zc2 C s n = n - zpc (s ||| C) := by decide +kernel
theorem zan_I : ∀ s, s < 128 → ∀ C, C < 128 → nI s &&& (nI C ^^^ (-1)) = nI (s - (s &&& C)) := by decide +kernel
theorem zpc_b : ∀ n, n < 8 → ∀ s, s < 2 ^ n → zpc s ≤ n := by decide +kernel
/-- in how many ways just the set s is caught, family by family -/
def zpr (C s c : Nat) : Nat → Nat
  | 0 => 1
  | f + 1 => zpr C s c f * (if zb C f = 1 then 1 else if zb s f = 1 then c else 10 - c)
theorem zpr_eq {C s c : Nat} : ∀ f, zpr C s c f = c ^ zc1 C s f * (10 - c) ^ zc2 C s f := by
  intro f
  induction f with
  | zero => rfl
  | succ f ih =>
    have h1 : zc1 C s (f + 1) = zc1 C s f + (if zb C f = 0 ∧ zb s f = 1 then 1 else 0) := rfl
    have h2 : zc2 C s (f + 1) = zc2 C s f + (if zb C f = 0 ∧ zb s f = 0 then 1 else 0) := rfl
    show zpr C s c f * _ = _
    rw [h1, h2, ih]
    rcases zb_01 C f with q | q <;> rcases zb_01 s f with r | r
    · rw [q, r, if_neg (by decide), if_neg (by decide), if_neg (by decide), if_pos (by decide), Nat.pow_succ, Nat.add_zero, Nat.mul_assoc]
    · rw [q, r, if_neg (by decide), if_pos rfl, if_pos (by decide), if_neg (by decide), Nat.pow_succ, Nat.add_zero, Nat.mul_right_comm]
    · rw [q, if_pos rfl, if_neg (fun z => absurd z.1 (by decide)), if_neg (fun z => absurd z.1 (by decide)), Nat.mul_one, Nat.add_zero, Nat.add_zero]
    · rw [q, if_pos rfl, if_neg (fun z => absurd z.1 (by decide)), if_neg (fun z => absurd z.1 (by decide)), Nat.mul_one, Nat.add_zero, Nat.add_zero]
theorem zpr_le {C s c : Nat} (hc : c ≤ 10) : ∀ f, zpr C s c f ≤ 10 ^ f := by
  intro f
  induction f with
  | zero => exact Nat.le_refl _
  | succ f ih =>
    show zpr C s c f * _ ≤ _
    rw [Nat.pow_succ]
    refine Nat.mul_le_mul ih ?_
    (repeat' split) <;> omega
def zGa (a : zA) (w c s : Nat) : Nat := if s &&& a 8 0 = a 8 0 ∧ zpn a (a 3) (a 4) s (zcs a w) = 1 then c ^ zpc (s - (s &&& a 8 0)) * (10 - c) ^ (a 2 0 - zpc s) else 0
def zGr (a : zA) (w c s : Nat) : Nat := if s &&& a 8 0 = 0 ∧ zpn a (a 3) (a 4) (s ||| a 8 0) (zcs a w) = 1 then zpr (a 8 0) s c (a 2 0) else 0
theorem zG_eq {a : zA} {w c : Nat} (hW : zWF a) : zsu (zGa a w c) (2 ^ a 2 0) = zsu (zGr a w c) (2 ^ a 2 0) := by
  have hn := hW.1
  have hC := hW.2.2.2.2.2.1
  let F : Nat → Nat := fun s => if zpn a (a 3) (a 4) s (zcs a w) = 1 then c ^ zpc (s - (s &&& a 8 0)) * (10 - c) ^ (a 2 0 - zpc s) else 0
  have h1 : zsu (zGa a w c) (2 ^ a 2 0) = zsu (fun s => if decide (s &&& a 8 0 = a 8 0) = true then F s else 0) (2 ^ a 2 0) := by
    refine zsu_congr (fun s _ => ?_)
    show (if _ then _ else _) = _
    by_cases q : s &&& a 8 0 = a 8 0
    · by_cases r : zpn a (a 3) (a 4) s (zcs a w) = 1
      · rw [if_pos ⟨q, r⟩, if_pos (by simp [q])]
        show _ = if _ then _ else _
        rw [if_pos r]
      · rw [if_neg (fun z => r z.2), if_pos (by simp [q])]
        show _ = if _ then _ else _
        rw [if_neg r]
    · rw [if_neg (fun z => q z.1), if_neg (by simp [q])]
  have h2 : zsu (zGr a w c) (2 ^ a 2 0) = zsu (fun s => if decide (s &&& a 8 0 = 0) = true then F (s ||| a 8 0) else 0) (2 ^ a 2 0) := by
    refine zsu_congr (fun s hs => ?_)
    show (if _ then _ else _) = _
    by_cases q : s &&& a 8 0 = 0
    · obtain ⟨z1, z2⟩ := zc_ok (a 2 0) (by omega) (a 8 0) hC s hs q
      by_cases r : zpn a (a 3) (a 4) (s ||| a 8 0) (zcs a w) = 1
      · rw [if_pos ⟨q, r⟩, if_pos (by simp [q])]
        show _ = if _ then _ else _
        rw [if_pos r, zpr_eq, z1, z2]
      · rw [if_neg (fun z => r z.2), if_pos (by simp [q])]
        show _ = if _ then _ else _
        rw [if_neg r]
    · rw [if_neg (fun z => q z.1), if_neg (by simp [q])]
  rw [h1, h2, zsu_list, zsu_list, sup_list (a 2 0) (by omega) (a 8 0) hC, List.map_map]
  rfl
theorem zGr_le {a : zA} {w c : Nat} (hn : a 2 0 ≤ 7) (hc : c ≤ 10) (s : Nat) : zsu (zGr a w c) s ≤ s * 10000000 := by
  refine zsu_le (fun i _ => ?_)
  show (if _ then _ else _) ≤ _
  split
  · exact Nat.le_trans (zpr_le hc _) (Nat.pow_le_pow_right (by decide) hn : 10 ^ a 2 0 ≤ 10 ^ 7)
  · exact Nat.zero_le _
theorem t_power {b n : Nat} {σ : zM} {Q : zQ} (hb : b < 2 ^ 31) (hn : n < 1000) (h : Q (some (.long (lN (b ^ n)))) σ) : T_X11_power [.int (nI b), .int (nI n)] σ Q := by
  have L : ∀ i, i ≤ n → zFix (F_X11_power Q) 1 [.int (nI b), .int (nI n), .long (lN (b ^ i)), .null, .int (nI i)] [] σ := by
    refine zloop n (fun i hi ih => ?_)
    refine zFix_in ?_
    refine pk_le n i (fun d => ?_) (fun d => ?_)
    · have : i = n := by omega
      rw [this]
      exact h
    · show zFix (F_X11_power Q) 1 [.int (nI b), .int (nI n), .long (lN (b ^ i) * (nI b).toInt64), .null, .int (nI i + 1)] [] σ
      rw [nI_l hb, lN_mul, nI_1, ← Nat.pow_succ]
      exact ih (i + 1) (by omega) (by omega)
  exact ⟨rfl, zFix_in (L 0 (Nat.zero_le _))⟩
theorem lc0 {n : Nat} (h : n < 2 ^ 31) : (lg_cmp (lN n) 0 = 0 ↔ n = 0) ∧ (lg_cmp (lN n) 0 ≤ 0 ↔ n = 0) := by
  constructor
  · rw [cmp_eq0, show (0 : Int64) = lN 0 from rfl, lN_eq h (by decide)]
  · have g := cmp_gt0 (lN n) 0
    rw [lN_toInt h, show (0 : Int64).toInt = 0 from rfl] at g
    rw [← Int32.not_lt, g]
    omega
theorem t_gcd {A B : Nat} {σ : zM} {Q : zQ} (hA : A < 2 ^ 31) (hB : B < 2 ^ 31) (h : Q (some (.long (lN (Nat.gcd A B)))) σ) : T_X11_commonDivisor [.long (lN A), .long (lN B)] σ Q := by
  have step : ∀ (r x y : Nat), x < 2 ^ 31 → y < 2 ^ 31 → 0 < y → r < 128 → zFix (F_X11_commonDivisor Q) 1 [.null, .null, .null, .null, .long (lN y), .null, .long (lN (x % y)), .null, .int (nI (r + 1))] [] σ → zFix (F_X11_commonDivisor Q) 1 [.null, .null, .null, .null, .long (lN x), .null, .long (lN y), .null, .int (nI r)] [] σ := by
    intro r x y hx hy h0 hr g
    refine zFix_in ?_
    refine pk_le 128 r (fun d => by omega) (fun d => ?_)
    refine And.intro (fun z => absurd ((lc0 hy).1.mp z) (by omega)) (fun z => ?_)
    refine And.intro (fun z2 => z (by rw [z2]; decide)) ?_
    show zFix (F_X11_commonDivisor Q) 1 [.null, .null, .null, .null, .long (lN y), .null, .long (lN x - lN x / lN y * lN y), .null, .int (nI r + 1)] [] σ
    rw [pk_lRem (by omega) h0 (by omega), nI_1]
    exact g
  have last : ∀ (r x : Nat), r ≤ 128 → x = Nat.gcd A B → zFix (F_X11_commonDivisor Q) 1 [.null, .null, .null, .null, .long (lN x), .null, .long (lN 0), .null, .int (nI r)] [] σ := by
    intro r x hr e
    rw [← e] at h
    refine zFix_in ?_
    exact And.intro (fun _ => h) (fun _ => And.intro (fun _ => h) (fun z => absurd ((lc0 (n := 0) (by decide)).1.mpr rfl) z))
  have L : ∀ k r x y, x < 2 ^ 31 → y < 2 ^ k → k ≤ 31 → r + 2 * k ≤ 128 → Nat.gcd x y = Nat.gcd A B → zFix (F_X11_commonDivisor Q) 1 [.null, .null, .null, .null, .long (lN x), .null, .long (lN y), .null, .int (nI r)] [] σ := by
    intro k
    induction k with
    | zero =>
      intro r x y hx hy _ hr e
      have : y = 0 := by omega
      subst this
      rw [Nat.gcd_zero_right] at e
      exact last r x (by omega) e
    | succ k ih =>
      intro r x y hx hy hk hr e
      have hp : 2 ^ (k + 1) ≤ 2 ^ 31 := Nat.pow_le_pow_right (by decide) hk
      have hp2 : 2 ^ (k + 1) = 2 * 2 ^ k := by rw [Nat.pow_succ, Nat.mul_comm]
      by_cases y0 : y = 0
      · subst y0
        rw [Nat.gcd_zero_right] at e
        exact last r x (by omega) e
      · have m1 : x % y < y := Nat.mod_lt _ (by omega)
        have e1 : Nat.gcd y (x % y) = Nat.gcd A B := by rw [← e, Nat.gcd_comm x y, Nat.gcd_rec y x, Nat.gcd_comm]
        refine step r x y hx (by omega) (by omega) (by omega) ?_
        by_cases r0 : x % y = 0
        · rw [r0] at e1 ⊢
          rw [Nat.gcd_zero_right] at e1
          exact last (r + 1) y (by omega) e1
        · have m2 : y % (x % y) < x % y := Nat.mod_lt _ (by omega)
          have e2 : Nat.gcd (x % y) (y % (x % y)) = Nat.gcd A B := by rw [← e1, Nat.gcd_comm y (x % y), Nat.gcd_rec (x % y) y, Nat.gcd_comm]
          refine step (r + 1) y (x % y) (by omega) (by omega) (by omega) (by omega) ?_
          refine ih (r + 1 + 1) (x % y) (y % (x % y)) (by omega) ?_ (by omega) (by omega) e2
          by_cases q : 2 * (x % y) ≤ y
          · omega
          · have : y % (x % y) = y - x % y := by
              rw [Nat.mod_eq_sub_mod (by omega), Nat.mod_eq_of_lt (by omega)]
            omega
  exact ⟨rfl, zFix_in (L 31 0 B A hB hA (by decide) (by decide) (Nat.gcd_comm B A))⟩
theorem r_fraction {A B : Nat} {σ : zM} {Q : zQ} (hA : A < 2 ^ 31) (hB : B < 2 ^ 31) (h0 : 0 < B) (h : Q none (zputl (zputl σ 75 4 (lN (A / Nat.gcd A B))) 75 5 (lN (B / Nat.gcd A B)))) : T_X12_fraction [.ref 75, .long (lN A), .long (lN B)] σ Q := by
  have L : ∀ k x y, y < k → x < 2 ^ 31 → y < 2 ^ 31 → Nat.gcd x y = Nat.gcd A B → zFix (F_X12_fraction Q) 1 [.ref 75, .long (lN A), .null, .long (lN B), .null, .long (lN x), .null, .long (lN y)] [] σ := by
    intro k
    induction k with
    | zero => intro x y h9; exact absurd h9 (Nat.not_lt_zero _)
    | succ k ih =>
      intro x y hk hx hy e
      refine zFix_in ?_
      refine And.intro (fun z => ?_) (fun z => ?_)
      · have y0 := (lc0 hy).1.mp z
        subst y0
        rw [Nat.gcd_zero_right] at e
        have gp : 0 < Nat.gcd A B := Nat.gcd_pos_of_pos_right A h0
        subst e
        have nz : ¬ lN (Nat.gcd A B) = 0 := fun z => absurd ((lN_eq hx (by decide)).mp (z.trans (show (0 : Int64) = lN 0 from rfl))) (by omega)
        refine And.intro nz (And.intro nz ?_)
        show Q none (zputl (zputl σ 75 4 (lN A / lN (Nat.gcd A B))) 75 5 (lN B / lN (Nat.gcd A B)))
        rw [pk_lDiv (by omega) gp (by omega), pk_lDiv (by omega) gp (by omega)]
        exact h
      · have y0 : y ≠ 0 := fun q => z ((lc0 hy).1.mpr q)
        have m1 : x % y < y := Nat.mod_lt _ (by omega)
        refine And.intro (fun z2 => z (by rw [z2]; decide)) ?_
        show zFix (F_X12_fraction Q) 1 [.ref 75, .long (lN A), .null, .long (lN B), .null, .long (lN y), .null, .long (lN x - lN x / lN y * lN y)] [] σ
        rw [pk_lRem (by omega) (by omega) (by omega)]
        exact ih y (x % y) (by omega) hy (by omega) (by rw [← e, Nat.gcd_comm x y, Nat.gcd_rec y x, Nat.gcd_comm])
  exact ⟨rfl, zFix_in (L (B + 1) A B (by omega) hA hB rfl)⟩
theorem t_colds {a : zA} {w c : Nat} {σ : zM} {Q : zQ} (hW : zWF a) (hX : zCX 1 σ a) (hw : w < 16) (hc : c ≤ 10) (h : ∀ τ, zSF σ τ → ∀ A B, A = zsu (zGa a w c) (2 ^ a 2 0) → B = 10 ^ (a 2 0 - zpc (a 8 0)) → Q (some (.int 1)) (zputl (zputl τ 0 9 (lN (A / Nat.gcd A B))) 0 10 (lN (B / Nat.gcd A B)))) : T_X11_colds [.ref 0, .int (nI w), .int (nI c)] σ Q := by
  have hn := hW.1
  have h2n := p2_128 hn
  have hC := hW.2.2.2.2.2.1
  have c128 := zC128 hW
  obtain ⟨k1, k2, k3⟩ := c_ok hW
  refine ⟨rfl, zFix_in (isW hw (e1 (inX (a := 0) (b := 10) (by decide) ⟨Nat.zero_le _, hc⟩ (n1 (t_hold hW hX (fun τ fr sv => ?_))))))⟩
  have hX' := fr.X hX
  have L : ∀ s, s ≤ 2 ^ a 2 0 → zFix (F_X11_colds Q) 2 [.ref 0, .int (nI w), .int (nI c), .long (lN (zsu (zGa a w c) s)), .null, .int (nI s)] [] τ := by
    refine zloop (2 ^ a 2 0) (fun s hs ih => ?_)
    refine zFix_in (t_sets hn hX'.2.2.1 ?_)
    refine pk_le (2 ^ a 2 0) s (fun d => ?_) (fun d => ?_)
    · have es : s = 2 ^ a 2 0 := by omega
      subst es
      have pb := zpc_b (a 2 0) (by omega) (a 8 0) hC
      show T_J6_bitCount_0f7a4 [.int (τ.1 1 8)] τ _
      rw [hX'.2.2.2.2.1]
      refine t_bitC c128 ?_
      show T_X11_power [.int (nI 10), .int (τ.1 1 2 - nI (zpc (a 8 0)))] τ _
      rw [hX'.2.2.1, pk_sub pb]
      refine t_power (by decide) (by omega) ?_
      have lA : zsu (zGa a w c) (2 ^ a 2 0) ≤ 2 ^ a 2 0 * 10000000 := by rw [zG_eq hW]; exact zGr_le hn hc _
      have lA' : 2 ^ a 2 0 * 10000000 ≤ 128 * 10000000 := Nat.mul_le_mul_right _ h2n
      have lB : 10 ^ (a 2 0 - zpc (a 8 0)) ≤ 10 ^ 7 := Nat.pow_le_pow_right (by decide) (by omega)
      have pB : 0 < 10 ^ (a 2 0 - zpc (a 8 0)) := Nat.pow_pos (by decide)
      have hq := h τ fr _ _ rfl rfl
      generalize zsu (zGa a w c) (2 ^ a 2 0) = A at hq lA ⊢
      generalize 10 ^ (a 2 0 - zpc (a 8 0)) = B at hq lB pB ⊢
      refine ⟨rfl, zFix_in ?_⟩
      refine t_gcd (by omega) (by omega) ?_
      have gp : 0 < Nat.gcd A B := Nat.gcd_pos_of_pos_right A pB
      have gl : Nat.gcd A B ≤ B := Nat.gcd_le_right A pB
      have nz : ¬ lN (Nat.gcd A B) = 0 := fun z => absurd ((lN_eq (by omega) (by decide)).mp (z.trans (show (0 : Int64) = lN 0 from rfl))) (by omega)
      refine And.intro (fun z => absurd ((lc0 (by omega)).2.mp z) (by omega)) (fun _ => And.intro nz (And.intro nz ?_))
      show Q (some (.int 1)) (zputl (zputl τ 0 9 (lN A / lN (Nat.gcd A B))) 0 10 (lN B / lN (Nat.gcd A B)))
      rw [pk_lDiv (by omega) gp (by omega), pk_lDiv (by omega) gp (by omega)]
      exact hq
    · have B3 : ∀ x, x = zsu (zGa a w c) (s + 1) → zFix (F_X11_colds Q) 3 [.ref 0, .int (nI w), .int (nI c), .long (lN x), .null, .int (nI s)] [] τ := by
        intro x hx
        refine zFix_in ?_
        show zFix (F_X11_colds Q) 2 [.ref 0, .int (nI w), .int (nI c), .long (lN x), .null, .int (nI s + 1)] [] τ
        rw [nI_1, hx]
        exact ih (s + 1) (by omega) (by omega)
      have es : zsu (zGa a w c) (s + 1) = zsu (zGa a w c) s + (if s &&& a 8 0 = a 8 0 ∧ zpn a (a 3) (a 4) s (zcs a w) = 1 then c ^ zpc (s - (s &&& a 8 0)) * (10 - c) ^ (a 2 0 - zpc s) else 0) := rfl
      show (¬ nI s &&& τ.1 1 8 = τ.1 1 8 → zFix (F_X11_colds Q) 3 [.ref 0, .int (nI w), .int (nI c), .long (lN (zsu (zGa a w c) s)), .null, .int (nI s)] [] τ) ∧ (nI s &&& τ.1 1 8 = τ.1 1 8 → T_X8_isPeaceful [.ref 53, .int (nI w), .int (nI s)] τ _)
      rw [hX'.2.2.2.2.1, nI_and]
      have l := and_128 (s := s) (c := a 8 0) (by omega)
      refine And.intro (fun z => B3 _ (by rw [es, if_neg (fun q => z (by rw [q.1])), Nat.add_zero])) (fun z => ?_)
      have z := nI_inj (by omega) (by omega) z
      refine t_peaceW hW sv k2 hw (by omega) (fun y => e1 ?_) (fun y => e0 (B3 _ (by rw [es, if_neg (fun q => y (zpn_iff.mp q.2)), Nat.add_zero])))
      rw [if_pos ⟨z, zpn_iff.mpr y⟩] at es
      refine ⟨rfl, zFix_in ?_⟩
      have ps := zpc_b (a 2 0) (by omega) s d
      have ps2 : s - (s &&& a 8 0) < 128 := by omega
      have ps3 := zpc_le _ ps2
      show T_J6_bitCount_0f7a4 [.int (nI s &&& (τ.1 1 8 ^^^ (-1)))] τ _
      rw [hX'.2.2.2.2.1, zan_I s (by omega) _ c128]
      refine t_bitC ps2 ?_
      refine t_bitC (c := s) (by omega) ?_
      show T_X11_power [.int (nI c), .int (nI (zpc (s - (s &&& a 8 0))))] τ (fun v τ' => _)
      refine t_power (by omega) (by omega) ?_
      show T_X11_power [.int (10 - nI c), .int (τ.1 1 2 - nI (zpc s))] τ _
      rw [hX'.2.2.1, pk_sub ps, show (10 : Int32) - nI c = nI (10 - c) from pk_sub (a := 10) hc]
      refine t_power (by omega) (by omega) ?_
      show zFix (F_X11_colds Q) 3 [.ref 0, .int (nI w), .int (nI c), .long (lN (zsu (zGa a w c) s) + lN (c ^ zpc (s - (s &&& a 8 0))) * lN ((10 - c) ^ (a 2 0 - zpc s))), .null, .int (nI s)] [] τ
      rw [lN_mul, lN_add]
      exact B3 _ es.symm
  exact L 0 (Nat.zero_le _)
theorem r_colds {a : zA} {w c : Nat} {σ : zM} {Q : zQ} (hW : zWF a) (hM : zCM (σ.1 76) a) (hw : w < 16) (hc : c ≤ 10) (h : ∀ τ, zMF σ τ → ∀ A B, A = zsu (zGr a w c) (2 ^ a 2 0) → B = 10 ^ (a 2 0 - zpc (a 8 0)) → Q (some (.int 1)) (zputl (zputl τ 75 4 (lN (A / Nat.gcd A B))) 75 5 (lN (B / Nat.gcd A B)))) : T_X12_colds [.ref 75, .int (nI w), .int (nI c)] σ Q := by
  have hn := hW.1
  have h2n := p2_128 hn
  have hC := hW.2.2.2.2.2.1
  have c128 := zC128 hW
  obtain ⟨k1, k2, k3⟩ := c_ok hW
  have pb := zpc_b (a 2 0) (by omega) (a 8 0) hC
  refine ⟨rfl, zFix_in (isWr hw (e1 (inR (a := 0) (b := 10) (by decide) rfl rfl ⟨Nat.zero_le _, hc⟩ (n1 (t_layHand hW hM (fun τ fr hd => ?_))))))⟩
  have L3 : ∀ s, s ≤ 2 ^ a 2 0 → ∀ (τ : zM) (cl : Nat), zMF σ τ → zHd τ a (a 3) (a 4) (a 7) cl → zFix (F_X12_colds Q) 3 [.ref 75, .int (nI w), .int (nI c), .long (lN (zsu (zGr a w c) s)), .null, .long (lN (10 ^ (a 2 0 - zpc (a 8 0)))), .null, .int (nI (a 8 0)), .int (nI s)] [] τ := by
    refine zloop (2 ^ a 2 0) (fun s hs ih => ?_)
    intro τ cl fr hd
    have hM' := fr.M hM
    refine zFix_in (t_many ?_)
    show ((1 : Int32) <<< (τ.1 76 0 &&& 31) ≤ nI s → _) ∧ (¬ (1 : Int32) <<< (τ.1 76 0 &&& 31) ≤ nI s → _)
    rw [hM'.1, nI_shl1 (by omega)]
    refine pk_le (2 ^ a 2 0) s (fun d => ?_) (fun d => ?_)
    · have es : s = 2 ^ a 2 0 := by omega
      subst es
      have lA := zGr_le (a := a) (w := w) hn hc (2 ^ a 2 0)
      have lA' : 2 ^ a 2 0 * 10000000 ≤ 128 * 10000000 := Nat.mul_le_mul_right _ h2n
      have lB : 10 ^ (a 2 0 - zpc (a 8 0)) ≤ 10 ^ 7 := Nat.pow_le_pow_right (by decide) (by omega)
      have pB : 0 < 10 ^ (a 2 0 - zpc (a 8 0)) := Nat.pow_pos (by decide)
      exact r_fraction (by omega) (by omega) pB (h τ fr _ _ rfl rfl)
    · have l := and_128 (s := s) (c := a 8 0) (by omega)
      have l2 := or_128 (s := s) (c := a 8 0) (by omega) c128
      have es : zsu (zGr a w c) (s + 1) = zsu (zGr a w c) s + (if s &&& a 8 0 = 0 ∧ zpn a (a 3) (a 4) (s ||| a 8 0) (zcs a w) = 1 then zpr (a 8 0) s c (a 2 0) else 0) := rfl
      have B5 : ∀ m, m ≤ 1 → (m = 1 ↔ s &&& a 8 0 = 0) → ∀ f, f ≤ a 2 0 → zFix (F_X12_colds Q) 5 [.ref 75, .int (nI w), .int (nI c), .long (lN (zsu (zGr a w c) s)), .null, .long (lN (10 ^ (a 2 0 - zpc (a 8 0)))), .null, .int (nI (a 8 0)), .int (nI s), .long (lN (m * zpr (a 8 0) s c f)), .null, .int (nI f)] [] τ := by
        intro m hm im
        refine zloop (a 2 0) (fun f hf ih5 => ?_)
        refine zFix_in (t_many ?_)
        refine pk_le (a 2 0) f (fun e => ?_) (fun e => ?_) hM'.1 rfl
        · have ef : f = a 2 0 := by omega
          subst ef
          have pl : zpr (a 8 0) s c (a 2 0) ≤ 10 ^ a 2 0 := zpr_le hc _
          have pl2 : 10 ^ a 2 0 ≤ 10 ^ 7 := Nat.pow_le_pow_right (by decide) hn
          have ml : m * zpr (a 8 0) s c (a 2 0) ≤ 1 * zpr (a 8 0) s c (a 2 0) := Nat.mul_le_mul_right _ hm
          show (lg_cmp (lN (m * zpr (a 8 0) s c (a 2 0))) 0 ≤ 0 → zFix (F_X12_colds Q) 7 [.ref 75, .int (nI w), .int (nI c), .null, .null, .long (lN (10 ^ (a 2 0 - zpc (a 8 0)))), .null, .int (nI (a 8 0)), .int (nI s)] [.long (lN (zsu (zGr a w c) s))] (zput τ 75 9 (nI (a 8 0) ||| nI s))) ∧ (¬ lg_cmp (lN (m * zpr (a 8 0) s c (a 2 0))) 0 ≤ 0 → T_X12_isPeace [.ref 75, .int (nI w)] (zput τ 75 9 (nI (a 8 0) ||| nI s)) _)
          rw [nI_or, Nat.or_comm (a 8 0) s]
          have h1 := zHd_c (v := s ||| a 8 0) hd
          have fr1 := fr.tr (zMF_c (σ := τ) (v := nI (s ||| a 8 0)))
          have B8 : ∀ x, zsu (zGr a w c) s + x = zsu (zGr a w c) (s + 1) → zFix (F_X12_colds Q) 8 [.ref 75, .int (nI w), .int (nI c), .null, .null, .long (lN (10 ^ (a 2 0 - zpc (a 8 0)))), .null, .int (nI (a 8 0)), .int (nI s)] [.long (lN x), .long (lN (zsu (zGr a w c) s))] (zput τ 75 9 (nI (s ||| a 8 0))) := by
            intro x hx
            refine zFix_in ?_
            show zFix (F_X12_colds Q) 3 [.ref 75, .int (nI w), .int (nI c), .long (lN (zsu (zGr a w c) s) + lN x), .null, .long (lN (10 ^ (a 2 0 - zpc (a 8 0)))), .null, .int (nI (a 8 0)), .int (nI s + 1)] [] _
            rw [nI_1, lN_add, hx]
            exact ih (s + 1) (by omega) (by omega) _ _ fr1 h1
          refine And.intro (fun z => zFix_in (B8 0 ?_)) (fun z => ?_)
          · have z := (lc0 (by omega)).2.mp z
            rw [es]
            split
            · rename_i q
              rw [im.mpr q.1, Nat.one_mul] at z
              rw [z]
            · rfl
          · have nz : m * zpr (a 8 0) s c (a 2 0) ≠ 0 := fun q => z ((lc0 (by omega)).2.mpr q)
            have m1 : m = 1 := by
              rcases (show m = 0 ∨ m = 1 by omega) with q | q
              · rw [q, Nat.zero_mul] at nz; exact absurd rfl nz
              · exact q
            subst m1
            rw [Nat.one_mul]
            have dj := im.mp rfl
            refine r_peace hW (fr1.M hM) h1 k1 k2 hw (by omega) (fun y => e1 ?_) (fun y => e0 (zFix_in (B8 0 ?_)))
            · exact B8 _ (by rw [es, if_pos ⟨dj, zpn_iff.mpr y⟩])
            · rw [es, if_neg (fun q => y (zpn_iff.mp q.2))]
        · have B6 : ∀ x, x = (if zb (a 8 0) f = 1 then 1 else if zb s f = 1 then c else 10 - c) → zFix (F_X12_colds Q) 6 [.ref 75, .int (nI w), .int (nI c), .long (lN (zsu (zGr a w c) s)), .null, .long (lN (10 ^ (a 2 0 - zpc (a 8 0)))), .null, .int (nI (a 8 0)), .int (nI s), .null, .null, .int (nI f)] [.long (lN x), .long (lN (m * zpr (a 8 0) s c f))] τ := by
            intro x hx
            refine zFix_in ?_
            show zFix (F_X12_colds Q) 5 [.ref 75, .int (nI w), .int (nI c), .long (lN (zsu (zGr a w c) s)), .null, .long (lN (10 ^ (a 2 0 - zpc (a 8 0)))), .null, .int (nI (a 8 0)), .int (nI s), .long (lN (m * zpr (a 8 0) s c f) * lN x), .null, .int (nI f + 1)] [] τ
            rw [nI_1, lN_mul, Nat.mul_assoc, hx]
            exact ih5 (f + 1) (by omega) (by omega)
          refine t_has (x := a 8 0) (i := f) (by omega) (by omega) ?_
          rcases zb_01 (a 8 0) f with q | q
          · rw [q]
            refine e0 ?_
            refine t_has (x := s) (i := f) (by omega) (by omega) ?_
            rcases zb_01 s f with r | r
            · rw [r]
              refine e0 ?_
              have B := B6 (10 - c) (by rw [q, r]; rfl)
              rw [← nI_l (n := 10 - c) (by omega), ← show (10 : Int32) - nI c = nI (10 - c) from pk_sub (a := 10) hc] at B
              exact B
            · rw [r]
              refine e1 ?_
              have B := B6 c (by rw [q, r]; rfl)
              rw [← nI_l (n := c) (by omega)] at B
              exact B
          · rw [q]
            exact e1 (B6 1 (by rw [q]; rfl))
      have B4 : ∀ m, m ≤ 1 → (m = 1 ↔ s &&& a 8 0 = 0) → zFix (F_X12_colds Q) 4 [.ref 75, .int (nI w), .int (nI c), .long (lN (zsu (zGr a w c) s)), .null, .long (lN (10 ^ (a 2 0 - zpc (a 8 0)))), .null, .int (nI (a 8 0)), .int (nI s)] [.long (lN m)] τ := by
        intro m hm im
        have B := B5 m hm im 0 (Nat.zero_le _)
        rw [show m * zpr (a 8 0) s c 0 = m from Nat.mul_one m] at B
        exact zFix_in B
      show (¬ nI s &&& nI (a 8 0) = 0 → zFix (F_X12_colds Q) 4 [.ref 75, .int (nI w), .int (nI c), .long (lN (zsu (zGr a w c) s)), .null, .long (lN (10 ^ (a 2 0 - zpc (a 8 0)))), .null, .int (nI (a 8 0)), .int (nI s)] [.long (lN 0)] τ) ∧ (nI s &&& nI (a 8 0) = 0 → zFix (F_X12_colds Q) 4 [.ref 75, .int (nI w), .int (nI c), .long (lN (zsu (zGr a w c) s)), .null, .long (lN (10 ^ (a 2 0 - zpc (a 8 0)))), .null, .int (nI (a 8 0)), .int (nI s)] [.long (lN 1)] τ)
      rw [nI_and]
      refine And.intro (fun z => B4 0 (by decide) ⟨fun q => absurd q (by decide), fun q => absurd (by rw [q]; rfl) z⟩) (fun z => B4 1 (by decide) ⟨fun _ => nI_inj (b := 0) (by omega) (by decide) z, fun _ => rfl⟩)
  have hM' := fr.M hM
  have L2 : ∀ k, k ≤ a 2 0 - zpc (a 8 0) → zFix (F_X12_colds Q) 2 [.ref 75, .int (nI w), .int (nI c), .long (lN 0), .null, .long (lN (10 ^ k)), .null, .int (nI (a 8 0)), .int (nI k)] [] τ := by
    refine zloop (a 2 0 - zpc (a 8 0)) (fun k hk ih => ?_)
    refine zFix_in (t_many ?_)
    refine r_bits c128 ?_
    show (τ.1 76 0 - nI (zpc (a 8 0)) ≤ nI k → _) ∧ (¬ τ.1 76 0 - nI (zpc (a 8 0)) ≤ nI k → _)
    rw [hM'.1, pk_sub pb]
    refine pk_le (a 2 0 - zpc (a 8 0)) k (fun d => ?_) (fun d => ?_)
    · have ek : k = a 2 0 - zpc (a 8 0) := by omega
      rw [ek]
      exact L3 0 (Nat.zero_le _) τ _ fr hd
    · show zFix (F_X12_colds Q) 2 [.ref 75, .int (nI w), .int (nI c), .long (lN 0), .null, .long (lN (10 ^ k) * lN 10), .null, .int (nI (a 8 0)), .int (nI k + 1)] [] τ
      rw [nI_1, lN_mul, ← Nat.pow_succ]
      exact ih (k + 1) (by omega) (by omega)
  show zFix (F_X12_colds Q) 2 [.ref 75, .int (nI w), .int (nI c), .long (lN 0), .null, .long (lN 1), .null, .int (τ.1 75 9), .int (nI 0)] [] τ
  rw [hd.1]
  exact L2 0 (Nat.zero_le _)
section
variable {σ : zM}
theorem zR.lg {σ τ : zM} (h : zR σ) (e : τ.1 = σ.1) (g : τ.2 0 9 = τ.2 75 4 ∧ τ.2 0 10 = τ.2 75 5) : zR τ := by
  obtain ⟨a, h1, h2, h3, h4, ⟨t, t1, t2, t3, t4⟩, h6, h7⟩ := h
  exact ⟨a, h1, h2.eq (fun k _ _ => by rw [e]), by rw [e]; exact h3, fun j hj => by rw [e]; exact h4 j hj, ⟨t, t1, by rw [e]; exact t2, by rw [e]; exact t3, fun j hj => by rw [e]; exact t4 j hj⟩, g, fun i hi => (h7 i hi).eq hi (by rw [e]) (by rw [e]) (by rw [e]) (fun k _ _ => by rw [e])⟩
theorem p_colds (x y : Int32) (h : zR σ) : zPr T_X11_colds T_X12_colds [.int x, .int y] σ := by
  rcases or_w (x := x) (n := 16) with ⟨w, hw, rfl⟩ | nv
  · rcases or_r (x := y) (a := 0) (b := 10) with ⟨c, hc, rfl⟩ | nv
    · obtain ⟨a, hW, hX, hM, hO⟩ := id h
      refine t_colds hW hX hw hc.2 (fun τ fr A B eA eB => ⟨1, rfl, ?_⟩)
      have hM' : zCM ((zputl (zputl τ 0 9 (lN (A / Nat.gcd A B))) 0 10 (lN (B / Nat.gcd A B))).1 76) a := by show zCM (τ.1 76) a; rw [fr.Q.1 76 (by omega)]; exact hM
      refine r_colds hW hM' hw hc.2 (fun υ g A' B' eA' eB' => ⟨rfl, ?_⟩)
      have e1' : A' = A := by rw [eA', eA, zG_eq hW]
      have e2' : B' = B := by rw [eB', eB]
      subst e1'; subst e2'
      have hR := h.X fr.Q
      -- the state without the two fractions
      have hR2 : zR (υ.1, τ.2) := hR.M ⟨fun k hk => g.Q.1 k hk, g.Q.2.1, rfl⟩
      have e2 : υ.2 = (zputl (zputl τ 0 9 (lN (A' / Nat.gcd A' B'))) 0 10 (lN (B' / Nat.gcd A' B'))).2 := g.2.2
      refine hR2.lg rfl ⟨?_, ?_⟩
      · show υ.2 0 9 = lN (A' / Nat.gcd A' B')
        rw [e2]
        rfl
      · show υ.2 0 10 = lN (B' / Nat.gcd A' B')
        rw [e2]
        rfl
    · exact zPr_bad (j := 0) h (fun Q hQ => ⟨rfl, zFix_in (isW hw (e1 (noX (a := 0) (b := 10) (by decide) (by decide) nv (n0 (zFix_in (t_refBad hQ))))))⟩) (fun τ Q _ hQ => ⟨rfl, zFix_in (isWr hw (e1 (noR (a := 0) (b := 10) (by decide) rfl rfl nv (n0 (zFix_in (r_bad hQ))))))⟩)
  · exact zPr_bad (j := 0) h (fun Q hQ => ⟨rfl, zFix_in (noW nv (e0 (zFix_in (t_refBad hQ))))⟩) (fun τ Q _ hQ => ⟨rfl, zFix_in (noWr nv (e0 (zFix_in (r_bad hQ))))⟩)
end
