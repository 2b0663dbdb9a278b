/-! The reference: leaves, the hand, kneeling, height, voices. -/
theorem cmp_lt0 (x y : Int64) : lg_cmp x y < 0 ↔ x.toInt < y.toInt := by
  unfold lg_cmp
  by_cases h1 : y < x
  · rw [if_pos h1]; have := Int64.lt_iff_toInt_lt.mp h1; exact ⟨fun q => absurd q (by decide), fun q => by omega⟩
  · rw [if_neg h1]
    by_cases h2 : x = y
    · rw [if_pos h2]; subst h2; exact ⟨fun q => absurd q (by decide), fun q => by omega⟩
    · rw [if_neg h2]
      have h3 : ¬ y.toInt < x.toInt := fun q => h1 (Int64.lt_iff_toInt_lt.mpr q)
      have h4 : x.toInt ≠ y.toInt := fun q => h2 (Int64.toInt_inj.mp q)
      exact ⟨fun _ => by omega, fun _ => by decide⟩
theorem cmp_gt0 (x y : Int64) : 0 < lg_cmp x y ↔ y.toInt < x.toInt := by
  unfold lg_cmp
  by_cases h1 : y < x
  · rw [if_pos h1]; have := Int64.lt_iff_toInt_lt.mp h1; exact ⟨fun _ => this, fun _ => by decide⟩
  · rw [if_neg h1]
    have h3 : ¬ y.toInt < x.toInt := fun q => h1 (Int64.lt_iff_toInt_lt.mpr q)
    by_cases h2 : x = y
    · rw [if_pos h2]; exact ⟨fun q => absurd q (by decide), fun q => absurd q h3⟩
    · rw [if_neg h2]; exact ⟨fun q => absurd q (by decide), fun q => absurd q h3⟩
theorem cmp_eq0 (x y : Int64) : lg_cmp x y = 0 ↔ x = y := by
  unfold lg_cmp
  by_cases h1 : y < x
  · rw [if_pos h1]; exact ⟨fun q => absurd q (by decide), fun q => by subst q; exact absurd h1 (Int64.lt_irrefl)⟩
  · rw [if_neg h1]
    by_cases h2 : x = y
    · rw [if_pos h2]; exact ⟨fun _ => h2, fun _ => rfl⟩
    · rw [if_neg h2]; exact ⟨fun q => absurd q (by decide), fun q => absurd q h2⟩
theorem t_in {v lo hi : Int64} {σ : zM} {Q : zQ} (h1 : lo.toInt ≤ v.toInt → v.toInt ≤ hi.toInt → Q (some (.int 1)) σ) (h0 : ¬ (lo.toInt ≤ v.toInt ∧ v.toInt ≤ hi.toInt) → Q (some (.int 0)) σ) : T_X12_in [.long v, .long lo, .long hi] σ Q := by
  refine ⟨rfl, zFix_in ?_⟩
  refine And.intro (fun c => ?_) (fun c => ?_)
  · have := (cmp_lt0 v lo).mp c
    exact And.intro (Or.inl rfl) (h0 (fun q => by omega))
  · have c : ¬ v.toInt < lo.toInt := fun q => c ((cmp_lt0 v lo).mpr q)
    refine And.intro (fun d => ?_) (fun d => ?_)
    · have := (cmp_gt0 v hi).mp d
      exact And.intro (Or.inl rfl) (h0 (fun q => by omega))
    · have d : ¬ hi.toInt < v.toInt := fun q => d ((cmp_gt0 v hi).mpr q)
      exact And.intro (Or.inr rfl) (h1 (by omega) (by omega))
theorem i64 (x : Int32) : x.toInt64.toInt = x.toInt := by simp
theorem nI_of_toInt {x : Int32} {n : Nat} (hn : n < 2 ^ 31) (h : x.toInt = n) : x = nI n := Int32.toInt_inj.mp (by rw [h, nI_toInt hn])
/-- in(x, a, b), of an int and two small numbers -/
theorem t_inN {x : Int32} {a b : Nat} {lo hi : Int64} {σ : zM} {Q : zQ} (hb : b < 2 ^ 31) (el : lo.toInt = a) (eh : hi.toInt = b) (h1 : ∀ n, a ≤ n → n ≤ b → x = nI n → Q (some (.int 1)) σ) (h0 : (∀ n, a ≤ n → n ≤ b → x ≠ nI n) → Q (some (.int 0)) σ) : T_X12_in [.long x.toInt64, .long lo, .long hi] σ Q := by
  refine t_in (fun c d => ?_) (fun c => ?_)
  · rw [i64, el] at c
    rw [i64, eh] at d
    exact h1 x.toInt.toNat (by omega) (by omega) (nI_of_toInt (by omega) (by omega))
  · refine h0 (fun n e1 e2 e => c ?_)
    rw [i64, el, eh, e, nI_toInt (by omega)]
    omega
theorem t_X12_isWord {x : Int32} {σ : zM} {Q : zQ} (h1 : ∀ n, n < 16 → x = nI n → Q (some (.int 1)) σ) (h0 : (∀ n, n < 16 → x ≠ nI n) → Q (some (.int 0)) σ) : T_X12_isWord [.int x] σ Q := by
  refine ⟨rfl, zFix_in ?_⟩
  refine t_inN (a := 0) (b := 15) (by decide) rfl rfl (fun n _ e2 e3 => ?_) (fun e => ?_)
  · exact And.intro (Or.inr rfl) (h1 n (by omega) e3)
  · exact And.intro (Or.inl rfl) (h0 (fun n hn => e n (Nat.zero_le _) (by omega)))
theorem t_X12_isBook {x : Int32} {σ : zM} {Q : zQ} (h1 : ∀ n, n < 2 → x = nI n → Q (some (.int 1)) σ) (h0 : (∀ n, n < 2 → x ≠ nI n) → Q (some (.int 0)) σ) : T_X12_isBook [.int x] σ Q := by
  refine ⟨rfl, zFix_in ?_⟩
  refine t_inN (a := 0) (b := 1) (by decide) rfl rfl (fun n _ e2 e3 => ?_) (fun e => ?_)
  · exact And.intro (Or.inr rfl) (h1 n (by omega) e3)
  · exact And.intro (Or.inl rfl) (h0 (fun n hn => e n (Nat.zero_le _) (by omega)))
theorem t_many {σ : zM} {Q : zQ} (h : Q (some (.int (σ.1 76 0))) σ) : T_X12_many [.ref 75] σ Q := by
  refine ⟨rfl, zFix_in ?_⟩
  exact And.intro (vp_in_nI (n := 0) (N := 178) (by decide) (by decide)) h
theorem t_isFamily {x : Int32} {n : Nat} {σ : zM} {Q : zQ} (hn : n < 1000) (e : σ.1 76 0 = nI n) (h1 : ∀ f, f < n → x = nI f → Q (some (.int 1)) σ) (h0 : (∀ f, f < n → x ≠ nI f) → Q (some (.int 0)) σ) : T_X12_isFamily [.ref 75, .int x] σ Q := by
  refine ⟨rfl, zFix_in ?_⟩
  refine t_many ?_
  rw [e]
  have eh : (nI n - 1).toInt64.toInt = (n : Int) - 1 := by
    rw [i64]
    exact pk_sub_toInt (a := n) (b := 1) (by omega) (by decide)
  refine t_in (fun c d => ?_) (fun c => ?_)
  · rw [i64] at c d
    rw [eh] at d
    have c : (0 : Int) ≤ x.toInt := c
    exact And.intro (Or.inr rfl) (h1 x.toInt.toNat (by omega) (nI_of_toInt (by omega) (by omega)))
  · refine And.intro (Or.inl rfl) (h0 (fun f hf ef => c ?_))
    rw [i64, eh, ef, nI_toInt (by omega)]
    exact ⟨Int.natCast_nonneg f, by omega⟩
theorem t_get {f w : Nat} {σ : zM} {Q : zQ} (hf : f < 7) (hw : w < 6) (h : Q (some (.int (σ.1 76 (6 + 6 * f + w)))) σ) : T_X12_get [.ref 75, .int (nI f), .int (nI w)] σ Q := by
  have e : (6 : Int32) + 6 * nI f + nI w = nI (6 + 6 * f + w) := by rw [show (6 : Int32) = nI 6 from rfl, pk_mul, nI_add, nI_add]
  refine ⟨rfl, zFix_in ?_⟩
  refine And.intro (by rw [e]; exact vp_in_nI (N := 178) (by omega) (by decide)) ?_
  rw [e, nI_clamp (by omega)]
  exact h
theorem t_has {x i : Nat} {σ : zM} {Q : zQ} (hx : x < 2 ^ 31) (hi : i < 32) (h : Q (some (.int (nI (zb x i)))) σ) : T_X12_has [.int (nI x), .int (nI i)] σ Q := by
  refine ⟨rfl, zFix_in ?_⟩
  have e := nI_bit hx hi
  refine And.intro (fun c => ?_) (fun c => ?_)
  · rw [e] at c
    rw [zb_eq0 c] at h
    exact And.intro (Or.inl rfl) h
  · rw [e] at c
    rw [zb_eq1 c] at h
    exact And.intro (Or.inr rfl) h
/-- the reference's hand -/
def zHd (τ : zM) (a : zA) (kd bk pw : Nat → Nat) (cl : Nat) : Prop := τ.1 75 9 = nI cl ∧ ∀ f, f < a 2 0 → τ.1 80 f = nI (kd f) ∧ τ.1 81 f = nI (bk f) ∧ τ.1 82 f = nI (pw f)
def zMF (σ τ : zM) : Prop := (∀ x, x ≠ 80 → x ≠ 81 → x ≠ 82 → x ≠ 75 → τ.1 x = σ.1 x) ∧ (∀ j, j ≠ 9 → τ.1 75 j = σ.1 75 j) ∧ τ.2 = σ.2
theorem zMF.rf {σ : zM} : zMF σ σ := ⟨fun _ _ _ _ _ => rfl, fun _ _ => rfl, rfl⟩
theorem zMF.tr {σ τ υ : zM} (h : zMF σ τ) (g : zMF τ υ) : zMF σ υ := ⟨fun k a b c d => (g.1 k a b c d).trans (h.1 k a b c d), fun j hj => (g.2.1 j hj).trans (h.2.1 j hj), g.2.2.trans h.2.2⟩
theorem zMF.Q {σ τ : zM} (h : zMF σ τ) : zQM σ τ := ⟨fun k hk => h.1 k (by omega) (by omega) (by omega) (by omega), h.2.1 18 (by decide), h.2.2⟩
theorem zMF.M {σ τ : zM} {a : zA} (h : zMF σ τ) (c : zCM (σ.1 76) a) : zCM (τ.1 76) a := by rw [h.1 76 (by decide) (by decide) (by decide) (by decide)]; exact c
theorem hand_or : ∀ c, c < 128 → ∀ f, f < 7 → nI (c % 2 ^ f) ||| nI (zb c f) <<< (nI f &&& 31) = nI (c % 2 ^ (f + 1)) := by decide +kernel
theorem zC128 {a : zA} (hW : zWF a) : a 8 0 < 128 := Nat.lt_of_lt_of_le hW.2.2.2.2.2.1 (Nat.pow_le_pow_right (by decide) hW.1 : 2 ^ a 2 0 ≤ 2 ^ 7)
theorem zputj {σ : zM} {k j i : Nat} {v : Int32} : (zput σ k j v).1 k i = if i = j then v else σ.1 k i := by rw [zput_eq]; rfl
theorem t_layHand {a : zA} {σ : zM} {Q : zQ} (hW : zWF a) (hM : zCM (σ.1 76) a) (h : ∀ τ : zM, zMF σ τ → zHd τ a (a 3) (a 4) (a 7) (a 8 0) → Q none τ) : T_X12_layHand [.ref 75] σ Q := by
  have hn := hW.1
  have hc := zC128 hW
  have L : ∀ f, f ≤ a 2 0 → ∀ τ : zM, zMF σ τ → τ.1 75 9 = nI (a 8 0 % 2 ^ f) → (∀ g, g < f → τ.1 80 g = nI (a 3 g) ∧ τ.1 81 g = nI (a 4 g) ∧ τ.1 82 g = nI (a 7 g)) → zFix (F_X12_layHand Q) 1 [.ref 75, .int (nI f)] [] τ := by
    refine zloop (a 2 0) (fun f hf ih => ?_)
    intro τ i1 i2 i3
    have hM' := i1.M hM
    refine zFix_in ?_
    refine t_many ?_
    refine pk_le (a 2 0) f (fun q => ?_) (fun q => ?_) hM'.1 rfl
    · have e : f = a 2 0 := by omega
      subst e
      rw [Nat.mod_eq_of_lt hW.2.2.2.2.2.1] at i2
      exact h τ i1 ⟨i2, fun g hg => i3 g hg⟩
    · obtain ⟨m1, m2, m3, m4, m5, m6⟩ := hM'.2.2.2.2.2.1 f q
      refine t_get (w := 0) (by omega) (by decide) ?_
      refine And.intro (vp_in_nI (N := 7) (by omega) (by decide)) ?_
      rw [nI_clamp (by omega), show τ.1 76 (6 + 6 * f + 0) = nI (a 3 f) from m1]
      refine t_get (w := 1) (by omega) (by decide) ?_
      refine And.intro (vp_in_nI (N := 7) (by omega) (by decide)) ?_
      rw [nI_clamp (by omega), zput_ne (show 76 ≠ 80 by decide), show 6 + 6 * f + 1 = 7 + 6 * f by omega, m2]
      refine t_get (w := 4) (by omega) (by decide) ?_
      refine And.intro (vp_in_nI (N := 7) (by omega) (by decide)) ?_
      rw [nI_clamp (by omega), zput_ne (show 76 ≠ 81 by decide), zput_ne (show 76 ≠ 80 by decide), show 6 + 6 * f + 4 = 10 + 6 * f by omega, m5]
      refine t_get (w := 5) (by omega) (by decide) ?_
      rw [zput_ne (show 76 ≠ 82 by decide), zput_ne (show 76 ≠ 81 by decide), zput_ne (show 76 ≠ 80 by decide), show 6 + 6 * f + 5 = 11 + 6 * f by omega, m6]
      show zFix (F_X12_layHand Q) 1 [.ref 75, .int (nI f + 1)] [] (zput (zput (zput (zput τ 80 f (nI (a 3 f))) 81 f (nI (a 4 f))) 82 f (nI (a 7 f))) 75 9 (τ.1 75 9 ||| nI (zb (a 8 0) f) <<< (nI f &&& 31)))
      rw [nI_1, i2, hand_or _ hc _ (by omega)]
      refine ih (f + 1) (by omega) (by omega) _ ⟨fun x x1 x2 x3 x4 => ?_, fun j hj => ?_, i1.2.2⟩ zput_s (fun g hg => ?_)
      · rw [zput_ne x4, zput_ne x3, zput_ne x2, zput_ne x1]; exact i1.1 x x1 x2 x3 x4
      · rw [zput_u hj, zput_ne (by decide), zput_ne (by decide), zput_ne (by decide)]; exact i1.2.1 j hj
      · rw [zput_ne (show 80 ≠ 75 by decide), zput_ne (show 80 ≠ 82 by decide), zput_ne (show 80 ≠ 81 by decide), zput_ne (show 81 ≠ 75 by decide), zput_ne (show 81 ≠ 82 by decide), zput_ne (show 82 ≠ 75 by decide)]
        by_cases e : g = f
        · rw [e, zput_s, zput_s, zput_s]; exact ⟨rfl, rfl, rfl⟩
        · rw [zput_u e, zput_u e, zput_u e, zput_ne (show 81 ≠ 80 by decide), zput_ne (show 82 ≠ 81 by decide), zput_ne (show 82 ≠ 80 by decide)]
          exact i3 g (by omega)
  refine ⟨rfl, zFix_in ?_⟩
  refine L 0 (Nat.zero_le _) (zput σ 75 9 0) ⟨fun x _ _ _ x4 => zput_ne x4, fun j hj => zput_u hj, rfl⟩ ?_ (fun g hg => absurd hg (Nat.not_lt_zero g))
  rw [zput_s, Nat.pow_zero, Nat.mod_one]
  rfl
section
variable {a : zA} {kd bk pw : Nat → Nat} {cl : Nat} {σ : zM} {Q : zQ}
theorem zHd_or (hM : zCM (σ.1 76) a) {b : Nat} (hb : b < 2) : σ.1 76 (2 + b) = nI (a 1 b) ∧ σ.1 76 (3 - b) = nI (a 1 (1 - b)) := by
  rcases (show b = 0 ∨ b = 1 by omega) with rfl | rfl
  · exact ⟨hM.2.2.1.1, hM.2.2.1.2⟩
  · exact ⟨hM.2.2.1.2, hM.2.2.1.1⟩
theorem r_kneels {f w : Nat} (hW : zWF a) (hM : zCM (σ.1 76) a) (hH : zHd σ a kd bk pw cl) (hf : f < a 2 0) (hk : kd f < 6) (hb : bk f < 2) (hw : w < 16) (h : Q (some (.int (nI (zKn kd bk f (zcs a w))))) σ) : T_X12_kneels [.ref 75, .int (nI f), .int (nI w)] σ Q := by
  have hn := hW.1
  have b0 := hW.2.2.1 (bk f) hb
  have b1 := hW.2.2.1 (1 - bk f) (by omega)
  obtain ⟨h1, h2, h3⟩ := hH.2 f hf
  obtain ⟨o1, o2⟩ := zHd_or hM hb
  unfold zKn at h
  rw [zcs_b a w hb, zcs_b a w (show 1 - bk f < 2 by omega)] at h
  have ho := zb_lt (a 1 (bk f)) w
  have ht := zb_lt (a 1 (1 - bk f)) w
  refine ⟨rfl, zFix_in ?_⟩
  refine And.intro (vp_in_nI (N := 7) (by omega) (by decide)) ?_
  rw [nI_clamp (by omega), h2]
  refine And.intro (by rw [show (2 : Int32) + nI (bk f) = nI (2 + bk f) from nI_add 2 _]; exact vp_in_nI (N := 178) (by omega) (by decide)) ?_
  rw [show (2 : Int32) + nI (bk f) = nI (2 + bk f) from nI_add 2 _, nI_clamp (by omega), o1]
  refine t_has (by omega) (by omega) ?_
  refine And.intro (vp_in_nI (N := 7) (by omega) (by decide)) ?_
  rw [nI_clamp (by omega), h2]
  refine And.intro (by rw [show (3 : Int32) - nI (bk f) = nI (3 - bk f) from pk_sub (a := 3) (by omega)]; exact vp_in_nI (N := 178) (by omega) (by decide)) ?_
  rw [show (3 : Int32) - nI (bk f) = nI (3 - bk f) from pk_sub (a := 3) (by omega), nI_clamp (by omega), o2]
  refine t_has (by omega) (by omega) ?_
  generalize zb (a 1 (bk f)) w = o at ho h
  generalize zb (a 1 (1 - bk f)) w = t at ht h
  refine And.intro (vp_in_nI (N := 7) (by omega) (by decide)) ?_
  rw [nI_clamp (by omega), h1]
  have B1 : Q (some (.int 1)) σ → zFix (F_X12_kneels Q) 1 [] [] σ := fun z => zFix_in (And.intro (Or.inr rfl) z)
  have B2 : Q (some (.int 0)) σ → zFix (F_X12_kneels Q) 2 [] [] σ := fun z => zFix_in (And.intro (Or.inl rfl) z)
  unfold zkn at h
  refine And.intro (fun c => ?_) (fun c => ?_)
  · rw [if_neg (fun z => c (by rw [z]; rfl))] at h
    refine And.intro (vp_in_nI (N := 7) (by omega) (by decide)) ?_
    rw [nI_clamp (by omega), h1]
    refine And.intro (fun d => ?_) (fun d => ?_)
    · refine And.intro (vp_in_nI (N := 7) (by omega) (by decide)) ?_
      rw [nI_clamp (by omega), h1]
      refine And.intro (fun e => ?_) (fun e => ?_)
      · rw [if_pos (nI_inj (b := 3) (by omega) (by decide) e)] at h
        exact And.intro (Or.inl rfl) h
      · rw [if_neg (fun z => e (by rw [z]; rfl)), if_neg (fun z => d (by rw [z]; rfl))] at h
        refine And.intro (fun g => ?_) (fun g => ?_)
        · rw [nI_inj (b := 0) (by omega) (by decide) g] at h
          exact And.intro (Or.inl rfl) h
        · rw [show o = 1 by rcases (show o = 0 ∨ o = 1 by omega) with z | z; exact absurd (by rw [z]; rfl) g; exact z] at h
          exact And.intro (Or.inr rfl) h
    · have e5 : kd f = 5 := nI_inj (b := 5) (by omega) (by decide) d
      rw [if_neg (by omega), if_pos e5] at h
      refine And.intro (fun g => ?_) (fun g => ?_)
      · rw [if_pos (nI_inj (b := 0) (by omega) (by decide) g)] at h
        exact B2 h
      · rw [if_neg (fun z => g (by rw [z]; rfl))] at h
        refine And.intro (fun g => ?_) (fun g => ?_)
        · rw [nI_inj (b := 0) (by omega) (by decide) g] at h
          exact B2 h
        · rw [show t = 1 by rcases (show t = 0 ∨ t = 1 by omega) with z | z; exact absurd (by rw [z]; rfl) g; exact z] at h
          exact And.intro (Or.inr rfl) h
  · rw [if_pos (nI_inj (b := 2) (by omega) (by decide) c)] at h
    refine And.intro (fun g => ?_) (fun g => ?_)
    · rw [if_neg (fun z => g (by rw [z]; rfl))] at h
      exact B1 h
    · rw [if_pos (nI_inj (b := 0) (by omega) (by decide) g)] at h
      refine And.intro (fun g => ?_) (fun g => ?_)
      · rw [nI_inj (b := 0) (by omega) (by decide) g] at h
        exact And.intro (Or.inl rfl) h
      · rw [show t = 1 by rcases (show t = 0 ∨ t = 1 by omega) with z | z; exact absurd (by rw [z]; rfl) g; exact z] at h
        exact B1 h
end
