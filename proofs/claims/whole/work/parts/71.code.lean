/-! Codes of seats; the order of scores. -/
theorem zb_t (x i : Nat) : zb x i = 1 ↔ x.testBit i = true := by rw [Nat.testBit_eq_decide_div_mod_eq, decide_eq_true_iff]; rfl
theorem zb_o {x y i : Nat} : zb (x ||| y) i = 1 ↔ zb x i = 1 ∨ zb y i = 1 := by rw [zb_t, zb_t, zb_t, Nat.testBit_or, Bool.or_eq_true]
theorem zb_p {p i : Nat} : zb (2 ^ p) i = 1 ↔ p = i := by rw [zb_t, Nat.testBit_two_pow, decide_eq_true_iff]
theorem zfull : ∀ n, n < 8 → ∀ f, f < n → zb (2 ^ n - 1) f = 1 := by decide +kernel
/-- the seats of a code -/
def zcod (a : zA) (k f : Nat) : Nat := 2 * (k / 5 ^ (a 2 0 - 1 - f) % 5) + a 4 f
def zcC (r : Nat → Nat) : Nat → Nat
  | 0 => 0
  | f + 1 => 5 * zcC r f + r f / 2
def zcP (r : Nat → Nat) : Nat → Nat
  | 0 => 0
  | f + 1 => 10 * zcP r f + (9 - r f)
theorem zcC_lt {r : Nat → Nat} : ∀ {n : Nat}, (∀ f, f < n → r f < 10) → zcC r n < 5 ^ n := by
  intro n
  induction n with
  | zero => intro _; exact Nat.one_pos
  | succ n ih =>
    intro h
    have h1 := ih (fun f hf => h f (by omega))
    have h2 := h n (by omega)
    show 5 * zcC r n + r n / 2 < _
    rw [Nat.pow_succ]
    omega
theorem zcC_d {r : Nat → Nat} : ∀ {n : Nat}, (∀ f, f < n → r f < 10) → ∀ f, f < n → zcC r n / 5 ^ (n - 1 - f) % 5 = r f / 2 := by
  intro n
  induction n with
  | zero => intro _ f hf; omega
  | succ n ih =>
    intro h f hf
    have h2 := h n (by omega)
    show (5 * zcC r n + r n / 2) / 5 ^ (n + 1 - 1 - f) % 5 = _
    by_cases e : f = n
    · subst e
      rw [show f + 1 - 1 - f = 0 by omega, Nat.pow_zero, Nat.div_one]
      omega
    · rw [show n + 1 - 1 - f = (n - 1 - f) + 1 by omega, Nat.pow_succ, Nat.mul_comm (5 ^ (n - 1 - f)) 5, ← Nat.div_div_eq_div_mul, show (5 * zcC r n + r n / 2) / 5 = zcC r n by omega]
      exact ih (fun f hf => h f (by omega)) f (by omega)
theorem zcP_o {r s : Nat → Nat} : ∀ {n : Nat}, (∀ f, f < n → r f < 10 ∧ s f < 10 ∧ r f % 2 = s f % 2) → (zcC r n < zcC s n → zcP s n < zcP r n) ∧ (zcC r n = zcC s n → zcP r n = zcP s n) := by
  intro n
  induction n with
  | zero => intro _; exact ⟨fun h => absurd h (Nat.lt_irrefl _), fun _ => rfl⟩
  | succ n ih =>
    intro h
    obtain ⟨i1, i2⟩ := ih (fun f hf => h f (by omega))
    obtain ⟨h1, h2, h3⟩ := h n (by omega)
    show (5 * zcC r n + r n / 2 < 5 * zcC s n + s n / 2 → 10 * zcP s n + (9 - s n) < 10 * zcP r n + (9 - r n)) ∧ (5 * zcC r n + r n / 2 = 5 * zcC s n + s n / 2 → 10 * zcP r n + (9 - r n) = 10 * zcP s n + (9 - s n))
    rcases Nat.lt_trichotomy (zcC r n) (zcC s n) with l | l | l
    · have := i1 l
      exact ⟨fun _ => by omega, fun _ => by omega⟩
    · have := i2 l
      exact ⟨fun _ => by omega, fun _ => by omega⟩
    · exact ⟨fun _ => by omega, fun _ => by omega⟩
def zcG (r : Nat → Nat) : Nat → Nat := zsu (fun f => (9 - r f) * 10 ^ (6 - f))
theorem zcG_P {r : Nat → Nat} : ∀ {n : Nat}, n ≤ 7 → zcG r n = zcP r n * 10 ^ (7 - n) := by
  intro n
  induction n with
  | zero => intro _; show 0 = 0 * _; rw [Nat.zero_mul]
  | succ n ih =>
    intro h
    show zcG r n + (9 - r n) * 10 ^ (6 - n) = (10 * zcP r n + (9 - r n)) * 10 ^ (7 - (n + 1))
    rw [ih (by omega), show 7 - n = (6 - n) + 1 by omega, show 7 - (n + 1) = 6 - n by omega, Nat.pow_succ, Nat.add_mul, Nat.mul_comm 10 (zcP r n), Nat.mul_assoc (zcP r n) 10, Nat.mul_comm 10 (10 ^ (6 - n))]
theorem zcG_t {r : Nat → Nat} {k : Nat} : ∀ {m : Nat}, k ≤ m → m ≤ 7 → zcG r m + 10 ^ (7 - m) ≤ zcG r k + 10 ^ (7 - k) := by
  intro m
  induction m with
  | zero => intro h _; have : k = 0 := by omega
            subst this; exact Nat.le_refl _
  | succ m ih =>
    intro h hm
    by_cases e : k = m + 1
    · subst e; exact Nat.le_refl _
    · have i := ih (by omega) (by omega)
      have e1 : zcG r (m + 1) = zcG r m + (9 - r m) * 10 ^ (6 - m) := rfl
      have e2 : 10 ^ (7 - m) = 10 * 10 ^ (6 - m) := by rw [show 7 - m = (6 - m) + 1 by omega, Nat.pow_succ, Nat.mul_comm]
      have e3 : (9 - r m) * 10 ^ (6 - m) ≤ 9 * 10 ^ (6 - m) := Nat.mul_le_mul_right _ (by omega)
      rw [show 7 - (m + 1) = 6 - m by omega]
      omega
noncomputable def zcS (a : zA) (r : Nat → Nat) : Nat := zsu (fun f => zVs a (2 ^ a 2 0 - 1) r f) (a 2 0)
theorem zsu_lin {V g : Nat → Nat} {k : Nat} : ∀ {n : Nat}, zsu (fun f => V f * k + g f) n = zsu V n * k + zsu g n := by
  intro n
  induction n with
  | zero => show 0 = 0 * k + 0; omega
  | succ n ih =>
    show zsu (fun f => V f * k + g f) n + (V n * k + g n) = (zsu V n + V n) * k + (zsu g n + g n)
    rw [ih, Nat.add_mul]
    omega
theorem zSC_f {a : zA} (hn : a 2 0 ≤ 7) (r : Nat → Nat) : zSC a (2 ^ a 2 0 - 1) r = zcS a r * 10000000 + zcG r (a 2 0) := by
  rw [zcS, zcG, ← zsu_lin]
  refine zsu_congr (fun f hf => ?_)
  rw [zfull _ (by omega) f hf, Nat.one_mul]
theorem zcG_7 {r : Nat → Nat} {n : Nat} (h : n ≤ 7) : zcG r n < 10000000 := by
  have h1 := zcG_t (r := r) (k := 0) (Nat.zero_le n) h
  have h2 : zcG r 0 = 0 := rfl
  have h3 : 0 < 10 ^ (7 - n) := Nat.pow_pos (by decide)
  have h4 : 10 ^ (7 - 0) = 10000000 := by decide
  omega
theorem zdig {r : Nat → Nat} {n f S : Nat} (hn : n ≤ 7) (hf : f < n) : (S * 10000000 + zcG r n) / 10 ^ (6 - f) % 10 = 9 - r f := by
  have t := zcG_t (r := r) (k := f + 1) (m := n) (by omega) hn
  have p : 0 < 10 ^ (7 - n) := Nat.pow_pos (by decide)
  have q : 0 < 10 ^ (6 - f) := Nat.pow_pos (by decide)
  have e1 : zcG r (f + 1) = zcG r f + (9 - r f) * 10 ^ (6 - f) := rfl
  have e2 : zcG r f = zcP r f * (10 * 10 ^ (6 - f)) := by rw [zcG_P (by omega), show 7 - f = (6 - f) + 1 by omega, Nat.pow_succ, Nat.mul_comm (10 ^ (6 - f)) 10]
  have e3 : 10000000 = 10 ^ f * (10 * 10 ^ (6 - f)) := by
    rw [← Nat.mul_comm (10 ^ (6 - f)) 10, ← Nat.pow_succ, ← Nat.pow_add, show f + (6 - f).succ = 7 by omega]
  have mo : ∀ m, zcG r (f + 1) ≤ m → zcG r (f + 1) ≤ m := fun _ h => h
  have lo : zcG r (f + 1) ≤ zcG r n := zsu_mono (by omega)
  rw [show 7 - (f + 1) = 6 - f by omega] at t
  obtain ⟨d, ed⟩ : ∃ d, zcG r n = zcG r (f + 1) + d := ⟨zcG r n - zcG r (f + 1), by omega⟩
  have ld : d < 10 ^ (6 - f) := by omega
  have e4 : S * 10000000 + zcG r n = d + 10 ^ (6 - f) * (10 * (S * 10 ^ f + zcP r f) + (9 - r f)) := by
    rw [ed, e1, e2, e3, Nat.mul_add (10 ^ (6 - f)), ← Nat.mul_assoc S]
    have h1 : S * 10 ^ f * (10 * 10 ^ (6 - f)) + zcP r f * (10 * 10 ^ (6 - f)) = 10 ^ (6 - f) * (10 * (S * 10 ^ f + zcP r f)) := by
      rw [← Nat.add_mul, Nat.mul_comm 10 (10 ^ (6 - f)), Nat.mul_comm (S * 10 ^ f + zcP r f), Nat.mul_assoc]
    have h2 : (9 - r f) * 10 ^ (6 - f) = 10 ^ (6 - f) * (9 - r f) := Nat.mul_comm _ _
    omega
  rw [e4, Nat.add_mul_div_left _ _ q, Nat.div_eq_of_lt ld, Nat.zero_add, Nat.mul_add_mod]
  exact Nat.mod_eq_of_lt (by omega)
/-- the first code of the greatest seeing has the greatest score -/
theorem zbest {a : zA} {k0 : Nat} (hW : zWF a) (hk : ∀ k, k < 5 ^ a 2 0 → zPS a 10 (2 ^ a 2 0 - 1) (zcod a k) → zcS a (zcod a k) < zcS a (zcod a k0) ∨ (zcS a (zcod a k) = zcS a (zcod a k0) ∧ k0 ≤ k)) (h0 : k0 < 5 ^ a 2 0) (r : Nat → Nat) (hr : zPS a 10 (2 ^ a 2 0 - 1) r) : zSC a (2 ^ a 2 0 - 1) r ≤ zSC a (2 ^ a 2 0 - 1) (zcod a k0) := by
  have hn := hW.1
  have rb : ∀ f, f < a 2 0 → r f < 10 ∧ r f % 2 = a 4 f := fun f hf => hr.1 f hf (zfull _ (by omega) f hf)
  have hb : ∀ f, f < a 2 0 → a 4 f < 2 := fun f hf => (hW.2.2.2.1 f hf).2.1
  have er : ∀ f, f < a 2 0 → zcod a (zcC r (a 2 0)) f = r f := fun f hf => by
    rw [zcod, zcC_d (fun f hf => (rb f hf).1) f hf]
    have := (rb f hf).2
    omega
  have lk : zcC r (a 2 0) < 5 ^ a 2 0 := zcC_lt (fun f hf => (rb f hf).1)
  have p1 : zPS a 10 (2 ^ a 2 0 - 1) (zcod a (zcC r (a 2 0))) := zPS_c (fun f hf _ => (er f hf).symm) hr
  have s1 : zSC a (2 ^ a 2 0 - 1) (zcod a (zcC r (a 2 0))) = zSC a (2 ^ a 2 0 - 1) r := zSC_c (fun f hf _ => er f hf)
  rw [← s1, zSC_f hn, zSC_f hn]
  have g1 := zcG_7 (r := zcod a (zcC r (a 2 0))) hn
  rcases hk _ lk p1 with l | ⟨e, l⟩
  · omega
  · rw [e]
    have cb : ∀ k f, f < a 2 0 → zcod a k f < 10 ∧ zcod a k f % 2 = a 4 f := fun k f hf => by
      have := hb f hf
      have := Nat.mod_lt (k / 5 ^ (a 2 0 - 1 - f)) (show 0 < 5 by decide)
      unfold zcod
      omega
    have ce : ∀ k, k < 5 ^ a 2 0 → zcC (zcod a k) (a 2 0) = k := by
      intro k hk
      have key : ∀ m, m ≤ a 2 0 → zcC (zcod a k) m = k / 5 ^ (a 2 0 - m) := by
        intro m
        induction m with
        | zero => intro _; show 0 = _; rw [Nat.sub_zero, Nat.div_eq_of_lt hk]
        | succ m ih =>
          intro hm
          show 5 * zcC (zcod a k) m + zcod a k m / 2 = _
          have hbm := hb m (by omega)
          rw [ih (by omega), show zcod a k m / 2 = k / 5 ^ (a 2 0 - 1 - m) % 5 by unfold zcod; omega, show a 2 0 - m = (a 2 0 - 1 - m) + 1 by omega, show a 2 0 - (m + 1) = a 2 0 - 1 - m by omega, Nat.pow_succ, ← Nat.div_div_eq_div_mul]
          omega
      rw [key _ (Nat.le_refl _), Nat.sub_self, Nat.pow_zero, Nat.div_one]
    have o := zcP_o (r := zcod a k0) (s := zcod a (zcC r (a 2 0))) (n := a 2 0) (fun f hf => ⟨(cb k0 f hf).1, (cb _ f hf).1, by rw [(cb k0 f hf).2, (cb _ f hf).2]⟩)
    rw [ce _ h0, ce _ lk] at o
    have le : zcP (zcod a (zcC r (a 2 0))) (a 2 0) ≤ zcP (zcod a k0) (a 2 0) := by
      rcases Nat.lt_or_ge k0 (zcC r (a 2 0)) with q | q
      · exact Nat.le_of_lt (o.1 q)
      · rw [o.2 (by omega)]; exact Nat.le_refl _
    rw [zcG_P hn, zcG_P hn]
    have := Nat.mul_le_mul_right (10 ^ (7 - a 2 0)) le
    omega
