/-! What the words mean, in natural numbers. -/
theorem zloop {P : Nat → Prop} (n : Nat) (step : ∀ f, f ≤ n → (∀ g, f < g → g ≤ n → P g) → P f) : ∀ f, f ≤ n → P f := by
  have key : ∀ k f, n - f ≤ k → f ≤ n → P f := by
    intro k
    induction k with
    | zero => intro f h1 h2; exact step f h2 (fun g h3 h4 => by omega)
    | succ k ih => intro f h1 h2; exact step f h2 (fun g h3 h4 => ih g (by omega) h4)
  exact fun f hf => key (n - f) f (Nat.le_refl _) hf
def zsu (g : Nat → Nat) : Nat → Nat
  | 0 => 0
  | n + 1 => zsu g n + g n
theorem zsu_congr {g h : Nat → Nat} : ∀ {n : Nat}, (∀ i, i < n → g i = h i) → zsu g n = zsu h n := by
  intro n
  induction n with
  | zero => intro _; rfl
  | succ n ih => intro e; simp only [zsu]; rw [ih (fun i hi => e i (by omega)), e n (by omega)]
theorem zsu_le {g : Nat → Nat} {m : Nat} : ∀ {n : Nat}, (∀ i, i < n → g i ≤ m) → zsu g n ≤ n * m := by
  intro n
  induction n with
  | zero => intro _; simp [zsu]
  | succ n ih => intro e; simp only [zsu, Nat.succ_mul]; have := ih (fun i hi => e i (by omega)); have := e n (by omega); omega
theorem zsu_mono {g : Nat → Nat} : ∀ {n m : Nat}, n ≤ m → zsu g n ≤ zsu g m := by
  intro n m h
  induction m with
  | zero => have : n = 0 := by omega
            subst this; exact Nat.le_refl _
  | succ m ih =>
    by_cases e : n = m + 1
    · subst e; exact Nat.le_refl _
    · have := ih (by omega); simp only [zsu]; omega
theorem zsu_add {g h : Nat → Nat} : ∀ {n : Nat}, zsu (fun i => g i + h i) n = zsu g n + zsu h n := by
  intro n
  induction n with
  | zero => rfl
  | succ n ih => simp only [zsu]; rw [ih]; omega
-- kinds: o the own book's bit, t the other one's; kn whether one kneels
def zkn (k o t : Nat) : Nat := if k = 2 then (if o = 0 then t else 1) else if k = 3 then 0 else if k = 5 then (if o = 0 then 0 else t) else o
def zh0 (tl kn : Nat) : Nat := if kn = 0 then tl else tl / 2
def zhi (k tl kn : Nat) : Nat := if k = 3 then zh0 tl kn + 1 else if k = 4 then zh0 tl kn - 2 else zh0 tl kn
def zs0 (v kn : Nat) : Nat := if kn = 0 then v else 0
def zso (k v kn : Nat) : Nat := if k = 1 ∨ k = 4 then zs0 v kn / 2 else if k = 5 then zs0 v kn - 1 else zs0 v kn
theorem zkn_lt {k o t : Nat} (ho : o < 2) (ht : t < 2) : zkn k o t < 2 := by
  unfold zkn; (repeat' split) <;> omega
theorem zhi_le {k tl kn : Nat} : zhi k tl kn ≤ tl + 1 := by
  unfold zhi zh0; (repeat' split) <;> omega
theorem zso_le {k v kn : Nat} : zso k v kn ≤ v := by
  unfold zso zs0; (repeat' split) <;> omega
-- a church: 0 limit, 1 books, 2 how many families, 3 kinds, 4 books, 5 tall, 6 voices, 7 pews, 8 colds, 9 how many heard, 10 words, 11 books, 12 n, 13 how many steps, 14 their pews, 15 their colds
abbrev zA : Type := Nat → Nat → Nat
def zWF (a : zA) : Prop :=
  a 2 0 ≤ 7 ∧ a 0 0 ≤ 30 ∧ (∀ i, i < 2 → a 1 i < 65536) ∧
  (∀ f, f < a 2 0 → a 3 f < 6 ∧ a 4 f < 2 ∧ (1 ≤ a 5 f ∧ a 5 f ≤ 9) ∧ (1 ≤ a 6 f ∧ a 6 f ≤ 20) ∧ a 7 f ≤ 9 ∧ a 7 f % 2 = a 4 f) ∧
  (∀ f g, f < a 2 0 → g < a 2 0 → a 7 f = a 7 g → f = g) ∧ a 8 0 < 2 ^ a 2 0 ∧ a 9 0 ≤ 6 ∧ (∀ k, k < a 9 0 → a 10 k < 16 ∧ a 11 k < 2 ∧ a 12 k ≤ 140) ∧ a 13 0 ≤ 8 ∧
  (∀ u, u < a 13 0 → a 15 u < 2 ^ a 2 0 ∧ (∀ f, f < a 2 0 → a 14 (7 * u + f) ≤ 9 ∧ a 14 (7 * u + f) % 2 = a 4 f) ∧ ∀ f g, f < a 2 0 → g < a 2 0 → a 14 (7 * u + f) = a 14 (7 * u + g) → f = g)
/-- the class's church at cell b holds a -/
def zCX (b : Nat) (σ : zM) (a : zA) : Prop :=
  σ.1 b 0 = nI (a 0 0) ∧ (∀ i, i < 2 → σ.1 (b + 1) i = nI (a 1 i)) ∧ σ.1 b 2 = nI (a 2 0) ∧
  (∀ f, f < a 2 0 → σ.1 (b + 2) f = nI (a 3 f) ∧ σ.1 (b + 3) f = nI (a 4 f) ∧ σ.1 (b + 4) f = nI (a 5 f) ∧ σ.1 (b + 5) f = nI (a 6 f) ∧ σ.1 (b + 6) f = nI (a 7 f)) ∧
  σ.1 b 8 = nI (a 8 0) ∧ σ.1 b 9 = nI (a 9 0) ∧
  (∀ k, k < a 9 0 → σ.1 (b + 7) k = nI (a 10 k) ∧ σ.1 (b + 8) k = nI (a 11 k) ∧ σ.1 (b + 9) k = nI (a 12 k)) ∧
  σ.1 b 13 = nI (a 13 0) ∧ ∀ u, u < a 13 0 → σ.1 (b + 11) u = nI (a 15 u) ∧ ∀ f, f < a 2 0 → σ.1 (b + 10) (7 * u + f) = nI (a 14 (7 * u + f))
/-- the reference's row N holds a -/
def zCM (N : Nat → Int32) (a : zA) : Prop :=
  N 0 = nI (a 2 0) ∧ N 1 = nI (a 0 0) ∧ (N 2 = nI (a 1 0) ∧ N 3 = nI (a 1 1)) ∧ N 4 = nI (a 9 0) ∧ N 5 = nI (a 13 0) ∧
  (∀ f, f < a 2 0 → N (6 + 6 * f) = nI (a 3 f) ∧ N (7 + 6 * f) = nI (a 4 f) ∧ N (8 + 6 * f) = nI (a 5 f) ∧ N (9 + 6 * f) = nI (a 6 f) ∧ N (10 + 6 * f) = nI (a 7 f) ∧ N (11 + 6 * f) = nI (zb (a 8 0) f)) ∧
  (∀ k, k < a 9 0 → N (48 + 3 * k) = nI (a 10 k) ∧ N (49 + 3 * k) = nI (a 11 k) ∧ N (50 + 3 * k) = nI (a 12 k)) ∧
  ∀ u, u < a 13 0 → ∀ f, f < a 2 0 → N (66 + 14 * u + f) = nI (a 14 (7 * u + f)) ∧ N (73 + 14 * u + f) = nI (zb (a 15 u) f)
/-- only the class's own scratch differs; only the reference's -/
def zQX (σ τ : zM) : Prop := (∀ k, (k < 13 ∨ (25 ≤ k ∧ k < 51) ∨ k = 52 ∨ 74 ≤ k) → τ.1 k = σ.1 k) ∧ τ.1 51 1 = σ.1 51 1 ∧ τ.2 = σ.2
def zQM (σ τ : zM) : Prop := (∀ k, (k < 75 ∨ (76 ≤ k ∧ k < 80) ∨ k = 88) → τ.1 k = σ.1 k) ∧ τ.1 75 18 = σ.1 75 18 ∧ τ.2 = σ.2
theorem zQX.rf {σ : zM} : zQX σ σ := ⟨fun _ _ => rfl, rfl, rfl⟩
theorem zQM.rf {σ : zM} : zQM σ σ := ⟨fun _ _ => rfl, rfl, rfl⟩
theorem zQX.tr {σ τ υ : zM} (h : zQX σ τ) (g : zQX τ υ) : zQX σ υ := ⟨fun k hk => (g.1 k hk).trans (h.1 k hk), g.2.1.trans h.2.1, g.2.2.trans h.2.2⟩
theorem zQM.tr {σ τ υ : zM} (h : zQM σ τ) (g : zQM τ υ) : zQM σ υ := ⟨fun k hk => (g.1 k hk).trans (h.1 k hk), g.2.1.trans h.2.1, g.2.2.trans h.2.2⟩
theorem zCX.eq {b : Nat} {σ τ : zM} {a : zA} (h : zCX b σ a) (e : ∀ k, b ≤ k → k < b + 12 → τ.1 k = σ.1 k) : zCX b τ a := by
  unfold zCX at *
  rw [e b (by omega) (by omega), e (b + 1) (by omega) (by omega), e (b + 2) (by omega) (by omega), e (b + 3) (by omega) (by omega), e (b + 4) (by omega) (by omega), e (b + 5) (by omega) (by omega), e (b + 6) (by omega) (by omega), e (b + 7) (by omega) (by omega), e (b + 8) (by omega) (by omega), e (b + 9) (by omega) (by omega), e (b + 10) (by omega) (by omega), e (b + 11) (by omega) (by omega)]
  exact h
-- words, cases, loudness
def zcs (a : zA) (w : Nat) : Nat := zb (a 1 0) w + 2 * zb (a 1 1) w
def zwc (a : zA) (c : Nat) : Nat → Nat := zsu (fun w => if zcs a w = c then 1 else 0)
/-- kneeling, height, sound of family f in case c, were it of these kinds and books -/
def zKn (kd bk : Nat → Nat) (f c : Nat) : Nat := zkn (kd f) (zb c (bk f)) (zb c (1 - bk f))
def zHi (a : zA) (kd bk : Nat → Nat) (f c : Nat) : Nat := zhi (kd f) (a 5 f) (zKn kd bk f c)
def zSo (a : zA) (kd bk : Nat → Nat) (f c : Nat) : Nat := zso (kd f) (a 6 f) (zKn kd bk f c)
def zLd (a : zA) (kd bk : Nat → Nat) (cl c b : Nat) : Nat → Nat := zsu (fun f => if bk f = b ∧ zb cl f = 0 then zSo a kd bk f c else 0)
def zPe (a : zA) (kd bk : Nat → Nat) (cl c : Nat) : Prop := zLd a kd bk cl c 0 (a 2 0) ≤ zLd a kd bk cl c 1 (a 2 0) + a 0 0 ∧ zLd a kd bk cl c 1 (a 2 0) ≤ zLd a kd bk cl c 0 (a 2 0) + a 0 0
theorem zcs_lt (a : zA) (w : Nat) : zcs a w < 4 := by unfold zcs; have := zb_lt (a 1 0) w; have := zb_lt (a 1 1) w; omega
theorem zcs_0 (a : zA) (w : Nat) : zb (zcs a w) 0 = zb (a 1 0) w := by
  unfold zcs
  rcases zb_01 (a 1 0) w with h | h <;> rcases zb_01 (a 1 1) w with g | g <;> rw [h, g] <;> decide
theorem zcs_1 (a : zA) (w : Nat) : zb (zcs a w) 1 = zb (a 1 1) w := by
  unfold zcs
  rcases zb_01 (a 1 0) w with h | h <;> rcases zb_01 (a 1 1) w with g | g <;> rw [h, g] <;> decide
theorem zcs_b (a : zA) (w : Nat) {b : Nat} (hb : b < 2) : zb (zcs a w) b = zb (a 1 b) w := by
  rcases (show b = 0 ∨ b = 1 by omega) with rfl | rfl
  · exact zcs_0 a w
  · exact zcs_1 a w
theorem zKn_lt {kd bk : Nat → Nat} {f c : Nat} : zKn kd bk f c < 2 := zkn_lt (zb_lt _ _) (zb_lt _ _)
theorem zLd_le {a : zA} (h : zWF a) {kd bk : Nat → Nat} {cl c b n : Nat} (hn : n ≤ a 2 0) : zLd a kd bk cl c b n ≤ n * 20 := by
  refine zsu_le (fun i hi => ?_)
  split
  · exact Nat.le_trans zso_le (h.2.2.2.1 i (by omega)).2.2.2.1.2
  · omega
