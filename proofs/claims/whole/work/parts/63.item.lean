/-! What an item does to the church that is told. -/
noncomputable def zif {α : Type} (P : Prop) (x y : α) : α := @ite α P (Classical.propDecidable P) x y
theorem zif_1 {α : Type} {P : Prop} {x y : α} (h : P) : zif P x y = x := if_pos h
theorem zif_0 {α : Type} {P : Prop} {x y : α} (h : ¬ P) : zif P x y = y := if_neg h
def zqN (β : Nat → Nat) (t p l m : Nat) : Prop := zqK β t p = 2 ∧ zqE β t p - zqS β t p ≤ 2 ∧ l ≤ zqV β t p ∧ zqV β t p ≤ m
/-- the words of a book from token q on -/
noncomputable def zbk (β : Nat → Nat) (t : Nat) : Nat → Nat → Nat → Sum Nat (Nat × Nat)
  | 0, q, w => .inr (w, q)
  | n + 1, q, w => zif (zqK β t q = 2) (zif (zqN β t q 0 15) (zbk β t n (zqE β t q) (w ||| 2 ^ zqV β t q)) (.inl (zqS β t q))) (.inr (w, q))
def zst3 (β : Nat → Nat) (t q : Nat) (a : zA) : Sum Nat (zA × Nat) := if zqK β t q = 3 then .inr (a, q) else .inl (zqS β t q)
def zbj (β : Nat → Nat) (t : Nat) (a : zA) (b : Nat) : Sum Nat (Nat × Nat) → Sum Nat (zA × Nat)
  | .inl s => .inl s
  | .inr (w, q) => zst3 β t q (zs1 a 1 (zup (a 1) b w))
noncomputable def zib (β : Nat → Nat) (t : Nat) (a : zA) (p : Nat) : Sum Nat (zA × Nat) :=
  zif (zqN β t (zqE β t p) 0 1) (zbj β t a (zqV β t (zqE β t p)) (zbk β t 151 (zqE β t (zqE β t p)) 0)) (.inl (zqS β t (zqE β t p)))
noncomputable def zic (β : Nat → Nat) (t : Nat) (a : zA) (p : Nat) : Sum Nat (zA × Nat) :=
  zif (zqN β t (zqE β t p) 0 7 ∧ zqV β t (zqE β t p) < a 2 0) (zst3 β t (zqE β t (zqE β t p)) (zs1 a 8 (fun _ => zsb1 (a 8 0) (zqV β t (zqE β t p)) 1))) (.inl (zqS β t (zqE β t p)))
noncomputable def zim (β : Nat → Nat) (t : Nat) (a : zA) (p : Nat) : Sum Nat (zA × Nat) :=
  zif (7 ≤ a 2 0) (.inl (zqS β t p)) <|
  zif (zqN β t (zqE β t p) 0 5) (
    zif (zqN β t (zqE β t (zqE β t p)) 0 1) (
      zif (zqN β t (zqE β t (zqE β t (zqE β t p))) 1 9) (
        zif (zqN β t (zqE β t (zqE β t (zqE β t (zqE β t p)))) 1 20) (
          zif (zqN β t (zqE β t (zqE β t (zqE β t (zqE β t (zqE β t p))))) 0 9 ∧ zqV β t (zqE β t (zqE β t (zqE β t (zqE β t (zqE β t p))))) % 2 = zqV β t (zqE β t (zqE β t p)) ∧ ∀ f, f < a 2 0 → a 7 f ≠ zqV β t (zqE β t (zqE β t (zqE β t (zqE β t (zqE β t p)))))) (
            zst3 β t (zqE β t (zqE β t (zqE β t (zqE β t (zqE β t (zqE β t p)))))) (zAf a (zqV β t (zqE β t p)) (zqV β t (zqE β t (zqE β t p))) (zqV β t (zqE β t (zqE β t (zqE β t p)))) (zqV β t (zqE β t (zqE β t (zqE β t (zqE β t p))))) (zqV β t (zqE β t (zqE β t (zqE β t (zqE β t (zqE β t p)))))))
          ) (.inl (zqS β t (zqE β t (zqE β t (zqE β t (zqE β t (zqE β t p)))))))
        ) (.inl (zqS β t (zqE β t (zqE β t (zqE β t (zqE β t p))))))
      ) (.inl (zqS β t (zqE β t (zqE β t (zqE β t p)))))
    ) (.inl (zqS β t (zqE β t (zqE β t p))))
  ) (.inl (zqS β t (zqE β t p)))
noncomputable def zit (β : Nat → Nat) (t : Nat) (a : zA) (p : Nat) : Sum Nat (zA × Nat) :=
  zif (zqW β t p 1) (zib β t a p) (zif (zqW β t p 2) (zim β t a p) (zif (zqW β t p 3) (zic β t a p) (.inl (zqS β t p))))
noncomputable def zrd (β : Nat → Nat) (t : Nat) : Nat → zA → Nat → Nat → Sum Nat (Nat × zA)
  | 0, a, _, i => .inr (i, a)
  | n + 1, a, q, i => zif (zqK β t q = 0) (.inr (i, a)) (match zit β t a q with
    | .inl s => .inl s
    | .inr (b, r) => zrd β t n b (zqE β t r) (i + 1))
noncomputable def zre (β : Nat → Nat) (t : Nat) : Sum Nat (Nat × zA) :=
  zif (zqW β t 0 0) (zif (zqN β t (zqE β t 0) 0 30) (zif (zqK β t (zqE β t (zqE β t 0)) = 3) (zrd β t 151 (zA0 (zqV β t (zqE β t 0))) (zqE β t (zqE β t (zqE β t 0))) 1) (.inl (zqS β t (zqE β t (zqE β t 0))))) (.inl (zqS β t (zqE β t 0)))) (.inl (zqS β t 0))
section
variable {β : Nat → Nat} {t : Nat}
theorem zqE_r {p : Nat} (h : p ≤ t) : p ≤ zqE β t p ∧ zqE β t p ≤ t ∧ (zqK β t p ≠ 0 → p < zqE β t p) := by
  obtain ⟨r1, r2, r3, r4, r5⟩ := zq_r (β := β) h
  refine ⟨by omega, r4, fun k => ?_⟩
  have := r5 (by
    by_cases c : zqS β t p < t
    · exact c
    · exact absurd (zqK_r.2.mpr c) k)
  omega
theorem zbk_r : ∀ n q w, q ≤ t → w < 65536 → ∀ v r, zbk β t n q w = .inr (v, r) → v < 65536 ∧ q ≤ r ∧ r ≤ t := by
  intro n
  induction n with
  | zero =>
    intro q w hq hw v r e
    have e : (Sum.inr (w, q) : Sum Nat (Nat × Nat)) = .inr (v, r) := e
    injection e with e
    injection e with e1 e2
    subst e1; subst e2
    exact ⟨hw, Nat.le_refl _, hq⟩
  | succ n ih =>
    intro q w hq hw v r e
    unfold zbk at e
    by_cases c : zqK β t q = 2
    · rw [zif_1 c] at e
      by_cases d : zqN β t q 0 15
      · rw [zif_1 d] at e
        obtain ⟨r1, r2, r3⟩ := zqE_r (β := β) hq
        have := ih _ _ r2 (Nat.or_lt_two_pow (n := 16) hw (Nat.pow_lt_pow_right (by decide) (by have := d.2.2.2; omega))) v r e
        omega
      · rw [zif_0 d] at e
        exact absurd e (by intro z; injection z)
    · rw [zif_0 c] at e
      injection e with e
      injection e with e1 e2
      subst e1; subst e2
      exact ⟨hw, Nat.le_refl _, hq⟩
/-- a church that is being told -/
def zOk (a : zA) : Prop := zWF a ∧ a 13 0 = 0
theorem zst3_r {a b : zA} {q r : Nat} (h : zst3 β t q a = .inr (b, r)) : zqK β t q = 3 ∧ b = a ∧ r = q := by
  unfold zst3 at h
  split at h
  · rename_i e
    injection h with h
    injection h with h1 h2
    exact ⟨e, h1.symm, h2.symm⟩
  · exact absurd h (by intro z; injection z)
theorem zit_r {a b : zA} {p r : Nat} (hp : p ≤ t) (ha : zOk a) (h : zit β t a p = .inr (b, r)) : zOk b ∧ p ≤ r ∧ r ≤ t ∧ zqK β t r = 3 := by
  obtain ⟨hW, h13⟩ := ha
  obtain ⟨u1, u2, u3⟩ := zqE_r (β := β) hp
  obtain ⟨v1, v2, v3⟩ := zqE_r (β := β) u2
  unfold zit at h
  by_cases c1 : zqW β t p 1
  · rw [zif_1 c1] at h
    unfold zib at h
    by_cases c : zqN β t (zqE β t p) 0 1
    · rw [zif_1 c] at h
      cases eb : zbk β t 151 (zqE β t (zqE β t p)) 0 with
      | inl s =>
        rw [eb] at h
        have h : (Sum.inl s : Sum Nat (zA × Nat)) = .inr (b, r) := h
        exact absurd h (by intro z; injection z)
      | inr x =>
        obtain ⟨w, q⟩ := x
        rw [eb] at h
        obtain ⟨b1, b2, b3⟩ := zbk_r 151 _ 0 v2 (by decide) w q eb
        have h : zst3 β t q (zs1 a 1 (zup (a 1) (zqV β t (zqE β t p)) w)) = .inr (b, r) := h
        obtain ⟨s1, s2, s3⟩ := zst3_r h
        subst s2; subst s3
        refine ⟨⟨⟨hW.1, hW.2.1, fun i hi => ?_, hW.2.2.2⟩, h13⟩, by omega, b3, s1⟩
        show zup (a 1) _ w i < 65536
        have := hW.2.2.1 i hi
        unfold zup
        split
        · exact b1
        · exact this
    · rw [zif_0 c] at h
      exact absurd h (by intro z; injection z)
  · rw [zif_0 c1] at h
    by_cases c2 : zqW β t p 2
    · rw [zif_1 c2] at h
      unfold zim at h
      obtain ⟨w1, w2, w3⟩ := zqE_r (β := β) v2
      obtain ⟨x1, x2, x3⟩ := zqE_r (β := β) w2
      obtain ⟨y1, y2, y3⟩ := zqE_r (β := β) x2
      obtain ⟨z1, z2, z3⟩ := zqE_r (β := β) y2
      by_cases d0 : 7 ≤ a 2 0
      · rw [zif_1 d0] at h; exact absurd h (by intro z; injection z)
      · rw [zif_0 d0] at h
        by_cases d1 : zqN β t (zqE β t p) 0 5
        · rw [zif_1 d1] at h
          by_cases d2 : zqN β t (zqE β t (zqE β t p)) 0 1
          · rw [zif_1 d2] at h
            by_cases d3 : zqN β t (zqE β t (zqE β t (zqE β t p))) 1 9
            · rw [zif_1 d3] at h
              by_cases d4 : zqN β t (zqE β t (zqE β t (zqE β t (zqE β t p)))) 1 20
              · rw [zif_1 d4] at h
                by_cases d5 : zqN β t (zqE β t (zqE β t (zqE β t (zqE β t (zqE β t p))))) 0 9 ∧ zqV β t (zqE β t (zqE β t (zqE β t (zqE β t (zqE β t p))))) % 2 = zqV β t (zqE β t (zqE β t p)) ∧ ∀ f, f < a 2 0 → a 7 f ≠ zqV β t (zqE β t (zqE β t (zqE β t (zqE β t (zqE β t p)))))
                · rw [zif_1 d5] at h
                  obtain ⟨s1, s2, s3⟩ := zst3_r h
                  subst s2; subst s3
                  refine ⟨⟨zAf_wf hW (by omega) (by have := d1.2.2.2; omega) (by have := d2.2.2.2; omega) ⟨d3.2.2.1, d3.2.2.2⟩ ⟨d4.2.2.1, d4.2.2.2⟩ d5.1.2.2.2 d5.2.1 d5.2.2, rfl⟩, by omega, z2, s1⟩
                · rw [zif_0 d5] at h; exact absurd h (by intro z; injection z)
              · rw [zif_0 d4] at h; exact absurd h (by intro z; injection z)
            · rw [zif_0 d3] at h; exact absurd h (by intro z; injection z)
          · rw [zif_0 d2] at h; exact absurd h (by intro z; injection z)
        · rw [zif_0 d1] at h; exact absurd h (by intro z; injection z)
    · rw [zif_0 c2] at h
      by_cases c3 : zqW β t p 3
      · rw [zif_1 c3] at h
        unfold zic at h
        by_cases c : zqN β t (zqE β t p) 0 7 ∧ zqV β t (zqE β t p) < a 2 0
        · rw [zif_1 c] at h
          obtain ⟨s1, s2, s3⟩ := zst3_r h
          subst s2; subst s3
          refine ⟨⟨⟨hW.1, hW.2.1, hW.2.2.1, hW.2.2.2.1, hW.2.2.2.2.1, ?_, hW.2.2.2.2.2.2⟩, h13⟩, by omega, v2, s1⟩
          exact zsb1_l _ (by have := hW.1; omega) _ hW.2.2.2.2.2.1 _ c.2 1 (by decide)
        · rw [zif_0 c] at h; exact absurd h (by intro z; injection z)
      · rw [zif_0 c3] at h; exact absurd h (by intro z; injection z)
theorem zqV_lt {p : Nat} (hp : p ≤ t) (hb : ∀ j, j < t → β j < 128) (hk : zqK β t p = 2) : zqV β t p < 1000 := by
  obtain ⟨r1, r2, r3, r4, r5⟩ := zq_r (β := β) hp
  have sl : zqS β t p < t := by
    by_cases c : zqS β t p < t
    · exact c
    · have := zqK_r.2.mpr c; omega
  have h1 := hb _ sl
  unfold zqV
  by_cases q : zqE β t p - zqS β t p = 1
  · rw [if_pos q]; omega
  · rw [if_neg q]
    have := r5 sl
    have h2 := hb (zqS β t p + 1) (by omega)
    omega
end
