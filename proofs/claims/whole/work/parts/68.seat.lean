/-! Seats: ways to seat a set of families on the first pews. -/
theorem zpp_c {P R : Prop} (h : P ↔ R) : zpp P = zpp R := by rw [show P = R from propext h]
theorem zsu_one {F G : Nat → Nat} {k d : Nat} : ∀ {n : Nat}, k < n → (∀ f, f < n → f ≠ k → F f = G f) → F k = G k + d → zsu F n = zsu G n + d := by
  intro n
  induction n with
  | zero => intro h; omega
  | succ n ih =>
    intro hk hf hd
    show zsu F n + F n = zsu G n + G n + d
    by_cases e : k = n
    · subst e
      rw [zsu_congr (n := k) (fun f h => hf f (by omega) (by omega)), hd]
      omega
    · rw [ih (by omega) (fun f h1 h2 => hf f (by omega) h2) hd, hf n (by omega) (by omega)]
      omega
abbrev zH (a : zA) (f c : Nat) : Nat := zHi a (a 3) (a 4) f c
def zPS (a : zA) (P set : Nat) (s : Nat → Nat) : Prop := (∀ f, f < a 2 0 → zb set f = 1 → s f < P ∧ s f % 2 = a 4 f) ∧ ∀ f g, f < a 2 0 → g < a 2 0 → zb set f = 1 → zb set g = 1 → s f = s g → f = g
def zSe (a : zA) (set : Nat) (s : Nat → Nat) (f c : Nat) : Prop := ∀ g, g < a 2 0 → zb set g = 1 → s g < s f → zH a g c < zH a f c
noncomputable def zVs (a : zA) (set : Nat) (s : Nat → Nat) (f : Nat) : Nat := zsu (fun c => zpp (zSe a set s f c) * zwc a c 16) 4
noncomputable def zSC (a : zA) (set : Nat) (s : Nat → Nat) : Nat := zsu (fun f => zb set f * (zVs a set s f * 10000000 + (9 - s f) * 10 ^ (6 - f))) (a 2 0)
/-- what family f at pew P adds behind those of set -/
noncomputable def zWt (a : zA) (f set P : Nat) : Nat := zsu (fun c => zpp (∀ g, g < a 2 0 → zb set g = 1 → zH a g c < zH a f c) * zwc a c 16) 4 * 10000000 + (9 - P) * 10 ^ (6 - f)
theorem zo_b {set f g : Nat} (hs : set < 128) (hf : f < 7) (hg : g < 7) : zb (zsb1 set f 0) g = if g = f then 0 else zb set g := zsb1_b set hs f hf 0 (by decide) g hg
theorem zSC_c {a : zA} {set : Nat} {s r : Nat → Nat} (h : ∀ f, f < a 2 0 → zb set f = 1 → s f = r f) : zSC a set s = zSC a set r := by
  refine zsu_congr (fun f hf => ?_)
  rcases zb_01 set f with z | z
  · rw [z, Nat.zero_mul, Nat.zero_mul]
  · have ev : zVs a set s f = zVs a set r f := by
      refine zsu_congr (fun c _ => ?_)
      rw [zpp_c (show zSe a set s f c ↔ zSe a set r f c from ⟨fun q g hg z1 l => q g hg z1 (by rw [h g hg z1, h f hf z]; exact l), fun q g hg z1 l => q g hg z1 (by rw [← h g hg z1, ← h f hf z]; exact l)⟩)]
    rw [ev, h f hf z]
theorem zPS_c {a : zA} {P set : Nat} {s r : Nat → Nat} (h : ∀ f, f < a 2 0 → zb set f = 1 → s f = r f) (p : zPS a P set s) : zPS a P set r := ⟨fun f hf z => by rw [← h f hf z]; exact p.1 f hf z, fun f g hf hg z1 z2 e => p.2 f g hf hg z1 z2 (by rw [h f hf z1, h g hg z2]; exact e)⟩
theorem zSC_add {a : zA} {P set k : Nat} {s : Nat → Nat} (hn : a 2 0 ≤ 7) (hs : set < 128) (p : zPS a (P + 1) set s) (hk : k < a 2 0) (zk : zb set k = 1) (ek : s k = P) : zPS a P (zsb1 set k 0) s ∧ zSC a set s = zSC a (zsb1 set k 0) s + zWt a k (zsb1 set k 0) P := by
  have ob : ∀ g, g < a 2 0 → zb (zsb1 set k 0) g = if g = k then 0 else zb set g := fun g hg => zo_b hs (by omega) (by omega)
  have lt : ∀ f, f < a 2 0 → zb (zsb1 set k 0) f = 1 → zb set f = 1 ∧ f ≠ k ∧ s f < P := by
    intro f hf z
    rw [ob f hf] at z
    by_cases e : f = k
    · rw [if_pos e] at z; exact absurd z (by decide)
    · rw [if_neg e] at z
      have h1 := (p.1 f hf z).1
      have h2 : s f ≠ P := fun q => e (p.2 f k hf hk z zk (by rw [q, ek]))
      exact ⟨z, e, by omega⟩
  refine ⟨⟨fun f hf z => ⟨(lt f hf z).2.2, (p.1 f hf (lt f hf z).1).2⟩, fun f g hf hg z1 z2 e => p.2 f g hf hg (lt f hf z1).1 (lt g hg z2).1 e⟩, ?_⟩
  refine zsu_one (k := k) hk (fun f hf e => ?_) ?_
  · rw [ob f hf, if_neg e]
    rcases zb_01 set f with z | z
    · rw [z, Nat.zero_mul, Nat.zero_mul]
    · have lf := lt f hf (by rw [ob f hf, if_neg e]; exact z)
      have ev : zVs a set s f = zVs a (zsb1 set k 0) s f := by
        refine zsu_congr (fun c _ => ?_)
        rw [zpp_c (show zSe a set s f c ↔ zSe a (zsb1 set k 0) s f c from ⟨fun q g hg z1 l => q g hg (lt g hg z1).1 l, fun q g hg z1 l => ?_⟩)]
        by_cases eg : g = k
        · rw [eg, ek] at l; omega
        · exact q g hg (by rw [ob g hg, if_neg eg]; exact z1) l
      rw [ev]
  · rw [ob k hk, if_pos rfl, zk, Nat.zero_mul, Nat.zero_add, Nat.one_mul, ek]
    have ev : zVs a set s k = zsu (fun c => zpp (∀ g, g < a 2 0 → zb (zsb1 set k 0) g = 1 → zH a g c < zH a k c) * zwc a c 16) 4 := by
      refine zsu_congr (fun c _ => ?_)
      rw [zpp_c (show zSe a set s k c ↔ ∀ g, g < a 2 0 → zb (zsb1 set k 0) g = 1 → zH a g c < zH a k c from ⟨fun q g hg z1 => q g hg (lt g hg z1).1 (by rw [ek]; exact (lt g hg z1).2.2), fun q g hg z1 l => ?_⟩)]
      by_cases eg : g = k
      · rw [eg] at l; omega
      · exact q g hg (by rw [ob g hg, if_neg eg]; exact z1)
    rw [ev]
    rfl
/-- x tells the best of the ways -/
def zBe (a : zA) (P set : Nat) (x : Int32) : Prop := (x = -1 ∧ ∀ s, ¬ zPS a P set s) ∨ ∃ s, zPS a P set s ∧ x = nI (zSC a set s) ∧ ∀ r, zPS a P set r → zSC a set r ≤ zSC a set s
theorem zVs_le {a : zA} {set f : Nat} {s : Nat → Nat} : zVs a set s f ≤ 16 := by
  have h := zcount a (fun _ => 1) 16
  have h1 : zsu (fun _ => 1) 16 = 16 := by decide
  have l : ∀ c, zpp (zSe a set s f c) * zwc a c 16 ≤ zwc a c 16 := fun c => by
    have := Nat.mul_le_mul_right (zwc a c 16) (zpp_le (P := zSe a set s f c))
    omega
  have e : zVs a set s f = 0 + zpp (zSe a set s f 0) * zwc a 0 16 + zpp (zSe a set s f 1) * zwc a 1 16 + zpp (zSe a set s f 2) * zwc a 2 16 + zpp (zSe a set s f 3) * zwc a 3 16 := rfl
  have l0 := l 0
  have l1 := l 1
  have l2 := l 2
  have l3 := l 3
  simp only [Nat.one_mul] at h
  omega
theorem zSC_le {a : zA} {set : Nat} {s : Nat → Nat} (hn : a 2 0 ≤ 7) : zSC a set s ≤ 1190000000 := by
  have := zsu_le (g := fun f => zb set f * (zVs a set s f * 10000000 + (9 - s f) * 10 ^ (6 - f))) (m := 170000000) (n := a 2 0) (fun f hf => ?_)
  · unfold zSC
    omega
  · have l1 := zVs_le (a := a) (set := set) (f := f) (s := s)
    have l2 : 10 ^ (6 - f) ≤ 10 ^ 6 := Nat.pow_le_pow_right (by decide) (by omega)
    have l3 : (9 - s f) * 10 ^ (6 - f) ≤ 9 * 10 ^ 6 := Nat.mul_le_mul (by omega) l2
    have l4 : zb set f * (zVs a set s f * 10000000 + (9 - s f) * 10 ^ (6 - f)) ≤ 1 * (zVs a set s f * 10000000 + (9 - s f) * 10 ^ (6 - f)) := Nat.mul_le_mul_right _ (by have := zb_lt set f; omega)
    omega
theorem zPS_up {a : zA} {P set : Nat} {s : Nat → Nat} (h : zPS a P set s) : zPS a (P + 1) set s := ⟨fun f hf z => ⟨by have := (h.1 f hf z).1; omega, (h.1 f hf z).2⟩, h.2⟩
/-- a way for one pew more either leaves it free or has one family there -/
theorem zPS_or {a : zA} {P set : Nat} {s : Nat → Nat} (h : zPS a (P + 1) set s) : zPS a P set s ∨ ∃ k, k < a 2 0 ∧ zb set k = 1 ∧ s k = P ∧ P % 2 = a 4 k := by
  by_cases e : ∃ k, k < a 2 0 ∧ zb set k = 1 ∧ s k = P
  · obtain ⟨k, h1, h2, h3⟩ := e
    exact Or.inr ⟨k, h1, h2, h3, by rw [← h3]; exact (h.1 k h1 h2).2⟩
  · refine Or.inl ⟨fun f hf z => ⟨?_, (h.1 f hf z).2⟩, h.2⟩
    have h1 := (h.1 f hf z).1
    have h2 : s f ≠ P := fun q => e ⟨f, hf, z, q⟩
    omega
/-- a family is added at the pew P -/
theorem zPS_ad {a : zA} {P set k : Nat} {s : Nat → Nat} (hn : a 2 0 ≤ 7) (hs : set < 128) (hk : k < a 2 0) (zk : zb set k = 1) (ek : P % 2 = a 4 k) (h : zPS a P (zsb1 set k 0) s) : zPS a (P + 1) set (zup s k P) ∧ zSC a set (zup s k P) = zSC a (zsb1 set k 0) s + zWt a k (zsb1 set k 0) P := by
  have ob : ∀ g, g < a 2 0 → zb (zsb1 set k 0) g = if g = k then 0 else zb set g := fun g hg => zo_b hs (by omega) (by omega)
  have p : zPS a (P + 1) set (zup s k P) := by
    refine ⟨fun f hf z => ?_, fun f g hf hg z1 z2 e => ?_⟩
    · by_cases e : f = k
      · rw [e, zup_s]; exact ⟨by omega, ek⟩
      · rw [zup_n e]
        have := h.1 f hf (by rw [ob f hf, if_neg e]; exact z)
        exact ⟨by omega, this.2⟩
    · by_cases e1 : f = k
      · by_cases e2 : g = k
        · omega
        · rw [e1, zup_s, zup_n e2] at e
          have := (h.1 g hg (by rw [ob g hg, if_neg e2]; exact z2)).1
          omega
      · by_cases e2 : g = k
        · rw [e2, zup_s, zup_n e1] at e
          have := (h.1 f hf (by rw [ob f hf, if_neg e1]; exact z1)).1
          omega
        · rw [zup_n e1, zup_n e2] at e
          exact h.2 f g hf hg (by rw [ob f hf, if_neg e1]; exact z1) (by rw [ob g hg, if_neg e2]; exact z2) e
  refine ⟨p, ?_⟩
  rw [(zSC_add hn hs p hk zk zup_s).2]
  have e : zSC a (zsb1 set k 0) (zup s k P) = zSC a (zsb1 set k 0) s := by
    refine zSC_c (fun f hf z => ?_)
    rw [ob f hf] at z
    by_cases e : f = k
    · rw [if_pos e] at z; exact absurd z (by decide)
    · rw [zup_n e]
  rw [e]
