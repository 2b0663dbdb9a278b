/-! Leaves of the class. -/
theorem t_X11_bit {x i : Nat} {σ : zM} {Q : zQ} (hx : x < 2 ^ 31) (hi : i < 32) (h : Q (some (.int (nI (zb x i)))) σ) : T_X11_bit [.int (nI x), .int (nI i)] σ Q := by
  refine ⟨rfl, zFix_in ?_⟩
  rw [← nI_bit hx hi] at h
  exact h
theorem t_X11_within {x : Int32} {a b : Nat} {σ : zM} {Q : zQ} (ha : a < 2 ^ 31) (hb : b < 2 ^ 31) (h1 : ∀ n, a ≤ n → n ≤ b → x = nI n → Q (some (.int 1)) σ) (h0 : (∀ n, a ≤ n → n ≤ b → x ≠ nI n) → Q (some (.int 0)) σ) : T_X11_within [.int x, .int (nI a), .int (nI b)] σ Q := by
  refine ⟨rfl, zFix_in ?_⟩
  refine And.intro (fun c => And.intro (Or.inl rfl) (h0 (nI_rng_no ha hb (Or.inl c)))) (fun c => ?_)
  refine And.intro (fun d => And.intro (Or.inl rfl) (h0 (nI_rng_no ha hb (Or.inr d)))) (fun d => ?_)
  obtain ⟨n, e1, e2, e3⟩ := nI_rng_lt ha hb c d
  exact And.intro (Or.inr rfl) (h1 n e1 e2 e3)
theorem t_X11_isWord {x : Int32} {σ : zM} {Q : zQ} (h1 : ∀ n, n < 16 → x = nI n → Q (some (.int 1)) σ) (h0 : (∀ n, n < 16 → x ≠ nI n) → Q (some (.int 0)) σ) : T_X11_isWord [.int x] σ Q := by
  refine ⟨rfl, zFix_in ?_⟩
  refine t_X11_within (a := 0) (b := 15) (by decide) (by decide) (fun n _ e2 e3 => ?_) (fun e => ?_)
  · exact And.intro (Or.inr rfl) (h1 n (by omega) e3)
  · exact And.intro (Or.inl rfl) (h0 (fun n hn => e n (Nat.zero_le _) (by omega)))
theorem t_X11_isBook {x : Int32} {σ : zM} {Q : zQ} (h1 : ∀ n, n < 2 → x = nI n → Q (some (.int 1)) σ) (h0 : (∀ n, n < 2 → x ≠ nI n) → Q (some (.int 0)) σ) : T_X11_isBook [.int x] σ Q := by
  refine ⟨rfl, zFix_in ?_⟩
  refine t_X11_within (a := 0) (b := 1) (by decide) (by decide) (fun n _ e2 e3 => ?_) (fun e => ?_)
  · exact And.intro (Or.inr rfl) (h1 n (by omega) e3)
  · exact And.intro (Or.inl rfl) (h0 (fun n hn => e n (Nat.zero_le _) (by omega)))
