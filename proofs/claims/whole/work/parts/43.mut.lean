/-! Pairs that change a church: church, book, heard, forget; the text; status, part. -/
def zQC (σ τ : zM) : Prop := (∀ k, ((25 ≤ k ∧ k < 51) ∨ k = 52 ∨ k = 74 ∨ k = 77 ∨ k = 78 ∨ k = 79 ∨ k = 88) → τ.1 k = σ.1 k) ∧ τ.1 51 1 = σ.1 51 1 ∧ τ.1 75 18 = σ.1 75 18 ∧ τ.2 = σ.2
theorem zRo.C {σ τ : zM} (h : zRo σ) (q : zQC σ τ) : zRo τ := by
  obtain ⟨h1, ⟨t, t1, t2, t3, t4⟩, h3, h4⟩ := h
  obtain ⟨q1, q2, q3, q4⟩ := q
  refine ⟨fun j hj => by rw [q1 74 (by omega), q1 79 (by omega)]; exact h1 j hj, ⟨t, t1, by rw [q2]; exact t2, by rw [q3]; exact t3, fun j hj => by rw [q1 52 (by omega), q1 88 (by omega)]; exact t4 j hj⟩, by rw [q4]; exact h3, fun i hi => (h4 i hi).eq hi (q1 50 (by omega)) (q1 78 (by omega)) (q1 77 (by omega)) (fun k h5 h6 => q1 k (by omega))⟩
def zs1 (a : zA) (j : Nat) (g : Nat → Nat) : zA := fun k => if k = j then g else a k
theorem zs1_s {a : zA} {j : Nat} {g : Nat → Nat} : zs1 a j g j = g := by simp [zs1]
theorem zs1_n {a : zA} {j k : Nat} {g : Nat → Nat} (h : k ≠ j) : zs1 a j g k = a k := by simp [zs1, h]
theorem or_r {x : Int32} {a b : Nat} : (∃ w, (a ≤ w ∧ w ≤ b) ∧ x = nI w) ∨ ∀ w, a ≤ w → w ≤ b → x ≠ nI w := by
  by_cases h : ∃ w, (a ≤ w ∧ w ≤ b) ∧ x = nI w
  · exact Or.inl h
  · exact Or.inr (fun w h1 h2 e => h ⟨w, ⟨h1, h2⟩, e⟩)
theorem inX {n a b : Nat} {τ : zM} {Q : zQ} (hb : b < 2 ^ 31) (hn : a ≤ n ∧ n ≤ b) (h : Q (some (.int 1)) τ) : T_X11_within [.int (nI n), .int (nI a), .int (nI b)] τ Q := t_X11_within (by omega) hb (fun _ _ _ _ => h) (fun e => absurd rfl (e n hn.1 hn.2))
theorem noX {x : Int32} {a b : Nat} {τ : zM} {Q : zQ} (ha : a < 2 ^ 31) (hb : b < 2 ^ 31) (nv : ∀ w, a ≤ w → w ≤ b → x ≠ nI w) (h : Q (some (.int 0)) τ) : T_X11_within [.int x, .int (nI a), .int (nI b)] τ Q := t_X11_within ha hb (fun n h1 h2 e => absurd e (nv n h1 h2)) (fun _ => h)
theorem inR {n a b : Nat} {lo hi : Int64} {τ : zM} {Q : zQ} (hb : b < 2 ^ 31) (el : lo.toInt = a) (eh : hi.toInt = b) (hn : a ≤ n ∧ n ≤ b) (h : Q (some (.int 1)) τ) : T_X12_in [.long (nI n).toInt64, .long lo, .long hi] τ Q := t_inN hb el eh (fun _ _ _ _ => h) (fun e => absurd rfl (e n hn.1 hn.2))
theorem noR {x : Int32} {a b : Nat} {lo hi : Int64} {τ : zM} {Q : zQ} (hb : b < 2 ^ 31) (el : lo.toInt = a) (eh : hi.toInt = b) (nv : ∀ w, a ≤ w → w ≤ b → x ≠ nI w) (h : Q (some (.int 0)) τ) : T_X12_in [.long x.toInt64, .long lo, .long hi] τ Q := t_inN hb el eh (fun n h1 h2 e => absurd e (nv n h1 h2)) (fun _ => h)
theorem isB {w : Nat} {τ : zM} {Q : zQ} (hw : w < 2) (h : Q (some (.int 1)) τ) : T_X11_isBook [.int (nI w)] τ Q := t_X11_isBook (fun _ _ _ => h) (fun e => absurd rfl (e w hw))
theorem isBr {w : Nat} {τ : zM} {Q : zQ} (hw : w < 2) (h : Q (some (.int 1)) τ) : T_X12_isBook [.int (nI w)] τ Q := t_X12_isBook (fun _ _ _ => h) (fun e => absurd rfl (e w hw))
theorem noB {x : Int32} {τ : zM} {Q : zQ} (hw : ∀ w, w < 2 → x ≠ nI w) (h : Q (some (.int 0)) τ) : T_X11_isBook [.int x] τ Q := t_X11_isBook (fun n hn e => absurd e (hw n hn)) (fun _ => h)
theorem noBr {x : Int32} {τ : zM} {Q : zQ} (hw : ∀ w, w < 2 → x ≠ nI w) (h : Q (some (.int 0)) τ) : T_X12_isBook [.int x] τ Q := t_X12_isBook (fun n hn e => absurd e (hw n hn)) (fun _ => h)
/-- a church as at first -/
def zA0 (L : Nat) : zA := fun k _ => if k = 0 then L else 0
theorem zA0_wf {L : Nat} (h : L ≤ 30) : zWF (zA0 L) := by
  refine ⟨by simp [zA0], by simpa [zA0] using h, fun i _ => by simp [zA0], fun f hf => ?_, fun f g hf => ?_, by simp [zA0], by simp [zA0], fun k hk => ?_, by simp [zA0], fun u hu => ?_⟩
  · simp [zA0] at hf
  · simp [zA0] at hf
  · simp [zA0] at hk
  · simp [zA0] at hu
/-- Church.begin, of now or of the draft -/
theorem t_begin {b L : Nat} {σ : zM} {Q : zQ} (hb : b = 1 ∨ b = 13) (h : ∀ τ : zM, (∀ k, k ≠ b → k ≠ b + 1 → τ.1 k = σ.1 k) → τ.2 = σ.2 → zCX b τ (zA0 L) → Q none τ) : T_X1_begin [.ref b, .int (nI L)] σ Q := by
  have fin : ∀ τ : zM, (∀ k, k ≠ b + 1 → τ.1 k = (zput σ b 0 (nI L)).1 k) → τ.2 = σ.2 → (∀ i, i < 2 → τ.1 (b + 1) i = 0) → Q none (zput (zput (zput (zput τ b 2 0) b 8 0) b 9 0) b 13 0) := by
    intro τ g1 g2 g3
    refine h _ (fun k k1 k2 => ?_) g2 ⟨?_, fun i hi => ?_, ?_, fun f hf => ?_, ?_, ?_, fun k hk => ?_, ?_, fun u hu => ?_⟩
    · rw [zput_ne k1, zput_ne k1, zput_ne k1, zput_ne k1, g1 k k2, zput_ne k1]
    · rw [zput_u (by decide), zput_u (by decide), zput_u (by decide), zput_u (by decide), g1 b (by omega), zput_s]; rfl
    · rw [zput_ne (by omega), zput_ne (by omega), zput_ne (by omega), zput_ne (by omega), g3 i hi]; rfl
    · rw [zput_u (by decide), zput_u (by decide), zput_u (by decide), zput_s]; rfl
    · simp [zA0] at hf
    · rw [zput_u (by decide), zput_u (by decide), zput_s]; rfl
    · rw [zput_u (by decide), zput_s]; rfl
    · simp [zA0] at hk
    · rw [zput_s]; rfl
    · simp [zA0] at hu
  rcases hb with rfl | rfl
  · exact ⟨rfl, zFix_in (t_fill (o := 2) (N := 2) rfl (by decide) (by decide) (fun τ g1 g2 g3 => fin τ g1 g2 g3))⟩
  · exact ⟨rfl, zFix_in (t_fill (o := 14) (N := 2) rfl (by decide) (by decide) (fun τ g1 g2 g3 => fin τ g1 g2 g3))⟩
/-- the reference's begin, of now or anew -/
theorem r_begin {o L : Nat} {σ : zM} {Q : zQ} (ho : o = 76 ∨ o = 89) (h : ∀ τ : zM, (∀ k, k ≠ o → τ.1 k = σ.1 k) → τ.2 = σ.2 → zCM (τ.1 o) (zA0 L) → Q none τ) : T_X12_begin [.ref o, .int (nI L)] σ Q := by
  have hz : zil o = 178 ∨ zil o = 66 := by rcases ho with rfl | rfl; exact Or.inl rfl; exact Or.inr rfl
  have hin : ∀ {i : Nat}, i < 66 → vp_in (nI i) (zil o) := fun {i} hi => by rcases hz with z | z <;> (rw [z]; exact vp_in_nI (by omega) (by decide))
  have L1 : ∀ i, i ≤ 66 → ∀ τ : zM, (∀ k, k ≠ o → τ.1 k = σ.1 k) → τ.2 = σ.2 → (∀ j, j < i → τ.1 o j = 0) → zFix (F_X12_begin Q) 1 [.ref o, .int (nI L), .int (nI i)] [] τ := by
    refine zloop 66 (fun i hi ih => ?_)
    intro τ g1 g2 g3
    refine zFix_in ?_
    refine pk_le 66 i (fun c => ?_) (fun c => ?_)
    · refine And.intro (hin (i := 1) (by decide)) ?_
      show Q none (zput τ o 1 (nI L))
      refine h _ (fun k hk => by rw [zput_ne hk]; exact g1 k hk) g2 ?_
      have z : ∀ j, j ≠ 1 → j < 66 → (zput τ o 1 (nI L)).1 o j = 0 := fun j h1 h2 => by rw [zput_u h1]; exact g3 j (by omega)
      refine ⟨z 0 (by decide) (by decide), by rw [zput_s]; rfl, ⟨z 2 (by decide) (by decide), z 3 (by decide) (by decide)⟩, z 4 (by decide) (by decide), z 5 (by decide) (by decide), fun f hf => ?_, fun k hk => ?_, fun u hu => ?_⟩
      · simp [zA0] at hf
      · simp [zA0] at hk
      · simp [zA0] at hu
    · refine And.intro (hin c) ?_
      rw [nI_clamp (by omega)]
      show zFix (F_X12_begin Q) 1 [.ref o, .int (nI L), .int (nI i + 1)] [] (zput τ o i 0)
      rw [nI_1]
      refine ih (i + 1) (by omega) (by omega) _ (fun k hk => by rw [zput_ne hk]; exact g1 k hk) g2 (fun j hj => ?_)
      by_cases e : j = i
      · rw [e]; exact zput_s
      · rw [zput_u e]; exact g3 j (by omega)
  refine ⟨rfl, zFix_in ?_⟩
  exact L1 0 (Nat.zero_le _) σ (fun _ _ => rfl) rfl (fun j hj => absurd hj (Nat.not_lt_zero j))
section
variable {σ : zM}
theorem p_church (x : Int32) (h : zR σ) : zPr T_X11_church T_X12_church [.int x] σ := by
  rcases or_r (x := x) (a := 0) (b := 30) with ⟨L, hL, rfl⟩ | nv
  · obtain ⟨a, hW, hX, hM, hO⟩ := id h
    refine ⟨rfl, zFix_in (inX (a := 0) (b := 30) (by decide) hL (n1 ?_))⟩
    refine t_begin (b := 1) (Or.inl rfl) (fun τ g1 g2 g3 => ?_)
    refine ⟨nI (a 2 0), ?_, rfl, zFix_in (inR (a := 0) (b := 30) (by decide) rfl rfl hL (n1 (t_many ?_)))⟩
    · show some (Value.int (σ.1 1 2)) = _
      rw [hX.2.2.1]
    · refine r_begin (o := 76) (Or.inl rfl) (fun υ k1 k2 k3 => ⟨?_, zA0 L, zA0_wf hL.2, g3.eq (fun k h1 h2 => k1 k (by omega)), k3, hO.C ⟨fun k hk => ?_, ?_, ?_, k2.trans g2⟩⟩)
      · show some (Value.int (τ.1 76 0)) = _
        rw [g1 76 (by decide) (by decide), hM.1]
      · rw [k1 k (by omega), g1 k (by omega) (by omega)]
      · rw [k1 51 (by decide), g1 51 (by decide) (by decide)]
      · rw [k1 75 (by decide), g1 75 (by decide) (by decide)]
  · exact zPr_bad (j := 0) h (fun Q hQ => ⟨rfl, zFix_in (noX (a := 0) (b := 30) (by decide) (by decide) nv (n0 (t_refBad hQ)))⟩) (fun τ Q _ hQ => ⟨rfl, zFix_in (noR (a := 0) (b := 30) (by decide) rfl rfl nv (n0 (r_bad hQ)))⟩)
end
