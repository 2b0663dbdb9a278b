/-! The words that open an item. -/
def zqw : List (List Nat) := [[99, 104, 117, 114, 99, 104], [98, 111, 111, 107], [102, 97, 109, 105, 108, 121], [99, 111, 108, 100]]
def zqc (w i : Nat) : Nat := (zqw.getD w []).getD i 0
def zql (w : Nat) : Nat := (zqw.getD w []).length
def zqW (β : Nat → Nat) (t p w : Nat) : Prop := zqK β t p = 1 ∧ zqE β t p - zqS β t p = zql w ∧ ∀ i, i < zql w → β (zqS β t p + i) = zqc w i
theorem zql_r : ∀ w, w < 4 → 4 ≤ zql w ∧ zql w ≤ 6 := by decide
theorem zqc_r : ∀ w, w < 4 → ∀ i, i < 6 → zqc w i < 128 := by decide
theorem t_len {w : Nat} {σ : zM} {Q : zQ} (hw : w < 4) (h : Q (some (.int (nI (zql w)))) σ) : T_J0_length_8abf5 [.ref (92 + w)] σ Q := by
  rcases (show w = 0 ∨ w = 1 ∨ w = 2 ∨ w = 3 by omega) with rfl | rfl | rfl | rfl
  all_goals exact ⟨rfl, zFix_in ⟨rfl, zFix_in (e1 (And.intro rfl h))⟩⟩
theorem t_char {w i : Nat} {σ : zM} {Q : zQ} (hw : w < 4) (hi : i < zql w) (h : Q (some (.int (nI (zqc w i)))) σ) : T_J0_charAt_5068e [.ref (92 + w), .int (nI i)] σ Q := by
  rcases (show w = 0 ∨ w = 1 ∨ w = 2 ∨ w = 3 by omega) with rfl | rfl | rfl | rfl
  · have hi : i < 6 := hi
    rcases (show i = 0 ∨ i = 1 ∨ i = 2 ∨ i = 3 ∨ i = 4 ∨ i = 5 by omega) with rfl | rfl | rfl | rfl | rfl | rfl
    all_goals
      refine ⟨rfl, zFix_in ⟨rfl, zFix_in (e1 (n0 (And.intro (Or.inr rfl) (e1 ?_))))⟩⟩
      exact ⟨rfl, zFix_in ⟨by decide, by decide, And.intro (vp_in_nI (N := 6) (by decide) (by decide)) (And.intro rfl (And.intro rfl h))⟩⟩
  · have hi : i < 4 := hi
    rcases (show i = 0 ∨ i = 1 ∨ i = 2 ∨ i = 3 by omega) with rfl | rfl | rfl | rfl
    all_goals
      refine ⟨rfl, zFix_in ⟨rfl, zFix_in (e1 (n0 (And.intro (Or.inr rfl) (e1 ?_))))⟩⟩
      exact ⟨rfl, zFix_in ⟨by decide, by decide, And.intro (vp_in_nI (N := 4) (by decide) (by decide)) (And.intro rfl (And.intro rfl h))⟩⟩
  · have hi : i < 6 := hi
    rcases (show i = 0 ∨ i = 1 ∨ i = 2 ∨ i = 3 ∨ i = 4 ∨ i = 5 by omega) with rfl | rfl | rfl | rfl | rfl | rfl
    all_goals
      refine ⟨rfl, zFix_in ⟨rfl, zFix_in (e1 (n0 (And.intro (Or.inr rfl) (e1 ?_))))⟩⟩
      exact ⟨rfl, zFix_in ⟨by decide, by decide, And.intro (vp_in_nI (N := 6) (by decide) (by decide)) (And.intro rfl (And.intro rfl h))⟩⟩
  · have hi : i < 4 := hi
    rcases (show i = 0 ∨ i = 1 ∨ i = 2 ∨ i = 3 by omega) with rfl | rfl | rfl | rfl
    all_goals
      refine ⟨rfl, zFix_in ⟨rfl, zFix_in (e1 (n0 (And.intro (Or.inr rfl) (e1 ?_))))⟩⟩
      exact ⟨rfl, zFix_in ⟨by decide, by decide, And.intro (vp_in_nI (N := 4) (by decide) (by decide)) (And.intro rfl (And.intro rfl h))⟩⟩
theorem zsi_w : ∀ w, w < 4 → (!(Nat.beq (zsi (92 + w)) 0)) = true := by decide
theorem t_says {β : Nat → Nat} {t p w : Nat} {σ : zM} {Q : zQ} (hp : p ≤ t) (hw : w < 4) (hT : zTC σ t β) (hk : zTk σ β t p) (h1 : zqW β t p w → Q (some (.int 1)) σ) (h0 : ¬ zqW β t p w → Q (some (.int 0)) σ) : T_X9_says [.ref 51, .ref (92 + w)] σ Q := by
  obtain ⟨r1, r2, r3, r4, r5⟩ := zq_r (β := β) hp
  have ht := hT.1
  have kr := zqK_r (β := β) (t := t) (p := p)
  obtain ⟨g3, g4, g2, g5⟩ := hk
  obtain ⟨l1, l2⟩ := zql_r w hw
  have zs := zsi_w w hw
  refine ⟨rfl, zFix_in ?_⟩
  refine And.intro (fun z => And.intro (Or.inl rfl) (h0 (fun q => z (by show σ.1 51 2 = 1; rw [g2, q.1]; rfl)))) (fun z => ?_)
  have k1 : zqK β t p = 1 := nI_inj (b := 1) (by omega) (by decide) (g2.symm.trans z)
  show cond (!(Nat.beq (zsi (92 + w)) 0) && true) _ False
  rw [zs]
  refine t_len hw ?_
  show (σ.1 51 4 - σ.1 51 3 = nI (zql w) → zFix (F_X9_says Q) 1 [.ref 51, .ref (92 + w), .int (nI 0)] [] σ) ∧ (¬ σ.1 51 4 - σ.1 51 3 = nI (zql w) → (i_ic 0 <| i_zr Q) (zlc [.ref 51, .ref (92 + w)]) [] σ)
  rw [g4, g3, pk_sub r3]
  refine And.intro (fun y => ?_) (fun y => And.intro (Or.inl rfl) (h0 (fun q => y (by rw [q.2.1]))))
  have el := nI_inj (by omega) (by omega) y
  have sl : zqS β t p < t := by omega
  have L : ∀ i, i ≤ zql w → (∀ j, j < i → β (zqS β t p + j) = zqc w j) → zFix (F_X9_says Q) 1 [.ref 51, .ref (92 + w), .int (nI i)] [] σ := by
    refine zloop (zql w) (fun i hi ih => ?_)
    intro inv
    refine zFix_in ?_
    show cond (!(Nat.beq (zsi (92 + w)) 0) && true) _ False
    rw [zs]
    refine t_len hw ?_
    refine pk_le (zql w) i (fun d => And.intro (Or.inr rfl) (h1 ⟨k1, el, fun j hj => inv j (by omega)⟩)) (fun d => ?_)
    show vp_in (σ.1 51 3 + nI i) 150 ∧ cond (!(Nat.beq (zsi (92 + w)) 0) && true) (T_J0_charAt_5068e [.ref (92 + w), .int (nI i)] σ (fun v τ => (i_cmpeq (i_inc 2 1 <| i_jmp (zFix (F_X9_says Q)) 1 [true, true, true]) <| i_ic 0 <| i_zr Q) [.ref 51, .ref (92 + w), .int (nI i)] (zvl v [.int (σ.1 52 (σ.1 51 3 + nI i).toNatClampNeg)]) τ)) False
    rw [zs, g3, nI_add, nI_clamp (by omega), (hT.2.2 _ (by omega)).2]
    have bl := (hT.2.2 (zqS β t p + i) (by omega)).1
    refine ⟨vp_in_nI (by omega) (by decide), t_char hw d ?_⟩
    have cl := zqc_r w hw i (by omega)
    show (nI (β (zqS β t p + i)) = nI (zqc w i) → zFix (F_X9_says Q) 1 [.ref 51, .ref (92 + w), .int (nI i + 1)] [] σ) ∧ (¬ nI (β (zqS β t p + i)) = nI (zqc w i) → (i_ic 0 <| i_zr Q) [.ref 51, .ref (92 + w), .int (nI i)] [] σ)
    rw [nI_1]
    refine And.intro (fun x => ih (i + 1) (by omega) (by omega) (fun j hj => ?_)) (fun x => And.intro (Or.inl rfl) (h0 (fun q => x (by rw [q.2.2 i d]))))
    by_cases e : j = i
    · rw [e]; exact nI_inj (by omega) (by omega) x
    · exact inv j (by omega)
  exact L 0 (Nat.zero_le _) (fun j hj => absurd hj (Nat.not_lt_zero j))
theorem r_spells {β : Nat → Nat} {t p w : Nat} {σ : zM} {Q : zQ} (hp : p ≤ t) (hw : w < 4) (hT : zTD σ t β) (hk : zTr σ β t p) (h1 : zqW β t p w → Q (some (.int 1)) σ) (h0 : ¬ zqW β t p w → Q (some (.int 0)) σ) : T_X12_spells [.ref 75, .int (nI (zql w)), .int (nI (zqc w 0)), .int (nI (zqc w 1)), .int (nI (zqc w 2)), .int (nI (zqc w 3)), .int (nI (zqc w 4)), .int (nI (zqc w 5))] σ Q := by
  obtain ⟨r1, r2, r3, r4, r5⟩ := zq_r (β := β) hp
  have ht := hT.1
  have kr := zqK_r (β := β) (t := t) (p := p)
  obtain ⟨g1, g2, g3, g4⟩ := hk
  obtain ⟨l1, l2⟩ := zql_r w hw
  have Lr : zqL β t p ≤ 4 ∧ (zqL β t p = 1 ↔ zqK β t p = 1) := by
    unfold zqL
    split <;> omega
  have B3 : ∀ i, i ≤ zql w → ∀ d, d < 2 → (d = 1 ↔ zqK β t p = 1 ∧ zqE β t p - zqS β t p = zql w ∧ ∀ j, j < i → β (zqS β t p + j) = zqc w j) → zFix (F_X12_spells Q) 3 [.ref 75, .int (nI (zql w)), .int (nI (zqc w 0)), .int (nI (zqc w 1)), .int (nI (zqc w 2)), .int (nI (zqc w 3)), .int (nI (zqc w 4)), .int (nI (zqc w 5)), .int (nI d), .int (nI i)] [] σ := by
    refine zloop (zql w) (fun i hi ih => ?_)
    intro d hd inv
    have out : zqW β t p w ∧ d = 1 ∨ ¬ zqW β t p w ∧ d = 0 → ((nI d = 0 ∨ nI d = 1) ∧ Q (some (.int (nI d))) σ) := by
      intro o
      rcases o with ⟨o1, rfl⟩ | ⟨o1, rfl⟩
      · exact And.intro (Or.inr rfl) (h1 o1)
      · exact And.intro (Or.inl rfl) (h0 o1)
    refine zFix_in ?_
    refine pk_le (zql w) i (fun e => out ?_) (fun e => ?_)
    · have ei : i = zql w := by omega
      rw [ei] at inv
      rcases (show d = 0 ∨ d = 1 by omega) with q | q
      · exact Or.inr ⟨fun y => by have := inv.mpr y; omega, q⟩
      · exact Or.inl ⟨inv.mp q, q⟩
    · rcases (show d = 0 ∨ d = 1 by omega) with rfl | rfl
      · exact e0 (out (Or.inr ⟨fun y => absurd (inv.mpr ⟨y.1, y.2.1, fun j hj => y.2.2 j (by omega)⟩) (by decide), rfl⟩))
      · refine e1 ?_
        obtain ⟨k1, el, inv⟩ := inv.mp rfl
        have sl : zqS β t p < t := by omega
        have bl := (hT.2.2 (zqS β t p + i) (by omega)).1
        have cl := zqc_r w hw i (by omega)
        have B4 : zFix (F_X12_spells Q) 4 [.ref 75, .int (nI (zql w)), .int (nI (zqc w 0)), .int (nI (zqc w 1)), .int (nI (zqc w 2)), .int (nI (zqc w 3)), .int (nI (zqc w 4)), .int (nI (zqc w 5)), .null, .int (nI i)] [.int (nI (zqc w i)), .int (nI (β (zqS β t p + i)))] σ := by
          refine zFix_in ?_
          have B5 : ∀ d, d < 2 → (d = 1 ↔ zqK β t p = 1 ∧ zqE β t p - zqS β t p = zql w ∧ ∀ j, j < i + 1 → β (zqS β t p + j) = zqc w j) → zFix (F_X12_spells Q) 5 [.ref 75, .int (nI (zql w)), .int (nI (zqc w 0)), .int (nI (zqc w 1)), .int (nI (zqc w 2)), .int (nI (zqc w 3)), .int (nI (zqc w 4)), .int (nI (zqc w 5)), .null, .int (nI i)] [.int (nI d)] σ := by
            intro d hd inv
            refine zFix_in ?_
            show zFix (F_X12_spells Q) 3 [.ref 75, .int (nI (zql w)), .int (nI (zqc w 0)), .int (nI (zqc w 1)), .int (nI (zqc w 2)), .int (nI (zqc w 3)), .int (nI (zqc w 4)), .int (nI (zqc w 5)), .int (nI d), .int (nI i + 1)] [] σ
            rw [nI_1]
            exact ih (i + 1) (by omega) (by omega) d hd inv
          refine And.intro (fun x => B5 0 (by decide) ⟨fun q => absurd q (by decide), fun q => absurd (by rw [q.2.2 i (by omega)]) x⟩) (fun x => B5 1 (by decide) ⟨fun _ => ⟨k1, el, fun j hj => ?_⟩, fun _ => rfl⟩)
          by_cases e : j = i
          · rw [e]; exact nI_inj (by omega) (by omega) x
          · exact inv j (by omega)
        have vi : vp_in (σ.1 75 19 + nI i) 150 ∧ σ.1 88 (σ.1 75 19 + nI i).toNatClampNeg = nI (β (zqS β t p + i)) := by
          rw [g1, nI_add, nI_clamp (by omega), (hT.2.2 _ (by omega)).2]
          exact ⟨vp_in_nI (by omega) (by decide), rfl⟩
        refine And.intro vi.1 ?_
        rw [vi.2]
        rcases (show i = 0 ∨ i = 1 ∨ i = 2 ∨ i = 3 ∨ i = 4 ∨ i = 5 by omega) with rfl | rfl | rfl | rfl | rfl | rfl
        · exact n0 B4
        · exact n1 (And.intro (fun z => absurd rfl z) (fun _ => B4))
        · exact And.intro (fun _ => And.intro (fun _ => And.intro (fun z => absurd rfl z) (fun _ => B4)) (fun z => absurd z (by decide))) (fun z => absurd z (by decide))
        · exact And.intro (fun _ => And.intro (fun _ => And.intro (fun _ => And.intro (fun z => absurd rfl z) (fun _ => B4)) (fun z => absurd z (by decide))) (fun z => absurd z (by decide))) (fun z => absurd z (by decide))
        · exact And.intro (fun _ => And.intro (fun _ => And.intro (fun _ => And.intro (fun _ => And.intro (fun z => absurd rfl z) (fun _ => B4)) (fun z => absurd z (by decide))) (fun z => absurd z (by decide))) (fun z => absurd z (by decide))) (fun z => absurd z (by decide))
        · exact And.intro (fun _ => And.intro (fun _ => And.intro (fun _ => And.intro (fun _ => And.intro (fun _ => B4) (fun z => absurd z (by decide))) (fun z => absurd z (by decide))) (fun z => absurd z (by decide))) (fun z => absurd z (by decide))) (fun z => absurd z (by decide))
  have B2 : ∀ d, d < 2 → (d = 1 ↔ zqK β t p = 1 ∧ zqE β t p - zqS β t p = zql w) → zFix (F_X12_spells Q) 2 [.ref 75, .int (nI (zql w)), .int (nI (zqc w 0)), .int (nI (zqc w 1)), .int (nI (zqc w 2)), .int (nI (zqc w 3)), .int (nI (zqc w 4)), .int (nI (zqc w 5))] [.int (nI d)] σ := fun d hd inv => zFix_in (B3 0 (Nat.zero_le _) d hd ⟨fun q => ⟨(inv.mp q).1, (inv.mp q).2, fun j hj => absurd hj (Nat.not_lt_zero j)⟩, fun q => inv.mpr ⟨q.1, q.2.1⟩⟩)
  refine ⟨rfl, zFix_in ?_⟩
  refine And.intro (fun z => zFix_in (B2 0 (by decide) ⟨fun q => absurd q (by decide), fun q => absurd ?_ z⟩)) (fun z => ?_)
  · show σ.1 75 21 = 1
    rw [g3, Lr.2.mpr q.1]
    rfl
  · have k1 := Lr.2.mp (nI_inj (b := 1) (by omega) (by decide) (g3.symm.trans z))
    refine And.intro (fun y => zFix_in (B2 0 (by decide) ⟨fun q => absurd q (by decide), fun q => absurd ?_ y⟩)) (fun y => B2 1 (by decide) ⟨fun _ => ⟨k1, nI_inj (by omega) (by omega) (g2.symm.trans y)⟩, fun _ => rfl⟩)
    show σ.1 75 20 = nI (zql w)
    rw [g2, q.2]
