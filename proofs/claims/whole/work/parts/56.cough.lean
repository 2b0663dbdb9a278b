/-! Pairs: coughed, next. -/
noncomputable def zmy (a : zA) (s : Nat) : Nat := zpp (s < 2 ^ a 2 0 ∧ zAg a (a 3) (a 4) s)
noncomputable def zal (a : zA) : Nat → Nat
  | 0 => 2 ^ a 2 0 - 1
  | s + 1 => if zmy a s = 1 then zal a s &&& s else zal a s
noncomputable def zor (a : zA) : Nat → Nat
  | 0 => 0
  | s + 1 => if zmy a s = 1 then zor a s ||| s else zor a s
theorem zmy_le {a : zA} {s : Nat} : zmy a s ≤ 1 := zpp_le
theorem zmy_hi {a : zA} {s : Nat} (h : 2 ^ a 2 0 ≤ s) : zmy a s = 0 := zpp_0 (fun z => by omega)
theorem zmy_1 {a : zA} {s : Nat} (hs : s < 2 ^ a 2 0) (h : zAg a (a 3) (a 4) s) : zmy a s = 1 := zpp_1 ⟨hs, h⟩
theorem zmy_0 {a : zA} {s : Nat} (h : ¬ zAg a (a 3) (a 4) s) : zmy a s = 0 := zpp_0 (fun z => h z.2)
theorem zal_hi {a : zA} : ∀ {s : Nat}, 2 ^ a 2 0 ≤ s → zal a s = zal a (2 ^ a 2 0) ∧ zor a s = zor a (2 ^ a 2 0) ∧ zsu (zmy a) s = zsu (zmy a) (2 ^ a 2 0) := by
  intro s
  induction s with
  | zero => intro h; exact absurd h (Nat.not_le.mpr (Nat.two_pow_pos _))
  | succ s ih =>
    intro h
    by_cases e : 2 ^ a 2 0 = s + 1
    · rw [e]; exact ⟨rfl, rfl, rfl⟩
    · obtain ⟨h1, h2, h3⟩ := ih (by omega)
      have z := zmy_hi (a := a) (s := s) (by omega)
      refine ⟨?_, ?_, ?_⟩
      · show (if _ then _ else _) = _
        rw [z, if_neg (by decide), h1]
      · show (if _ then _ else _) = _
        rw [z, if_neg (by decide), h2]
      · show zsu (zmy a) s + zmy a s = _
        rw [z, h3, Nat.add_zero]
theorem zcn_le {a : zA} {s : Nat} : zsu (zmy a) s ≤ s := by
  have := zsu_le (g := zmy a) (m := 1) (n := s) (fun i _ => zmy_le)
  omega
def zFd (σ τ : zM) (a : zA) : Prop := (∀ k, k ≠ 71 → k ≠ 72 → k ≠ 73 → τ.1 k = σ.1 k) ∧ τ.2 = σ.2 ∧ τ.1 71 2 = nI (2 ^ a 2 0) ∧ τ.1 71 3 = nI (zsu (zmy a) (2 ^ a 2 0)) ∧ τ.1 71 4 = nI (zal a (2 ^ a 2 0)) ∧ τ.1 71 5 = nI (zor a (2 ^ a 2 0)) ∧ ∀ s, s < 2 ^ a 2 0 → τ.1 72 s = nI (zmy a s)
theorem zSv.eq {σ τ : zM} {a : zA} {kd bk : Nat → Nat} (h : zSv σ a kd bk) (e : ∀ k, 53 ≤ k → k < 68 → τ.1 k = σ.1 k) : zSv τ a kd bk := by
  unfold zSv zSvR at *
  rw [e 53 (by decide) (by decide), e 66 (by decide) (by decide), e 67 (by decide) (by decide), e 61 (by decide) (by decide), e 62 (by decide) (by decide), e 63 (by decide) (by decide), e 64 (by decide) (by decide), e 65 (by decide) (by decide)]
  exact h
theorem t_find {a : zA} {σ : zM} {Q : zQ} (hW : zWF a) (hX : zCX 1 σ a) (hS : zSv σ a (a 3) (a 4)) (h : ∀ τ, zFd σ τ a → Q none τ) : T_X3_find [.ref 71, .ref 1, .ref 53] σ Q := by
  have hn := hW.1
  have h2n := p2_128 hn
  have pos := Nat.two_pow_pos (a 2 0)
  obtain ⟨k1, k2, k3⟩ := c_ok hW
  have L : ∀ s, s ≤ 2 ^ a 2 0 → ∀ τ : zM, (∀ k, k ≠ 71 → k ≠ 72 → τ.1 k = σ.1 k) → τ.2 = σ.2 → τ.1 71 2 = nI (2 ^ a 2 0) → τ.1 71 3 = nI (zsu (zmy a) s) → τ.1 71 4 = nI (zal a s) → τ.1 71 5 = nI (zor a s) → (∀ t, t < s → τ.1 72 t = nI (zmy a t)) → zFix (F_X3_find Q) 1 [.ref 71, .ref 1, .ref 53, .int (nI s)] [] τ := by
    refine zloop (2 ^ a 2 0) (fun s hs ih => ?_)
    intro τ g1 g2 g3 g4 g5 g6 g7
    have hX' : zCX 1 τ a := hX.eq (fun k h1 h2 => g1 k (by omega) (by omega))
    have hS' := hS.eq (τ := τ) (fun k h1 h2 => g1 k (by omega) (by omega))
    refine zFix_in ?_
    refine pk_le (2 ^ a 2 0) s (fun d => ?_) (fun d => ?_) g3 rfl
    · have es : s = 2 ^ a 2 0 := by omega
      subst es
      exact h τ ⟨fun k h1 h2 _ => g1 k h1 h2, g2, g3, g4, g5, g6, g7⟩
    · have B2 : ∀ υ : zM, (∀ k, k ≠ 71 → k ≠ 72 → υ.1 k = τ.1 k) → υ.2 = τ.2 → υ.1 71 2 = τ.1 71 2 → υ.1 71 3 = nI (zsu (zmy a) (s + 1)) → υ.1 71 4 = nI (zal a (s + 1)) → υ.1 71 5 = nI (zor a (s + 1)) → υ.1 72 = (zput τ 72 s (nI (zmy a s))).1 72 → zFix (F_X3_find Q) 2 [.ref 71, .ref 1, .ref 53, .int (nI s)] [] υ := by
        intro υ u1 u2 u3 u4 u5 u6 u7
        refine zFix_in ?_
        show zFix (F_X3_find Q) 1 [.ref 71, .ref 1, .ref 53, .int (nI s + 1)] [] υ
        rw [nI_1]
        refine ih (s + 1) (by omega) (by omega) υ (fun k h1 h2 => (u1 k h1 h2).trans (g1 k h1 h2)) (u2.trans g2) (u3.trans g3) u4 u5 u6 (fun t ht => ?_)
        rw [u7, zputj]
        by_cases e : t = s
        · rw [if_pos e, e]
        · rw [if_neg e]
          exact g7 t (by omega)
      refine t_agrees hW hX' hS' k2 (by omega) (fun y => ?_) (fun y => ?_)
      · have m1 := zmy_1 d y
        refine And.intro (vp_in_nI (N := 128) (by omega) (by decide)) (And.intro (Or.inr rfl) (And.intro (vp_in_nI (N := 128) (by omega) (by decide)) ?_))
        show ((zput τ 72 (nI s).toNatClampNeg 1).1 72 (nI s).toNatClampNeg = 0 → _) ∧ (¬ (zput τ 72 (nI s).toNatClampNeg 1).1 72 (nI s).toNatClampNeg = 0 → zFix (F_X3_find Q) 2 [.ref 71, .ref 1, .ref 53, .int (nI s)] [] (zput (zput (zput (zput τ 72 (nI s).toNatClampNeg 1) 71 3 (τ.1 71 3 + 1)) 71 4 (τ.1 71 4 &&& nI s)) 71 5 (τ.1 71 5 ||| nI s)))
        rw [nI_clamp (by omega), zput_s, g4, g5, g6, nI_1, nI_and, nI_or]
        refine e1 (B2 _ (fun k h1 h2 => by rw [zput_ne h1, zput_ne h1, zput_ne h1, zput_ne h2]) rfl rfl ?_ ?_ ?_ ?_)
        · rw [zput_u (by decide), zput_u (by decide), zput_s]
          show _ = nI (zsu (zmy a) s + zmy a s)
          rw [m1]
        · rw [zput_u (by decide), zput_s]
          show _ = nI (if _ then _ else _)
          rw [if_pos m1]
        · rw [zput_s]
          show _ = nI (if _ then _ else _)
          rw [if_pos m1]
        · rw [m1, zput_ne (by decide), zput_ne (by decide), zput_ne (by decide)]
          rfl
      · have m0 := zmy_0 y
        refine And.intro (vp_in_nI (N := 128) (by omega) (by decide)) (And.intro (Or.inl rfl) (And.intro (vp_in_nI (N := 128) (by omega) (by decide)) ?_))
        show ((zput τ 72 (nI s).toNatClampNeg 0).1 72 (nI s).toNatClampNeg = 0 → zFix (F_X3_find Q) 2 [.ref 71, .ref 1, .ref 53, .int (nI s)] [] (zput τ 72 (nI s).toNatClampNeg 0)) ∧ _
        rw [nI_clamp (by omega), zput_s]
        refine e0 (B2 _ (fun k h1 h2 => by rw [zput_ne h2]) rfl rfl ?_ ?_ ?_ ?_)
        · rw [zput_ne (by decide), g4]
          show _ = nI (zsu (zmy a) s + zmy a s)
          rw [m0, Nat.add_zero]
        · rw [zput_ne (by decide), g5]
          show _ = nI (if _ then _ else _)
          rw [m0, if_neg (by decide)]
        · rw [zput_ne (by decide), g6]
          show _ = nI (if _ then _ else _)
          rw [m0, if_neg (by decide)]
        · rw [m0]
          rfl
  refine ⟨rfl, zFix_in (t_sets hn hX.2.2.1 ?_)⟩
  show zFix (F_X3_find Q) 1 [.ref 71, .ref 1, .ref 53, .int (nI 0)] [] (zput (zput (zput (zput σ 71 2 (nI (2 ^ a 2 0))) 71 3 0) 71 4 (nI (2 ^ a 2 0) - 1)) 71 5 0)
  refine L 0 (Nat.zero_le _) _ (fun k h1 h2 => by rw [zput_ne h1, zput_ne h1, zput_ne h1, zput_ne h1]) rfl ?_ ?_ ?_ ?_ (fun t ht => absurd ht (Nat.not_lt_zero t))
  · rw [zput_u (by decide), zput_u (by decide), zput_u (by decide), zput_s]
  · rw [zput_u (by decide), zput_u (by decide), zput_s]; rfl
  · rw [zput_u (by decide), zput_s]
    show _ = nI (2 ^ a 2 0 - 1)
    exact pk_sub (b := 1) (by omega)
  · rw [zput_s]; rfl
def zMy (σ υ : zM) (a : zA) : Prop := zQM σ υ ∧ (∃ cl, zHd υ a (a 3) (a 4) (a 7) cl) ∧ υ.1 75 14 = nI (zsu (zmy a) (2 ^ a 2 0)) ∧ ∀ s, s < 128 → υ.1 85 s = nI (zmy a s)
theorem r_layMay {a : zA} {σ : zM} {Q : zQ} (hW : zWF a) (hM : zCM (σ.1 76) a) (h : ∀ υ, zMy σ υ a → Q none υ) : T_X12_layMay [.ref 75] σ Q := by
  have hn := hW.1
  have h2n := p2_128 hn
  obtain ⟨k1, k2, k3⟩ := c_ok hW
  refine ⟨rfl, zFix_in ?_⟩
  have hM0 : zCM ((zput σ 75 14 0).1 76) a := hM
  refine t_layHand hW hM0 (fun τ fr hd => ?_)
  have q0 : zQM σ τ := zQM.tr ⟨fun k hk => zput_ne (by omega), zput_u (by decide), rfl⟩ fr.Q
  have L : ∀ s, s ≤ 128 → ∀ (υ : zM) (cl : Nat), zQM σ υ → zHd υ a (a 3) (a 4) (a 7) cl → υ.1 75 14 = nI (zsu (zmy a) s) → (∀ t, t < s → υ.1 85 t = nI (zmy a t)) → zFix (F_X12_layMay Q) 1 [.ref 75, .int (nI s)] [] υ := by
    refine zloop 128 (fun s hs ih => ?_)
    intro υ cl q hd g1 g2
    have hM' : zCM ((zput υ 75 9 (nI s)).1 76) a := by rw [zput_ne (by decide), q.1 76 (by omega)]; exact hM
    refine zFix_in ?_
    refine pk_le 128 s (fun d => ?_) (fun d => ?_)
    · have es : s = 128 := by omega
      subst es
      refine h υ ⟨q, ⟨cl, hd⟩, ?_, g2⟩
      rw [g1, (zal_hi (a := a) (s := 128) h2n).2.2]
    · have h1 := zHd_c (v := s) hd
      have q1 : zQM σ (zput υ 75 9 (nI s)) := q.tr ⟨fun k hk => zput_ne (by omega), zput_u (by decide), rfl⟩
      have B4 : ∀ m, m ≤ 1 → m = zmy a s → zFix (F_X12_layMay Q) 4 [.ref 75, .int (nI s)] [.int (nI m), .int (υ.1 75 14), .ref 75] (zput (zput υ 75 9 (nI s)) 85 s (nI m)) := by
        intro m hm em
        refine zFix_in ?_
        show zFix (F_X12_layMay Q) 1 [.ref 75, .int (nI s + 1)] [] (zput (zput (zput υ 75 9 (nI s)) 85 s (nI m)) 75 14 (υ.1 75 14 + nI m))
        rw [nI_1, g1, nI_add]
        refine ih (s + 1) (by omega) (by omega) _ s (q1.tr ⟨fun k hk => by rw [zput_ne (by omega), zput_ne (by omega)], by rw [zput_u (by decide), zput_ne (by decide)], rfl⟩) ⟨?_, fun f hf => h1.2 f hf⟩ ?_ (fun t ht => ?_)
        · rw [zput_u (by decide), zput_ne (by decide)]
          exact h1.1
        · rw [zput_s, em]
          rfl
        · rw [zput_ne (by decide), zputj]
          by_cases e : t = s
          · rw [if_pos e, e, em]
          · rw [if_neg e, zput_ne (by decide)]
            exact g2 t (by omega)
      have B3 : ∀ m, m ≤ 1 → m = zmy a s → zFix (F_X12_layMay Q) 3 [.ref 75, .int (nI s)] [.int (nI m), .int (nI s), .ref 85] (zput υ 75 9 (nI s)) := by
        intro m hm em
        refine zFix_in ?_
        refine And.intro (vp_in_nI (N := 128) d (by decide)) (And.intro ?_ (And.intro (vp_in_nI (N := 128) d (by decide)) ?_))
        · rcases (show m = 0 ∨ m = 1 by omega) with rfl | rfl
          · exact Or.inl rfl
          · exact Or.inr rfl
        · show ((zput (zput υ 75 9 (nI s)) 85 (nI s).toNatClampNeg (nI m)).1 85 (nI s).toNatClampNeg = 0 → zFix (F_X12_layMay Q) 4 [.ref 75, .int (nI s)] [.int (nI 0), .int (υ.1 75 14), .ref 75] (zput (zput υ 75 9 (nI s)) 85 (nI s).toNatClampNeg (nI m))) ∧ (¬ (zput (zput υ 75 9 (nI s)) 85 (nI s).toNatClampNeg (nI m)).1 85 (nI s).toNatClampNeg = 0 → zFix (F_X12_layMay Q) 4 [.ref 75, .int (nI s)] [.int (nI 1), .int (υ.1 75 14), .ref 75] (zput (zput υ 75 9 (nI s)) 85 (nI s).toNatClampNeg (nI m)))
          rw [nI_clamp (by omega), zput_s]
          rcases (show m = 0 ∨ m = 1 by omega) with rfl | rfl
          · exact e0 (B4 0 (by decide) em)
          · exact e1 (B4 1 (by decide) em)
      show T_X12_many [.ref 75] (zput υ 75 9 (nI s)) (fun v τ => i_ishl (i_cmpge (i_jmp (zFix (F_X12_layMay Q)) 2 [true, true]) <| i_al 0 <| i_cv 12 1 T_X12_isHeardSo <| i_ifeq (i_jmp (zFix (F_X12_layMay Q)) 2 [true, true]) <| i_ic 1 <| i_jmp (zFix (F_X12_layMay Q)) 3 [true, true]) [.ref 75, .int (nI s)] (zvl v [.int 1, .int (nI s), .int (nI s), .ref 85]) τ)
      refine t_many ?_
      show ((1 : Int32) <<< ((zput υ 75 9 (nI s)).1 76 0 &&& 31) ≤ nI s → _) ∧ (¬ (1 : Int32) <<< ((zput υ 75 9 (nI s)).1 76 0 &&& 31) ≤ nI s → _)
      rw [hM'.1, nI_shl1 (by omega)]
      refine pk_le (2 ^ a 2 0) s (fun c => ?_) (fun c => ?_)
      · exact zFix_in (B3 0 (by decide) (zmy_hi c).symm)
      · refine r_heardSo hW hM' h1 k1 k2 (by omega) (fun y => e1 ?_) (fun y => e0 ?_)
        · exact B3 1 (by decide) (zmy_1 c y).symm
        · exact zFix_in (B3 0 (by decide) (zmy_0 y).symm)
  refine L 0 (Nat.zero_le _) τ _ q0 hd ?_ (fun t ht => absurd ht (Nat.not_lt_zero t))
  rw [fr.2.1 14 (by decide), zput_s]
  rfl
theorem zal_in : ∀ n, n < 8 → ∀ s, s < 2 ^ n → (2 ^ n - 1) &&& s = s := by decide +kernel
theorem m1_and (x : Int32) : (-1 : Int32) &&& x = x ∧ x &&& (-1 : Int32) = x := by
  have e : (-1 : Int32).toBitVec = BitVec.allOnes 32 := by decide
  constructor
  · apply Int32.toBitVec_inj.1
    show (-1 : Int32).toBitVec &&& x.toBitVec = _
    rw [e]
    exact BitVec.allOnes_and
  · apply Int32.toBitVec_inj.1
    show x.toBitVec &&& (-1 : Int32).toBitVec = _
    rw [e]
    exact BitVec.and_allOnes
section
variable {σ : zM}
noncomputable def zcr (a : zA) (w : Nat) : Int32 := if w = 0 then nI (zsu (zmy a) (2 ^ a 2 0)) else if w = 1 then (if zsu (zmy a) (2 ^ a 2 0) = 0 then -1 else nI (zal a (2 ^ a 2 0))) else nI (zor a (2 ^ a 2 0))
theorem p_coughed (x : Int32) (h : zR σ) : zPr T_X11_coughed T_X12_coughed [.int x] σ := by
  rcases or_r (x := x) (a := 0) (b := 2) with ⟨w, hw, rfl⟩ | nv
  · refine zPr_q (r := fun a => zcr a w) h (fun a Q hW hX hQ => ?_) (fun a σ Q hW hM hQ => ?_)
    · have hn := hW.1
      have h2n := p2_128 hn
      have lc := @zcn_le a (2 ^ a 2 0)
      have no : ∀ {i j : Nat} {P : Prop}, i < 100 → j < 100 → i ≠ j → nI i = nI j → P := fun {i j P} h1 h2 h3 h4 => absurd (nI_inj (by omega) (by omega) h4) h3
      refine ⟨rfl, zFix_in (inX (a := 0) (b := 2) (by decide) hw (n1 (t_hold hW hX (fun τ fr s => ?_))))⟩
      refine t_find hW (fr.X hX) s (fun υ fd => ?_)
      obtain ⟨f1, f2, f3, f4, f5, f6, f7⟩ := fd
      have hq := hQ υ (fr.Q.tr ⟨fun k hk => f1 k (by omega) (by omega) (by omega), by rw [f1 51 (by decide) (by decide) (by decide)], f2⟩)
      rcases (show w = 0 ∨ w = 1 ∨ w = 2 by omega) with rfl | rfl | rfl
      · refine ⟨⟨fun _ => ?_, no (j := 1) (by decide) (by decide) (by decide), True.intro⟩, fun z => absurd rfl z.1⟩
        show Q (some (.int (υ.1 71 3))) υ
        rw [f4]
        exact hq
      · refine ⟨⟨no (j := 0) (by decide) (by decide) (by decide), fun _ => ?_, True.intro⟩, fun z => absurd rfl z.2.1⟩
        show (υ.1 71 3 ≤ 0 → Q (some (.int (-1))) υ) ∧ (¬ υ.1 71 3 ≤ 0 → Q (some (.int (υ.1 71 4))) υ)
        rw [f4, f5]
        have hq : Q (some (.int (if zsu (zmy a) (2 ^ a 2 0) = 0 then -1 else nI (zal a (2 ^ a 2 0))))) υ := hq
        refine pk_le (zsu (zmy a) (2 ^ a 2 0)) 0 (fun d => ?_) (fun d => ?_)
        · rw [if_pos (by omega)] at hq
          exact hq
        · rw [if_neg (by omega)] at hq
          exact hq
      · refine ⟨⟨no (j := 0) (by decide) (by decide) (by decide), no (j := 1) (by decide) (by decide) (by decide), True.intro⟩, fun _ => ?_⟩
        show Q (some (.int (υ.1 71 5))) υ
        rw [f6]
        exact hq
    · have hn := hW.1
      have h2n := p2_128 hn
      have lc := @zcn_le a (2 ^ a 2 0)
      refine ⟨rfl, zFix_in (inR (a := 0) (b := 2) (by decide) rfl rfl hw (n1 (r_layMay hW hM (fun υ my => ?_))))⟩
      obtain ⟨q, _, m1, m2⟩ := my
      have L : ∀ s, s ≤ 128 → zFix (F_X12_coughed Q) 1 [.ref 75, .int (nI w), .int (if zsu (zmy a) s = 0 then -1 else nI (zal a s)), .int (nI (zor a s)), .int (nI s)] [] υ := by
        refine zloop 128 (fun s hs ih => ?_)
        refine zFix_in ?_
        refine pk_le 128 s (fun d => ?_) (fun d => ?_)
        · have es : s = 128 := by omega
          subst es
          obtain ⟨z1, z2, z3⟩ := zal_hi (a := a) (s := 128) h2n
          rw [z1, z2, z3]
          have hq := hQ υ q
          have m1' : υ.1 75 14 = nI (zsu (zmy a) (2 ^ a 2 0)) := m1
          rcases (show w = 0 ∨ w = 1 ∨ w = 2 by omega) with rfl | rfl | rfl
          · refine n0 ?_
            show Q (some (.int (υ.1 75 14))) υ
            rw [m1']
            exact hq
          · refine n1 (And.intro (fun _ => ?_) (fun z => absurd z (by decide)))
            show (¬ υ.1 75 14 = 0 → Q (some (.int (if zsu (zmy a) (2 ^ a 2 0) = 0 then -1 else nI (zal a (2 ^ a 2 0))))) υ) ∧ (υ.1 75 14 = 0 → Q (some (.int (-1))) υ)
            have hq : Q (some (.int (if zsu (zmy a) (2 ^ a 2 0) = 0 then -1 else nI (zal a (2 ^ a 2 0))))) υ := hq
            refine And.intro (fun _ => hq) (fun z => ?_)
            rw [if_pos (nI_inj (b := 0) (by omega) (by decide) (m1'.symm.trans z))] at hq
            exact hq
          · exact And.intro (fun _ => And.intro (fun z => absurd rfl z) (fun _ => hq)) (fun z => absurd z (by decide))
        · have ml := @zmy_le a s
          have B3 : ∀ v : Int32, nI (zor a s) ||| v = nI (zor a (s + 1)) → zFix (F_X12_coughed Q) 3 [.ref 75, .int (nI w), .int (if zsu (zmy a) (s + 1) = 0 then -1 else nI (zal a (s + 1))), .null, .int (nI s)] [.int v, .int (nI (zor a s))] υ := by
            intro v hv
            refine zFix_in ?_
            show zFix (F_X12_coughed Q) 1 [.ref 75, .int (nI w), .int (if zsu (zmy a) (s + 1) = 0 then -1 else nI (zal a (s + 1))), .int (nI (zor a s) ||| v), .int (nI s + 1)] [] υ
            rw [nI_1, hv]
            exact ih (s + 1) (by omega) (by omega)
          have B2 : ∀ v : Int32, (if zsu (zmy a) s = 0 then -1 else nI (zal a s)) &&& v = (if zsu (zmy a) (s + 1) = 0 then -1 else nI (zal a (s + 1))) → zFix (F_X12_coughed Q) 2 [.ref 75, .int (nI w), .null, .int (nI (zor a s)), .int (nI s)] [.int v, .int (if zsu (zmy a) s = 0 then -1 else nI (zal a s))] υ := by
            intro v hv
            refine zFix_in ?_
            refine And.intro (vp_in_nI (N := 128) d (by decide)) ?_
            show (υ.1 85 (nI s).toNatClampNeg = 0 → zFix (F_X12_coughed Q) 3 [.ref 75, .int (nI w), .int ((if zsu (zmy a) s = 0 then -1 else nI (zal a s)) &&& v), .null, .int (nI s)] [.int 0, .int (nI (zor a s))] υ) ∧ (¬ υ.1 85 (nI s).toNatClampNeg = 0 → zFix (F_X12_coughed Q) 3 [.ref 75, .int (nI w), .int ((if zsu (zmy a) s = 0 then -1 else nI (zal a s)) &&& v), .null, .int (nI s)] [.int (nI s), .int (nI (zor a s))] υ)
            rw [nI_clamp (by omega), m2 s d, hv]
            have eo : zor a (s + 1) = if zmy a s = 1 then zor a s ||| s else zor a s := rfl
            rcases (show zmy a s = 0 ∨ zmy a s = 1 by omega) with z | z
            · rw [z, if_neg (by decide)] at eo
              rw [z]
              exact e0 (B3 0 (by rw [or_0, eo]))
            · rw [z, if_pos rfl] at eo
              rw [z]
              exact e1 (B3 _ (by rw [nI_or, eo]))
          refine And.intro (vp_in_nI (N := 128) d (by decide)) ?_
          show (υ.1 85 (nI s).toNatClampNeg = 0 → zFix (F_X12_coughed Q) 2 [.ref 75, .int (nI w), .null, .int (nI (zor a s)), .int (nI s)] [.int (-1), .int (if zsu (zmy a) s = 0 then -1 else nI (zal a s))] υ) ∧ (¬ υ.1 85 (nI s).toNatClampNeg = 0 → zFix (F_X12_coughed Q) 2 [.ref 75, .int (nI w), .null, .int (nI (zor a s)), .int (nI s)] [.int (nI s), .int (if zsu (zmy a) s = 0 then -1 else nI (zal a s))] υ)
          rw [nI_clamp (by omega), m2 s d]
          have ea : zal a (s + 1) = if zmy a s = 1 then zal a s &&& s else zal a s := rfl
          have ec : zsu (zmy a) (s + 1) = zsu (zmy a) s + zmy a s := rfl
          rcases (show zmy a s = 0 ∨ zmy a s = 1 by omega) with z | z
          · rw [z, if_neg (by decide)] at ea
            rw [z, Nat.add_zero] at ec
            rw [z]
            exact e0 (B2 _ (by rw [(m1_and _).2, ea, ec]; rfl))
          · rw [z, if_pos rfl] at ea
            rw [z] at ec
            rw [z]
            refine e1 (B2 _ ?_)
            rw [ec, if_neg (show ¬ zsu (zmy a) s + 1 = 0 by omega), ea]
            by_cases y : zsu (zmy a) s = 0
            · rw [if_pos y, (m1_and _).1]
              have za : ∀ t, t ≤ s → zal a t = 2 ^ a 2 0 - 1 := by
                intro t
                induction t with
                | zero => intro _; rfl
                | succ t iht =>
                  intro ht
                  have : zmy a t = 0 := by
                    have m := zsu_mono (g := zmy a) (n := t + 1) (m := s) (by omega)
                    have : zsu (zmy a) (t + 1) = zsu (zmy a) t + zmy a t := rfl
                    omega
                  show (if _ then _ else _) = _
                  rw [this, if_neg (by decide), iht (by omega)]
              have sl : s < 2 ^ a 2 0 := by
                by_cases q : s < 2 ^ a 2 0
                · exact q
                · have := zmy_hi (a := a) (s := s) (by omega); omega
              rw [za s (Nat.le_refl _), zal_in _ (by omega) s sl]
            · rw [if_neg y, nI_and]
      exact L 0 (Nat.zero_le _)
  · exact zPr_bad (j := 0) h (fun Q hQ => ⟨rfl, zFix_in (noX (a := 0) (b := 2) (by decide) (by decide) nv (n0 (t_refBad hQ)))⟩) (fun τ Q _ hQ => ⟨rfl, zFix_in (noR (a := 0) (b := 2) (by decide) rfl rfl nv (n0 (r_bad hQ)))⟩)
end
