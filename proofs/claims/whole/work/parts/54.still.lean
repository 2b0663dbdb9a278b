/-! Pairs: still, sundays. -/
def zen (x : Nat) : Int32 := if x = 200 then -1 else nI x
theorem zen_n {x : Nat} (h : x ≠ 200) : zen x = nI x := if_neg h
theorem zen_m {x : Nat} (h : x < 128 ∨ x = 200) : zen x = -1 ↔ x = 200 := by
  refine ⟨fun e => ?_, fun e => by rw [e]; rfl⟩
  rcases h with h | h
  · rw [zen_n (by omega)] at e
    have := congrArg Int32.toInt e
    rw [nI_toInt (by omega)] at this
    have h2 : (-1 : Int32).toInt = -1 := by decide
    omega
  · exact h
def zsl (a : zA) : Nat → Nat
  | 0 => 200
  | s + 1 => if (zsl a s = 200 ∨ zpc s < zpc (zsl a s)) ∧ s &&& a 8 0 = 0 ∧ zPs a (a 3) (a 4) (s ||| a 8 0) = 16 then s else zsl a s
theorem zsl_r (a : zA) : ∀ s, s ≤ 128 → zsl a s < 128 ∨ zsl a s = 200
  | 0 => fun _ => Or.inr rfl
  | s + 1 => fun h => by
    have := zsl_r a s (by omega)
    unfold zsl
    split
    · omega
    · exact this
theorem p2_128 {n : Nat} (h : n ≤ 7) : 2 ^ n ≤ 128 := (Nat.pow_le_pow_right (by decide) h : 2 ^ n ≤ 2 ^ 7)
theorem or_128 {s c : Nat} (hs : s < 128) (hc : c < 128) : s ||| c < 128 := Nat.or_lt_two_pow (n := 7) hs hc
theorem and_128 {s c : Nat} (hs : s < 128) : s &&& c < 128 := Nat.lt_of_le_of_lt Nat.and_le_left hs
theorem t_sets {n : Nat} {σ : zM} {Q : zQ} (hn : n ≤ 7) (e : σ.1 1 2 = nI n) (h : Q (some (.int (nI (2 ^ n)))) σ) : T_X1_sets [.ref 1] σ Q := by
  refine ⟨rfl, zFix_in ?_⟩
  show Q (some (.int ((1 : Int32) <<< (σ.1 1 2 &&& 31)))) σ
  rw [e, nI_shl1 (by omega)]
  exact h
section
variable {σ : zM}
theorem p_still (h : zR σ) : zPr T_X11_still T_X12_still [] σ := by
  refine zPr_q (r := fun a => zen (zsl a (2 ^ a 2 0))) h (fun a Q hW hX hQ => ?_) (fun a σ Q hW hM hQ => ?_)
  · have hn := hW.1
    have h2n := p2_128 hn
    have c128 := zC128 hW
    obtain ⟨k1, k2, k3⟩ := c_ok hW
    refine ⟨rfl, zFix_in (t_hold hW hX (fun τ fr v => ?_))⟩
    have hX' := fr.X hX
    have L : ∀ s, s ≤ 2 ^ a 2 0 → zFix (F_X11_still Q) 1 [.ref 0, .int (zen (zsl a s)), .int (nI s)] [] τ := by
      refine zloop (2 ^ a 2 0) (fun s hs ih => ?_)
      refine zFix_in (t_sets hn hX'.2.2.1 ?_)
      refine pk_le (2 ^ a 2 0) s (fun d => ?_) (fun d => ?_)
      · have es : s = 2 ^ a 2 0 := by omega
        rw [es]
        exact hQ τ fr.Q
      · have r := zsl_r a s (by omega)
        have B4 : ∀ x, x = zsl a (s + 1) → zFix (F_X11_still Q) 4 [.ref 0, .int (zen x), .int (nI s)] [] τ := by
          intro x hx
          refine zFix_in ?_
          show zFix (F_X11_still Q) 1 [.ref 0, .int (zen x), .int (nI s + 1)] [] τ
          rw [nI_1, hx]
          exact ih (s + 1) (by omega) (by omega)
        have no : ¬ ((zsl a s = 200 ∨ zpc s < zpc (zsl a s)) ∧ s &&& a 8 0 = 0 ∧ zPs a (a 3) (a 4) (s ||| a 8 0) = 16) → zsl a s = zsl a (s + 1) := fun z => by
          show _ = if _ then _ else _
          rw [if_neg z]
        have B3 : (zsl a s = 200 ∨ zpc s < zpc (zsl a s)) → zFix (F_X11_still Q) 3 [.ref 0, .int (zen (zsl a s)), .int (nI s)] [.int 1] τ := by
          intro c1
          refine zFix_in (e1 ?_)
          show (¬ (nI s &&& τ.1 1 8) = 0 → zFix (F_X11_still Q) 4 [.ref 0, .int (zen (zsl a s)), .int (nI s)] [] τ) ∧ ((nI s &&& τ.1 1 8) = 0 → T_X8_isPeacefulThroughout [.ref 53, .int (nI s ||| τ.1 1 8)] τ _)
          rw [hX'.2.2.2.2.1, nI_and, nI_or]
          have l := and_128 (s := s) (c := a 8 0) (by omega)
          have l2 := or_128 (s := s) (c := a 8 0) (by omega) c128
          refine And.intro (fun z => B4 _ (no (fun y => z (by rw [y.2.1]; rfl)))) (fun z => ?_)
          have z := nI_inj (b := 0) (by omega) (by decide) z
          refine t_through hW v k2 (by omega) (fun y => e1 ?_) (fun y => e0 (B4 _ (no (fun x => y (zPs_16.mp x.2.2)))))
          rw [← zPs_16] at y
          have es : zsl a (s + 1) = s := by
            show (if _ then _ else _) = _
            rw [if_pos ⟨c1, z, y⟩]
          have B := B4 s es.symm
          rw [zen_n (by omega)] at B
          exact B
        refine And.intro (fun z => zFix_in (B3 (Or.inl ((zen_m r).mp z)))) (fun z => ?_)
        have nz : zsl a s ≠ 200 := fun y => z ((zen_m r).mpr y)
        refine t_bitC (by omega) ?_
        show T_J6_bitCount_0f7a4 [.int (zen (zsl a s))] τ _
        rw [zen_n nz]
        refine t_bitC (by omega) ?_
        have p1 := zpc_le s (by omega)
        have p2 := zpc_le (zsl a s) (by omega)
        refine pk_le (zpc (zsl a s)) (zpc s) (fun y => ?_) (fun y => ?_)
        · refine zFix_in (e0 ?_)
          have B := B4 _ (no (fun x => by rcases x.1 with x | x; exact nz x; omega))
          rw [zen_n nz] at B
          exact B
        · have B := B3 (Or.inr y)
          rw [zen_n nz] at B
          exact zFix_in B
    exact L 0 (Nat.zero_le _)
  · have hn := hW.1
    have h2n := p2_128 hn
    have c128 := zC128 hW
    obtain ⟨k1, k2, k3⟩ := c_ok hW
    refine ⟨rfl, zFix_in (t_layHand hW hM (fun τ fr hd => ?_))⟩
    have L : ∀ s, s ≤ 2 ^ a 2 0 → ∀ (τ : zM) (cl : Nat), zMF σ τ → zHd τ a (a 3) (a 4) (a 7) cl → zFix (F_X12_still Q) 1 [.ref 75, .int (zen (zsl a s)), .int (nI (a 8 0)), .int (nI s)] [] τ := by
      refine zloop (2 ^ a 2 0) (fun s hs ih => ?_)
      intro τ cl fr hd
      refine zFix_in (t_many ?_)
      have e0' := (fr.M hM).1
      show (nI s ≥ (1 : Int32) <<< (τ.1 76 0 &&& 31) → _) ∧ (¬ nI s ≥ (1 : Int32) <<< (τ.1 76 0 &&& 31) → _)
      rw [e0', nI_shl1 (by omega)]
      refine pk_le (2 ^ a 2 0) s (fun d => ?_) (fun d => ?_)
      · have es : s = 2 ^ a 2 0 := by omega
        rw [es]
        exact hQ τ fr.Q
      · have r := zsl_r a s (by omega)
        have l2 := or_128 (s := s) (c := a 8 0) (by omega) c128
        have f1 := fr.tr (zMF_c (σ := τ) (v := nI (s ||| a 8 0)))
        have h1 := zHd_c (v := s ||| a 8 0) hd
        have B6 : ∀ x, x = zsl a (s + 1) → zFix (F_X12_still Q) 6 [.ref 75, .null, .int (nI (a 8 0)), .int (nI s)] [.int (zen x)] (zput τ 75 9 (nI (s ||| a 8 0))) := by
          intro x hx
          refine zFix_in ?_
          show zFix (F_X12_still Q) 1 [.ref 75, .int (zen x), .int (nI (a 8 0)), .int (nI s + 1)] [] _
          rw [nI_1, hx]
          exact ih (s + 1) (by omega) (by omega) _ _ f1 h1
        have no : ¬ ((zsl a s = 200 ∨ zpc s < zpc (zsl a s)) ∧ s &&& a 8 0 = 0 ∧ zPs a (a 3) (a 4) (s ||| a 8 0) = 16) → zsl a s = zsl a (s + 1) := fun z => by
          show _ = if _ then _ else _
          rw [if_neg z]
        have B3 : ¬ ((zsl a s = 200 ∨ zpc s < zpc (zsl a s)) ∧ s &&& a 8 0 = 0 ∧ zPs a (a 3) (a 4) (s ||| a 8 0) = 16) → zFix (F_X12_still Q) 3 [.ref 75, .int (zen (zsl a s)), .int (nI (a 8 0)), .int (nI s)] [] (zput τ 75 9 (nI (s ||| a 8 0))) := fun z => zFix_in (zFix_in (e0 (zFix_in (B6 _ (no z)))))
        have B2 : (zsl a s = 200 ∨ zpc s < zpc (zsl a s)) → s &&& a 8 0 = 0 → zFix (F_X12_still Q) 2 [.ref 75, .int (zen (zsl a s)), .int (nI (a 8 0)), .int (nI s)] [] (zput τ 75 9 (nI (s ||| a 8 0))) := by
          intro c1 c2
          refine zFix_in (zFix_in (e1 ?_))
          refine r_peaces hW (f1.M hM) h1 k1 k2 (by omega) ?_
          have l := @zPs_le a (a 3) (a 4) (s ||| a 8 0)
          refine And.intro (fun z => zFix_in (B6 _ (no (fun x => z (by rw [x.2.2]; rfl))))) (fun z => ?_)
          have z := nI_inj (b := 16) (by omega) (by decide) z
          have es : zsl a (s + 1) = s := by
            show (if _ then _ else _) = _
            rw [if_pos ⟨c1, c2, z⟩]
          have B := B6 s es.symm
          rw [zen_n (by omega)] at B
          exact B
        show (¬ (nI s &&& nI (a 8 0)) = 0 → zFix (F_X12_still Q) 3 [.ref 75, .int (zen (zsl a s)), .int (nI (a 8 0)), .int (nI s)] [] (zput τ 75 9 (nI (a 8 0) ||| nI s))) ∧ ((nI s &&& nI (a 8 0)) = 0 → (zen (zsl a s) = -1 → zFix (F_X12_still Q) 2 [.ref 75, .int (zen (zsl a s)), .int (nI (a 8 0)), .int (nI s)] [] (zput τ 75 9 (nI (a 8 0) ||| nI s))) ∧ (¬ zen (zsl a s) = -1 → T_X12_bits [.int (nI s)] (zput τ 75 9 (nI (a 8 0) ||| nI s)) _))
        rw [nI_and, nI_or, Nat.or_comm (a 8 0) s]
        have l := and_128 (s := s) (c := a 8 0) (by omega)
        refine And.intro (fun z => B3 (fun y => z (by rw [y.2.1]; rfl))) (fun z => ?_)
        have z := nI_inj (b := 0) (by omega) (by decide) z
        refine And.intro (fun y => B2 (Or.inl ((zen_m r).mp y)) z) (fun y => ?_)
        have nz : zsl a s ≠ 200 := fun x => y ((zen_m r).mpr x)
        refine r_bits (by omega) ?_
        show T_X12_bits [.int (zen (zsl a s))] _ _
        rw [zen_n nz]
        refine r_bits (by omega) ?_
        have p1 := zpc_le s (by omega)
        have p2 := zpc_le (zsl a s) (by omega)
        refine pk_le (zpc (zsl a s)) (zpc s) (fun y => ?_) (fun y => ?_)
        · have B := B3 (fun x => by rcases x.1 with x | x; exact nz x; omega)
          rw [zen_n nz] at B
          exact B
        · have B := B2 (Or.inr y) z
          rw [zen_n nz] at B
          exact B
    show zFix (F_X12_still Q) 1 [.ref 75, .int (zen (zsl a 0)), .int (τ.1 75 9), .int (nI 0)] [] τ
    rw [hd.1]
    exact L 0 (Nat.zero_le _) τ _ fr hd
def zsx2 (x : Int64) : Int64 := (x * 1103515245 + 12345) - (x * 1103515245 + 12345) / 2147483648 * 2147483648
def zsc (x : Int64) : Prop := x / 65536 - x / 65536 / 4 * 4 = 0
def zsy (x : Int64) : Nat → Int64
  | 0 => x
  | f + 1 => zsx2 (zsy x f)
noncomputable def zsz (x : Int64) : Nat → Nat := zbt (fun f => zpp (zsc (zsy x (f + 1))))
noncomputable def zsw2 (a : zA) (x : Int64) : Nat → Int64 × Nat
  | 0 => (x, 0)
  | k + 1 => (zsy (zsw2 a x k).1 (a 2 0), (zsw2 a x k).2 + (if zPs a (a 3) (a 4) (zsz (zsw2 a x k).1 (a 2 0)) = 16 then 1 else 0))
theorem p_sundays (x y : Int32) (h : zR σ) : zPr T_X11_sundays T_X12_sundays [.int x, .int y] σ := by
  rcases or_r (x := x) (a := 0) (b := 999999) with ⟨e, he, rfl⟩ | nv
  · rcases or_r (x := y) (a := 0) (b := 60) with ⟨m, hm, rfl⟩ | nv
    · refine zPr_q (r := fun a => nI (zsw2 a (nI e).toInt64 m).2) h (fun a Q hW hX hQ => ?_) (fun a σ Q hW hM hQ => ?_)
      · have hn := hW.1
        obtain ⟨k1, k2, k3⟩ := c_ok hW
        have pl : ∀ z f, zsz z f < 2 ^ f := fun z f => zbt_lt (fun g _ => zpp_le)
        refine ⟨rfl, zFix_in (inX (a := 0) (b := 999999) (by decide) he (e1 (inX (a := 0) (b := 60) (by decide) hm (n1 (t_hold hW hX (fun τ fr s => ?_))))))⟩
        have hX' := fr.X hX
        generalize ex : (nI e).toInt64 = z0 at hQ
        have L : ∀ k, k ≤ m → zFix (F_X11_sundays Q) 2 [.ref 0, .null, .int (nI m), .long (zsw2 a z0 k).1, .null, .int (nI (zsw2 a z0 k).2), .int (nI k)] [] τ := by
          refine zloop m (fun k hk ih => ?_)
          refine zFix_in ?_
          refine pk_le m k (fun d => ?_) (fun d => ?_)
          · have ek : k = m := by omega
            rw [ek]
            exact hQ τ fr.Q
          · have L2 : ∀ f, f ≤ a 2 0 → zFix (F_X11_sundays Q) 3 [.ref 0, .null, .int (nI m), .long (zsy (zsw2 a z0 k).1 f), .null, .int (nI (zsw2 a z0 k).2), .int (nI k), .int (nI (zsz (zsw2 a z0 k).1 f)), .int (nI f)] [] τ := by
              refine zloop (a 2 0) (fun f hf ih2 => ?_)
              refine zFix_in ?_
              refine pk_le (a 2 0) f (fun c => ?_) (fun c => ?_) hX'.2.2.1 rfl
              · have ef : f = a 2 0 := by omega
                subst ef
                have l1 := pl (zsw2 a z0 k).1 (a 2 0)
                have l2 := p2_128 hn
                have B : ∀ v, v = (zsw2 a z0 (k + 1)).2 → zFix (F_X11_sundays Q) 5 [.ref 0, .null, .int (nI m), .long (zsy (zsw2 a z0 k).1 (a 2 0)), .null, .int (nI v), .int (nI k)] [] τ := by
                  intro v hv
                  refine zFix_in ?_
                  show zFix (F_X11_sundays Q) 2 [.ref 0, .null, .int (nI m), .long (zsy (zsw2 a z0 k).1 (a 2 0)), .null, .int (nI v), .int (nI k + 1)] [] τ
                  rw [nI_1, hv]
                  exact ih (k + 1) (by omega) (by omega)
                have e2 : (zsw2 a z0 (k + 1)).2 = (zsw2 a z0 k).2 + (if zPs a (a 3) (a 4) (zsz (zsw2 a z0 k).1 (a 2 0)) = 16 then 1 else 0) := rfl
                refine t_through hW s k2 (by omega) (fun y => e1 ?_) (fun y => e0 ?_)
                · rw [← zPs_16] at y
                  rw [if_pos y] at e2
                  have B' := B _ e2.symm
                  rw [← nI_1] at B'
                  exact B'
                · rw [← zPs_16] at y
                  rw [if_neg y] at e2
                  exact B _ e2.symm
              · refine And.intro (by decide) (And.intro (by decide) (And.intro (by decide) ?_))
                have B : ∀ v, v = zsz (zsw2 a z0 k).1 (f + 1) → zFix (F_X11_sundays Q) 4 [.ref 0, .null, .int (nI m), .long (zsy (zsw2 a z0 k).1 (f + 1)), .null, .int (nI (zsw2 a z0 k).2), .int (nI k), .int (nI v), .int (nI f)] [] τ := by
                  intro v hv
                  refine zFix_in ?_
                  show zFix (F_X11_sundays Q) 3 [.ref 0, .null, .int (nI m), .long (zsy (zsw2 a z0 k).1 (f + 1)), .null, .int (nI (zsw2 a z0 k).2), .int (nI k), .int (nI v), .int (nI f + 1)] [] τ
                  rw [nI_1, hv]
                  exact ih2 (f + 1) (by omega) (by omega)
                have es : zsz (zsw2 a z0 k).1 (f + 1) = zsz (zsw2 a z0 k).1 f + zpp (zsc (zsy (zsw2 a z0 k).1 (f + 1))) * 2 ^ f := rfl
                refine And.intro (fun z => ?_) (fun z => ?_)
                · have nz : ¬ zsc (zsy (zsw2 a z0 k).1 (f + 1)) := fun q => z ((cmp_eq0 _ _).mpr q)
                  rw [zpp_0 nz, Nat.zero_mul, Nat.add_zero] at es
                  exact B _ es.symm
                · have nz : zsc (zsy (zsw2 a z0 k).1 (f + 1)) := (cmp_eq0 _ _).mp z
                  rw [zpp_1 nz, Nat.one_mul] at es
                  have B' := B _ es.symm
                  rw [← or_sh (by omega) (pl _ f)] at B'
                  exact B'
            exact L2 0 (Nat.zero_le _)
        have := L 0 (Nat.zero_le _)
        rw [← ex] at this
        exact this
      · have hn := hW.1
        obtain ⟨k1, k2, k3⟩ := c_ok hW
        have pl : ∀ z f, zsz z f < 2 ^ f := fun z f => zbt_lt (fun g _ => zpp_le)
        refine ⟨rfl, zFix_in (inR (a := 0) (b := 999999) (by decide) rfl rfl he (e1 (inR (a := 0) (b := 60) (by decide) rfl rfl hm (n1 (t_layHand hW hM (fun τ fr hd => ?_))))))⟩
        generalize ex : (nI e).toInt64 = z0 at hQ
        have L : ∀ k, k ≤ m → ∀ (τ : zM) (cl : Nat), zMF σ τ → zHd τ a (a 3) (a 4) (a 7) cl → zFix (F_X12_sundays Q) 2 [.ref 75, .null, .int (nI m), .long (zsw2 a z0 k).1, .null, .int (nI (zsw2 a z0 k).2), .int (nI k)] [] τ := by
          refine zloop m (fun k hk ih => ?_)
          intro τ cl fr hd
          refine zFix_in ?_
          refine pk_le m k (fun d => ?_) (fun d => ?_)
          · have ek : k = m := by omega
            rw [ek]
            exact hQ τ fr.Q
          · have L2 : ∀ f, f ≤ a 2 0 → ∀ τ : zM, zMF σ τ → zHd τ a (a 3) (a 4) (a 7) (zsz (zsw2 a z0 k).1 f) → zFix (F_X12_sundays Q) 3 [.ref 75, .null, .int (nI m), .long (zsy (zsw2 a z0 k).1 f), .null, .int (nI (zsw2 a z0 k).2), .int (nI k), .int (nI f)] [] τ := by
              refine zloop (a 2 0) (fun f hf ih2 => ?_)
              intro τ fr hd
              refine zFix_in (t_many ?_)
              have l1 := pl (zsw2 a z0 k).1 f
              have l2 := p2_128 hn
              have l3 : 2 ^ f ≤ 2 ^ a 2 0 := Nat.pow_le_pow_right (by decide) hf
              refine pk_le (a 2 0) f (fun c => ?_) (fun c => ?_) (fr.M hM).1 rfl
              · have ef : f = a 2 0 := by omega
                subst ef
                have B : ∀ v : Nat, (zsw2 a z0 k).2 + v = (zsw2 a z0 (k + 1)).2 → zFix (F_X12_sundays Q) 5 [.ref 75, .null, .int (nI m), .long (zsy (zsw2 a z0 k).1 (a 2 0)), .null, .null, .int (nI k)] [.int (nI v), .int (nI (zsw2 a z0 k).2)] τ := by
                  intro v hv
                  refine zFix_in ?_
                  show zFix (F_X12_sundays Q) 2 [.ref 75, .null, .int (nI m), .long (zsy (zsw2 a z0 k).1 (a 2 0)), .null, .int (nI (zsw2 a z0 k).2 + nI v), .int (nI k + 1)] [] τ
                  rw [nI_1, nI_add, hv]
                  exact ih (k + 1) (by omega) (by omega) τ _ fr hd
                have e2 : (zsw2 a z0 (k + 1)).2 = (zsw2 a z0 k).2 + (if zPs a (a 3) (a 4) (zsz (zsw2 a z0 k).1 (a 2 0)) = 16 then 1 else 0) := rfl
                refine r_peaces hW (fr.M hM) hd k1 k2 (by omega) ?_
                have l := @zPs_le a (a 3) (a 4) (zsz (zsw2 a z0 k).1 (a 2 0))
                refine And.intro (fun y => B 0 ?_) (fun y => B 1 ?_)
                · rw [e2, if_neg (fun q => y (by rw [q]; rfl))]
                · rw [e2, if_pos (nI_inj (b := 16) (by omega) (by decide) y)]
              · refine And.intro (by decide) (And.intro (by decide) (And.intro (by decide) ?_))
                have es : zsz (zsw2 a z0 k).1 (f + 1) = zsz (zsw2 a z0 k).1 f + zpp (zsc (zsy (zsw2 a z0 k).1 (f + 1))) * 2 ^ f := rfl
                have B : ∀ y : Int32, nI (zsz (zsw2 a z0 k).1 f) ||| y = nI (zsz (zsw2 a z0 k).1 (f + 1)) → zFix (F_X12_sundays Q) 4 [.ref 75, .null, .int (nI m), .long (zsy (zsw2 a z0 k).1 (f + 1)), .null, .int (nI (zsw2 a z0 k).2), .int (nI k), .int (nI f)] [.int y, .int (τ.1 75 9), .ref 75] τ := by
                  intro y hy
                  refine zFix_in ?_
                  show zFix (F_X12_sundays Q) 3 [.ref 75, .null, .int (nI m), .long (zsy (zsw2 a z0 k).1 (f + 1)), .null, .int (nI (zsw2 a z0 k).2), .int (nI k), .int (nI f + 1)] [] (zput τ 75 9 (τ.1 75 9 ||| y))
                  rw [nI_1, hd.1, hy]
                  exact ih2 (f + 1) (by omega) (by omega) _ (fr.tr zMF_c) (zHd_c hd)
                refine And.intro (fun z => ?_) (fun z => ?_)
                · have nz : ¬ zsc (zsy (zsw2 a z0 k).1 (f + 1)) := fun q => z ((cmp_eq0 _ _).mpr q)
                  rw [zpp_0 nz, Nat.zero_mul, Nat.add_zero] at es
                  exact B 0 (by rw [or_0, es]; rfl)
                · have nz : zsc (zsy (zsw2 a z0 k).1 (f + 1)) := (cmp_eq0 _ _).mp z
                  rw [zpp_1 nz, Nat.one_mul] at es
                  exact B _ (by rw [or_sh (by omega) (pl _ f), es])
            exact L2 0 (Nat.zero_le _) _ (fr.tr (zMF_c (v := nI 0))) (zHd_c (v := 0) hd)
        exact L 0 (Nat.zero_le _) τ _ fr hd
    · exact zPr_bad (j := 0) h (fun Q hQ => ⟨rfl, zFix_in (inX (a := 0) (b := 999999) (by decide) he (e1 (noX (a := 0) (b := 60) (by decide) (by decide) nv (n0 (zFix_in (t_refBad hQ))))))⟩) (fun τ Q _ hQ => ⟨rfl, zFix_in (inR (a := 0) (b := 999999) (by decide) rfl rfl he (e1 (noR (a := 0) (b := 60) (by decide) rfl rfl nv (n0 (zFix_in (r_bad hQ))))))⟩)
  · exact zPr_bad (j := 0) h (fun Q hQ => ⟨rfl, zFix_in (noX (a := 0) (b := 999999) (by decide) (by decide) nv (e0 (zFix_in (t_refBad hQ))))⟩) (fun τ Q _ hQ => ⟨rfl, zFix_in (noR (a := 0) (b := 999999) (by decide) rfl rfl nv (e0 (zFix_in (r_bad hQ))))⟩)
end
