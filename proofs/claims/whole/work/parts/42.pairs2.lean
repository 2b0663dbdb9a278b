/-! Pairs: sets of families at a word, the first breach. -/
noncomputable def zpp (P : Prop) : Nat := @ite Nat P (Classical.propDecidable P) 1 0
theorem zpp_1 {P : Prop} (h : P) : zpp P = 1 := if_pos h
theorem zpp_0 {P : Prop} (h : ¬ P) : zpp P = 0 := if_neg h
theorem zpp_le {P : Prop} : zpp P ≤ 1 := by
  by_cases h : P
  · rw [zpp_1 h]; exact Nat.le_refl _
  · rw [zpp_0 h]; exact Nat.zero_le _
def zbt (p : Nat → Nat) : Nat → Nat := zsu (fun g => p g * 2 ^ g)
theorem zbt_s (p : Nat → Nat) (n : Nat) : zbt p (n + 1) = zbt p n + p n * 2 ^ n := rfl
theorem zbt_lt {p : Nat → Nat} : ∀ {n : Nat}, (∀ g, g < n → p g ≤ 1) → zbt p n < 2 ^ n := by
  intro n
  induction n with
  | zero => intro _; exact Nat.one_pos
  | succ n ih =>
    intro h
    have h1 := ih (fun g hg => h g (by omega))
    have h2 := h n (by omega)
    rw [zbt_s, Nat.pow_succ]
    have : p n * 2 ^ n ≤ 1 * 2 ^ n := Nat.mul_le_mul_right _ h2
    omega
theorem or_pow {x f : Nat} (hx : x < 2 ^ f) : x ||| 2 ^ f = x + 2 ^ f := by
  have := Nat.two_pow_add_eq_or_of_lt hx 1
  rw [Nat.mul_one] at this
  rw [Nat.or_comm, ← this, Nat.add_comm]
theorem or_sh {x f : Nat} (hf : f < 31) (hx : x < 2 ^ f) : nI x ||| (1 : Int32) <<< (nI f &&& 31) = nI (x + 2 ^ f) := by
  rw [nI_shl1 hf, nI_or, or_pow hx]
theorem or_0 {x : Nat} : nI x ||| (0 : Int32) = nI x := by rw [show (0 : Int32) = nI 0 from rfl, nI_or, Nat.or_zero]
section
variable {σ : zM}
/-- a pair of questions; a pair of refusals -/
theorem zPr_q {T U : zTy} {vs : List Value} {r : zA → Int32} (h : zR σ) (hc : ∀ (a : zA) (Q : zQ), zWF a → zCX 1 σ a → (∀ τ, zQX σ τ → Q (some (.int (r a))) τ) → T (.ref 0 :: vs) σ Q) (hr : ∀ (a : zA) (τ : zM) (Q : zQ), zWF a → zCM (τ.1 76) a → (∀ υ, zQM τ υ → Q (some (.int (r a))) υ) → U (.ref 75 :: vs) τ Q) : zPr T U vs σ := by
  obtain ⟨a, hW, hX, hM, hO⟩ := id h
  exact hc a _ hW hX (fun τ q => ⟨_, rfl, hr a τ _ hW (by rw [q.1 76 (by omega)]; exact hM) (fun υ g => ⟨rfl, (h.X q).M g⟩)⟩)
theorem zPr_bad {T U : zTy} {vs : List Value} {r : Int32} {j : Nat} (h : zR σ) (hc : ∀ Q : zQ, Q (some (.int r)) (zBx σ j) → T (.ref 0 :: vs) σ Q) (hr : ∀ (τ : zM) (Q : zQ), τ.1 76 = σ.1 76 → Q (some (.int r)) (zBm τ j) → U (.ref 75 :: vs) τ Q) : zPr T U vs σ :=
  hc _ ⟨r, rfl, hr _ _ (zput_ne (by decide)) ⟨rfl, h.bb⟩⟩
theorem or_w {x : Int32} {n : Nat} : (∃ w, w < n ∧ x = nI w) ∨ ∀ w, w < n → x ≠ nI w := by
  by_cases h : ∃ w, w < n ∧ x = nI w
  · exact Or.inl h
  · exact Or.inr (fun w hw e => h ⟨w, hw, e⟩)
theorem isW {w : Nat} {τ : zM} {Q : zQ} (hw : w < 16) (h : Q (some (.int 1)) τ) : T_X11_isWord [.int (nI w)] τ Q := t_X11_isWord (fun _ _ _ => h) (fun e => absurd rfl (e w hw))
theorem isWr {w : Nat} {τ : zM} {Q : zQ} (hw : w < 16) (h : Q (some (.int 1)) τ) : T_X12_isWord [.int (nI w)] τ Q := t_X12_isWord (fun _ _ _ => h) (fun e => absurd rfl (e w hw))
theorem noW {x : Int32} {τ : zM} {Q : zQ} (hw : ∀ w, w < 16 → x ≠ nI w) (h : Q (some (.int 0)) τ) : T_X11_isWord [.int x] τ Q := t_X11_isWord (fun n hn e => absurd e (hw n hn)) (fun _ => h)
theorem noWr {x : Int32} {τ : zM} {Q : zQ} (hw : ∀ w, w < 16 → x ≠ nI w) (h : Q (some (.int 0)) τ) : T_X12_isWord [.int x] τ Q := t_X12_isWord (fun n hn e => absurd e (hw n hn)) (fun _ => h)
theorem p_up (x : Int32) (h : zR σ) : zPr T_X11_up T_X12_up [.int x] σ := by
  rcases or_w (x := x) (n := 16) with ⟨w, hw, rfl⟩ | nv
  · refine zPr_q (r := fun a => nI (zbt (fun g => 1 - zKn (a 3) (a 4) g (zcs a w)) (a 2 0))) h (fun a Q hW hX hQ => ?_) (fun a σ Q hW hM hQ => ?_)
    · have hn := hW.1
      have pl : ∀ f, zbt (fun g => 1 - zKn (a 3) (a 4) g (zcs a w)) f < 2 ^ f := fun f => zbt_lt (fun g _ => by omega)
      refine ⟨rfl, zFix_in (isW hw (n1 (t_hold hW hX (fun τ fr s => ?_)))) ⟩
      have hX' := fr.X hX
      have L : ∀ f, f ≤ a 2 0 → zFix (F_X11_up Q) 1 [.ref 0, .int (nI w), .int (nI (zbt (fun g => 1 - zKn (a 3) (a 4) g (zcs a w)) f)), .int (nI f)] [] τ := by
        refine zloop (a 2 0) (fun f hf ih => zFix_in ?_)
        refine pk_le (a 2 0) f (fun c => ?_) (fun c => ?_) hX'.2.2.1 rfl
        · have ef : f = a 2 0 := by omega
          rw [ef]
          exact hQ τ fr.Q
        · have kl := @zKn_lt (a 3) (a 4) f (zcs a w)
          have B2 : ∀ v, v = zbt (fun g => 1 - zKn (a 3) (a 4) g (zcs a w)) (f + 1) → zFix (F_X11_up Q) 2 [.ref 0, .int (nI w), .int (nI v), .int (nI f)] [] τ := by
            intro v hv
            refine zFix_in ?_
            show zFix (F_X11_up Q) 1 [.ref 0, .int (nI w), .int (nI v), .int (nI f + 1)] [] τ
            rw [nI_1, hv]
            exact ih (f + 1) (by omega) (by omega)
          refine t_kneels hW s c hw ?_
          refine And.intro (fun d => ?_) (fun d => ?_)
          · refine B2 _ ?_
            rw [zbt_s, show zKn (a 3) (a 4) f (zcs a w) = 1 by rcases (show zKn (a 3) (a 4) f (zcs a w) = 0 ∨ zKn (a 3) (a 4) f (zcs a w) = 1 by omega) with z | z; exact absurd (by rw [z]; rfl) d; exact z]
            simp
          · have B := B2 _ (by rw [zbt_s, nI_inj (b := 0) (by omega) (by decide) d])
            rw [show (1 - 0) * 2 ^ f = 2 ^ f by simp, ← or_sh (by omega) (pl f)] at B
            exact B
      exact L 0 (Nat.zero_le _)
    · have hn := hW.1
      obtain ⟨k1, k2, k3⟩ := c_ok hW
      have pl : ∀ f, zbt (fun g => 1 - zKn (a 3) (a 4) g (zcs a w)) f < 2 ^ f := fun f => zbt_lt (fun g _ => by omega)
      refine ⟨rfl, zFix_in (isWr hw (n1 (t_layHand hW hM (fun τ fr hd => ?_))))⟩
      have hM' := fr.M hM
      have L : ∀ f, f ≤ a 2 0 → zFix (F_X12_up Q) 1 [.ref 75, .int (nI w), .int (nI (zbt (fun g => 1 - zKn (a 3) (a 4) g (zcs a w)) f)), .int (nI f)] [] τ := by
        refine zloop (a 2 0) (fun f hf ih => zFix_in ?_)
        refine t_many ?_
        refine pk_le (a 2 0) f (fun c => ?_) (fun c => ?_) hM'.1 rfl
        · have ef : f = a 2 0 := by omega
          rw [ef]
          exact hQ τ fr.Q
        · have kl := @zKn_lt (a 3) (a 4) f (zcs a w)
          have B2 : ∀ y : Int32, nI (zbt (fun g => 1 - zKn (a 3) (a 4) g (zcs a w)) f) ||| y = nI (zbt (fun g => 1 - zKn (a 3) (a 4) g (zcs a w)) (f + 1)) → zFix (F_X12_up Q) 2 [.ref 75, .int (nI w), .null, .int (nI f)] [.int y, .int (nI (zbt (fun g => 1 - zKn (a 3) (a 4) g (zcs a w)) f))] τ := by
            intro y hy
            refine zFix_in ?_
            show zFix (F_X12_up Q) 1 [.ref 75, .int (nI w), .int (nI (zbt (fun g => 1 - zKn (a 3) (a 4) g (zcs a w)) f) ||| y), .int (nI f + 1)] [] τ
            rw [nI_1, hy]
            exact ih (f + 1) (by omega) (by omega)
          refine r_kneels hW hM' hd c (k1 f c) (k2 f c) hw ?_
          refine And.intro (fun d => ?_) (fun d => ?_)
          · refine B2 _ ?_
            rw [or_sh (by omega) (pl f), zbt_s, nI_inj (b := 0) (by omega) (by decide) d]
            simp
          · refine B2 _ ?_
            rw [or_0, zbt_s, show zKn (a 3) (a 4) f (zcs a w) = 1 by rcases (show zKn (a 3) (a 4) f (zcs a w) = 0 ∨ zKn (a 3) (a 4) f (zcs a w) = 1 by omega) with z | z; exact absurd (by rw [z]; rfl) d; exact z]
            simp
      exact L 0 (Nat.zero_le _)
  · exact zPr_bad (j := 0) h (fun Q hQ => ⟨rfl, zFix_in (noW nv (n0 (t_refBad hQ)))⟩) (fun τ Q _ hQ => ⟨rfl, zFix_in (noWr nv (n0 (r_bad hQ)))⟩)
theorem p_seers (x : Int32) (h : zR σ) : zPr T_X11_seers T_X12_seers [.int x] σ := by
  rcases or_w (x := x) (n := 16) with ⟨w, hw, rfl⟩ | nv
  · refine zPr_q (r := fun a => nI (zbt (fun g => zpp (zSee a (a 3) (a 4) g (zcs a w))) (a 2 0))) h (fun a Q hW hX hQ => ?_) (fun a σ Q hW hM hQ => ?_)
    · have hn := hW.1
      have pl : ∀ f, zbt (fun g => zpp (zSee a (a 3) (a 4) g (zcs a w))) f < 2 ^ f := fun f => zbt_lt (fun g _ => zpp_le)
      refine ⟨rfl, zFix_in (isW hw (n1 (t_hold hW hX (fun τ fr s => ?_)))) ⟩
      have hX' := fr.X hX
      have L : ∀ f, f ≤ a 2 0 → zFix (F_X11_seers Q) 1 [.ref 0, .int (nI w), .int (nI (zbt (fun g => zpp (zSee a (a 3) (a 4) g (zcs a w))) f)), .int (nI f)] [] τ := by
        refine zloop (a 2 0) (fun f hf ih => zFix_in ?_)
        refine pk_le (a 2 0) f (fun c => ?_) (fun c => ?_) hX'.2.2.1 rfl
        · have ef : f = a 2 0 := by omega
          rw [ef]
          exact hQ τ fr.Q
        · have B2 : ∀ v, v = zbt (fun g => zpp (zSee a (a 3) (a 4) g (zcs a w))) (f + 1) → zFix (F_X11_seers Q) 2 [.ref 0, .int (nI w), .int (nI v), .int (nI f)] [] τ := by
            intro v hv
            refine zFix_in ?_
            show zFix (F_X11_seers Q) 1 [.ref 0, .int (nI w), .int (nI v), .int (nI f + 1)] [] τ
            rw [nI_1, hv]
            exact ih (f + 1) (by omega) (by omega)
          refine t_sees hW s c hw (fun d => e1 ?_) (fun d => e0 ?_)
          · have B := B2 _ (by rw [zbt_s, zpp_1 d])
            rw [Nat.one_mul, ← or_sh (by omega) (pl f)] at B
            exact B
          · exact B2 _ (by rw [zbt_s, zpp_0 d, Nat.zero_mul]; rfl)
      exact L 0 (Nat.zero_le _)
    · have hn := hW.1
      obtain ⟨k1, k2, k3⟩ := c_ok hW
      have pl : ∀ f, zbt (fun g => zpp (zSee a (a 3) (a 4) g (zcs a w))) f < 2 ^ f := fun f => zbt_lt (fun g _ => zpp_le)
      refine ⟨rfl, zFix_in (isWr hw (n1 (t_layHand hW hM (fun τ fr hd => ?_))))⟩
      have hM' := fr.M hM
      have L : ∀ f, f ≤ a 2 0 → zFix (F_X12_seers Q) 1 [.ref 75, .int (nI w), .int (nI (zbt (fun g => zpp (zSee a (a 3) (a 4) g (zcs a w))) f)), .int (nI f)] [] τ := by
        refine zloop (a 2 0) (fun f hf ih => zFix_in ?_)
        refine t_many ?_
        refine pk_le (a 2 0) f (fun c => ?_) (fun c => ?_) hM'.1 rfl
        · have ef : f = a 2 0 := by omega
          rw [ef]
          exact hQ τ fr.Q
        · have B2 : ∀ y : Int32, nI (zbt (fun g => zpp (zSee a (a 3) (a 4) g (zcs a w))) f) ||| y = nI (zbt (fun g => zpp (zSee a (a 3) (a 4) g (zcs a w))) (f + 1)) → zFix (F_X12_seers Q) 2 [.ref 75, .int (nI w), .null, .int (nI f)] [.int y, .int (nI (zbt (fun g => zpp (zSee a (a 3) (a 4) g (zcs a w))) f))] τ := by
            intro y hy
            refine zFix_in ?_
            show zFix (F_X12_seers Q) 1 [.ref 75, .int (nI w), .int (nI (zbt (fun g => zpp (zSee a (a 3) (a 4) g (zcs a w))) f) ||| y), .int (nI f + 1)] [] τ
            rw [nI_1, hy]
            exact ih (f + 1) (by omega) (by omega)
          refine r_sees hW hM' hd k1 k2 c hw (fun d => e1 ?_) (fun d => e0 ?_)
          · refine B2 _ ?_
            rw [or_sh (by omega) (pl f), zbt_s, zpp_1 d, Nat.one_mul]
          · refine B2 _ ?_
            rw [or_0, zbt_s, zpp_0 d, Nat.zero_mul]
            rfl
      exact L 0 (Nat.zero_le _)
  · exact zPr_bad (j := 0) h (fun Q hQ => ⟨rfl, zFix_in (noW nv (n0 (t_refBad hQ)))⟩) (fun τ Q _ hQ => ⟨rfl, zFix_in (noWr nv (n0 (r_bad hQ)))⟩)
/-- the first word from w on that isn't P; 16 if there is none -/
noncomputable def zfw (P : Nat → Prop) (w : Nat) : Nat → Nat
  | 0 => w
  | n + 1 => @ite Nat (P w) (Classical.propDecidable _) (zfw P (w + 1) n) w
theorem p_breach (x : Int32) (h : zR σ) : zPr T_X11_breach T_X12_breach [.int x] σ := by
  rcases or_w (x := x) (n := 16) with ⟨w, hw, rfl⟩ | nv
  · refine zPr_q (r := fun a => if zfw (fun v => zPe a (a 3) (a 4) (a 8 0) (zcs a v)) w (16 - w) = 16 then -1 else nI (zfw (fun v => zPe a (a 3) (a 4) (a 8 0) (zcs a v)) w (16 - w))) h (fun a Q hW hX hQ => ?_) (fun a σ Q hW hM hQ => ?_)
    · obtain ⟨k1, k2, k3⟩ := c_ok hW
      refine ⟨rfl, zFix_in (isW hw (n1 (t_hold hW hX (fun τ fr s => ?_)))) ⟩
      have hX' := fr.X hX
      have L : ∀ v, v ≤ 16 → zfw (fun v => zPe a (a 3) (a 4) (a 8 0) (zcs a v)) v (16 - v) = zfw (fun v => zPe a (a 3) (a 4) (a 8 0) (zcs a v)) w (16 - w) → zFix (F_X11_breach Q) 1 [.ref 0, .null, .int (nI v)] [] τ := by
        refine zloop 16 (fun v hv ih => ?_)
        intro inv
        refine zFix_in ?_
        refine pk_le 16 v (fun c => ?_) (fun c => ?_)
        · have ev : v = 16 := by omega
          subst ev
          have : (16 : Nat) = zfw (fun v => zPe a (a 3) (a 4) (a 8 0) (zcs a v)) w (16 - w) := inv
          have hq := hQ τ fr.Q
          rw [if_pos this.symm] at hq
          exact hq
        · show T_X8_isPeaceful [.ref 53, .int (nI v), .int (τ.1 1 8)] τ _
          rw [hX'.2.2.2.2.1]
          have e : 16 - v = (16 - (v + 1)) + 1 := by omega
          rw [e] at inv
          refine t_peaceW hW s k2 c k3 (fun d => n1 ?_) (fun d => n0 ?_)
          · show zFix (F_X11_breach Q) 1 [.ref 0, .null, .int (nI v + 1)] [] τ
            rw [nI_1]
            refine ih (v + 1) (by omega) (by omega) ?_
            rw [← inv]
            exact (if_pos d).symm
          · have e2 : zfw (fun v => zPe a (a 3) (a 4) (a 8 0) (zcs a v)) w (16 - w) = v := by rw [← inv]; exact if_neg d
            have hq := hQ τ fr.Q
            rw [e2, if_neg (by omega)] at hq
            exact hq
      exact L w (by omega) rfl
    · obtain ⟨k1, k2, k3⟩ := c_ok hW
      refine ⟨rfl, zFix_in (isWr hw (n1 (t_layHand hW hM (fun τ fr hd => ?_))))⟩
      have hM' := fr.M hM
      have L : ∀ v, v ≤ 16 → zfw (fun v => zPe a (a 3) (a 4) (a 8 0) (zcs a v)) v (16 - v) = zfw (fun v => zPe a (a 3) (a 4) (a 8 0) (zcs a v)) w (16 - w) → zFix (F_X12_breach Q) 1 [.ref 75, .null, .int (nI v)] [] τ := by
        refine zloop 16 (fun v hv ih => ?_)
        intro inv
        refine zFix_in ?_
        refine pk_le 16 v (fun c => ?_) (fun c => ?_)
        · have ev : v = 16 := by omega
          subst ev
          have : (16 : Nat) = zfw (fun v => zPe a (a 3) (a 4) (a 8 0) (zcs a v)) w (16 - w) := inv
          have hq := hQ τ fr.Q
          rw [if_pos this.symm] at hq
          exact hq
        · have e : 16 - v = (16 - (v + 1)) + 1 := by omega
          rw [e] at inv
          refine r_peace hW hM' hd k1 k2 c k3 (fun d => n1 ?_) (fun d => n0 ?_)
          · show zFix (F_X12_breach Q) 1 [.ref 75, .null, .int (nI v + 1)] [] τ
            rw [nI_1]
            refine ih (v + 1) (by omega) (by omega) ?_
            rw [← inv]
            exact (if_pos d).symm
          · have e2 : zfw (fun v => zPe a (a 3) (a 4) (a 8 0) (zcs a v)) w (16 - w) = v := by rw [← inv]; exact if_neg d
            have hq := hQ τ fr.Q
            rw [e2, if_neg (by omega)] at hq
            exact hq
      exact L w (by omega) rfl
  · exact zPr_bad (j := 0) h (fun Q hQ => ⟨rfl, zFix_in (noW nv (n0 (t_refBad hQ)))⟩) (fun τ Q _ hQ => ⟨rfl, zFix_in (noWr nv (n0 (r_bad hQ)))⟩)
end
