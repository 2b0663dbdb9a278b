/-! Kinds of families. -/
theorem nI_b0 {o : Nat} (ho : o < 2) : nI o = 0 ∨ nI o = 1 := by
  rcases (show o = 0 ∨ o = 1 by omega) with rfl | rfl
  · exact Or.inl rfl
  · exact Or.inr rfl
theorem t_X6_kneelsAt {r o t : Nat} {σ : zM} {Q : zQ} (ho : o < 2) (h : Q (some (.int (nI o))) σ) : T_X6_kneelsAt [.ref r, .int (nI o), .int (nI t)] σ Q := by
  refine ⟨rfl, zFix_in ?_⟩
  exact And.intro (nI_b0 ho) h
theorem t_X2_kneelsAt {r o t : Nat} {σ : zM} {Q : zQ} (ho : o < 2) (ht : t < 2) (h : Q (some (.int (nI (if o = 0 then t else 1)))) σ) : T_X2_kneelsAt [.ref r, .int (nI o), .int (nI t)] σ Q := by
  refine ⟨rfl, zFix_in ?_⟩
  refine And.intro (fun c => ?_) (fun c => ?_)
  · rw [if_neg (fun e => c (by rw [e]; rfl))] at h
    exact zFix_in (And.intro (Or.inr rfl) h)
  · rw [if_pos (nI_inj (by omega) (by decide) c)] at h
    refine And.intro (fun d => ?_) (fun d => ?_)
    · rw [nI_inj (b := 0) (by omega) (by decide) d] at h
      exact And.intro (Or.inl rfl) h
    · have e : t = 1 := by
        rcases (show t = 0 ∨ t = 1 by omega) with e | e
        · exact absurd (by rw [e]; rfl) d
        · exact e
      rw [e] at h
      exact zFix_in (And.intro (Or.inr rfl) h)
theorem t_X4_kneelsAt {r o t : Nat} {σ : zM} {Q : zQ} (h : Q (some (.int 0)) σ) : T_X4_kneelsAt [.ref r, .int (nI o), .int (nI t)] σ Q :=
  ⟨rfl, zFix_in (And.intro (Or.inl rfl) h)⟩
theorem t_X10_kneelsAt {r o t : Nat} {σ : zM} {Q : zQ} (ho : o < 2) (ht : t < 2) (h : Q (some (.int (nI (if o = 0 then 0 else t)))) σ) : T_X10_kneelsAt [.ref r, .int (nI o), .int (nI t)] σ Q := by
  refine ⟨rfl, zFix_in ?_⟩
  refine And.intro (fun c => ?_) (fun c => ?_)
  · rw [if_pos (nI_inj (by omega) (by decide) c)] at h
    exact And.intro (Or.inl rfl) h
  · rw [if_neg (fun e => c (by rw [e]; rfl))] at h
    refine And.intro (fun d => ?_) (fun d => ?_)
    · rw [nI_inj (b := 0) (by omega) (by decide) d] at h
      exact And.intro (Or.inl rfl) h
    · have e : t = 1 := by
        rcases (show t = 0 ∨ t = 1 by omega) with e | e
        · exact absurd (by rw [e]; rfl) d
        · exact e
      rw [e] at h
      exact And.intro (Or.inr rfl) h
theorem t_X6_height {r tl kn : Nat} {σ : zM} {Q : zQ} (ht : tl < 100) (hk : kn < 2) (h : Q (some (.int (nI (zh0 tl kn)))) σ) : T_X6_height [.ref r, .int (nI tl), .int (nI kn)] σ Q := by
  refine ⟨rfl, zFix_in ?_⟩
  refine And.intro (fun c => ?_) (fun c => ?_)
  · rw [show zh0 tl kn = tl by unfold zh0; rw [if_pos (nI_inj (b := 0) (by omega) (by decide) c)]] at h
    exact h
  · rw [show zh0 tl kn = tl / 2 by unfold zh0; rw [if_neg (fun e => c (by rw [e]; rfl))], ← pk_div (d := 2) (by omega) (by decide) (by decide)] at h
    exact And.intro (by decide) h
theorem t_X6_sound {r v kn : Nat} {σ : zM} {Q : zQ} (ht : v < 100) (hk : kn < 2) (h : Q (some (.int (nI (zs0 v kn)))) σ) : T_X6_sound [.ref r, .int (nI v), .int (nI kn)] σ Q := by
  refine ⟨rfl, zFix_in ?_⟩
  refine And.intro (fun c => ?_) (fun c => ?_)
  · rw [show zs0 v kn = v by unfold zs0; rw [if_pos (nI_inj (b := 0) (by omega) (by decide) c)]] at h
    exact h
  · rw [show zs0 v kn = 0 by unfold zs0; rw [if_neg (fun e => c (by rw [e]; rfl))]] at h
    exact h
theorem mx0 {x d : Nat} (hx : x < 1000) (hd : d < 1000) : (if (0 : Int32) < nI x - nI d then nI x - nI d else 0) = nI (x - d) := by
  by_cases h : d ≤ x
  · rw [pk_sub h]
    by_cases e : x - d = 0
    · rw [e]; rfl
    · rw [if_pos]
      exact nI_lt (a := 0) (by omega) (by omega)
  · rw [if_neg, show x - d = 0 by omega]
    · rfl
    · have := pk_sneg (a := x) (b := d) (by omega) (by omega)
      intro q
      exact absurd (Int32.lt_trans q this) (by decide)
theorem zh0_lt {tl kn : Nat} : zh0 tl kn ≤ tl := by unfold zh0; split <;> omega
theorem zs0_lt {v kn : Nat} : zs0 v kn ≤ v := by unfold zs0; split <;> omega
theorem t_X0_height {r tl kn : Nat} {σ : zM} {Q : zQ} (hr : ¬ zoc r = 99) (ht : tl < 100) (hk : kn < 2) (h : Q (some (.int (nI (zh0 tl kn - 2)))) σ) : T_X0_height [.ref r, .int (nI tl), .int (nI kn)] σ Q := by
  refine ⟨rfl, zFix_in ?_⟩
  refine zci (zca (zbn hr) rfl) (t_X6_height ht hk ?_)
  have := @zh0_lt tl kn
  rw [← mx0 (by omega) (by decide)] at h
  exact h
theorem t_X4_height {r tl kn : Nat} {σ : zM} {Q : zQ} (hr : ¬ zoc r = 99) (ht : tl < 100) (hk : kn < 2) (h : Q (some (.int (nI (zh0 tl kn + 1)))) σ) : T_X4_height [.ref r, .int (nI tl), .int (nI kn)] σ Q := by
  refine ⟨rfl, zFix_in ?_⟩
  refine zci (zca (zbn hr) rfl) (t_X6_height ht hk ?_)
  rw [← nI_1] at h
  exact h
theorem t_X5_sound {r v kn : Nat} {σ : zM} {Q : zQ} (hr : ¬ zoc r = 99) (ht : v < 100) (hk : kn < 2) (h : Q (some (.int (nI (zs0 v kn / 2)))) σ) : T_X5_sound [.ref r, .int (nI v), .int (nI kn)] σ Q := by
  refine ⟨rfl, zFix_in ?_⟩
  refine zci (zca (zbn hr) rfl) (t_X6_sound ht hk ?_)
  have := @zs0_lt v kn
  rw [← pk_div (d := 2) (by omega) (by decide) (by decide)] at h
  exact And.intro (by decide) h
theorem t_X10_sound {r v kn : Nat} {σ : zM} {Q : zQ} (hr : ¬ zoc r = 99) (ht : v < 100) (hk : kn < 2) (h : Q (some (.int (nI (zs0 v kn - 1)))) σ) : T_X10_sound [.ref r, .int (nI v), .int (nI kn)] σ Q := by
  refine ⟨rfl, zFix_in ?_⟩
  refine zci (zca (zbn hr) rfl) (t_X6_sound ht hk ?_)
  have := @zs0_lt v kn
  rw [← mx0 (by omega) (by decide)] at h
  exact h
theorem t_kneelsAt {k o t : Nat} {σ : zM} {Q : zQ} (hk : k < 6) (ho : o < 2) (ht : t < 2) (h : Q (some (.int (nI (zkn k o t)))) σ) : D_kneelsAt (zoc (55 + k)) [.ref (55 + k), .int (nI o), .int (nI t)] σ Q := by
  match k, hk with
  | 0, _ => exact t_X6_kneelsAt ho h
  | 1, _ => exact t_X6_kneelsAt ho h
  | 2, _ => exact t_X2_kneelsAt ho ht h
  | 3, _ => exact t_X4_kneelsAt h
  | 4, _ => exact t_X6_kneelsAt ho h
  | 5, _ => exact t_X10_kneelsAt ho ht h
theorem t_height {k tl kn : Nat} {σ : zM} {Q : zQ} (hk : k < 6) (ht : tl < 100) (hn : kn < 2) (h : Q (some (.int (nI (zhi k tl kn)))) σ) : D_height (zoc (55 + k)) [.ref (55 + k), .int (nI tl), .int (nI kn)] σ Q := by
  match k, hk with
  | 0, _ => exact t_X6_height ht hn h
  | 1, _ => exact t_X6_height ht hn h
  | 2, _ => exact t_X6_height ht hn h
  | 3, _ => exact t_X4_height (by decide) ht hn h
  | 4, _ => exact t_X0_height (by decide) ht hn h
  | 5, _ => exact t_X6_height ht hn h
theorem t_sound {k v kn : Nat} {σ : zM} {Q : zQ} (hk : k < 6) (ht : v < 100) (hn : kn < 2) (h : Q (some (.int (nI (zso k v kn)))) σ) : D_sound (zoc (55 + k)) [.ref (55 + k), .int (nI v), .int (nI kn)] σ Q := by
  match k, hk with
  | 0, _ => exact t_X6_sound ht hn h
  | 1, _ => exact t_X5_sound (by decide) ht hn h
  | 2, _ => exact t_X6_sound ht hn h
  | 3, _ => exact t_X6_sound ht hn h
  | 4, _ => exact t_X5_sound (by decide) ht hn h
  | 5, _ => exact t_X10_sound (by decide) ht hn h
