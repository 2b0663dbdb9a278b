/-! The small machine's memory as cells of the heap, its locals as the frame's; the words that all methods share. -/
def zAll : List Cond := lw_tbl.filter goodWord
theorem zin {w : Cond} (h : w ∈ lw_tbl) (g : goodWord w = true) : w ∈ zAll := List.mem_filter.mpr ⟨h, g⟩
theorem zti {w : Cond} (i : Nat) (h : tables_1[i]? = some w) (g : goodWord w = true) : w ∈ zAll := zin (List.mem_append_right _ (List.mem_of_getElem? h)) g
theorem zgood {l : List Cond} (h : ∀ w ∈ l, w ∈ zAll) : GoodIn zAll l := fun w hw => ⟨h w hw, good_of_word (List.mem_filter.mp (h w hw)).2⟩
abbrev zCl : List vw_C := [(RX0, TX0, 0), (RX1, TX1, 16), (RX2, TX2, 0), (RX3, TX3, 6), (RX4, TX4, 0), (RX5, TX5, 0), (RX6, TX6, 0), (RX7, TX7, 3), (RX8, TX8, 10), (RX9, TX9, 6), (RX10, TX10, 0), (RX11, TX11, 11), (RX12, TX12, 25)]
abbrev zIds : Type := ClassId × ClassId × ClassId × ClassId
abbrev zTys (ids : zIds) : List (ClassId × FieldType) := [(ids.1, .int), (ids.2.1, .boolean), (ids.2.2.1, .object "EveryPew$Church"), (ids.2.2.2, .object "EveryPew$Plain")]
def zreal (ad : Nat → Nat) : Value → Value
  | .ref k => .ref (ad k)
  | v => v
def zFs (ad : Nat → Nat) (σ : zM) (k : Nat) : Nat → List Nat → List Value
  | _, [] => []
  | j, f :: l => zreal ad (zfld σ k j f) :: zFs ad σ k (j + 1) l
def zEnt (ad : Nat → Nat) (ids : zIds) (σ : zM) (k : Nat) : va_E := match zlay k with
  | (0, n, _) => .inl (ids.1, n, .inl (σ.1 k))
  | (1, n, _) => .inl (ids.2.1, n, .inl (σ.1 k))
  | (2, ci, l) => .inr (ci, zFs ad σ k 0 l)
  | (3, _, l) => .inl (ids.2.2.1, l.length, .inr (.inr (.inr (.inr (fun j => (l[j]?).map ad)))))
  | (4, _, l) => .inl (ids.2.2.2, l.length, .inr (.inr (.inr (.inr (fun j => (l[j]?).map ad)))))
  | _ => .inr (99, [])
def zWo (ad : Nat → Nat) (ids : zIds) (σ : zM) : va_W := (List.range zN).map (fun k => (ad k, zEnt ad ids σ k))
theorem zWo_get {ad : Nat → Nat} {ids : zIds} {σ : zM} {k : Nat} (h : k < zN) : (zWo ad ids σ)[k]? = some (ad k, zEnt ad ids σ k) := by
  simp [zWo, h]
theorem zWo_len {ad : Nat → Nat} {ids : zIds} {σ : zM} : (zWo ad ids σ).length = zN := by simp [zWo]
theorem zWo_set {ad : Nat → Nat} {ids : zIds} {σ τ : zM} {k : Nat} {e : va_E} (h : zEnt ad ids τ k = e) (ho : ∀ a, a ≠ k → zEnt ad ids τ a = zEnt ad ids σ a) : (zWo ad ids σ).set k (ad k, e) = zWo ad ids τ := by
  apply List.ext_getElem?
  intro i
  by_cases hi : i < zN
  · rw [zWo_get hi]
    by_cases hk : k = i
    · subst hk
      rw [List.getElem?_set_self (by rw [zWo_len]; exact hi), h]
    · rw [List.getElem?_set_ne hk, zWo_get hi, ho i (fun q => hk q.symm)]
  · rw [List.getElem?_eq_none (by rw [List.length_set, zWo_len]; omega), List.getElem?_eq_none (by rw [zWo_len]; omega)]
theorem zFs_congr {ad : Nat → Nat} {σ τ : zM} {k : Nat} (h1 : τ.1 k = σ.1 k) (h2 : τ.2 k = σ.2 k) : ∀ (l : List Nat) (j : Nat), zFs ad τ k j l = zFs ad σ k j l := by
  intro l
  induction l with
  | nil => intro j; rfl
  | cons f l ih =>
    intro j
    have e : zfld τ k j f = zfld σ k j f := by
      match f with
      | 0 => simp [zfld, h1]
      | 1 => simp [zfld, h2]
      | f + 2 => rfl
    simp only [zFs, e, ih]
theorem zEnt_congr {ad : Nat → Nat} {ids : zIds} {σ τ : zM} {k : Nat} (h1 : τ.1 k = σ.1 k) (h2 : τ.2 k = σ.2 k) : zEnt ad ids τ k = zEnt ad ids σ k := by
  unfold zEnt
  split <;> first | rfl | (rw [h1]) | (rw [zFs_congr h1 h2])
theorem zFs_get {ad : Nat → Nat} {σ : zM} {k : Nat} : ∀ (l : List Nat) (j i : Nat), (zFs ad σ k j l)[i]? = (l[i]?).map (fun f => zreal ad (zfld σ k (j + i) f)) := by
  intro l
  induction l with
  | nil => intro j i; simp [zFs]
  | cons f l ih =>
    intro j i
    cases i with
    | zero => simp [zFs]
    | succ i => simp only [zFs, List.getElem?_cons_succ]; rw [ih]; simp [Nat.add_assoc, Nat.add_comm 1 i]
theorem zFs_len {ad : Nat → Nat} {σ : zM} {k : Nat} : ∀ (l : List Nat) (j : Nat), (zFs ad σ k j l).length = l.length := by
  intro l
  induction l with
  | nil => intro j; rfl
  | cons f l ih => intro j; simp [zFs, ih]
-- the layout, read off
def zfl (k : Nat) : List Nat := (zlay k).2.2
theorem zlay_out {k : Nat} (h : 100 ≤ k) : zlay k = (9, 0, []) := by
  unfold zlay
  rw [List.getD_eq_getElem?_getD, List.getElem?_eq_none (by show 100 ≤ k; exact h)]
  rfl
theorem zlay_dec (P : Nat → Nat × Nat × List Nat → Prop) (h1 : ∀ k, k < 100 → P k (zlay k)) (h2 : ∀ k, P k (9, 0, [])) : ∀ k, P k (zlay k) := by
  intro k
  by_cases h : k < 100
  · exact h1 k h
  · rw [zlay_out (by omega)]
    exact h2 k
theorem zlay_lt : ∀ k, (zlay k).1 < 5 → k < zN := zlay_dec (fun k t => t.1 < 5 → k < zN) (by decide +kernel) (fun k h => absurd h (by simp))
theorem zil_lay {k : Nat} (h : ¬ zil k = 0) : k < zN ∧ ∃ l, zlay k = (0, zil k, l) := by
  unfold zil at h ⊢
  split at h
  · rename_i n l e
    refine ⟨zlay_lt k (by rw [e]; exact Nat.le_of_ble_eq_true rfl), l, ?_⟩
    rw [e]
  · exact absurd rfl h
theorem zbl_lay {k : Nat} (h : ¬ zbl k = 0) : k < zN ∧ ∃ l, zlay k = (1, zbl k, l) := by
  unfold zbl at h ⊢
  split at h
  · rename_i n l e
    refine ⟨zlay_lt k (by rw [e]; exact Nat.le_of_ble_eq_true rfl), l, ?_⟩
    rw [e]
  · exact absurd rfl h
theorem zoc_lay {k : Nat} (h : ¬ zoc k = 99) : k < zN ∧ zlay k = (2, zoc k, zfl k) := by
  unfold zoc zfl at *
  split at h
  · rename_i n l e
    refine ⟨zlay_lt k (by rw [e]; exact Nat.le_of_ble_eq_true rfl), ?_⟩
    rw [e]
  · exact absurd rfl h
theorem zrl_lay {k : Nat} (h : ¬ zrl k = 0) : k < zN ∧ ((∃ n, zlay k = (3, n, zfl k)) ∨ ∃ n, zlay k = (4, n, zfl k)) ∧ zrl k = (zfl k).length ∧ ∀ j, zrt k j = (zfl k).getD j 0 := by
  unfold zrl zrt zfl at *
  split at h
  · rename_i n l e
    refine ⟨zlay_lt k (by rw [e]; exact Nat.le_of_ble_eq_true rfl), Or.inl ⟨n, by rw [e]⟩, by rw [e], fun j => by rw [e]⟩
  · rename_i n l e
    refine ⟨zlay_lt k (by rw [e]; exact Nat.le_of_ble_eq_true rfl), Or.inr ⟨n, by rw [e]⟩, by rw [e], fun j => by rw [e]⟩
  · exact absurd rfl h
theorem zfl_len : ∀ k, (zlay k).1 = 2 → (zlay k).2.2.length = ((zCl[(zlay k).2.1]?).map (fun q => q.2.2)).getD 77 := zlay_dec (fun _ t => t.1 = 2 → t.2.2.length = ((zCl[t.2.1]?).map (fun q => q.2.2)).getD 77) (by decide +kernel) (fun k h => absurd h (by simp))
theorem zWo_i {ad : Nat → Nat} {ids : zIds} {σ : zM} {k : Nat} (h : ¬ zil k = 0) : (zWo ad ids σ)[k]? = some (ad k, .inl (ids.1, zil k, .inl (σ.1 k))) := by
  obtain ⟨h1, l, h2⟩ := zil_lay h
  rw [zWo_get h1]
  simp only [zEnt]
  rw [h2]
  rfl
theorem zWo_z {ad : Nat → Nat} {ids : zIds} {σ : zM} {k : Nat} (h : ¬ zbl k = 0) : (zWo ad ids σ)[k]? = some (ad k, .inl (ids.2.1, zbl k, .inl (σ.1 k))) := by
  obtain ⟨h1, l, h2⟩ := zbl_lay h
  rw [zWo_get h1]
  simp only [zEnt]
  rw [h2]
  rfl
theorem zWo_o {ad : Nat → Nat} {ids : zIds} {σ : zM} {k : Nat} (h : ¬ zoc k = 99) : (zWo ad ids σ)[k]? = some (ad k, .inr (zoc k, zFs ad σ k 0 (zfl k))) := by
  obtain ⟨h1, h2⟩ := zoc_lay h
  rw [zWo_get h1]
  simp only [zEnt]
  rw [h2]
  rfl
theorem zil_in {i : Int32} {k : Nat} (h : vp_in i (zil k)) : ¬ zil k = 0 := fun e => h (Or.inr (by rw [e]; exact Nat.zero_le _))
theorem zbl_in {i : Int32} {k : Nat} (h : vp_in i (zbl k)) : ¬ zbl k = 0 := fun e => h (Or.inr (by rw [e]; exact Nat.zero_le _))
theorem zrl_in {i : Int32} {k : Nat} (h : vp_in i (zrl k)) : ¬ zrl k = 0 := fun e => h (Or.inr (by rw [e]; exact Nat.zero_le _))
theorem zput_ne {σ : zM} {k j a : Nat} {v : Int32} (h : a ≠ k) : (zput σ k j v).1 a = σ.1 a := by
  funext b; simp [zput, h]
theorem zput_eq {σ : zM} {k j : Nat} {v : Int32} : (zput σ k j v).1 k = upd (σ.1 k) j v := by
  funext b; simp [zput, upd]
theorem zcpy_ne {σ : zM} {o d sp dp n a : Nat} (h : a ≠ d) : (zcpy σ o d sp dp n).1 a = σ.1 a := by
  simp [zcpy, h]
theorem zput_i {ad : Nat → Nat} {ids : zIds} {σ : zM} {k j : Nat} {v : Int32} (h : ¬ zil k = 0) : (zWo ad ids σ).set k (ad k, .inl (ids.1, zil k, .inl (upd (σ.1 k) j v))) = zWo ad ids (zput σ k j v) := by
  refine zWo_set ?_ (fun a ha => zEnt_congr (zput_ne ha) rfl)
  obtain ⟨h1, l, h2⟩ := zil_lay h
  simp only [zEnt]
  rw [h2, zput_eq]
  rfl
theorem zput_z {ad : Nat → Nat} {ids : zIds} {σ : zM} {k j : Nat} {v : Int32} (h : ¬ zbl k = 0) : (zWo ad ids σ).set k (ad k, .inl (ids.2.1, zbl k, .inl (upd (σ.1 k) j v))) = zWo ad ids (zput σ k j v) := by
  refine zWo_set ?_ (fun a ha => zEnt_congr (zput_ne ha) rfl)
  obtain ⟨h1, l, h2⟩ := zbl_lay h
  simp only [zEnt]
  rw [h2, zput_eq]
  rfl
theorem zcpy_i {ad : Nat → Nat} {ids : zIds} {σ : zM} {o k sp dp n : Nat} (h : ¬ zil k = 0) : (zWo ad ids σ).set k (ad k, .inl (ids.1, zil k, .inl (va_cpy (σ.1 o) (σ.1 k) sp dp n))) = zWo ad ids (zcpy σ o k sp dp n) := by
  refine zWo_set ?_ (fun a ha => zEnt_congr (zcpy_ne ha) rfl)
  obtain ⟨h1, l, h2⟩ := zil_lay h
  simp only [zEnt]
  rw [h2]
  show Sum.inl _ = Sum.inl _
  simp [zcpy]
theorem zFs_set {ad : Nat → Nat} {σ τ : zM} {k j : Nat} {l : List Nat} {v : Value} (hj : ∀ f, l[j]? = some f → zreal ad (zfld τ k j f) = v) (ho : ∀ i f, i ≠ j → l[i]? = some f → zfld τ k i f = zfld σ k i f) : (zFs ad σ k 0 l).set j v = zFs ad τ k 0 l := by
  apply List.ext_getElem?
  intro i
  by_cases hi : i < l.length
  · rw [zFs_get, List.getElem?_eq_getElem hi]
    by_cases hk : j = i
    · subst hk
      rw [List.getElem?_set_self (by rw [zFs_len]; exact hi), Option.map_some, Nat.zero_add, hj _ (List.getElem?_eq_getElem hi)]
    · rw [List.getElem?_set_ne hk, zFs_get, List.getElem?_eq_getElem hi, Option.map_some, Option.map_some, Nat.zero_add, ho i _ (fun q => hk q.symm) (List.getElem?_eq_getElem hi)]
  · rw [List.getElem?_eq_none (by rw [List.length_set, zFs_len]; omega), List.getElem?_eq_none (by rw [zFs_len]; omega)]
theorem zput_o {ad : Nat → Nat} {ids : zIds} {σ : zM} {k j : Nat} {v : Int32} (h : ¬ zoc k = 99) (hf : (zfl k).getD j 0 = 0) : (zWo ad ids σ).set k (ad k, .inr (zoc k, (zFs ad σ k 0 (zfl k)).set j (.int v))) = zWo ad ids (zput σ k j v) := by
  refine zWo_set ?_ (fun a ha => zEnt_congr (zput_ne ha) rfl)
  obtain ⟨h1, h2⟩ := zoc_lay h
  simp only [zEnt]
  rw [h2]
  show Sum.inr (zoc k, zFs ad (zput σ k j v) k 0 (zfl k)) = _
  rw [zFs_set (τ := zput σ k j v)]
  · intro f hf2
    rw [List.getD_eq_getElem?_getD, hf2] at hf
    have : f = 0 := hf
    subst this
    simp [zfld, zput, zreal]
  · intro i f hi _
    match f with
    | 0 => simp [zfld, zput, hi]
    | 1 => rfl
    | f + 2 => rfl
theorem zputl_o {ad : Nat → Nat} {ids : zIds} {σ : zM} {k j : Nat} {v : Int64} (h : ¬ zoc k = 99) (hf : (zfl k).getD j 0 = 1) : (zWo ad ids σ).set k (ad k, .inr (zoc k, (zFs ad σ k 0 (zfl k)).set j (.long v))) = zWo ad ids (zputl σ k j v) := by
  refine zWo_set ?_ (fun a ha => zEnt_congr rfl ?_)
  · obtain ⟨h1, h2⟩ := zoc_lay h
    simp only [zEnt]
    rw [h2]
    show Sum.inr (zoc k, zFs ad (zputl σ k j v) k 0 (zfl k)) = _
    rw [zFs_set (τ := zputl σ k j v)]
    · intro f hf2
      rw [List.getD_eq_getElem?_getD, hf2] at hf
      have : f = 1 := hf
      subst this
      simp [zfld, zputl, zreal]
    · intro i f hi _
      match f with
      | 0 => rfl
      | 1 => simp [zfld, zputl, hi]
      | f + 2 => rfl
  · funext b; simp [zputl, ha]
theorem zft_fl {k j : Nat} (h : ¬ zoc k = 99) : zft k j = (zfl k).getD j 0 := by
  obtain ⟨h1, h2⟩ := zoc_lay h
  unfold zft
  rw [h2]
  rfl
-- locals
def zLs (ad : Nat → Nat) (nL : Nat) (ls : List Value) (lsr : Array Slot) : Prop := lsr.size = nL ∧ lv_wf lsr ∧ ∀ (i : Nat) (v : Value), ls[i]? = some v → v ≠ .null → lsr[i]? = some (.val (zreal ad v))
theorem zget_at : ∀ {ls : List Value} {i : Nat} {v : Value}, zget ls i = v → v ≠ .null → ls[i]? = some v := by
  intro ls
  induction ls with
  | nil => intro i v h hn; simp [zget] at h; exact absurd h.symm hn
  | cons x l ih =>
    intro i v h hn
    cases i with
    | zero => simp [zget] at h; simp [h]
    | succ i => simp only [zget] at h; simpa using ih h hn
theorem zLs.at {ad : Nat → Nat} {nL : Nat} {ls : List Value} {lsr : Array Slot} (h : zLs ad nL ls lsr) {i : Nat} {v : Value} (hv : zget ls i = v) (hn : v ≠ .null) : lsr[i]? = some (.val (zreal ad v)) := h.2.2 i v (zget_at hv hn) hn
def zprs (ad : Nat → Nat) : Nat → List Value → List (Nat × Value)
  | _, [] => []
  | k, .null :: l => zprs ad (k + 1) l
  | k, v :: l => (k, zreal ad v) :: zprs ad (k + 1) l
theorem zprs_mem {ad : Nat → Nat} {q : Nat × Value} : ∀ {l : List Value} {k : Nat}, q ∈ zprs ad k l ↔ ∃ (i : Nat) (v : Value), l[i]? = some v ∧ v ≠ .null ∧ q = (k + i, zreal ad v) := by
  intro l
  induction l with
  | nil => intro k; simp [zprs]
  | cons x l ih =>
    intro k
    have tail : (∃ (i : Nat) (v : Value), l[i]? = some v ∧ v ≠ .null ∧ q = (k + 1 + i, zreal ad v)) ↔ ∃ (i : Nat) (v : Value), 0 < i ∧ (x :: l)[i]? = some v ∧ v ≠ .null ∧ q = (k + i, zreal ad v) := by
      constructor
      · rintro ⟨i, v, h1, h2, h3⟩
        exact ⟨i + 1, v, Nat.succ_pos i, by simpa using h1, h2, by rw [h3, Nat.add_assoc, Nat.add_comm 1 i]⟩
      · rintro ⟨i, v, h0, h1, h2, h3⟩
        obtain ⟨j, rfl⟩ : ∃ j, i = j + 1 := ⟨i - 1, by omega⟩
        exact ⟨j, v, by simpa using h1, h2, by rw [h3, Nat.add_assoc, Nat.add_comm 1 j]⟩
    by_cases hx : x = .null
    · subst hx
      show q ∈ zprs ad (k + 1) l ↔ _
      rw [ih, tail]
      constructor
      · rintro ⟨i, v, -, h⟩; exact ⟨i, v, h⟩
      · rintro ⟨i, v, h1, h2, h3⟩
        cases i with
        | zero => simp at h1; exact absurd h1.symm h2
        | succ i => exact ⟨i + 1, v, Nat.succ_pos i, h1, h2, h3⟩
    · have e : zprs ad k (x :: l) = (k, zreal ad x) :: zprs ad (k + 1) l := by
        cases x <;> first | rfl | exact absurd rfl hx
      rw [e, List.mem_cons, ih, tail]
      constructor
      · rintro (h | ⟨i, v, -, h⟩)
        · exact ⟨0, x, rfl, hx, by simpa using h⟩
        · exact ⟨i, v, h⟩
      · rintro ⟨i, v, h1, h2, h3⟩
        cases i with
        | zero => simp at h1; subst h1; exact Or.inl (by simpa using h3)
        | succ i => exact Or.inr ⟨i + 1, v, Nat.succ_pos i, h1, h2, h3⟩
theorem zLs.has {ad : Nat → Nat} {nL : Nat} {ls : List Value} {lsr : Array Slot} (h : zLs ad nL ls lsr) : lv_has lsr nL (zprs ad 0 ls) := by
  refine ⟨h.1, h.2.1, fun q hq => ?_⟩
  obtain ⟨i, v, h1, h2, h3⟩ := zprs_mem.mp hq
  rw [h3, Nat.zero_add]
  exact h.2.2 i v h1 h2
theorem zcat (ad : Nat → Nat) (v : Value) : (zreal ad v).category = v.category := by cases v <;> rfl
theorem zst_get : ∀ {ls : List Value} {i j : Nat} {v u : Value}, (zst ls i v)[j]? = some u → u ≠ .null → (j = i ∧ u = v) ∨ (j ≠ i ∧ ls[j]? = some u ∧ (j + 1 = i → u.category ≠ 2)) := by
  intro ls
  induction ls with
  | nil =>
    intro i
    induction i with
    | zero =>
      intro j v u h hn
      cases j with
      | zero => simp [zst] at h; exact Or.inl ⟨rfl, h.symm⟩
      | succ j => simp [zst] at h
    | succ i ih =>
      intro j v u h hn
      cases j with
      | zero => simp [zst] at h; exact absurd h.symm hn
      | succ j =>
        simp only [zst, List.getElem?_cons_succ] at h
        rcases ih h hn with ⟨h1, h2⟩ | ⟨h1, h2, h3⟩
        · exact Or.inl ⟨by omega, h2⟩
        · simp at h2
  | cons x l ih =>
    intro i j v u h hn
    cases i with
    | zero =>
      cases j with
      | zero => simp [zst] at h; exact Or.inl ⟨rfl, h.symm⟩
      | succ j => simp only [zst, List.getElem?_cons_succ] at h; exact Or.inr ⟨by omega, by simpa using h, fun q => by omega⟩
    | succ i =>
      cases j with
      | zero =>
        simp only [zst, List.getElem?_cons_zero, Option.some.injEq] at h
        refine Or.inr ⟨by omega, ?_, fun q => ?_⟩
        · cases i with
          | zero => cases x <;> simp_all [zcl]
          | succ i => cases x <;> simp_all [zcl]
        · have : i = 0 := by omega
          subst this
          cases x <;> simp_all [zcl] <;> (subst h; simp [Value.category])
      | succ j =>
        simp only [zst, List.getElem?_cons_succ] at h
        rcases ih h hn with ⟨h1, h2⟩ | ⟨h1, h2, h3⟩
        · exact Or.inl ⟨by omega, h2⟩
        · exact Or.inr ⟨by omega, by simpa using h2, fun q => h3 (by omega)⟩
theorem zstl_get : ∀ {ls : List Value} {i j : Nat} {v u : Value}, (zstl ls i v)[j]? = some u → u ≠ .null → (j = i ∧ u = v) ∨ (j ≠ i ∧ j ≠ i + 1 ∧ ls[j]? = some u ∧ (j + 1 = i → u.category ≠ 2)) := by
  intro ls
  induction ls with
  | nil =>
    intro i
    induction i with
    | zero =>
      intro j v u h hn
      match j with
      | 0 => simp [zstl] at h; exact Or.inl ⟨rfl, h.symm⟩
      | 1 => simp [zstl] at h; exact absurd h.symm hn
      | j + 2 => simp [zstl] at h
    | succ i ih =>
      intro j v u h hn
      cases j with
      | zero => simp [zstl] at h; exact absurd h.symm hn
      | succ j =>
        simp only [zstl, List.getElem?_cons_succ] at h
        rcases ih h hn with ⟨h1, h2⟩ | ⟨h1, h2, h3, h4⟩
        · exact Or.inl ⟨by omega, h2⟩
        · simp at h3
  | cons x l ih =>
    intro i j v u h hn
    cases i with
    | zero =>
      cases l with
      | nil =>
        match j with
        | 0 => simp [zstl] at h; exact Or.inl ⟨rfl, h.symm⟩
        | 1 => simp [zstl] at h; exact absurd h.symm hn
        | j + 2 => simp [zstl] at h
      | cons y l =>
        match j with
        | 0 => simp [zstl] at h; exact Or.inl ⟨rfl, h.symm⟩
        | 1 => simp [zstl] at h; exact absurd h.symm hn
        | j + 2 => simp only [zstl, List.getElem?_cons_succ] at h; exact Or.inr ⟨by omega, by omega, by simpa using h, fun q => by omega⟩
    | succ i =>
      have e : zstl (x :: l) (i + 1) v = zcl i x :: zstl l i v := by cases l <;> rfl
      rw [e] at h
      cases j with
      | zero =>
        simp only [List.getElem?_cons_zero, Option.some.injEq] at h
        refine Or.inr ⟨by omega, by omega, ?_, fun q => ?_⟩
        · cases i with
          | zero => cases x <;> simp_all [zcl]
          | succ i => cases x <;> simp_all [zcl]
        · have : i = 0 := by omega
          subst this
          cases x <;> simp_all [zcl] <;> (subst h; simp [Value.category])
      | succ j =>
        simp only [List.getElem?_cons_succ] at h
        rcases ih h hn with ⟨h1, h2⟩ | ⟨h1, h2, h3, h4⟩
        · exact Or.inl ⟨by omega, h2⟩
        · exact Or.inr ⟨by omega, by omega, by simpa using h3, fun q => h4 (by omega)⟩
theorem zkp_get : ∀ {mk : List Bool} {ls : List Value} {j : Nat} {u : Value}, (zkp mk ls)[j]? = some u → u ≠ .null → ls[j]? = some u := by
  intro mk
  induction mk with
  | nil => intro ls j u h hn; simp [zkp] at h
  | cons b mk ih =>
    intro ls j u h hn
    cases ls with
    | nil =>
      cases j with
      | zero => simp [zkp] at h; exact absurd h.symm hn
      | succ j => simp only [zkp, List.getElem?_cons_succ] at h; have := ih h hn; simp at this
    | cons x l =>
      cases b with
      | false =>
        cases j with
        | zero => simp [zkp] at h; exact absurd h.symm hn
        | succ j => simp only [zkp, List.getElem?_cons_succ] at h; simpa using ih h hn
      | true =>
        cases j with
        | zero => simp [zkp] at h; simp [h]
        | succ j => simp only [zkp, List.getElem?_cons_succ] at h; simpa using ih h hn
theorem zLs.kp {ad : Nat → Nat} {nL : Nat} {ls : List Value} {lsr : Array Slot} (h : zLs ad nL ls lsr) (mk : List Bool) : zLs ad nL (zkp mk ls) lsr := ⟨h.1, h.2.1, fun i v h1 h2 => h.2.2 i v (zkp_get h1 h2) h2⟩
theorem zLs.st {ad : Nat → Nat} {nL : Nat} {ls : List Value} {lsr' : Array Slot} {i : Nat} {v : Value} (h : lv_has lsr' nL ((i, zreal ad v) :: (zprs ad 0 ls).filter (fun q => !(q.1 == i) && !(q.1 + 1 == i && q.2.category == 2)))) : zLs ad nL (zst ls i v) lsr' := by
  refine ⟨h.1, h.2.1, fun j u hj hu => ?_⟩
  rcases zst_get hj hu with ⟨h1, h2⟩ | ⟨h1, h2, h3⟩
  · subst h1; subst h2
    exact h.2.2 _ List.mem_cons_self
  · refine h.2.2 (j, zreal ad u) (List.mem_cons_of_mem _ (List.mem_filter.mpr ⟨zprs_mem.mpr ⟨j, u, h2, hu, by rw [Nat.zero_add]⟩, ?_⟩))
    simp only [Bool.and_eq_true, Bool.not_eq_true', beq_eq_false_iff_ne, ne_eq, Bool.and_eq_false_iff]
    refine ⟨h1, ?_⟩
    by_cases q : j + 1 = i
    · exact Or.inr (by rw [zcat]; exact h3 q)
    · exact Or.inl q
theorem zLs.stl {ad : Nat → Nat} {nL : Nat} {ls : List Value} {lsr' : Array Slot} {i : Nat} {v : Value} (h : lv_has lsr' nL ((i, zreal ad v) :: (zprs ad 0 ls).filter (fun q => !(q.1 == i) && (!(q.1 == i + 1) && !(q.1 + 1 == i && q.2.category == 2))))) : zLs ad nL (zstl ls i v) lsr' := by
  refine ⟨h.1, h.2.1, fun j u hj hu => ?_⟩
  rcases zstl_get hj hu with ⟨h1, h2⟩ | ⟨h1, h1', h2, h3⟩
  · subst h1; subst h2
    exact h.2.2 _ List.mem_cons_self
  · refine h.2.2 (j, zreal ad u) (List.mem_cons_of_mem _ (List.mem_filter.mpr ⟨zprs_mem.mpr ⟨j, u, h2, hu, by rw [Nat.zero_add]⟩, ?_⟩))
    simp only [Bool.and_eq_true, Bool.not_eq_true', beq_eq_false_iff_ne, ne_eq, Bool.and_eq_false_iff]
    refine ⟨h1, h1', ?_⟩
    by_cases q : j + 1 = i
    · exact Or.inr (by rw [zcat]; exact h3 q)
    · exact Or.inl q
theorem zlc_get {ad : Nat → Nat} : ∀ {vs : List Value} {k j : Nat} {u : Value}, (zlc vs)[j]? = some u → u ≠ .null → (k + j, zreal ad u) ∈ lv_args k (vs.map (zreal ad)) := by
  intro vs
  induction vs with
  | nil => intro k j u h hn; simp [zlc] at h
  | cons x l ih =>
    intro k j u h hn
    by_cases hc : x.category = 2
    · have e : zlc (x :: l) = x :: .null :: zlc l := by cases x <;> first | rfl | (simp [Value.category] at hc)
      rw [e] at h
      simp only [List.map_cons, lv_args, zcat, hc, if_true]
      match j with
      | 0 => simp at h; subst h; exact List.mem_cons_self
      | 1 => simp at h; exact absurd h.symm hn
      | j + 2 =>
        simp only [List.getElem?_cons_succ] at h
        have := ih (k := k + 2) h hn
        rw [show k + (j + 2) = k + 2 + j by omega]
        exact List.mem_cons_of_mem _ this
    · have e : zlc (x :: l) = x :: zlc l := by cases x <;> first | rfl | (exact absurd rfl hc)
      rw [e] at h
      simp only [List.map_cons, lv_args, zcat, hc, if_false]
      match j with
      | 0 => simp at h; subst h; exact List.mem_cons_self
      | j + 1 =>
        simp only [List.getElem?_cons_succ] at h
        have := ih (k := k + 1) h hn
        rw [show k + (j + 1) = k + 1 + j by omega]
        exact List.mem_cons_of_mem _ this
theorem zLs.entry {ad : Nat → Nat} {nL : Nat} {vs : List Value} {lsr : Array Slot} (h : lv_has lsr nL (lv_args 0 (vs.map (zreal ad)))) : zLs ad nL (zlc vs) lsr := by
  refine ⟨h.1, h.2.1, fun j u hj hu => ?_⟩
  have := h.2.2 _ (zlc_get (ad := ad) (k := 0) hj hu)
  rwa [Nat.zero_add] at this
theorem zsp_spec : ∀ {n : Nat} {acc st vs r : List Value}, zsp n acc st = some (vs, r) → ∃ ws, vs = ws ++ acc ∧ st = ws.reverse ++ r ∧ ws.length = n := by
  intro n
  induction n with
  | zero => intro acc st vs r h; simp [zsp] at h; exact ⟨[], by simp [h.1], by simp [h.2], rfl⟩
  | succ n ih =>
    intro acc st vs r h
    cases st with
    | nil => simp [zsp] at h
    | cons v st =>
      simp only [zsp] at h
      obtain ⟨ws, h1, h2, h3⟩ := ih h
      exact ⟨ws ++ [v], by simp [h1], by simp [h2], by simp [h3]⟩
theorem zsp_st {n : Nat} {st vs r : List Value} (h : zsp n [] st = some (vs, r)) : st = vs.reverse ++ r ∧ vs.length = n := by
  obtain ⟨ws, h1, h2, h3⟩ := zsp_spec h
  rw [List.append_nil] at h1
  subst h1
  exact ⟨h2, h3⟩
theorem zsm_le {ad : Nat → Nat} : ∀ {r : List Value}, zsm r = true → ((r.map (zreal ad)).map fun v => v.category).sum ≤ 8 := by
  intro r h
  have c2 : ∀ v : Value, (zreal ad v).category ≤ 2 := fun v => by rcases lv_cat (zreal ad v) with h | h <;> omega
  match r, h with
  | [], _ => simp
  | [a], _ => simp; have := c2 a; omega
  | [a, b], _ => simp; have := c2 a; have := c2 b; omega
  | [a, b, d], _ => simp; have := c2 a; have := c2 b; have := c2 d; omega
  | [a, b, d, e], _ => simp; have := c2 a; have := c2 b; have := c2 d; have := c2 e; omega
