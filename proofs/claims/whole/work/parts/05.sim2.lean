/-! Fields, arrays, copies, calls, returns; a method out of its blocks. -/
-- every class's own words are shared
theorem zu0 : ∀ w ∈ u_ws RX0 TX0 0, w ∈ zAll := by simp [u_ws]
theorem zu1 : ∀ w ∈ u_ws RX1 TX1 16, w ∈ zAll := by
  intro w hw
  obtain ⟨k, hk, rfl⟩ := List.mem_map.mp hw
  have hk := List.mem_range.mp hk
  match k, hk with
  | 0, _ => exact zti 79 (by decide +kernel) (by decide +kernel)
  | 1, _ => exact zti 81 (by decide +kernel) (by decide +kernel)
  | 2, _ => exact zti 83 (by decide +kernel) (by decide +kernel)
  | 3, _ => exact zti 85 (by decide +kernel) (by decide +kernel)
  | 4, _ => exact zti 87 (by decide +kernel) (by decide +kernel)
  | 5, _ => exact zti 89 (by decide +kernel) (by decide +kernel)
  | 6, _ => exact zti 91 (by decide +kernel) (by decide +kernel)
  | 7, _ => exact zti 93 (by decide +kernel) (by decide +kernel)
  | 8, _ => exact zti 95 (by decide +kernel) (by decide +kernel)
  | 9, _ => exact zti 97 (by decide +kernel) (by decide +kernel)
  | 10, _ => exact zti 99 (by decide +kernel) (by decide +kernel)
  | 11, _ => exact zti 101 (by decide +kernel) (by decide +kernel)
  | 12, _ => exact zti 103 (by decide +kernel) (by decide +kernel)
  | 13, _ => exact zti 105 (by decide +kernel) (by decide +kernel)
  | 14, _ => exact zti 107 (by decide +kernel) (by decide +kernel)
  | 15, _ => exact zti 109 (by decide +kernel) (by decide +kernel)
  | k + 16, h => exact absurd h (by omega)
theorem zu2 : ∀ w ∈ u_ws RX2 TX2 0, w ∈ zAll := by simp [u_ws]
theorem zu3 : ∀ w ∈ u_ws RX3 TX3 6, w ∈ zAll := by
  intro w hw
  obtain ⟨k, hk, rfl⟩ := List.mem_map.mp hw
  have hk := List.mem_range.mp hk
  match k, hk with
  | 0, _ => exact zti 257 (by decide +kernel) (by decide +kernel)
  | 1, _ => exact zti 259 (by decide +kernel) (by decide +kernel)
  | 2, _ => exact zti 261 (by decide +kernel) (by decide +kernel)
  | 3, _ => exact zti 263 (by decide +kernel) (by decide +kernel)
  | 4, _ => exact zti 265 (by decide +kernel) (by decide +kernel)
  | 5, _ => exact zti 267 (by decide +kernel) (by decide +kernel)
  | k + 6, h => exact absurd h (by omega)
theorem zu4 : ∀ w ∈ u_ws RX4 TX4 0, w ∈ zAll := by simp [u_ws]
theorem zu5 : ∀ w ∈ u_ws RX5 TX5 0, w ∈ zAll := by simp [u_ws]
theorem zu6 : ∀ w ∈ u_ws RX6 TX6 0, w ∈ zAll := by simp [u_ws]
theorem zu7 : ∀ w ∈ u_ws RX7 TX7 3, w ∈ zAll := by
  intro w hw
  obtain ⟨k, hk, rfl⟩ := List.mem_map.mp hw
  have hk := List.mem_range.mp hk
  match k, hk with
  | 0, _ => exact zti 235 (by decide +kernel) (by decide +kernel)
  | 1, _ => exact zti 237 (by decide +kernel) (by decide +kernel)
  | 2, _ => exact zti 239 (by decide +kernel) (by decide +kernel)
  | k + 3, h => exact absurd h (by omega)
theorem zu8 : ∀ w ∈ u_ws RX8 TX8 10, w ∈ zAll := by
  intro w hw
  obtain ⟨k, hk, rfl⟩ := List.mem_map.mp hw
  have hk := List.mem_range.mp hk
  match k, hk with
  | 0, _ => exact zti 205 (by decide +kernel) (by decide +kernel)
  | 1, _ => exact zti 207 (by decide +kernel) (by decide +kernel)
  | 2, _ => exact zti 209 (by decide +kernel) (by decide +kernel)
  | 3, _ => exact zti 211 (by decide +kernel) (by decide +kernel)
  | 4, _ => exact zti 213 (by decide +kernel) (by decide +kernel)
  | 5, _ => exact zti 215 (by decide +kernel) (by decide +kernel)
  | 6, _ => exact zti 217 (by decide +kernel) (by decide +kernel)
  | 7, _ => exact zti 219 (by decide +kernel) (by decide +kernel)
  | 8, _ => exact zti 221 (by decide +kernel) (by decide +kernel)
  | 9, _ => exact zti 223 (by decide +kernel) (by decide +kernel)
  | k + 10, h => exact absurd h (by omega)
theorem zu9 : ∀ w ∈ u_ws RX9 TX9 6, w ∈ zAll := by
  intro w hw
  obtain ⟨k, hk, rfl⟩ := List.mem_map.mp hw
  have hk := List.mem_range.mp hk
  match k, hk with
  | 0, _ => exact zti 127 (by decide +kernel) (by decide +kernel)
  | 1, _ => exact zti 129 (by decide +kernel) (by decide +kernel)
  | 2, _ => exact zti 131 (by decide +kernel) (by decide +kernel)
  | 3, _ => exact zti 133 (by decide +kernel) (by decide +kernel)
  | 4, _ => exact zti 135 (by decide +kernel) (by decide +kernel)
  | 5, _ => exact zti 137 (by decide +kernel) (by decide +kernel)
  | k + 6, h => exact absurd h (by omega)
theorem zu10 : ∀ w ∈ u_ws RX10 TX10 0, w ∈ zAll := by simp [u_ws]
theorem zu11 : ∀ w ∈ u_ws RX11 TX11 11, w ∈ zAll := by
  intro w hw
  obtain ⟨k, hk, rfl⟩ := List.mem_map.mp hw
  have hk := List.mem_range.mp hk
  match k, hk with
  | 0, _ => exact zti 281 (by decide +kernel) (by decide +kernel)
  | 1, _ => exact zti 283 (by decide +kernel) (by decide +kernel)
  | 2, _ => exact zti 285 (by decide +kernel) (by decide +kernel)
  | 3, _ => exact zti 287 (by decide +kernel) (by decide +kernel)
  | 4, _ => exact zti 289 (by decide +kernel) (by decide +kernel)
  | 5, _ => exact zti 291 (by decide +kernel) (by decide +kernel)
  | 6, _ => exact zti 293 (by decide +kernel) (by decide +kernel)
  | 7, _ => exact zti 295 (by decide +kernel) (by decide +kernel)
  | 8, _ => exact zti 297 (by decide +kernel) (by decide +kernel)
  | 9, _ => exact zti 299 (by decide +kernel) (by decide +kernel)
  | 10, _ => exact zti 301 (by decide +kernel) (by decide +kernel)
  | k + 11, h => exact absurd h (by omega)
theorem zu12 : ∀ w ∈ u_ws RX12 TX12 25, w ∈ zAll := by
  intro w hw
  obtain ⟨k, hk, rfl⟩ := List.mem_map.mp hw
  have hk := List.mem_range.mp hk
  match k, hk with
  | 0, _ => exact zti 866 (by decide +kernel) (by decide +kernel)
  | 1, _ => exact zti 868 (by decide +kernel) (by decide +kernel)
  | 2, _ => exact zti 870 (by decide +kernel) (by decide +kernel)
  | 3, _ => exact zti 872 (by decide +kernel) (by decide +kernel)
  | 4, _ => exact zti 874 (by decide +kernel) (by decide +kernel)
  | 5, _ => exact zti 876 (by decide +kernel) (by decide +kernel)
  | 6, _ => exact zti 878 (by decide +kernel) (by decide +kernel)
  | 7, _ => exact zti 880 (by decide +kernel) (by decide +kernel)
  | 8, _ => exact zti 882 (by decide +kernel) (by decide +kernel)
  | 9, _ => exact zti 884 (by decide +kernel) (by decide +kernel)
  | 10, _ => exact zti 886 (by decide +kernel) (by decide +kernel)
  | 11, _ => exact zti 888 (by decide +kernel) (by decide +kernel)
  | 12, _ => exact zti 890 (by decide +kernel) (by decide +kernel)
  | 13, _ => exact zti 892 (by decide +kernel) (by decide +kernel)
  | 14, _ => exact zti 894 (by decide +kernel) (by decide +kernel)
  | 15, _ => exact zti 896 (by decide +kernel) (by decide +kernel)
  | 16, _ => exact zti 898 (by decide +kernel) (by decide +kernel)
  | 17, _ => exact zti 900 (by decide +kernel) (by decide +kernel)
  | 18, _ => exact zti 902 (by decide +kernel) (by decide +kernel)
  | 19, _ => exact zti 904 (by decide +kernel) (by decide +kernel)
  | 20, _ => exact zti 906 (by decide +kernel) (by decide +kernel)
  | 21, _ => exact zti 908 (by decide +kernel) (by decide +kernel)
  | 22, _ => exact zti 910 (by decide +kernel) (by decide +kernel)
  | 23, _ => exact zti 912 (by decide +kernel) (by decide +kernel)
  | 24, _ => exact zti 914 (by decide +kernel) (by decide +kernel)
  | k + 25, h => exact absurd h (by omega)
theorem zu (ci : Nat) (q : vw_C) (h : zCl[ci]? = some q) : ∀ w ∈ u_ws q.1 q.2.1 q.2.2, w ∈ zAll := by
  match ci, h with
  | 0, h => cases h; exact zu0
  | 1, h => cases h; exact zu1
  | 2, h => cases h; exact zu2
  | 3, h => cases h; exact zu3
  | 4, h => cases h; exact zu4
  | 5, h => cases h; exact zu5
  | 6, h => cases h; exact zu6
  | 7, h => cases h; exact zu7
  | 8, h => cases h; exact zu8
  | 9, h => cases h; exact zu9
  | 10, h => cases h; exact zu10
  | 11, h => cases h; exact zu11
  | 12, h => cases h; exact zu12
  | ci + 13, h => simp [zCl] at h
section ZSIM2
variable {p : Program} {l : Launch} {e : Env} {R : Room} {s : State} {m : MethodId} {args : Array Value} {below : List Frame} {meth : Method} {c : Code} {cells slots : Nat} {QQ : State → Prop} {D : va_G} {ids : zIds} {ad : Nat → Nat} {A : Nat → Prop} {own : String} {cc : ByteArray} {nL : Nat}
variable {pc : Nat} {K K2 : zK}
/-- a field's link: own class's or a nest mate's -/
def zFL (own : String) (idx ci j : Nat) : Prop := ∃ (C : String) (T : u_T) (N : Nat), zCl[ci]? = some (C, T, N) ∧ j < N ∧ (Cond.fieldLink own idx (T j).1 (T j).2.1 (T j).2.2.1 ∈ zAll ∨ ∃ host, (own, idx, (T j).1, (T j).2.1, (T j).2.2.1, host) ∈ zNF)
theorem z_gf (C : zCx p R s m args c cells slots D ids ad A own cc nL) {idx ci j : Nat} (hd : decode cc pc = .ok (.getfield idx, 3)) (hF : zFL own idx ci j) (k : zGo p l e R s m args below meth c cells slots QQ D ids ad A nL (pc + 3) K) : zGo p l e R s m args below meth c cells slots QQ D ids ad A nL (pc) (i_gf ci j K) := by
  intro ls st σ h H locs lsr hP hS hl
  unfold i_gf at h
  split at h
  · rename_i o r
    obtain ⟨ho, h⟩ := zcd h
    have ho := zbe ho
    obtain ⟨Cn, T, N, hc, hj, hlk⟩ := hF
    have hci : ¬ ci = 99 := fun q => by rw [q] at hc; simp [zCl] at hc
    have hoc : ¬ zoc o = 99 := by rw [ho]; exact hci
    have hlen : (zfl o).length = N := by
      have h1 := zfl_len o
      obtain ⟨-, h2⟩ := zoc_lay hoc
      have h3 := h1 (by rw [h2])
      rw [h2] at h3
      rw [ho] at h3
      dsimp only at h3
      rw [hc] at h3
      exact h3
    have hv : (zFs ad σ o 0 (zfl o))[j]? = some (zreal ad (zfld σ o j (zft o j))) := by
      rw [zFs_get, List.getElem?_eq_getElem (by rw [hlen]; exact hj), Option.map_some, Nat.zero_add, zft_fl hoc, List.getD_eq_getElem?_getD, List.getElem?_eq_getElem (by rw [hlen]; exact hj)]
      rfl
    have hw := zWo_o (ad := ad) (ids := ids) (σ := σ) hoc
    rw [ho] at hw
    rcases hlk with hlk | ⟨host, hlk⟩
    · exact va_get (D := D) C.1 C.2.1 C.2.2.2.2.1 (zu ci _ hc) C.2.2.2.1 C.2.2.2.2.2.1.1 hP o hw hc j hj (C.2.2.2.2.1 _ hlk) (fun _ h9 => h9) hv hd (k ls _ σ h H locs lsr hP hS hl)
    · exact va_getN (D := D) C.1 C.2.1 C.2.2.2.2.1 (zu ci _ hc) C.2.2.2.1 C.2.2.2.2.2.1.1 hP o hw hc j hj (va_Nw.use rfl (C.2.2.2.2.2.1.2.1 _ hlk)) (fun _ h9 => h9) hv hd (k ls _ σ h H locs lsr hP hS hl)
  · exact h.elim
/-- a field that is written: not final, of type int or long -/
def zFP (own : String) (idx ci j : Nat) (ty : FieldType) : Prop := ∃ (C : String) (T : u_T) (N : Nat) (ty0 : Nat → FieldType), zCl[ci]? = some (C, T, N) ∧ j < N ∧ (∀ k, k < N → parseFieldDescriptor (T k).2.2.1 = some (ty0 k)) ∧ (∀ a, a < N → ∀ b, b < N → a ≠ b → (T a).2.1 ≠ (T b).2.1) ∧ (T j).2.2.2 = false ∧ parseFieldDescriptor (T j).2.2.1 = some ty ∧ (Cond.fieldLink own idx (T j).1 (T j).2.1 (T j).2.2.1 ∈ zAll ∨ ∃ host, (own, idx, (T j).1, (T j).2.1, (T j).2.2.1, host) ∈ zNF)
theorem z_pf (C : zCx p R s m args c cells slots D ids ad A own cc nL) {idx ci j : Nat} (hd : decode cc pc = .ok (.putfield idx, 3)) (hF : zFP own idx ci j .int) (k : zGo p l e R s m args below meth c cells slots QQ D ids ad A nL (pc + 3) K) : zGo p l e R s m args below meth c cells slots QQ D ids ad A nL (pc) (i_pf ci j K) := by
  intro ls st σ h H locs lsr hP hS hl
  unfold i_pf at h
  split at h
  · rename_i x o r
    obtain ⟨ho, hz, h⟩ := zcd2 h
    have ho := zbe ho
    have hz := zbe hz
    obtain ⟨Cn, T, N, ty0, hc, hj, hty, hnm, hfin, hdd, hlk⟩ := hF
    have hci : ¬ ci = 99 := fun q => by rw [q] at hc; simp [zCl] at hc
    have hoc : ¬ zoc o = 99 := by rw [ho]; exact hci
    have hlen : (zfl o).length = N := by
      have h1 := zfl_len o
      obtain ⟨-, h2⟩ := zoc_lay hoc
      have h3 := h1 (by rw [h2])
      rw [h2] at h3
      rw [ho] at h3
      dsimp only at h3
      rw [hc] at h3
      exact h3
    rw [zft_fl hoc] at hz
    have hset := zput_o (ad := ad) (ids := ids) (σ := σ) (v := x) hoc hz
    have hw := zWo_o (ad := ad) (ids := ids) (σ := σ) hoc
    rw [ho] at hw hset
    have hD := (C.2.2.2.2.2.1.2.2.2.1).D ids σ
    rcases hlk with hlk | ⟨host, hlk⟩
    · exact va_put (D := D) C.1 C.2.1 C.2.2.2.2.1 (zu ci _ hc) ty0 hty hnm C.2.2.2.1 C.2.2.2.2.2.1.1 hP hD hS o hw hc j hj (C.2.2.2.2.1 _ hlk) (fun _ h9 => h9) hfin hdd rfl rfl (by rw [zFs_len, hlen]; exact hj) hd (fun H1 locs1 hP1 _ hS1 => k ls r (zput σ o j x) h H1 locs1 lsr (by rw [← hset]; exact hP1) hS1 hl)
    · exact va_putN (D := D) C.1 C.2.1 C.2.2.2.2.1 (zu ci _ hc) ty0 hty hnm C.2.2.2.1 C.2.2.2.2.2.1.1 hP hD hS o hw hc j hj (va_Nw.use rfl (C.2.2.2.2.2.1.2.1 _ hlk)) (fun _ h9 => h9) hfin hdd rfl rfl (by rw [zFs_len, hlen]; exact hj) hd (fun H1 locs1 hP1 _ hS1 => k ls r (zput σ o j x) h H1 locs1 lsr (by rw [← hset]; exact hP1) hS1 hl)
  · exact h.elim
theorem z_pfl (C : zCx p R s m args c cells slots D ids ad A own cc nL) {idx ci j : Nat} (hd : decode cc pc = .ok (.putfield idx, 3)) (hF : zFP own idx ci j .long) (k : zGo p l e R s m args below meth c cells slots QQ D ids ad A nL (pc + 3) K) : zGo p l e R s m args below meth c cells slots QQ D ids ad A nL (pc) (i_pfl ci j K) := by
  intro ls st σ h H locs lsr hP hS hl
  unfold i_pfl at h
  split at h
  · rename_i x o r
    obtain ⟨ho, hz, h⟩ := zcd2 h
    have ho := zbe ho
    have hz := zbe hz
    obtain ⟨Cn, T, N, ty0, hc, hj, hty, hnm, hfin, hdd, hlk⟩ := hF
    have hci : ¬ ci = 99 := fun q => by rw [q] at hc; simp [zCl] at hc
    have hoc : ¬ zoc o = 99 := by rw [ho]; exact hci
    have hlen : (zfl o).length = N := by
      have h1 := zfl_len o
      obtain ⟨-, h2⟩ := zoc_lay hoc
      have h3 := h1 (by rw [h2])
      rw [h2] at h3
      rw [ho] at h3
      dsimp only at h3
      rw [hc] at h3
      exact h3
    rw [zft_fl hoc] at hz
    have hset := zputl_o (ad := ad) (ids := ids) (σ := σ) (v := x) hoc hz
    have hw := zWo_o (ad := ad) (ids := ids) (σ := σ) hoc
    rw [ho] at hw hset
    have hD := (C.2.2.2.2.2.1.2.2.2.1).D ids σ
    rcases hlk with hlk | ⟨host, hlk⟩
    · exact va_put (D := D) C.1 C.2.1 C.2.2.2.2.1 (zu ci _ hc) ty0 hty hnm C.2.2.2.1 C.2.2.2.2.2.1.1 hP hD hS o hw hc j hj (C.2.2.2.2.1 _ hlk) (fun _ h9 => h9) hfin hdd rfl rfl (by rw [zFs_len, hlen]; exact hj) hd (fun H1 locs1 hP1 _ hS1 => k ls r (zputl σ o j x) h H1 locs1 lsr (by rw [← hset]; exact hP1) hS1 hl)
    · exact va_putN (D := D) C.1 C.2.1 C.2.2.2.2.1 (zu ci _ hc) ty0 hty hnm C.2.2.2.1 C.2.2.2.2.2.1.1 hP hD hS o hw hc j hj (va_Nw.use rfl (C.2.2.2.2.2.1.2.1 _ hlk)) (fun _ h9 => h9) hfin hdd rfl rfl (by rw [zFs_len, hlen]; exact hj) hd (fun H1 locs1 hP1 _ hS1 => k ls r (zputl σ o j x) h H1 locs1 lsr (by rw [← hset]; exact hP1) hS1 hl)
  · exact h.elim
theorem z_ia (C : zCx p R s m args c cells slots D ids ad A own cc nL) (hd : decode cc pc = .ok (.iaload, 1)) (k : zGo p l e R s m args below meth c cells slots QQ D ids ad A nL (pc + 1) K) : zGo p l e R s m args below meth c cells slots QQ D ids ad A nL (pc) (i_ia K) := by
  intro ls st σ h H locs lsr hP hS hl
  unfold i_ia at h
  split at h
  · rename_i i o r
    exact va_iald C.1 C.2.1 C.2.2.2.2.2.1.1 hP o 0 (zWo_i (zil_in h.1)) rfl h.1 hd (k ls _ σ h.2 H locs lsr hP hS hl)
  · exact h.elim
theorem z_ba (C : zCx p R s m args c cells slots D ids ad A own cc nL) (hd : decode cc pc = .ok (.baload, 1)) (k : zGo p l e R s m args below meth c cells slots QQ D ids ad A nL (pc + 1) K) : zGo p l e R s m args below meth c cells slots QQ D ids ad A nL (pc) (i_ba K) := by
  intro ls st σ h H locs lsr hP hS hl
  unfold i_ba at h
  split at h
  · rename_i i o r
    exact va_zald C.1 C.2.1 C.2.2.2.2.2.1.1 hP o 1 (zWo_z (zbl_in h.1)) rfl h.1 hd (k ls _ σ h.2 H locs lsr hP hS hl)
  · exact h.elim
theorem z_aa (C : zCx p R s m args c cells slots D ids ad A own cc nL) (hd : decode cc pc = .ok (.aaload, 1)) (k : zGo p l e R s m args below meth c cells slots QQ D ids ad A nL (pc + 1) K) : zGo p l e R s m args below meth c cells slots QQ D ids ad A nL (pc) (i_aa K) := by
  intro ls st σ h H locs lsr hP hS hl
  unfold i_aa at h
  split at h
  · rename_i i o r
    obtain ⟨hin, h⟩ := h
    obtain ⟨h1, h2, h3, h4⟩ := zrl_lay (zrl_in hin)
    have hlt : i.toNatClampNeg < (zfl o).length := by rw [← h3]; exact Nat.not_le.mp fun q => hin (Or.inr q)
    have ev : va_rf (((zfl o)[i.toNatClampNeg]?).map ad) = .ref (ad (zrt o i.toNatClampNeg)) := by
      rw [h4, List.getD_eq_getElem?_getD, List.getElem?_eq_getElem hlt]
      rfl
    have hk := k ls (.ref (zrt o i.toNatClampNeg) :: r) σ h H locs lsr hP hS hl
    rw [List.map_cons, show zreal ad (.ref (zrt o i.toNatClampNeg)) = .ref (ad (zrt o i.toNatClampNeg)) from rfl, ← ev] at hk
    rw [h3] at hin
    rcases h2 with ⟨n, h2⟩ | ⟨n, h2⟩
    · have hw := zWo_get (ad := ad) (ids := ids) (σ := σ) h1
      simp only [zEnt] at hw
      rw [h2] at hw
      exact va_aldq C.1 C.2.1 C.2.2.2.2.2.1.1 hP o 2 hw rfl hin hd hk
    · have hw := zWo_get (ad := ad) (ids := ids) (σ := σ) h1
      simp only [zEnt] at hw
      rw [h2] at hw
      exact va_aldq C.1 C.2.1 C.2.2.2.2.2.1.1 hP o 3 hw rfl hin hd hk
  · exact h.elim
theorem z_iast (C : zCx p R s m args c cells slots D ids ad A own cc nL) (hd : decode cc pc = .ok (.iastore, 1)) (k : zGo p l e R s m args below meth c cells slots QQ D ids ad A nL (pc + 1) K) : zGo p l e R s m args below meth c cells slots QQ D ids ad A nL (pc) (i_iast K) := by
  intro ls st σ h H locs lsr hP hS hl
  unfold i_iast at h
  split at h
  · rename_i x i o r
    exact va_iast C.1 C.2.1 C.2.2.2.2.2.1.1 hP ((C.2.2.2.2.2.1.2.2.2.1).D ids σ) hS o 0 (zWo_i (zil_in h.1)) rfl h.1 hd (fun H1 locs1 hP1 _ hS1 => k ls r _ h.2 H1 locs1 lsr (by rw [← zput_i (zil_in h.1)]; exact hP1) hS1 hl)
  · exact h.elim
theorem z_bast (C : zCx p R s m args c cells slots D ids ad A own cc nL) (hd : decode cc pc = .ok (.bastore, 1)) (k : zGo p l e R s m args below meth c cells slots QQ D ids ad A nL (pc + 1) K) : zGo p l e R s m args below meth c cells slots QQ D ids ad A nL (pc) (i_bast K) := by
  intro ls st σ h H locs lsr hP hS hl
  unfold i_bast at h
  split at h
  · rename_i x i o r
    obtain ⟨h1, h2, h3⟩ := h
    have en : vp_nar .boolean x = x := by rcases h2 with h2 | h2 <;> (rw [h2]; decide +kernel)
    exact va_zast C.1 C.2.1 C.2.2.2.2.2.1.1 hP ((C.2.2.2.2.2.1.2.2.2.1).D ids σ) hS o 1 (zWo_z (zbl_in h1)) rfl h1 hd (fun H1 locs1 hP1 _ hS1 => k ls r _ h3 H1 locs1 lsr (by rw [en] at hP1; rw [← zput_z (zbl_in h1)]; exact hP1) hS1 hl)
  · exact h.elim
theorem z_len (C : zCx p R s m args c cells slots D ids ad A own cc nL) (hd : decode cc pc = .ok (.arraylength, 1)) (k : zGo p l e R s m args below meth c cells slots QQ D ids ad A nL (pc + 1) K) : zGo p l e R s m args below meth c cells slots QQ D ids ad A nL (pc) (i_len K) := by
  intro ls st σ h H locs lsr hP hS hl
  unfold i_len at h
  split at h
  · rename_i o r
    have h := zcd h
    exact va_alen C.1 C.2.1 C.2.2.2.2.2.1.1 hP o 0 (zWo_i (znb h.1)) rfl rfl hd (k ls _ σ h.2 H locs lsr hP hS hl)
  · exact h.elim
def zCP (own : String) (idx : Nat) : Prop := Cond.methodLink own idx arraycopyName ∈ zAll ∧ Cond.native arraycopyName ∈ zAll ∧ Cond.static arraycopyName ∈ zAll ∧ Cond.initialized "java/lang/System" ∈ zAll
theorem z_cp (C : zCx p R s m args c cells slots D ids ad A own cc nL) {idx : Nat} (hd : decode cc pc = .ok (.invokestatic idx, 3)) (hF : zCP own idx) (hR : 1 ≤ R.frames ∧ 8 + (nativeFrameWords "java/lang/System" "arraycopy" 5 + 11) ≤ R.locals) (k : zGo p l e R s m args below meth c cells slots QQ D ids ad A nL (pc + 3) K) : zGo p l e R s m args below meth c cells slots QQ D ids ad A nL (pc) (i_cp K) := by
  intro ls st σ h H locs lsr hP hS hl
  unfold i_cp at h
  split at h
  · rename_i n dp d sp o r
    obtain ⟨h0, h12, ⟨h3, h4, h5⟩, ⟨h6, h7⟩, h8⟩ := zcd2 h
    have h12 := Bool.and_eq_true_iff.mp h12
    have h1 := znb h12.1
    have h2 := znb h12.2
    have hz := zsm_le (ad := ad) h0
    exact va_copyi C.1 C.2.1 (by rw [C.2.2.1]; exact hl.1.symm) C.2.2.2.1 (C.2.2.2.2.1 _ hF.1) (C.2.2.2.2.1 _ hF.2.1) (C.2.2.2.2.1 _ hF.2.2.1) (C.2.2.2.2.1 _ hF.2.2.2) C.2.2.2.2.2.1.1 hP ((C.2.2.2.2.2.1.2.2.2.1).D ids σ) hS o d 0 0 (zWo_i h1) (zWo_i h2) rfl rfl rfl h3 h4 h5 h6 h7 (fun _ _ => rfl) hR.1 (by omega) hd (fun H1 locs1 hP1 _ hS1 => k ls r _ h8 H1 locs1 lsr (by rw [← zcpy_i h2]; exact hP1) hS1 hl)
  · exact h.elim
-- the table, the constants
theorem z_gfig (C : zCx p R s m args c cells slots D ids ad A own cc nL) {idx : Nat} (hd : decode cc pc = .ok (.getstatic idx, 3)) (hw : Cond.fieldLink own idx "EveryPew$Seating" "FIGURE_OF" "[I" ∈ zAll) (k : zGo p l e R s m args below meth c cells slots QQ D ids ad A nL (pc + 3) K) : zGo p l e R s m args below meth c cells slots QQ D ids ad A nL (pc) (i_gfig K) :=
  fun ls st σ h H locs lsr hP hS hl => va_gets C.1 C.2.1 C.2.2.2.2.2.1.2.2.2.2.1 hS C.2.2.2.1 (C.2.2.2.2.1 _ hw) (fun _ h9 => h9) hd (k ls (.ref 91 :: st) σ h H locs lsr hP hS hl)
theorem z_fig (C : zCx p R s m args c cells slots D ids ad A own cc nL) (hd : decode cc pc = .ok (.iaload, 1)) (k : zGo p l e R s m args below meth c cells slots QQ D ids ad A nL (pc + 1) K) : zGo p l e R s m args below meth c cells slots QQ D ids ad A nL (pc) (i_fig K) := by
  intro ls st σ h H locs lsr hP hS hl
  unfold i_fig at h
  split at h
  · rename_i i o r
    obtain ⟨h1, h2, h3⟩ := zcd h
    have h1 := zbe h1
    subst h1
    exact va_ti C.1 C.2.1 C.2.2.2.2.2.1.2.2.2.2.2.1 hS h2 rfl hd (k ls _ σ h3 H locs lsr hP hS hl)
  · exact h.elim
theorem z_str (C : zCx p R s m args c cells slots D ids ad A own cc nL) {idx i : Nat} (hd : decode cc pc = .ok (.ldc idx, 2)) (hi : i < 4) (ho : own = "EveryPew$TextOfChurch") (hx : (zsx.getD i (0, "")).1 = idx) (k : zGo p l e R s m args below meth c cells slots QQ D ids ad A nL (pc + 2) K) : zGo p l e R s m args below meth c cells slots QQ D ids ad A nL (pc) (i_str i K) := by
  intro ls st σ h H locs lsr hP hS hl
  subst ho
  subst hx
  exact va_ldcS C.1 C.2.1 C.2.2.2.1 (C.2.2.2.2.2.1.2.2.2.2.2.2.2.2.2 i hi) hd (k ls (.ref (92 + i) :: st) σ h H locs lsr hP hS hl)
theorem z_gcs (C : zCx p R s m args c cells slots D ids ad A own cc nL) {idx : Nat} (hd : decode cc pc = .ok (.getstatic idx, 3)) (hw : Cond.fieldLink own idx "java/lang/String" "COMPACT_STRINGS" "Z" ∈ zAll) (k : zGo p l e R s m args below meth c cells slots QQ D ids ad A nL (pc + 3) K) : zGo p l e R s m args below meth c cells slots QQ D ids ad A nL (pc) (i_ic 1 K) :=
  fun ls st σ h H locs lsr hP hS hl => va_gets C.1 C.2.1 C.2.2.2.2.2.1.2.2.2.2.2.2.1 hS C.2.2.2.1 (C.2.2.2.2.1 _ hw) (fun _ h9 => h9) hd (k ls (.int 1 :: st) σ h H locs lsr hP hS hl)
theorem zsi_lay : ∀ k, ¬ zsi k = 0 → k = 91 + zsi k ∧ zsi k ≤ 4 := by
  intro k h
  unfold zsi at *
  split at h
  · rename_i i l e
    have := zlay_dec (fun k t => t.1 = 5 → k = 92 + t.2.1 ∧ t.2.1 < 4) (by decide +kernel) (fun k h => absurd h (by simp)) k (by rw [e])
    rw [e] at this
    dsimp only at this
    omega
  · exact absurd rfl h
theorem zvi_lay : ∀ k, ¬ zvi k = 0 → k = 95 + zvi k ∧ zvi k ≤ 4 := by
  intro k h
  unfold zvi at *
  split at h
  · rename_i i l e
    have := zlay_dec (fun k t => t.1 = 6 → k = 96 + t.2.1 ∧ t.2.1 < 4) (by decide +kernel) (fun k h => absurd h (by simp)) k (by rw [e])
    rw [e] at this
    dsimp only at this
    omega
  · exact absurd rfl h
theorem z_gval (C : zCx p R s m args c cells slots D ids ad A own cc nL) {idx : Nat} (hd : decode cc pc = .ok (.getfield idx, 3)) (hw : Cond.fieldLink own idx "java/lang/String" "value" "[B" ∈ zAll) (k : zGo p l e R s m args below meth c cells slots QQ D ids ad A nL (pc + 3) K) : zGo p l e R s m args below meth c cells slots QQ D ids ad A nL (pc) (i_gval K) := by
  intro ls st σ h H locs lsr hP hS hl
  unfold i_gval at h
  split at h
  · rename_i o r
    obtain ⟨h9, h⟩ := zcd h
    have h := And.intro (znb h9) h
    obtain ⟨h1, h2⟩ := zsi_lay _ h.1
    have hE := C.2.2.2.2.2.1.2.2.2.2.2.2.2.2.1
    have hv := (hE.1 (zsi o - 1) (by have := h.1; omega)).2.2.1
    dsimp only at hv
    rw [show 92 + (zsi o - 1) = o by have := h.1; omega, show 96 + (zsi o - 1) = 95 + zsi o by have := h.1; omega] at hv
    exact vk_getf C.1 C.2.1 hv hS C.2.2.2.1 (C.2.2.2.2.1 _ hw) (fun _ h9 => h9) hd (k ls _ σ h.2 H locs lsr hP hS hl)
  · exact h.elim
theorem z_gcod (C : zCx p R s m args c cells slots D ids ad A own cc nL) {idx : Nat} (hd : decode cc pc = .ok (.getfield idx, 3)) (hw : Cond.fieldLink own idx "java/lang/String" "coder" "B" ∈ zAll) (k : zGo p l e R s m args below meth c cells slots QQ D ids ad A nL (pc + 3) K) : zGo p l e R s m args below meth c cells slots QQ D ids ad A nL (pc) (i_gcod K) := by
  intro ls st σ h H locs lsr hP hS hl
  unfold i_gcod at h
  split at h
  · rename_i o r
    obtain ⟨h9, h⟩ := zcd h
    have h := And.intro (znb h9) h
    obtain ⟨h1, h2⟩ := zsi_lay _ h.1
    have hE := C.2.2.2.2.2.1.2.2.2.2.2.2.2.2.1
    have hv := (hE.1 (zsi o - 1) (by have := h.1; omega)).2.1
    dsimp only at hv
    rw [show 92 + (zsi o - 1) = o by have := h.1; omega] at hv
    exact vk_getf C.1 C.2.1 hv hS C.2.2.2.1 (C.2.2.2.2.1 _ hw) (fun _ h9 => h9) hd (k ls _ σ h.2 H locs lsr hP hS hl)
  · exact h.elim
theorem ztx_len : ∀ i, i < 4 → ([6, 4, 6, 4] : List Nat).getD i 0 = (ztxt.getD i []).length := by decide +kernel
theorem z_by (C : zCx p R s m args c cells slots D ids ad A own cc nL) (hd : decode cc pc = .ok (.baload, 1)) (k : zGo p l e R s m args below meth c cells slots QQ D ids ad A nL (pc + 1) K) : zGo p l e R s m args below meth c cells slots QQ D ids ad A nL (pc) (i_by K) := by
  intro ls st σ h H locs lsr hP hS hl
  unfold i_by at h
  split at h
  · rename_i i o r
    obtain ⟨h9, h⟩ := zcd h
    have h := And.intro (znb h9) h
    obtain ⟨h1, h2⟩ := zvi_lay _ h.1
    have hE := C.2.2.2.2.2.1.2.2.2.2.2.2.2.2.1
    have hv := (hE.1 (zvi o - 1) (by have := h.1; omega)).2.2.2
    dsimp only at hv
    rw [show 96 + (zvi o - 1) = o by have := h.1; omega, ztx_len _ (by have := h.1; omega)] at hv
    exact va_tb C.1 C.2.1 hv hS h.2.1 rfl hd (k ls _ σ h.2.2 H locs lsr hP hS hl)
  · exact h.elim
theorem z_blen (C : zCx p R s m args c cells slots D ids ad A own cc nL) (hd : decode cc pc = .ok (.arraylength, 1)) (k : zGo p l e R s m args below meth c cells slots QQ D ids ad A nL (pc + 1) K) : zGo p l e R s m args below meth c cells slots QQ D ids ad A nL (pc) (i_blen K) := by
  intro ls st σ h H locs lsr hP hS hl
  unfold i_blen at h
  split at h
  · rename_i o r
    obtain ⟨h9, h⟩ := zcd h
    have h := And.intro (znb h9) h
    obtain ⟨h1, h2⟩ := zvi_lay _ h.1
    have hE := C.2.2.2.2.2.1.2.2.2.2.2.2.2.2.1
    have hv := (hE.1 (zvi o - 1) (by have := h.1; omega)).2.2.2
    dsimp only at hv
    rw [show 96 + (zvi o - 1) = o by have := h.1; omega, ztx_len _ (by have := h.1; omega)] at hv
    exact va_tlen C.1 C.2.1 hv hS rfl hd (k ls _ σ h.2 H locs lsr hP hS hl)
  · exact h.elim
end ZSIM2
