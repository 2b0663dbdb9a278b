/-! The law's loop: by program (wip/whole/genloop.py). -/
abbrev lLS (i : Nat) : List Value := [.ref 100, .ref 0, .ref 75, .int (nI i)]
section LLOOP
variable {L : Nat} {xs : Nat → Int32} {X : Nat → zK} {K : zK} {i : Nat} {st : List Value} {σ : zM}
theorem l_a1 (h : K (lLS i) (.ref 0 :: st) σ) : i_al 1 K (lLS i) st σ := h
theorem l_a2 (h : K (lLS i) (.ref 75 :: st) σ) : i_al 2 K (lLS i) st σ := h
theorem l_ld (hL : L ≤ 384) (j : Nat) (hj : i + j < L) (h : K (lLS i) (.int (xs (i + j)) :: st) σ) : (i_al 0 <| i_il 3 <| i_ic (nI j) <| i_iadd <| i_sld L xs K) (lLS i) st σ := by
  show vp_in (nI i + nI j) L ∧ K (lLS i) (.int (xs (nI i + nI j).toNatClampNeg) :: st) σ
  rw [nI_add, nI_clamp (by omega)]
  exact ⟨vp_in_nI hj (by omega), h⟩
theorem l_c {ci n o : Nat} {T : zTy} {vs r : List Value} (hs : zsp n [] st = some (.ref o :: vs, r)) (hc : (Nat.beq (zoc o) ci && zsm r) = true) (h : zTw T (.ref o :: vs) σ (fun v τ => K (lLS i) (zvl v r) τ)) : i_cv ci n (zTw T) K (lLS i) st σ := by
  unfold i_cv
  rw [hs]
  show cond _ _ False
  rw [hc]
  exact h
theorem l_pr {T U : zTy} {vs : List Value} (hp : zPr T U vs σ) (hX : ∀ υ, zR υ → X 1 (lLS i) [] υ) (hK : ∀ (r : Int32) (τ : zM), zTw U (.ref 75 :: vs) τ (fun w υ => (i_cmpeq (i_jmp X 1 [true, true, true, true]) <| i_ic 0 <| i_lw) (lLS i) (zvl w [.int r]) υ) → K (lLS i) [.int r] τ) : zTw T (.ref 0 :: vs) σ (fun v τ => K (lLS i) (zvl v []) τ) := by
  refine ⟨_, hp, ?_⟩
  rintro v τ ⟨r, rfl, hu⟩
  refine hK r τ ⟨_, hu, ?_⟩
  rintro w υ ⟨rfl, hR⟩
  exact And.intro (fun _ => hX υ hR) (fun q => absurd rfl q)
theorem l_pl {T U : zTy} {vs : List Value} (hp : zPl T U vs σ) (hX : ∀ υ, zR υ → X 1 (lLS i) [] υ) (hK : ∀ (r : Int64) (τ : zM), zTw U (.ref 75 :: vs) τ (fun w υ => (i_lcmp <| i_ifeq (i_jmp X 1 [true, true, true, true]) <| i_ic 0 <| i_lw) (lLS i) (zvl w [.long r]) υ) → K (lLS i) [.long r] τ) : zTw T (.ref 0 :: vs) σ (fun v τ => K (lLS i) (zvl v []) τ) := by
  refine ⟨_, hp, ?_⟩
  rintro v τ ⟨r, rfl, hu⟩
  refine hK r τ ⟨_, hu, ?_⟩
  rintro w υ ⟨rfl, hR⟩
  exact And.intro (fun _ => hX υ hR) (fun q => absurd (by simp [lg_cmp]) q)
set_option maxRecDepth 100000 in
set_option maxHeartbeats 8000000 in
theorem l_head (hL : L ≤ 384) (hi : i ≤ 400) (hR : zR σ) (hX : i + 6 ≤ L → ∀ υ, zR υ → X 1 (lLS i) [] υ) : k_L_law_0 L xs X (lLS i) [] σ := by
  refine And.intro (fun _ => rfl) (fun hn => ?_)
  have h6 : i + 6 ≤ L := by
    have hn : ¬ nI L - nI 6 < nI i := hn
    rw [Int32.lt_iff_toInt_lt, pk_sub_toInt (by omega) (by decide), nI_toInt (by omega)] at hn
    omega
  replace hX := hX h6
  refine And.intro (vp_in_nI (by omega) (by omega)) ?_
  refine And.intro ?_ (fun _ => hX σ hR)
  refine And.intro (fun _ => l_a1 <| l_ld hL 1 (by omega) <| l_c rfl rfl <| l_pr (p_church _ hR) hX (fun r τ h => l_a2 <| l_ld hL 1 (by omega) <| l_c rfl rfl h)) ?_
  refine And.intro (fun _ => l_a1 <| l_ld hL 1 (by omega) <| l_ld hL 2 (by omega) <| l_c rfl rfl <| l_pr (p_book _ _ hR) hX (fun r τ h => l_a2 <| l_ld hL 1 (by omega) <| l_ld hL 2 (by omega) <| l_c rfl rfl h)) ?_
  refine And.intro (fun _ => l_a1 <| l_ld hL 1 (by omega) <| l_ld hL 2 (by omega) <| l_ld hL 3 (by omega) <| l_ld hL 4 (by omega) <| l_ld hL 5 (by omega) <| l_c rfl rfl <| l_pr (p_family _ _ _ _ _ hR) hX (fun r τ h => l_a2 <| l_ld hL 1 (by omega) <| l_ld hL 2 (by omega) <| l_ld hL 3 (by omega) <| l_ld hL 4 (by omega) <| l_ld hL 5 (by omega) <| l_c rfl rfl h)) ?_
  refine And.intro (fun _ => l_a1 <| l_ld hL 1 (by omega) <| l_c rfl rfl <| l_pr (p_type _ hR) hX (fun r τ h => l_a2 <| l_ld hL 1 (by omega) <| l_c rfl rfl h)) ?_
  refine And.intro (fun _ => l_a1 <| l_c rfl rfl <| l_pr (p_clear hR) hX (fun r τ h => l_a2 <| l_c rfl rfl h)) ?_
  refine And.intro (fun _ => l_a1 <| l_c rfl rfl <| l_pr (p_read hR) hX (fun r τ h => l_a2 <| l_c rfl rfl h)) ?_
  refine And.intro (fun _ => l_a1 <| l_ld hL 1 (by omega) <| l_ld hL 2 (by omega) <| l_c rfl rfl <| l_pr (p_move _ _ hR) hX (fun r τ h => l_a2 <| l_ld hL 1 (by omega) <| l_ld hL 2 (by omega) <| l_c rfl rfl h)) ?_
  refine And.intro (fun _ => l_a1 <| l_ld hL 1 (by omega) <| l_ld hL 2 (by omega) <| l_c rfl rfl <| l_pr (p_cold _ _ hR) hX (fun r τ h => l_a2 <| l_ld hL 1 (by omega) <| l_ld hL 2 (by omega) <| l_c rfl rfl h)) ?_
  refine And.intro (fun _ => l_a1 <| l_c rfl rfl <| l_pr (p_undo hR) hX (fun r τ h => l_a2 <| l_c rfl rfl h)) ?_
  refine And.intro (fun _ => l_a1 <| l_ld hL 1 (by omega) <| l_ld hL 2 (by omega) <| l_c rfl rfl <| l_pr (p_of _ _ hR) hX (fun r τ h => l_a2 <| l_ld hL 1 (by omega) <| l_ld hL 2 (by omega) <| l_c rfl rfl h)) ?_
  refine And.intro (fun _ => l_a1 <| l_ld hL 1 (by omega) <| l_ld hL 2 (by omega) <| l_ld hL 3 (by omega) <| l_c rfl rfl <| l_pr (p_at _ _ _ hR) hX (fun r τ h => l_a2 <| l_ld hL 1 (by omega) <| l_ld hL 2 (by omega) <| l_ld hL 3 (by omega) <| l_c rfl rfl h)) ?_
  refine And.intro (fun _ => l_a1 <| l_ld hL 1 (by omega) <| l_c rfl rfl <| l_pr (p_up _ hR) hX (fun r τ h => l_a2 <| l_ld hL 1 (by omega) <| l_c rfl rfl h)) ?_
  refine And.intro (fun _ => l_a1 <| l_ld hL 1 (by omega) <| l_c rfl rfl <| l_pr (p_seers _ hR) hX (fun r τ h => l_a2 <| l_ld hL 1 (by omega) <| l_c rfl rfl h)) ?_
  refine And.intro (fun _ => l_a1 <| l_ld hL 1 (by omega) <| l_ld hL 2 (by omega) <| l_c rfl rfl <| l_pr (p_loud _ _ hR) hX (fun r τ h => l_a2 <| l_ld hL 1 (by omega) <| l_ld hL 2 (by omega) <| l_c rfl rfl h)) ?_
  refine And.intro (fun _ => l_a1 <| l_ld hL 1 (by omega) <| l_c rfl rfl <| l_pr (p_breach _ hR) hX (fun r τ h => l_a2 <| l_ld hL 1 (by omega) <| l_c rfl rfl h)) ?_
  refine And.intro (fun _ => l_a1 <| l_c rfl rfl <| l_pr (p_canNot hR) hX (fun r τ h => l_a2 <| l_c rfl rfl h)) ?_
  refine And.intro (fun _ => l_a1 <| l_ld hL 1 (by omega) <| l_c rfl rfl <| l_pr (p_seats _ hR) hX (fun r τ h => l_a2 <| l_ld hL 1 (by omega) <| l_c rfl rfl h)) ?_
  refine And.intro (fun _ => l_a1 <| l_ld hL 1 (by omega) <| l_c rfl rfl <| l_pr (p_change _ hR) hX (fun r τ h => l_a2 <| l_ld hL 1 (by omega) <| l_c rfl rfl h)) ?_
  refine And.intro (fun _ => l_a1 <| l_c rfl rfl <| l_pr (p_still hR) hX (fun r τ h => l_a2 <| l_c rfl rfl h)) ?_
  refine And.intro (fun _ => l_a1 <| l_ld hL 1 (by omega) <| l_ld hL 2 (by omega) <| l_ld hL 3 (by omega) <| l_c rfl rfl <| l_pr (p_heard _ _ _ hR) hX (fun r τ h => l_a2 <| l_ld hL 1 (by omega) <| l_ld hL 2 (by omega) <| l_ld hL 3 (by omega) <| l_c rfl rfl h)) ?_
  refine And.intro (fun _ => l_a1 <| l_c rfl rfl <| l_pr (p_forget hR) hX (fun r τ h => l_a2 <| l_c rfl rfl h)) ?_
  refine And.intro (fun _ => l_a1 <| l_ld hL 1 (by omega) <| l_c rfl rfl <| l_pr (p_coughed _ hR) hX (fun r τ h => l_a2 <| l_ld hL 1 (by omega) <| l_c rfl rfl h)) ?_
  refine And.intro (fun _ => l_a1 <| l_c rfl rfl <| l_pr (p_next hR) hX (fun r τ h => l_a2 <| l_c rfl rfl h)) ?_
  refine And.intro (fun _ => l_a1 <| l_ld hL 1 (by omega) <| l_c rfl rfl <| l_pr (p_is _ hR) hX (fun r τ h => l_a2 <| l_ld hL 1 (by omega) <| l_c rfl rfl h)) ?_
  refine And.intro (fun _ => l_a1 <| l_ld hL 1 (by omega) <| l_c rfl rfl <| l_pr (p_deacons _ hR) hX (fun r τ h => l_a2 <| l_ld hL 1 (by omega) <| l_c rfl rfl h)) ?_
  refine And.intro (fun _ => l_a1 <| l_ld hL 1 (by omega) <| l_ld hL 2 (by omega) <| l_ld hL 3 (by omega) <| l_ld hL 4 (by omega) <| l_c rfl rfl <| l_pr (p_feasts _ _ _ _ hR) hX (fun r τ h => l_a2 <| l_ld hL 1 (by omega) <| l_ld hL 2 (by omega) <| l_ld hL 3 (by omega) <| l_ld hL 4 (by omega) <| l_c rfl rfl h)) ?_
  refine And.intro (fun _ => l_a1 <| l_ld hL 1 (by omega) <| l_ld hL 2 (by omega) <| l_c rfl rfl <| l_pr (p_colds _ _ hR) hX (fun r τ h => l_a2 <| l_ld hL 1 (by omega) <| l_ld hL 2 (by omega) <| l_c rfl rfl h)) ?_
  refine And.intro (fun _ => l_a1 <| l_ld hL 1 (by omega) <| l_ld hL 2 (by omega) <| l_c rfl rfl <| l_pr (p_sundays _ _ hR) hX (fun r τ h => l_a2 <| l_ld hL 1 (by omega) <| l_ld hL 2 (by omega) <| l_c rfl rfl h)) ?_
  refine And.intro (fun _ => l_a1 <| l_ld hL 1 (by omega) <| l_c rfl rfl <| l_pl (p_part _ hR) hX (fun r τ h => l_a2 <| l_ld hL 1 (by omega) <| l_c rfl rfl h)) ?_
  refine And.intro (fun _ => l_a1 <| l_ld hL 1 (by omega) <| l_c rfl rfl <| l_pr (p_image _ hR) hX (fun r τ h => l_a2 <| l_ld hL 1 (by omega) <| l_c rfl rfl h)) ?_
  refine And.intro (fun _ => l_a1 <| l_ld hL 1 (by omega) <| l_c rfl rfl <| l_pr (p_from _ hR) hX (fun r τ h => l_a2 <| l_ld hL 1 (by omega) <| l_c rfl rfl h)) ?_
  refine And.intro (fun _ => l_a1 <| l_ld hL 1 (by omega) <| l_c rfl rfl <| l_pr (p_status _ hR) hX (fun r τ h => l_a2 <| l_ld hL 1 (by omega) <| l_c rfl rfl h)) ?_
  refine And.intro (fun _ => l_a1 <| l_ld hL 1 (by omega) <| l_c rfl rfl <| l_pr (p_count _ hR) hX (fun r τ h => l_a2 <| l_ld hL 1 (by omega) <| l_c rfl rfl h)) ?_
  refine And.intro (fun _ => l_a1 <| l_c rfl rfl <| l_pl (p_digest hR) hX (fun r τ h => l_a2 <| l_c rfl rfl h)) ?_
  exact True.intro
theorem l_loop (hL : L ≤ 384) : ∀ i, i ≤ 396 → ∀ σ, zR σ → zFix (F_L_law L xs) 0 (lLS i) [] σ := by
  refine zloop 396 (fun i hi ih => ?_)
  intro σ hR
  refine zFix_in ?_
  refine l_head hL (by omega) hR (fun h6 υ hυ => ?_)
  refine zFix_in ?_
  have h := ih (i + 6) (by omega) (by omega) υ hυ
  show zFix (F_L_law L xs) 0 [.ref 100, .ref 0, .ref 75, .int (nI i + nI 6)] [] υ
  rw [nI_add]
  exact h
end LLOOP
theorem l_W {p : Program} {l : Launch} {e : Env} {s : State} {m : MethodId} {below : List Frame} {meth : Method} {c : Code} {cells slots : Nat} {D : va_G} {ids : zIds} {ad : Nat → Nat} {bb L : Nat} {xs : Nat → Int32} (hL : L ≤ 384) (C : zCx p room_1 s m #[Value.ref bb] c cells slots D ids ad (fun q : Nat => s.heap.size ≤ q) "EveryPewLaw" code 4) (SX : zSX ad (fun q : Nat => s.heap.size ≤ q) s bb L xs) (hr : meth.sig.returnType = ret) (hk : meth.locks = false) (hc : cells ≤ 600000) (hs : slots ≤ 7302250) : zW p l e room_1 s m #[Value.ref bb] below meth c cells slots (lw_Z below #[Value.ref bb] s) D ids ad (fun q : Nat => s.heap.size ≤ q) 4 18 (lLS 0) [] zsig0 :=
  l_loop hL 0 (by decide) zsig0 zR_0 (fun b => zW p l e room_1 s m #[Value.ref bb] below meth c cells slots (lw_Z below #[Value.ref bb] s) D ids ad (fun q : Nat => s.heap.size ≤ q) 4 (P_L_law b)) (fun Y hY b ls st σ h => G_law C SX hr hk hc hs Y hY b ls st σ h)
