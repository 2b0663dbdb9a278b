/-! Soundness of methods: by program. -/
theorem dX4_kneelsAt_0 : decode cX4_kneelsAt 0 = .ok (.iconst 0, 1) := by decide +kernel
theorem dX4_kneelsAt_1 : decode cX4_kneelsAt 1 = .ok (.ireturn, 1) := by decide +kernel
def P_X4_kneelsAt : Nat → Nat
  | _ => 0
set_option maxRecDepth 100000 in
set_option maxHeartbeats 4000000 in
theorem S_X4_kneelsAt : zSd yX4_kneelsAt cX4_kneelsAt 3 (some .boolean) { frames := 0, cells := 0, slots := 0, locals := 0 } T_X4_kneelsAt := by
  refine zMet (pcs := P_X4_kneelsAt) (F := F_X4_kneelsAt) (by decide) rfl ?_
  intro p l e s m args below meth c D ids ad A Q Y C hr hk hY b
  match b with
  | 0 => exact (z_ic (pc := 0) C dX4_kneelsAt_0 (by decide +kernel) <| z_zr C hr hk dX4_kneelsAt_1)
  | b + 1 => exact fun _ _ _ h => h.elim
theorem dX4_height_0 : decode cX4_height 0 = .ok (.aload_n 0, 1) := by decide +kernel
theorem dX4_height_1 : decode cX4_height 1 = .ok (.iload_n 1, 1) := by decide +kernel
theorem dX4_height_2 : decode cX4_height 2 = .ok (.iload_n 2, 1) := by decide +kernel
theorem dX4_height_3 : decode cX4_height 3 = .ok (.invokespecial 7, 3) := by decide +kernel
theorem dX4_height_6 : decode cX4_height 6 = .ok (.iconst 1, 1) := by decide +kernel
theorem dX4_height_7 : decode cX4_height 7 = .ok (.iadd, 1) := by decide +kernel
theorem dX4_height_8 : decode cX4_height 8 = .ok (.ireturn, 1) := by decide +kernel
def P_X4_height : Nat → Nat
  | _ => 0
set_option maxRecDepth 100000 in
set_option maxHeartbeats 4000000 in
theorem S_X4_height : zSd yX4_height cX4_height 3 (some .int) { frames := 1, cells := 0, slots := 0, locals := 22 } T_X4_height := by
  refine zMet (pcs := P_X4_height) (F := F_X4_height) (by decide) rfl ?_
  intro p l e s m args below meth c D ids ad A Q Y C hr hk hY b
  match b with
  | 0 => exact (z_aln (pc := 0) C dX4_height_0 rfl <| z_iln (pc := 1) C dX4_height_1 rfl <| z_iln (pc := 2) C dX4_height_2 rfl <| z_cU (pc := 3) C dX4_height_3 S_X6_height (zl5 w_571 w_557 w_175 w_555 w_5) w_574 ⟨by decide, by decide +kernel⟩ (zrm rfl rfl (by decide) (by decide)) <| z_ic (pc := 6) C dX4_height_6 (by decide +kernel) <| z_iadd (pc := 7) C dX4_height_7 <| z_ir C hr hk dX4_height_8)
  | b + 1 => exact fun _ _ _ h => h.elim
theorem dX6_sound_0 : decode cX6_sound 0 = .ok (.iload_n 2, 1) := by decide +kernel
theorem dX6_sound_1 : decode cX6_sound 1 = .ok (.ifCond .eq 7, 3) := by decide +kernel
theorem dX6_sound_4 : decode cX6_sound 4 = .ok (.iconst 0, 1) := by decide +kernel
theorem dX6_sound_5 : decode cX6_sound 5 = .ok (.goto 4, 3) := by decide +kernel
theorem dX6_sound_8 : decode cX6_sound 8 = .ok (.iload_n 1, 1) := by decide +kernel
theorem dX6_sound_9 : decode cX6_sound 9 = .ok (.ireturn, 1) := by decide +kernel
def P_X6_sound : Nat → Nat
  | _ => 0
set_option maxRecDepth 100000 in
set_option maxHeartbeats 4000000 in
theorem S_X6_sound : zSd yX6_sound cX6_sound 3 (some .int) { frames := 0, cells := 0, slots := 0, locals := 0 } T_X6_sound := by
  refine zMet (pcs := P_X6_sound) (F := F_X6_sound) (by decide) rfl ?_
  intro p l e s m args below meth c D ids ad A Q Y C hr hk hY b
  match b with
  | 0 => exact (z_iln (pc := 0) C dX6_sound_0 rfl <| z_ifeq (tgt := 8) (pc := 1) C dX6_sound_1 (by decide) (z_iln (pc := 8) C dX6_sound_8 rfl <| z_ir C hr hk dX6_sound_9) <| z_ic (pc := 4) C dX6_sound_4 (by decide +kernel) <| z_goto (tgt := 9) (pc := 5) C dX6_sound_5 (by decide) <| z_ir C hr hk dX6_sound_9)
  | b + 1 => exact fun _ _ _ h => h.elim
theorem dX5_sound_0 : decode cX5_sound 0 = .ok (.aload_n 0, 1) := by decide +kernel
theorem dX5_sound_1 : decode cX5_sound 1 = .ok (.iload_n 1, 1) := by decide +kernel
theorem dX5_sound_2 : decode cX5_sound 2 = .ok (.iload_n 2, 1) := by decide +kernel
theorem dX5_sound_3 : decode cX5_sound 3 = .ok (.invokespecial 7, 3) := by decide +kernel
theorem dX5_sound_6 : decode cX5_sound 6 = .ok (.iconst 2, 1) := by decide +kernel
theorem dX5_sound_7 : decode cX5_sound 7 = .ok (.idiv, 1) := by decide +kernel
theorem dX5_sound_8 : decode cX5_sound 8 = .ok (.ireturn, 1) := by decide +kernel
def P_X5_sound : Nat → Nat
  | _ => 0
set_option maxRecDepth 100000 in
set_option maxHeartbeats 4000000 in
theorem S_X5_sound : zSd yX5_sound cX5_sound 3 (some .int) { frames := 1, cells := 0, slots := 0, locals := 22 } T_X5_sound := by
  refine zMet (pcs := P_X5_sound) (F := F_X5_sound) (by decide) rfl ?_
  intro p l e s m args below meth c D ids ad A Q Y C hr hk hY b
  match b with
  | 0 => exact (z_aln (pc := 0) C dX5_sound_0 rfl <| z_iln (pc := 1) C dX5_sound_1 rfl <| z_iln (pc := 2) C dX5_sound_2 rfl <| z_cU (pc := 3) C dX5_sound_3 S_X6_sound (zl5 w_582 w_578 w_161 w_576 w_5) w_593 ⟨by decide, by decide +kernel⟩ (zrm rfl rfl (by decide) (by decide)) <| z_ic (pc := 6) C dX5_sound_6 (by decide +kernel) <| z_idiv (pc := 7) C dX5_sound_7 <| z_ir C hr hk dX5_sound_8)
  | b + 1 => exact fun _ _ _ h => h.elim
theorem dX6_kneelsAt_0 : decode cX6_kneelsAt 0 = .ok (.iload_n 1, 1) := by decide +kernel
theorem dX6_kneelsAt_1 : decode cX6_kneelsAt 1 = .ok (.ireturn, 1) := by decide +kernel
def P_X6_kneelsAt : Nat → Nat
  | _ => 0
set_option maxRecDepth 100000 in
set_option maxHeartbeats 4000000 in
theorem S_X6_kneelsAt : zSd yX6_kneelsAt cX6_kneelsAt 3 (some .boolean) { frames := 0, cells := 0, slots := 0, locals := 0 } T_X6_kneelsAt := by
  refine zMet (pcs := P_X6_kneelsAt) (F := F_X6_kneelsAt) (by decide) rfl ?_
  intro p l e s m args below meth c D ids ad A Q Y C hr hk hY b
  match b with
  | 0 => exact (z_iln (pc := 0) C dX6_kneelsAt_0 rfl <| z_zr C hr hk dX6_kneelsAt_1)
  | b + 1 => exact fun _ _ _ h => h.elim
theorem dX7_worth_0 : decode cX7_worth 0 = .ok (.iconst 0, 1) := by decide +kernel
theorem dX7_worth_1 : decode cX7_worth 1 = .ok (.istore 5, 2) := by decide +kernel
theorem dX7_worth_3 : decode cX7_worth 3 = .ok (.iconst 0, 1) := by decide +kernel
theorem dX7_worth_4 : decode cX7_worth 4 = .ok (.istore 6, 2) := by decide +kernel
theorem dX7_worth_6 : decode cX7_worth 6 = .ok (.iload 6, 2) := by decide +kernel
theorem dX7_worth_8 : decode cX7_worth 8 = .ok (.iconst 4, 1) := by decide +kernel
theorem dX7_worth_9 : decode cX7_worth 9 = .ok (.if_icmp .ge 46, 3) := by decide +kernel
theorem dX7_worth_12 : decode cX7_worth 12 = .ok (.aload_n 1, 1) := by decide +kernel
theorem dX7_worth_13 : decode cX7_worth 13 = .ok (.getfield 49, 3) := by decide +kernel
theorem dX7_worth_16 : decode cX7_worth 16 = .ok (.iload_n 2, 1) := by decide +kernel
theorem dX7_worth_17 : decode cX7_worth 17 = .ok (.iconst 4, 1) := by decide +kernel
theorem dX7_worth_18 : decode cX7_worth 18 = .ok (.imul, 1) := by decide +kernel
theorem dX7_worth_19 : decode cX7_worth 19 = .ok (.iload 6, 2) := by decide +kernel
theorem dX7_worth_21 : decode cX7_worth 21 = .ok (.iadd, 1) := by decide +kernel
theorem dX7_worth_22 : decode cX7_worth 22 = .ok (.iaload, 1) := by decide +kernel
theorem dX7_worth_23 : decode cX7_worth 23 = .ok (.aload_n 0, 1) := by decide +kernel
theorem dX7_worth_24 : decode cX7_worth 24 = .ok (.getfield 15, 3) := by decide +kernel
theorem dX7_worth_27 : decode cX7_worth 27 = .ok (.iload_n 3, 1) := by decide +kernel
theorem dX7_worth_28 : decode cX7_worth 28 = .ok (.iconst 4, 1) := by decide +kernel
theorem dX7_worth_29 : decode cX7_worth 29 = .ok (.imul, 1) := by decide +kernel
theorem dX7_worth_30 : decode cX7_worth 30 = .ok (.iload 6, 2) := by decide +kernel
theorem dX7_worth_32 : decode cX7_worth 32 = .ok (.iadd, 1) := by decide +kernel
theorem dX7_worth_33 : decode cX7_worth 33 = .ok (.iaload, 1) := by decide +kernel
theorem dX7_worth_34 : decode cX7_worth 34 = .ok (.if_icmp .le 15, 3) := by decide +kernel
theorem dX7_worth_37 : decode cX7_worth 37 = .ok (.iload 5, 2) := by decide +kernel
theorem dX7_worth_39 : decode cX7_worth 39 = .ok (.aload_n 1, 1) := by decide +kernel
theorem dX7_worth_40 : decode cX7_worth 40 = .ok (.getfield 68, 3) := by decide +kernel
theorem dX7_worth_43 : decode cX7_worth 43 = .ok (.iload 6, 2) := by decide +kernel
theorem dX7_worth_45 : decode cX7_worth 45 = .ok (.iaload, 1) := by decide +kernel
theorem dX7_worth_46 : decode cX7_worth 46 = .ok (.iadd, 1) := by decide +kernel
theorem dX7_worth_47 : decode cX7_worth 47 = .ok (.istore 5, 2) := by decide +kernel
theorem dX7_worth_49 : decode cX7_worth 49 = .ok (.iinc 6 1, 3) := by decide +kernel
theorem dX7_worth_52 : decode cX7_worth 52 = .ok (.goto (-46), 3) := by decide +kernel
theorem dX7_worth_55 : decode cX7_worth 55 = .ok (.iload 5, 2) := by decide +kernel
theorem dX7_worth_57 : decode cX7_worth 57 = .ok (.ldc 41, 2) := by decide +kernel
theorem dX7_worth_59 : decode cX7_worth 59 = .ok (.imul, 1) := by decide +kernel
theorem dX7_worth_60 : decode cX7_worth 60 = .ok (.bipush 9, 2) := by decide +kernel
theorem dX7_worth_62 : decode cX7_worth 62 = .ok (.iload 4, 2) := by decide +kernel
theorem dX7_worth_64 : decode cX7_worth 64 = .ok (.isub, 1) := by decide +kernel
theorem dX7_worth_65 : decode cX7_worth 65 = .ok (.getstatic 42, 3) := by decide +kernel
theorem dX7_worth_68 : decode cX7_worth 68 = .ok (.iload_n 2, 1) := by decide +kernel
theorem dX7_worth_69 : decode cX7_worth 69 = .ok (.iaload, 1) := by decide +kernel
theorem dX7_worth_70 : decode cX7_worth 70 = .ok (.imul, 1) := by decide +kernel
theorem dX7_worth_71 : decode cX7_worth 71 = .ok (.iadd, 1) := by decide +kernel
theorem dX7_worth_72 : decode cX7_worth 72 = .ok (.ireturn, 1) := by decide +kernel
def P_X7_worth : Nat → Nat
  | 1 => 6
  | 2 => 49
  | _ => 0
set_option maxRecDepth 100000 in
set_option maxHeartbeats 4000000 in
theorem S_X7_worth : zSd yX7_worth cX7_worth 7 (some .int) { frames := 0, cells := 0, slots := 0, locals := 0 } T_X7_worth := by
  refine zMet (pcs := P_X7_worth) (F := F_X7_worth) (by decide) rfl ?_
  intro p l e s m args below meth c D ids ad A Q Y C hr hk hY b
  match b with
  | 0 => exact (z_ic (pc := 0) C dX7_worth_0 (by decide +kernel) <| z_is (pc := 1) C dX7_worth_1 (by decide) <| z_ic (pc := 3) C dX7_worth_3 (by decide +kernel) <| z_is (pc := 4) C dX7_worth_4 (by decide) <| z_jmp (hY 1))
  | 1 => exact (z_il (pc := 6) C dX7_worth_6 <| z_ic (pc := 8) C dX7_worth_8 (by decide +kernel) <| z_cmpge (tgt := 55) (pc := 9) C dX7_worth_9 (by decide) (z_il (pc := 55) C dX7_worth_55 <| z_ldc (pc := 57) C dX7_worth_57 w_676 <| z_imul (pc := 59) C dX7_worth_59 <| z_bi (pc := 60) C dX7_worth_60 (by decide +kernel) <| z_il (pc := 62) C dX7_worth_62 <| z_isub (pc := 64) C dX7_worth_64 <| z_gfig (pc := 65) C dX7_worth_65 w_677 <| z_iln (pc := 68) C dX7_worth_68 rfl <| z_fig (pc := 69) C dX7_worth_69 <| z_imul (pc := 70) C dX7_worth_70 <| z_iadd (pc := 71) C dX7_worth_71 <| z_ir C hr hk dX7_worth_72) <| z_aln (pc := 12) C dX7_worth_12 rfl <| z_gf (pc := 13) C dX7_worth_13 fl_7_49 <| z_iln (pc := 16) C dX7_worth_16 rfl <| z_ic (pc := 17) C dX7_worth_17 (by decide +kernel) <| z_imul (pc := 18) C dX7_worth_18 <| z_il (pc := 19) C dX7_worth_19 <| z_iadd (pc := 21) C dX7_worth_21 <| z_ia (pc := 22) C dX7_worth_22 <| z_aln (pc := 23) C dX7_worth_23 rfl <| z_gf (pc := 24) C dX7_worth_24 fl_7_15 <| z_iln (pc := 27) C dX7_worth_27 rfl <| z_ic (pc := 28) C dX7_worth_28 (by decide +kernel) <| z_imul (pc := 29) C dX7_worth_29 <| z_il (pc := 30) C dX7_worth_30 <| z_iadd (pc := 32) C dX7_worth_32 <| z_ia (pc := 33) C dX7_worth_33 <| z_cmple (tgt := 49) (pc := 34) C dX7_worth_34 (by decide) (z_jmp (hY 2)) <| z_il (pc := 37) C dX7_worth_37 <| z_aln (pc := 39) C dX7_worth_39 rfl <| z_gf (pc := 40) C dX7_worth_40 fl_7_68 <| z_il (pc := 43) C dX7_worth_43 <| z_ia (pc := 45) C dX7_worth_45 <| z_iadd (pc := 46) C dX7_worth_46 <| z_is (pc := 47) C dX7_worth_47 (by decide) <| z_jmp (hY 2))
  | 2 => exact (z_inc (pc := 49) C dX7_worth_49 (by decide +kernel) (by decide) <| z_goto (tgt := 6) (pc := 52) C dX7_worth_52 (by decide) <| z_jmp (hY 1))
  | b + 3 => exact fun _ _ _ h => h.elim
theorem dX7_fillPew_0 : decode cX7_fillPew 0 = .ok (.iload_n 2, 1) := by decide +kernel
theorem dX7_fillPew_1 : decode cX7_fillPew 1 = .ok (.iconst 1, 1) := by decide +kernel
theorem dX7_fillPew_2 : decode cX7_fillPew 2 = .ok (.isub, 1) := by decide +kernel
theorem dX7_fillPew_3 : decode cX7_fillPew 3 = .ok (.istore 4, 2) := by decide +kernel
theorem dX7_fillPew_5 : decode cX7_fillPew 5 = .ok (.iload 4, 2) := by decide +kernel
theorem dX7_fillPew_7 : decode cX7_fillPew 7 = .ok (.ifCond .le 104, 3) := by decide +kernel
theorem dX7_fillPew_10 : decode cX7_fillPew 10 = .ok (.iconst 0, 1) := by decide +kernel
theorem dX7_fillPew_11 : decode cX7_fillPew 11 = .ok (.istore 5, 2) := by decide +kernel
theorem dX7_fillPew_13 : decode cX7_fillPew 13 = .ok (.iload 5, 2) := by decide +kernel
theorem dX7_fillPew_15 : decode cX7_fillPew 15 = .ok (.aload_n 1, 1) := by decide +kernel
theorem dX7_fillPew_16 : decode cX7_fillPew 16 = .ok (.getfield 18, 3) := by decide +kernel
theorem dX7_fillPew_19 : decode cX7_fillPew 19 = .ok (.if_icmp .ge 86, 3) := by decide +kernel
theorem dX7_fillPew_22 : decode cX7_fillPew 22 = .ok (.iload 4, 2) := by decide +kernel
theorem dX7_fillPew_24 : decode cX7_fillPew 24 = .ok (.iconst 1, 1) := by decide +kernel
theorem dX7_fillPew_25 : decode cX7_fillPew 25 = .ok (.iload 5, 2) := by decide +kernel
theorem dX7_fillPew_27 : decode cX7_fillPew 27 = .ok (.ishl, 1) := by decide +kernel
theorem dX7_fillPew_28 : decode cX7_fillPew 28 = .ok (.iconst (-1), 1) := by decide +kernel
theorem dX7_fillPew_29 : decode cX7_fillPew 29 = .ok (.ixor, 1) := by decide +kernel
theorem dX7_fillPew_30 : decode cX7_fillPew 30 = .ok (.iand, 1) := by decide +kernel
theorem dX7_fillPew_31 : decode cX7_fillPew 31 = .ok (.istore 6, 2) := by decide +kernel
theorem dX7_fillPew_33 : decode cX7_fillPew 33 = .ok (.iload 6, 2) := by decide +kernel
theorem dX7_fillPew_35 : decode cX7_fillPew 35 = .ok (.iload 4, 2) := by decide +kernel
theorem dX7_fillPew_37 : decode cX7_fillPew 37 = .ok (.if_icmp .eq 62, 3) := by decide +kernel
theorem dX7_fillPew_40 : decode cX7_fillPew 40 = .ok (.aload_n 1, 1) := by decide +kernel
theorem dX7_fillPew_41 : decode cX7_fillPew 41 = .ok (.getfield 61, 3) := by decide +kernel
theorem dX7_fillPew_44 : decode cX7_fillPew 44 = .ok (.iload 5, 2) := by decide +kernel
theorem dX7_fillPew_46 : decode cX7_fillPew 46 = .ok (.iaload, 1) := by decide +kernel
theorem dX7_fillPew_47 : decode cX7_fillPew 47 = .ok (.iload_n 3, 1) := by decide +kernel
theorem dX7_fillPew_48 : decode cX7_fillPew 48 = .ok (.iconst 2, 1) := by decide +kernel
theorem dX7_fillPew_49 : decode cX7_fillPew 49 = .ok (.irem, 1) := by decide +kernel
theorem dX7_fillPew_50 : decode cX7_fillPew 50 = .ok (.if_icmp .ne 49, 3) := by decide +kernel
theorem dX7_fillPew_53 : decode cX7_fillPew 53 = .ok (.aload_n 0, 1) := by decide +kernel
theorem dX7_fillPew_54 : decode cX7_fillPew 54 = .ok (.getfield 9, 3) := by decide +kernel
theorem dX7_fillPew_57 : decode cX7_fillPew 57 = .ok (.iload 6, 2) := by decide +kernel
theorem dX7_fillPew_59 : decode cX7_fillPew 59 = .ok (.iaload, 1) := by decide +kernel
theorem dX7_fillPew_60 : decode cX7_fillPew 60 = .ok (.iconst (-1), 1) := by decide +kernel
theorem dX7_fillPew_61 : decode cX7_fillPew 61 = .ok (.if_icmp .eq 38, 3) := by decide +kernel
theorem dX7_fillPew_64 : decode cX7_fillPew 64 = .ok (.aload_n 0, 1) := by decide +kernel
theorem dX7_fillPew_65 : decode cX7_fillPew 65 = .ok (.getfield 9, 3) := by decide +kernel
theorem dX7_fillPew_68 : decode cX7_fillPew 68 = .ok (.iload 4, 2) := by decide +kernel
theorem dX7_fillPew_70 : decode cX7_fillPew 70 = .ok (.aload_n 0, 1) := by decide +kernel
theorem dX7_fillPew_71 : decode cX7_fillPew 71 = .ok (.getfield 9, 3) := by decide +kernel
theorem dX7_fillPew_74 : decode cX7_fillPew 74 = .ok (.iload 4, 2) := by decide +kernel
theorem dX7_fillPew_76 : decode cX7_fillPew 76 = .ok (.iaload, 1) := by decide +kernel
theorem dX7_fillPew_77 : decode cX7_fillPew 77 = .ok (.aload_n 0, 1) := by decide +kernel
theorem dX7_fillPew_78 : decode cX7_fillPew 78 = .ok (.getfield 9, 3) := by decide +kernel
theorem dX7_fillPew_81 : decode cX7_fillPew 81 = .ok (.iload 6, 2) := by decide +kernel
theorem dX7_fillPew_83 : decode cX7_fillPew 83 = .ok (.iaload, 1) := by decide +kernel
theorem dX7_fillPew_84 : decode cX7_fillPew 84 = .ok (.aload_n 0, 1) := by decide +kernel
theorem dX7_fillPew_85 : decode cX7_fillPew 85 = .ok (.aload_n 1, 1) := by decide +kernel
theorem dX7_fillPew_86 : decode cX7_fillPew 86 = .ok (.iload 5, 2) := by decide +kernel
theorem dX7_fillPew_88 : decode cX7_fillPew 88 = .ok (.iload 6, 2) := by decide +kernel
theorem dX7_fillPew_90 : decode cX7_fillPew 90 = .ok (.iload_n 3, 1) := by decide +kernel
theorem dX7_fillPew_91 : decode cX7_fillPew 91 = .ok (.invokevirtual 64, 3) := by decide +kernel
theorem dX7_fillPew_94 : decode cX7_fillPew 94 = .ok (.iadd, 1) := by decide +kernel
theorem dX7_fillPew_95 : decode cX7_fillPew 95 = .ok (.invokestatic 52, 3) := by decide +kernel
theorem dX7_fillPew_98 : decode cX7_fillPew 98 = .ok (.iastore, 1) := by decide +kernel
theorem dX7_fillPew_99 : decode cX7_fillPew 99 = .ok (.iinc 5 1, 3) := by decide +kernel
theorem dX7_fillPew_102 : decode cX7_fillPew 102 = .ok (.goto (-89), 3) := by decide +kernel
theorem dX7_fillPew_105 : decode cX7_fillPew 105 = .ok (.iinc 4 (-1), 3) := by decide +kernel
theorem dX7_fillPew_108 : decode cX7_fillPew 108 = .ok (.goto (-103), 3) := by decide +kernel
theorem dX7_fillPew_111 : decode cX7_fillPew 111 = .ok (.return_, 1) := by decide +kernel
def P_X7_fillPew : Nat → Nat
  | 1 => 5
  | 2 => 13
  | 3 => 99
  | _ => 0
set_option maxRecDepth 100000 in
set_option maxHeartbeats 4000000 in
theorem S_X7_fillPew : zSd yX7_fillPew cX7_fillPew 7 none { frames := 1, cells := 0, slots := 0, locals := 26 } T_X7_fillPew := by
  refine zMet (pcs := P_X7_fillPew) (F := F_X7_fillPew) (by decide) rfl ?_
  intro p l e s m args below meth c D ids ad A Q Y C hr hk hY b
  match b with
  | 0 => exact (z_iln (pc := 0) C dX7_fillPew_0 rfl <| z_ic (pc := 1) C dX7_fillPew_1 (by decide +kernel) <| z_isub (pc := 2) C dX7_fillPew_2 <| z_is (pc := 3) C dX7_fillPew_3 (by decide) <| z_jmp (hY 1))
  | 1 => exact (z_il (pc := 5) C dX7_fillPew_5 <| z_ifle (tgt := 111) (pc := 7) C dX7_fillPew_7 (by decide) (z_vr C hr hk dX7_fillPew_111) <| z_ic (pc := 10) C dX7_fillPew_10 (by decide +kernel) <| z_is (pc := 11) C dX7_fillPew_11 (by decide) <| z_jmp (hY 2))
  | 2 => exact (z_il (pc := 13) C dX7_fillPew_13 <| z_aln (pc := 15) C dX7_fillPew_15 rfl <| z_gf (pc := 16) C dX7_fillPew_16 fl_7_18 <| z_cmpge (tgt := 105) (pc := 19) C dX7_fillPew_19 (by decide) (z_inc (pc := 105) C dX7_fillPew_105 (by decide +kernel) (by decide) <| z_goto (tgt := 5) (pc := 108) C dX7_fillPew_108 (by decide) <| z_jmp (hY 1)) <| z_il (pc := 22) C dX7_fillPew_22 <| z_ic (pc := 24) C dX7_fillPew_24 (by decide +kernel) <| z_il (pc := 25) C dX7_fillPew_25 <| z_ishl (pc := 27) C dX7_fillPew_27 <| z_ic (pc := 28) C dX7_fillPew_28 (by decide +kernel) <| z_ixor (pc := 29) C dX7_fillPew_29 <| z_iand (pc := 30) C dX7_fillPew_30 <| z_is (pc := 31) C dX7_fillPew_31 (by decide) <| z_il (pc := 33) C dX7_fillPew_33 <| z_il (pc := 35) C dX7_fillPew_35 <| z_cmpeq (tgt := 99) (pc := 37) C dX7_fillPew_37 (by decide) (z_jmp (hY 3)) <| z_aln (pc := 40) C dX7_fillPew_40 rfl <| z_gf (pc := 41) C dX7_fillPew_41 fl_7_61 <| z_il (pc := 44) C dX7_fillPew_44 <| z_ia (pc := 46) C dX7_fillPew_46 <| z_iln (pc := 47) C dX7_fillPew_47 rfl <| z_ic (pc := 48) C dX7_fillPew_48 (by decide +kernel) <| z_irem (pc := 49) C dX7_fillPew_49 <| z_cmpne (tgt := 99) (pc := 50) C dX7_fillPew_50 (by decide) (z_jmp (hY 3)) <| z_aln (pc := 53) C dX7_fillPew_53 rfl <| z_gf (pc := 54) C dX7_fillPew_54 fl_7_9 <| z_il (pc := 57) C dX7_fillPew_57 <| z_ia (pc := 59) C dX7_fillPew_59 <| z_ic (pc := 60) C dX7_fillPew_60 (by decide +kernel) <| z_cmpeq (tgt := 99) (pc := 61) C dX7_fillPew_61 (by decide) (z_jmp (hY 3)) <| z_aln (pc := 64) C dX7_fillPew_64 rfl <| z_gf (pc := 65) C dX7_fillPew_65 fl_7_9 <| z_il (pc := 68) C dX7_fillPew_68 <| z_aln (pc := 70) C dX7_fillPew_70 rfl <| z_gf (pc := 71) C dX7_fillPew_71 fl_7_9 <| z_il (pc := 74) C dX7_fillPew_74 <| z_ia (pc := 76) C dX7_fillPew_76 <| z_aln (pc := 77) C dX7_fillPew_77 rfl <| z_gf (pc := 78) C dX7_fillPew_78 fl_7_9 <| z_il (pc := 81) C dX7_fillPew_81 <| z_ia (pc := 83) C dX7_fillPew_83 <| z_aln (pc := 84) C dX7_fillPew_84 rfl <| z_aln (pc := 85) C dX7_fillPew_85 rfl <| z_il (pc := 86) C dX7_fillPew_86 <| z_il (pc := 88) C dX7_fillPew_88 <| z_iln (pc := 90) C dX7_fillPew_90 rfl <| z_cV (pc := 91) C dX7_fillPew_91 S_X7_worth rfl (zl4 w_672 w_674 wp_14 w_11) w_675 ds_X7_worth (zrm rfl rfl (by decide) (by decide)) <| z_iadd (pc := 94) C dX7_fillPew_94 <| z_mmax (pc := 95) C dX7_fillPew_95 w_666 w_565 w_19 w_566 (by decide) <| z_iast (pc := 98) C dX7_fillPew_98 <| z_jmp (hY 3))
  | 3 => exact (z_inc (pc := 99) C dX7_fillPew_99 (by decide +kernel) (by decide) <| z_goto (tgt := 13) (pc := 102) C dX7_fillPew_102 (by decide) <| z_jmp (hY 2))
  | b + 4 => exact fun _ _ _ h => h.elim
theorem dX7_firstOf_0 : decode cX7_firstOf 0 = .ok (.iconst 0, 1) := by decide +kernel
theorem dX7_firstOf_1 : decode cX7_firstOf 1 = .ok (.istore_n 1, 1) := by decide +kernel
theorem dX7_firstOf_2 : decode cX7_firstOf 2 = .ok (.iload_n 1, 1) := by decide +kernel
theorem dX7_firstOf_3 : decode cX7_firstOf 3 = .ok (.bipush 6, 2) := by decide +kernel
theorem dX7_firstOf_5 : decode cX7_firstOf 5 = .ok (.if_icmp .ge 17, 3) := by decide +kernel
theorem dX7_firstOf_8 : decode cX7_firstOf 8 = .ok (.iload_n 0, 1) := by decide +kernel
theorem dX7_firstOf_9 : decode cX7_firstOf 9 = .ok (.iload_n 1, 1) := by decide +kernel
theorem dX7_firstOf_10 : decode cX7_firstOf 10 = .ok (.invokestatic 58, 3) := by decide +kernel
theorem dX7_firstOf_13 : decode cX7_firstOf 13 = .ok (.ifCond .ne 9, 3) := by decide +kernel
theorem dX7_firstOf_16 : decode cX7_firstOf 16 = .ok (.iinc 1 1, 3) := by decide +kernel
theorem dX7_firstOf_19 : decode cX7_firstOf 19 = .ok (.goto (-17), 3) := by decide +kernel
theorem dX7_firstOf_22 : decode cX7_firstOf 22 = .ok (.iload_n 1, 1) := by decide +kernel
theorem dX7_firstOf_23 : decode cX7_firstOf 23 = .ok (.ireturn, 1) := by decide +kernel
def P_X7_firstOf : Nat → Nat
  | 1 => 2
  | _ => 0
set_option maxRecDepth 100000 in
set_option maxHeartbeats 4000000 in
theorem S_X7_firstOf : zSd yX7_firstOf cX7_firstOf 2 (some .int) { frames := 1, cells := 0, slots := 0, locals := 21 } T_X7_firstOf := by
  refine zMet (pcs := P_X7_firstOf) (F := F_X7_firstOf) (by decide) rfl ?_
  intro p l e s m args below meth c D ids ad A Q Y C hr hk hY b
  match b with
  | 0 => exact (z_ic (pc := 0) C dX7_firstOf_0 (by decide +kernel) <| z_isn (pc := 1) C dX7_firstOf_1 rfl (by decide) <| z_jmp (hY 1))
  | 1 => exact (z_iln (pc := 2) C dX7_firstOf_2 rfl <| z_bi (pc := 3) C dX7_firstOf_3 (by decide +kernel) <| z_cmpge (tgt := 22) (pc := 5) C dX7_firstOf_5 (by decide) (z_iln (pc := 22) C dX7_firstOf_22 rfl <| z_ir C hr hk dX7_firstOf_23) <| z_iln (pc := 8) C dX7_firstOf_8 rfl <| z_iln (pc := 9) C dX7_firstOf_9 rfl <| z_cSN (pc := 10) C dX7_firstOf_10 S_X11_bit (host := "EveryPew") (by decide +kernel) (zl2 w_496 w_1) w_497 ds_X11_bit (zrm rfl rfl (by decide) (by decide)) <| z_ifne (tgt := 22) (pc := 13) C dX7_firstOf_13 (by decide) (z_iln (pc := 22) C dX7_firstOf_22 rfl <| z_ir C hr hk dX7_firstOf_23) <| z_inc (pc := 16) C dX7_firstOf_16 (by decide +kernel) (by decide) <| z_goto (tgt := 2) (pc := 19) C dX7_firstOf_19 (by decide) <| z_jmp (hY 1))
  | b + 2 => exact fun _ _ _ h => h.elim
theorem dX7_findTallest_0 : decode cX7_findTallest 0 = .ok (.iconst 0, 1) := by decide +kernel
theorem dX7_findTallest_1 : decode cX7_findTallest 1 = .ok (.istore_n 3, 1) := by decide +kernel
theorem dX7_findTallest_2 : decode cX7_findTallest 2 = .ok (.iload_n 3, 1) := by decide +kernel
theorem dX7_findTallest_3 : decode cX7_findTallest 3 = .ok (.iconst 4, 1) := by decide +kernel
theorem dX7_findTallest_4 : decode cX7_findTallest 4 = .ok (.if_icmp .ge 16, 3) := by decide +kernel
theorem dX7_findTallest_7 : decode cX7_findTallest 7 = .ok (.aload_n 0, 1) := by decide +kernel
theorem dX7_findTallest_8 : decode cX7_findTallest 8 = .ok (.getfield 15, 3) := by decide +kernel
theorem dX7_findTallest_11 : decode cX7_findTallest 11 = .ok (.iload_n 3, 1) := by decide +kernel
theorem dX7_findTallest_12 : decode cX7_findTallest 12 = .ok (.iconst (-1), 1) := by decide +kernel
theorem dX7_findTallest_13 : decode cX7_findTallest 13 = .ok (.iastore, 1) := by decide +kernel
theorem dX7_findTallest_14 : decode cX7_findTallest 14 = .ok (.iinc 3 1, 3) := by decide +kernel
theorem dX7_findTallest_17 : decode cX7_findTallest 17 = .ok (.goto (-15), 3) := by decide +kernel
theorem dX7_findTallest_20 : decode cX7_findTallest 20 = .ok (.iconst 1, 1) := by decide +kernel
theorem dX7_findTallest_21 : decode cX7_findTallest 21 = .ok (.istore_n 3, 1) := by decide +kernel
theorem dX7_findTallest_22 : decode cX7_findTallest 22 = .ok (.iload_n 3, 1) := by decide +kernel
theorem dX7_findTallest_23 : decode cX7_findTallest 23 = .ok (.iload_n 2, 1) := by decide +kernel
theorem dX7_findTallest_24 : decode cX7_findTallest 24 = .ok (.if_icmp .ge 78, 3) := by decide +kernel
theorem dX7_findTallest_27 : decode cX7_findTallest 27 = .ok (.iload_n 3, 1) := by decide +kernel
theorem dX7_findTallest_28 : decode cX7_findTallest 28 = .ok (.invokestatic 45, 3) := by decide +kernel
theorem dX7_findTallest_31 : decode cX7_findTallest 31 = .ok (.istore 4, 2) := by decide +kernel
theorem dX7_findTallest_33 : decode cX7_findTallest 33 = .ok (.iload_n 3, 1) := by decide +kernel
theorem dX7_findTallest_34 : decode cX7_findTallest 34 = .ok (.iconst 1, 1) := by decide +kernel
theorem dX7_findTallest_35 : decode cX7_findTallest 35 = .ok (.iload 4, 2) := by decide +kernel
theorem dX7_findTallest_37 : decode cX7_findTallest 37 = .ok (.ishl, 1) := by decide +kernel
theorem dX7_findTallest_38 : decode cX7_findTallest 38 = .ok (.iconst (-1), 1) := by decide +kernel
theorem dX7_findTallest_39 : decode cX7_findTallest 39 = .ok (.ixor, 1) := by decide +kernel
theorem dX7_findTallest_40 : decode cX7_findTallest 40 = .ok (.iand, 1) := by decide +kernel
theorem dX7_findTallest_41 : decode cX7_findTallest 41 = .ok (.istore 5, 2) := by decide +kernel
theorem dX7_findTallest_43 : decode cX7_findTallest 43 = .ok (.iconst 0, 1) := by decide +kernel
theorem dX7_findTallest_44 : decode cX7_findTallest 44 = .ok (.istore 6, 2) := by decide +kernel
theorem dX7_findTallest_46 : decode cX7_findTallest 46 = .ok (.iload 6, 2) := by decide +kernel
theorem dX7_findTallest_48 : decode cX7_findTallest 48 = .ok (.iconst 4, 1) := by decide +kernel
theorem dX7_findTallest_49 : decode cX7_findTallest 49 = .ok (.if_icmp .ge 47, 3) := by decide +kernel
theorem dX7_findTallest_52 : decode cX7_findTallest 52 = .ok (.aload_n 0, 1) := by decide +kernel
theorem dX7_findTallest_53 : decode cX7_findTallest 53 = .ok (.getfield 15, 3) := by decide +kernel
theorem dX7_findTallest_56 : decode cX7_findTallest 56 = .ok (.iload_n 3, 1) := by decide +kernel
theorem dX7_findTallest_57 : decode cX7_findTallest 57 = .ok (.iconst 4, 1) := by decide +kernel
theorem dX7_findTallest_58 : decode cX7_findTallest 58 = .ok (.imul, 1) := by decide +kernel
theorem dX7_findTallest_59 : decode cX7_findTallest 59 = .ok (.iload 6, 2) := by decide +kernel
theorem dX7_findTallest_61 : decode cX7_findTallest 61 = .ok (.iadd, 1) := by decide +kernel
theorem dX7_findTallest_62 : decode cX7_findTallest 62 = .ok (.aload_n 0, 1) := by decide +kernel
theorem dX7_findTallest_63 : decode cX7_findTallest 63 = .ok (.getfield 15, 3) := by decide +kernel
theorem dX7_findTallest_66 : decode cX7_findTallest 66 = .ok (.iload 5, 2) := by decide +kernel
theorem dX7_findTallest_68 : decode cX7_findTallest 68 = .ok (.iconst 4, 1) := by decide +kernel
theorem dX7_findTallest_69 : decode cX7_findTallest 69 = .ok (.imul, 1) := by decide +kernel
theorem dX7_findTallest_70 : decode cX7_findTallest 70 = .ok (.iload 6, 2) := by decide +kernel
theorem dX7_findTallest_72 : decode cX7_findTallest 72 = .ok (.iadd, 1) := by decide +kernel
theorem dX7_findTallest_73 : decode cX7_findTallest 73 = .ok (.iaload, 1) := by decide +kernel
theorem dX7_findTallest_74 : decode cX7_findTallest 74 = .ok (.aload_n 1, 1) := by decide +kernel
theorem dX7_findTallest_75 : decode cX7_findTallest 75 = .ok (.getfield 49, 3) := by decide +kernel
theorem dX7_findTallest_78 : decode cX7_findTallest 78 = .ok (.iload 4, 2) := by decide +kernel
theorem dX7_findTallest_80 : decode cX7_findTallest 80 = .ok (.iconst 4, 1) := by decide +kernel
theorem dX7_findTallest_81 : decode cX7_findTallest 81 = .ok (.imul, 1) := by decide +kernel
theorem dX7_findTallest_82 : decode cX7_findTallest 82 = .ok (.iload 6, 2) := by decide +kernel
theorem dX7_findTallest_84 : decode cX7_findTallest 84 = .ok (.iadd, 1) := by decide +kernel
theorem dX7_findTallest_85 : decode cX7_findTallest 85 = .ok (.iaload, 1) := by decide +kernel
theorem dX7_findTallest_86 : decode cX7_findTallest 86 = .ok (.invokestatic 52, 3) := by decide +kernel
theorem dX7_findTallest_89 : decode cX7_findTallest 89 = .ok (.iastore, 1) := by decide +kernel
theorem dX7_findTallest_90 : decode cX7_findTallest 90 = .ok (.iinc 6 1, 3) := by decide +kernel
theorem dX7_findTallest_93 : decode cX7_findTallest 93 = .ok (.goto (-47), 3) := by decide +kernel
theorem dX7_findTallest_96 : decode cX7_findTallest 96 = .ok (.iinc 3 1, 3) := by decide +kernel
theorem dX7_findTallest_99 : decode cX7_findTallest 99 = .ok (.goto (-77), 3) := by decide +kernel
theorem dX7_findTallest_102 : decode cX7_findTallest 102 = .ok (.return_, 1) := by decide +kernel
def P_X7_findTallest : Nat → Nat
  | 1 => 2
  | 2 => 22
  | 3 => 46
  | _ => 0
set_option maxRecDepth 100000 in
set_option maxHeartbeats 4000000 in
theorem S_X7_findTallest : zSd yX7_findTallest cX7_findTallest 7 none { frames := 2, cells := 0, slots := 0, locals := 42 } T_X7_findTallest := by
  refine zMet (pcs := P_X7_findTallest) (F := F_X7_findTallest) (by decide) rfl ?_
  intro p l e s m args below meth c D ids ad A Q Y C hr hk hY b
  match b with
  | 0 => exact (z_ic (pc := 0) C dX7_findTallest_0 (by decide +kernel) <| z_isn (pc := 1) C dX7_findTallest_1 rfl (by decide) <| z_jmp (hY 1))
  | 1 => exact (z_iln (pc := 2) C dX7_findTallest_2 rfl <| z_ic (pc := 3) C dX7_findTallest_3 (by decide +kernel) <| z_cmpge (tgt := 20) (pc := 4) C dX7_findTallest_4 (by decide) (z_ic (pc := 20) C dX7_findTallest_20 (by decide +kernel) <| z_isn (pc := 21) C dX7_findTallest_21 rfl (by decide) <| z_jmp (hY 2)) <| z_aln (pc := 7) C dX7_findTallest_7 rfl <| z_gf (pc := 8) C dX7_findTallest_8 fl_7_15 <| z_iln (pc := 11) C dX7_findTallest_11 rfl <| z_ic (pc := 12) C dX7_findTallest_12 (by decide +kernel) <| z_iast (pc := 13) C dX7_findTallest_13 <| z_inc (pc := 14) C dX7_findTallest_14 (by decide +kernel) (by decide) <| z_goto (tgt := 2) (pc := 17) C dX7_findTallest_17 (by decide) <| z_jmp (hY 1))
  | 2 => exact (z_iln (pc := 22) C dX7_findTallest_22 rfl <| z_iln (pc := 23) C dX7_findTallest_23 rfl <| z_cmpge (tgt := 102) (pc := 24) C dX7_findTallest_24 (by decide) (z_vr C hr hk dX7_findTallest_102) <| z_iln (pc := 27) C dX7_findTallest_27 rfl <| z_cS (pc := 28) C dX7_findTallest_28 S_X7_firstOf (zl3 w_662 w_663 w_11) w_664 ds_X7_firstOf (zrm rfl rfl (by decide) (by decide)) <| z_is (pc := 31) C dX7_findTallest_31 (by decide) <| z_iln (pc := 33) C dX7_findTallest_33 rfl <| z_ic (pc := 34) C dX7_findTallest_34 (by decide +kernel) <| z_il (pc := 35) C dX7_findTallest_35 <| z_ishl (pc := 37) C dX7_findTallest_37 <| z_ic (pc := 38) C dX7_findTallest_38 (by decide +kernel) <| z_ixor (pc := 39) C dX7_findTallest_39 <| z_iand (pc := 40) C dX7_findTallest_40 <| z_is (pc := 41) C dX7_findTallest_41 (by decide) <| z_ic (pc := 43) C dX7_findTallest_43 (by decide +kernel) <| z_is (pc := 44) C dX7_findTallest_44 (by decide) <| z_jmp (hY 3))
  | 3 => exact (z_il (pc := 46) C dX7_findTallest_46 <| z_ic (pc := 48) C dX7_findTallest_48 (by decide +kernel) <| z_cmpge (tgt := 96) (pc := 49) C dX7_findTallest_49 (by decide) (z_inc (pc := 96) C dX7_findTallest_96 (by decide +kernel) (by decide) <| z_goto (tgt := 22) (pc := 99) C dX7_findTallest_99 (by decide) <| z_jmp (hY 2)) <| z_aln (pc := 52) C dX7_findTallest_52 rfl <| z_gf (pc := 53) C dX7_findTallest_53 fl_7_15 <| z_iln (pc := 56) C dX7_findTallest_56 rfl <| z_ic (pc := 57) C dX7_findTallest_57 (by decide +kernel) <| z_imul (pc := 58) C dX7_findTallest_58 <| z_il (pc := 59) C dX7_findTallest_59 <| z_iadd (pc := 61) C dX7_findTallest_61 <| z_aln (pc := 62) C dX7_findTallest_62 rfl <| z_gf (pc := 63) C dX7_findTallest_63 fl_7_15 <| z_il (pc := 66) C dX7_findTallest_66 <| z_ic (pc := 68) C dX7_findTallest_68 (by decide +kernel) <| z_imul (pc := 69) C dX7_findTallest_69 <| z_il (pc := 70) C dX7_findTallest_70 <| z_iadd (pc := 72) C dX7_findTallest_72 <| z_ia (pc := 73) C dX7_findTallest_73 <| z_aln (pc := 74) C dX7_findTallest_74 rfl <| z_gf (pc := 75) C dX7_findTallest_75 fl_7_49 <| z_il (pc := 78) C dX7_findTallest_78 <| z_ic (pc := 80) C dX7_findTallest_80 (by decide +kernel) <| z_imul (pc := 81) C dX7_findTallest_81 <| z_il (pc := 82) C dX7_findTallest_82 <| z_iadd (pc := 84) C dX7_findTallest_84 <| z_ia (pc := 85) C dX7_findTallest_85 <| z_mmax (pc := 86) C dX7_findTallest_86 w_666 w_565 w_19 w_566 (by decide) <| z_iast (pc := 89) C dX7_findTallest_89 <| z_inc (pc := 90) C dX7_findTallest_90 (by decide +kernel) (by decide) <| z_goto (tgt := 46) (pc := 93) C dX7_findTallest_93 (by decide) <| z_jmp (hY 3))
  | b + 4 => exact fun _ _ _ h => h.elim
theorem dX7_find_0 : decode cX7_find 0 = .ok (.iconst 1, 1) := by decide +kernel
theorem dX7_find_1 : decode cX7_find 1 = .ok (.aload_n 1, 1) := by decide +kernel
theorem dX7_find_2 : decode cX7_find 2 = .ok (.getfield 18, 3) := by decide +kernel
theorem dX7_find_5 : decode cX7_find 5 = .ok (.ishl, 1) := by decide +kernel
theorem dX7_find_6 : decode cX7_find 6 = .ok (.istore_n 2, 1) := by decide +kernel
theorem dX7_find_7 : decode cX7_find 7 = .ok (.aload_n 0, 1) := by decide +kernel
theorem dX7_find_8 : decode cX7_find 8 = .ok (.aload_n 1, 1) := by decide +kernel
theorem dX7_find_9 : decode cX7_find 9 = .ok (.iload_n 2, 1) := by decide +kernel
theorem dX7_find_10 : decode cX7_find 10 = .ok (.invokevirtual 24, 3) := by decide +kernel
theorem dX7_find_13 : decode cX7_find 13 = .ok (.aload_n 0, 1) := by decide +kernel
theorem dX7_find_14 : decode cX7_find 14 = .ok (.getfield 9, 3) := by decide +kernel
theorem dX7_find_17 : decode cX7_find 17 = .ok (.iconst (-1), 1) := by decide +kernel
theorem dX7_find_18 : decode cX7_find 18 = .ok (.invokestatic 28, 3) := by decide +kernel
theorem dX7_find_21 : decode cX7_find 21 = .ok (.aload_n 0, 1) := by decide +kernel
theorem dX7_find_22 : decode cX7_find 22 = .ok (.getfield 9, 3) := by decide +kernel
theorem dX7_find_25 : decode cX7_find 25 = .ok (.iconst 0, 1) := by decide +kernel
theorem dX7_find_26 : decode cX7_find 26 = .ok (.iconst 0, 1) := by decide +kernel
theorem dX7_find_27 : decode cX7_find 27 = .ok (.iastore, 1) := by decide +kernel
theorem dX7_find_28 : decode cX7_find 28 = .ok (.iconst 0, 1) := by decide +kernel
theorem dX7_find_29 : decode cX7_find 29 = .ok (.istore_n 3, 1) := by decide +kernel
theorem dX7_find_30 : decode cX7_find 30 = .ok (.iload_n 3, 1) := by decide +kernel
theorem dX7_find_31 : decode cX7_find 31 = .ok (.bipush 10, 2) := by decide +kernel
theorem dX7_find_33 : decode cX7_find 33 = .ok (.if_icmp .ge 16, 3) := by decide +kernel
theorem dX7_find_36 : decode cX7_find 36 = .ok (.aload_n 0, 1) := by decide +kernel
theorem dX7_find_37 : decode cX7_find 37 = .ok (.aload_n 1, 1) := by decide +kernel
theorem dX7_find_38 : decode cX7_find 38 = .ok (.iload_n 2, 1) := by decide +kernel
theorem dX7_find_39 : decode cX7_find 39 = .ok (.iload_n 3, 1) := by decide +kernel
theorem dX7_find_40 : decode cX7_find 40 = .ok (.invokevirtual 34, 3) := by decide +kernel
theorem dX7_find_43 : decode cX7_find 43 = .ok (.iinc 3 1, 3) := by decide +kernel
theorem dX7_find_46 : decode cX7_find 46 = .ok (.goto (-16), 3) := by decide +kernel
theorem dX7_find_49 : decode cX7_find 49 = .ok (.aload_n 0, 1) := by decide +kernel
theorem dX7_find_50 : decode cX7_find 50 = .ok (.aload_n 0, 1) := by decide +kernel
theorem dX7_find_51 : decode cX7_find 51 = .ok (.getfield 9, 3) := by decide +kernel
theorem dX7_find_54 : decode cX7_find 54 = .ok (.iload_n 2, 1) := by decide +kernel
theorem dX7_find_55 : decode cX7_find 55 = .ok (.iconst 1, 1) := by decide +kernel
theorem dX7_find_56 : decode cX7_find 56 = .ok (.isub, 1) := by decide +kernel
theorem dX7_find_57 : decode cX7_find 57 = .ok (.iaload, 1) := by decide +kernel
theorem dX7_find_58 : decode cX7_find 58 = .ok (.putfield 38, 3) := by decide +kernel
theorem dX7_find_61 : decode cX7_find 61 = .ok (.return_, 1) := by decide +kernel
def P_X7_find : Nat → Nat
  | 1 => 30
  | _ => 0
set_option maxRecDepth 100000 in
set_option maxHeartbeats 4000000 in
theorem S_X7_find : zSd yX7_find cX7_find 4 none { frames := 3, cells := 0, slots := 0, locals := 68 } T_X7_find := by
  refine zMet (pcs := P_X7_find) (F := F_X7_find) (by decide) rfl ?_
  intro p l e s m args below meth c D ids ad A Q Y C hr hk hY b
  match b with
  | 0 => exact (z_ic (pc := 0) C dX7_find_0 (by decide +kernel) <| z_aln (pc := 1) C dX7_find_1 rfl <| z_gf (pc := 2) C dX7_find_2 fl_7_18 <| z_ishl (pc := 5) C dX7_find_5 <| z_isn (pc := 6) C dX7_find_6 rfl (by decide) <| z_aln (pc := 7) C dX7_find_7 rfl <| z_aln (pc := 8) C dX7_find_8 rfl <| z_iln (pc := 9) C dX7_find_9 rfl <| z_cV (pc := 10) C dX7_find_10 S_X7_findTallest rfl (zl4 w_658 w_660 wp_12 w_11) w_661 ds_X7_findTallest (zrm rfl rfl (by decide) (by decide)) <| z_aln (pc := 13) C dX7_find_13 rfl <| z_gf (pc := 14) C dX7_find_14 fl_7_9 <| z_ic (pc := 17) C dX7_find_17 (by decide +kernel) <| z_cS (pc := 18) C dX7_find_18 S_J7_fill_53178 (zl3 w_667 w_320 w_14) w_321 ds_J7_fill_53178 (zrm rfl rfl (by decide) (by decide)) <| z_aln (pc := 21) C dX7_find_21 rfl <| z_gf (pc := 22) C dX7_find_22 fl_7_9 <| z_ic (pc := 25) C dX7_find_25 (by decide +kernel) <| z_ic (pc := 26) C dX7_find_26 (by decide +kernel) <| z_iast (pc := 27) C dX7_find_27 <| z_ic (pc := 28) C dX7_find_28 (by decide +kernel) <| z_isn (pc := 29) C dX7_find_29 rfl (by decide) <| z_jmp (hY 1))
  | 1 => exact (z_iln (pc := 30) C dX7_find_30 rfl <| z_bi (pc := 31) C dX7_find_31 (by decide +kernel) <| z_cmpge (tgt := 49) (pc := 33) C dX7_find_33 (by decide) (z_aln (pc := 49) C dX7_find_49 rfl <| z_aln (pc := 50) C dX7_find_50 rfl <| z_gf (pc := 51) C dX7_find_51 fl_7_9 <| z_iln (pc := 54) C dX7_find_54 rfl <| z_ic (pc := 55) C dX7_find_55 (by decide +kernel) <| z_isub (pc := 56) C dX7_find_56 <| z_ia (pc := 57) C dX7_find_57 <| z_pf (pc := 58) C dX7_find_58 fp_7_38 <| z_vr C hr hk dX7_find_61) <| z_aln (pc := 36) C dX7_find_36 rfl <| z_aln (pc := 37) C dX7_find_37 rfl <| z_iln (pc := 38) C dX7_find_38 rfl <| z_iln (pc := 39) C dX7_find_39 rfl <| z_cV (pc := 40) C dX7_find_40 S_X7_fillPew rfl (zl4 w_668 w_670 wp_13 w_11) w_671 ds_X7_fillPew (zrm rfl rfl (by decide) (by decide)) <| z_inc (pc := 43) C dX7_find_43 (by decide +kernel) (by decide) <| z_goto (tgt := 30) (pc := 46) C dX7_find_46 (by decide) <| z_jmp (hY 1))
  | b + 2 => exact fun _ _ _ h => h.elim
theorem dX7_seen_0 : decode cX7_seen 0 = .ok (.aload_n 0, 1) := by decide +kernel
theorem dX7_seen_1 : decode cX7_seen 1 = .ok (.getfield 38, 3) := by decide +kernel
theorem dX7_seen_4 : decode cX7_seen 4 = .ok (.ldc 41, 2) := by decide +kernel
theorem dX7_seen_6 : decode cX7_seen 6 = .ok (.idiv, 1) := by decide +kernel
theorem dX7_seen_7 : decode cX7_seen 7 = .ok (.ireturn, 1) := by decide +kernel
def P_X7_seen : Nat → Nat
  | _ => 0
set_option maxRecDepth 100000 in
set_option maxHeartbeats 4000000 in
theorem S_X7_seen : zSd yX7_seen cX7_seen 1 (some .int) { frames := 0, cells := 0, slots := 0, locals := 0 } T_X7_seen := by
  refine zMet (pcs := P_X7_seen) (F := F_X7_seen) (by decide) rfl ?_
  intro p l e s m args below meth c D ids ad A Q Y C hr hk hY b
  match b with
  | 0 => exact (z_aln (pc := 0) C dX7_seen_0 rfl <| z_gf (pc := 1) C dX7_seen_1 fl_7_38 <| z_ldc (pc := 4) C dX7_seen_4 w_676 <| z_idiv (pc := 6) C dX7_seen_6 <| z_ir C hr hk dX7_seen_7)
  | b + 1 => exact fun _ _ _ h => h.elim
theorem dX7_pewOf_0 : decode cX7_pewOf 0 = .ok (.bipush 9, 2) := by decide +kernel
theorem dX7_pewOf_2 : decode cX7_pewOf 2 = .ok (.aload_n 0, 1) := by decide +kernel
theorem dX7_pewOf_3 : decode cX7_pewOf 3 = .ok (.getfield 38, 3) := by decide +kernel
theorem dX7_pewOf_6 : decode cX7_pewOf 6 = .ok (.getstatic 42, 3) := by decide +kernel
theorem dX7_pewOf_9 : decode cX7_pewOf 9 = .ok (.iload_n 1, 1) := by decide +kernel
theorem dX7_pewOf_10 : decode cX7_pewOf 10 = .ok (.iaload, 1) := by decide +kernel
theorem dX7_pewOf_11 : decode cX7_pewOf 11 = .ok (.idiv, 1) := by decide +kernel
theorem dX7_pewOf_12 : decode cX7_pewOf 12 = .ok (.bipush 10, 2) := by decide +kernel
theorem dX7_pewOf_14 : decode cX7_pewOf 14 = .ok (.irem, 1) := by decide +kernel
theorem dX7_pewOf_15 : decode cX7_pewOf 15 = .ok (.isub, 1) := by decide +kernel
theorem dX7_pewOf_16 : decode cX7_pewOf 16 = .ok (.ireturn, 1) := by decide +kernel
def P_X7_pewOf : Nat → Nat
  | _ => 0
set_option maxRecDepth 100000 in
set_option maxHeartbeats 4000000 in
theorem S_X7_pewOf : zSd yX7_pewOf cX7_pewOf 2 (some .int) { frames := 0, cells := 0, slots := 0, locals := 0 } T_X7_pewOf := by
  refine zMet (pcs := P_X7_pewOf) (F := F_X7_pewOf) (by decide) rfl ?_
  intro p l e s m args below meth c D ids ad A Q Y C hr hk hY b
  match b with
  | 0 => exact (z_bi (pc := 0) C dX7_pewOf_0 (by decide +kernel) <| z_aln (pc := 2) C dX7_pewOf_2 rfl <| z_gf (pc := 3) C dX7_pewOf_3 fl_7_38 <| z_gfig (pc := 6) C dX7_pewOf_6 w_677 <| z_iln (pc := 9) C dX7_pewOf_9 rfl <| z_fig (pc := 10) C dX7_pewOf_10 <| z_idiv (pc := 11) C dX7_pewOf_11 <| z_bi (pc := 12) C dX7_pewOf_12 (by decide +kernel) <| z_irem (pc := 14) C dX7_pewOf_14 <| z_isub (pc := 15) C dX7_pewOf_15 <| z_ir C hr hk dX7_pewOf_16)
  | b + 1 => exact fun _ _ _ h => h.elim
theorem dX10_kneelsAt_0 : decode cX10_kneelsAt 0 = .ok (.iload_n 1, 1) := by decide +kernel
theorem dX10_kneelsAt_1 : decode cX10_kneelsAt 1 = .ok (.ifCond .eq 11, 3) := by decide +kernel
theorem dX10_kneelsAt_4 : decode cX10_kneelsAt 4 = .ok (.iload_n 2, 1) := by decide +kernel
theorem dX10_kneelsAt_5 : decode cX10_kneelsAt 5 = .ok (.ifCond .eq 7, 3) := by decide +kernel
theorem dX10_kneelsAt_8 : decode cX10_kneelsAt 8 = .ok (.iconst 1, 1) := by decide +kernel
theorem dX10_kneelsAt_9 : decode cX10_kneelsAt 9 = .ok (.goto 4, 3) := by decide +kernel
theorem dX10_kneelsAt_12 : decode cX10_kneelsAt 12 = .ok (.iconst 0, 1) := by decide +kernel
theorem dX10_kneelsAt_13 : decode cX10_kneelsAt 13 = .ok (.ireturn, 1) := by decide +kernel
def P_X10_kneelsAt : Nat → Nat
  | _ => 0
set_option maxRecDepth 100000 in
set_option maxHeartbeats 4000000 in
theorem S_X10_kneelsAt : zSd yX10_kneelsAt cX10_kneelsAt 3 (some .boolean) { frames := 0, cells := 0, slots := 0, locals := 0 } T_X10_kneelsAt := by
  refine zMet (pcs := P_X10_kneelsAt) (F := F_X10_kneelsAt) (by decide) rfl ?_
  intro p l e s m args below meth c D ids ad A Q Y C hr hk hY b
  match b with
  | 0 => exact (z_iln (pc := 0) C dX10_kneelsAt_0 rfl <| z_ifeq (tgt := 12) (pc := 1) C dX10_kneelsAt_1 (by decide) (z_ic (pc := 12) C dX10_kneelsAt_12 (by decide +kernel) <| z_zr C hr hk dX10_kneelsAt_13) <| z_iln (pc := 4) C dX10_kneelsAt_4 rfl <| z_ifeq (tgt := 12) (pc := 5) C dX10_kneelsAt_5 (by decide) (z_ic (pc := 12) C dX10_kneelsAt_12 (by decide +kernel) <| z_zr C hr hk dX10_kneelsAt_13) <| z_ic (pc := 8) C dX10_kneelsAt_8 (by decide +kernel) <| z_goto (tgt := 13) (pc := 9) C dX10_kneelsAt_9 (by decide) <| z_zr C hr hk dX10_kneelsAt_13)
  | b + 1 => exact fun _ _ _ h => h.elim
theorem dX10_sound_0 : decode cX10_sound 0 = .ok (.iconst 0, 1) := by decide +kernel
theorem dX10_sound_1 : decode cX10_sound 1 = .ok (.aload_n 0, 1) := by decide +kernel
theorem dX10_sound_2 : decode cX10_sound 2 = .ok (.iload_n 1, 1) := by decide +kernel
theorem dX10_sound_3 : decode cX10_sound 3 = .ok (.iload_n 2, 1) := by decide +kernel
theorem dX10_sound_4 : decode cX10_sound 4 = .ok (.invokespecial 7, 3) := by decide +kernel
theorem dX10_sound_7 : decode cX10_sound 7 = .ok (.iconst 1, 1) := by decide +kernel
theorem dX10_sound_8 : decode cX10_sound 8 = .ok (.isub, 1) := by decide +kernel
theorem dX10_sound_9 : decode cX10_sound 9 = .ok (.invokestatic 11, 3) := by decide +kernel
theorem dX10_sound_12 : decode cX10_sound 12 = .ok (.ireturn, 1) := by decide +kernel
def P_X10_sound : Nat → Nat
  | _ => 0
set_option maxRecDepth 100000 in
set_option maxHeartbeats 4000000 in
theorem S_X10_sound : zSd yX10_sound cX10_sound 3 (some .int) { frames := 1, cells := 0, slots := 0, locals := 22 } T_X10_sound := by
  refine zMet (pcs := P_X10_sound) (F := F_X10_sound) (by decide) rfl ?_
  intro p l e s m args below meth c D ids ad A Q Y C hr hk hY b
  match b with
  | 0 => exact (z_ic (pc := 0) C dX10_sound_0 (by decide +kernel) <| z_aln (pc := 1) C dX10_sound_1 rfl <| z_iln (pc := 2) C dX10_sound_2 rfl <| z_iln (pc := 3) C dX10_sound_3 rfl <| z_cUU (pc := 4) C dX10_sound_4 S_X6_sound (sup := "EveryPew$Convert") (nm := "sound") (ds := "(IZ)I") w_589 w_590 w_189 w_168 w_576 w_5 w_593 ⟨by decide, by decide +kernel⟩ (zrm rfl rfl (by decide) (by decide)) <| z_ic (pc := 7) C dX10_sound_7 (by decide +kernel) <| z_isub (pc := 8) C dX10_sound_8 <| z_mmax (pc := 9) C dX10_sound_9 w_592 w_565 w_19 w_566 (by decide) <| z_ir C hr hk dX10_sound_12)
  | b + 1 => exact fun _ _ _ h => h.elim
theorem dX8_suppose_0 : decode cX8_suppose 0 = .ok (.aload_n 0, 1) := by decide +kernel
theorem dX8_suppose_1 : decode cX8_suppose 1 = .ok (.getfield 27, 3) := by decide +kernel
theorem dX8_suppose_4 : decode cX8_suppose 4 = .ok (.iload_n 3, 1) := by decide +kernel
theorem dX8_suppose_5 : decode cX8_suppose 5 = .ok (.aaload, 1) := by decide +kernel
theorem dX8_suppose_6 : decode cX8_suppose 6 = .ok (.astore 5, 2) := by decide +kernel
theorem dX8_suppose_8 : decode cX8_suppose 8 = .ok (.aload_n 0, 1) := by decide +kernel
theorem dX8_suppose_9 : decode cX8_suppose 9 = .ok (.getfield 33, 3) := by decide +kernel
theorem dX8_suppose_12 : decode cX8_suppose 12 = .ok (.iload_n 2, 1) := by decide +kernel
theorem dX8_suppose_13 : decode cX8_suppose 13 = .ok (.iload 4, 2) := by decide +kernel
theorem dX8_suppose_15 : decode cX8_suppose 15 = .ok (.iastore, 1) := by decide +kernel
theorem dX8_suppose_16 : decode cX8_suppose 16 = .ok (.iconst 0, 1) := by decide +kernel
theorem dX8_suppose_17 : decode cX8_suppose 17 = .ok (.istore 6, 2) := by decide +kernel
theorem dX8_suppose_19 : decode cX8_suppose 19 = .ok (.iload 6, 2) := by decide +kernel
theorem dX8_suppose_21 : decode cX8_suppose 21 = .ok (.iconst 4, 1) := by decide +kernel
theorem dX8_suppose_22 : decode cX8_suppose 22 = .ok (.if_icmp .ge 113, 3) := by decide +kernel
theorem dX8_suppose_25 : decode cX8_suppose 25 = .ok (.iload_n 2, 1) := by decide +kernel
theorem dX8_suppose_26 : decode cX8_suppose 26 = .ok (.iconst 4, 1) := by decide +kernel
theorem dX8_suppose_27 : decode cX8_suppose 27 = .ok (.imul, 1) := by decide +kernel
theorem dX8_suppose_28 : decode cX8_suppose 28 = .ok (.iload 6, 2) := by decide +kernel
theorem dX8_suppose_30 : decode cX8_suppose 30 = .ok (.iadd, 1) := by decide +kernel
theorem dX8_suppose_31 : decode cX8_suppose 31 = .ok (.istore 7, 2) := by decide +kernel
theorem dX8_suppose_33 : decode cX8_suppose 33 = .ok (.aload_n 0, 1) := by decide +kernel
theorem dX8_suppose_34 : decode cX8_suppose 34 = .ok (.getfield 40, 3) := by decide +kernel
theorem dX8_suppose_37 : decode cX8_suppose 37 = .ok (.iload 7, 2) := by decide +kernel
theorem dX8_suppose_39 : decode cX8_suppose 39 = .ok (.aload 5, 2) := by decide +kernel
theorem dX8_suppose_41 : decode cX8_suppose 41 = .ok (.iload 6, 2) := by decide +kernel
theorem dX8_suppose_43 : decode cX8_suppose 43 = .ok (.iload 4, 2) := by decide +kernel
theorem dX8_suppose_45 : decode cX8_suppose 45 = .ok (.invokestatic 76, 3) := by decide +kernel
theorem dX8_suppose_48 : decode cX8_suppose 48 = .ok (.iconst 1, 1) := by decide +kernel
theorem dX8_suppose_49 : decode cX8_suppose 49 = .ok (.if_icmp .ne 7, 3) := by decide +kernel
theorem dX8_suppose_52 : decode cX8_suppose 52 = .ok (.iconst 1, 1) := by decide +kernel
theorem dX8_suppose_53 : decode cX8_suppose 53 = .ok (.goto 4, 3) := by decide +kernel
theorem dX8_suppose_56 : decode cX8_suppose 56 = .ok (.iconst 0, 1) := by decide +kernel
theorem dX8_suppose_57 : decode cX8_suppose 57 = .ok (.iload 6, 2) := by decide +kernel
theorem dX8_suppose_59 : decode cX8_suppose 59 = .ok (.iconst 1, 1) := by decide +kernel
theorem dX8_suppose_60 : decode cX8_suppose 60 = .ok (.iload 4, 2) := by decide +kernel
theorem dX8_suppose_62 : decode cX8_suppose 62 = .ok (.isub, 1) := by decide +kernel
theorem dX8_suppose_63 : decode cX8_suppose 63 = .ok (.invokestatic 76, 3) := by decide +kernel
theorem dX8_suppose_66 : decode cX8_suppose 66 = .ok (.iconst 1, 1) := by decide +kernel
theorem dX8_suppose_67 : decode cX8_suppose 67 = .ok (.if_icmp .ne 7, 3) := by decide +kernel
theorem dX8_suppose_70 : decode cX8_suppose 70 = .ok (.iconst 1, 1) := by decide +kernel
theorem dX8_suppose_71 : decode cX8_suppose 71 = .ok (.goto 4, 3) := by decide +kernel
theorem dX8_suppose_74 : decode cX8_suppose 74 = .ok (.iconst 0, 1) := by decide +kernel
theorem dX8_suppose_75 : decode cX8_suppose 75 = .ok (.invokevirtual 89, 3) := by decide +kernel
theorem dX8_suppose_78 : decode cX8_suppose 78 = .ok (.bastore, 1) := by decide +kernel
theorem dX8_suppose_79 : decode cX8_suppose 79 = .ok (.aload_n 0, 1) := by decide +kernel
theorem dX8_suppose_80 : decode cX8_suppose 80 = .ok (.getfield 44, 3) := by decide +kernel
theorem dX8_suppose_83 : decode cX8_suppose 83 = .ok (.iload 7, 2) := by decide +kernel
theorem dX8_suppose_85 : decode cX8_suppose 85 = .ok (.aload 5, 2) := by decide +kernel
theorem dX8_suppose_87 : decode cX8_suppose 87 = .ok (.aload_n 1, 1) := by decide +kernel
theorem dX8_suppose_88 : decode cX8_suppose 88 = .ok (.getfield 93, 3) := by decide +kernel
theorem dX8_suppose_91 : decode cX8_suppose 91 = .ok (.iload_n 2, 1) := by decide +kernel
theorem dX8_suppose_92 : decode cX8_suppose 92 = .ok (.iaload, 1) := by decide +kernel
theorem dX8_suppose_93 : decode cX8_suppose 93 = .ok (.aload_n 0, 1) := by decide +kernel
theorem dX8_suppose_94 : decode cX8_suppose 94 = .ok (.getfield 40, 3) := by decide +kernel
theorem dX8_suppose_97 : decode cX8_suppose 97 = .ok (.iload 7, 2) := by decide +kernel
theorem dX8_suppose_99 : decode cX8_suppose 99 = .ok (.baload, 1) := by decide +kernel
theorem dX8_suppose_100 : decode cX8_suppose 100 = .ok (.invokevirtual 96, 3) := by decide +kernel
theorem dX8_suppose_103 : decode cX8_suppose 103 = .ok (.iastore, 1) := by decide +kernel
theorem dX8_suppose_104 : decode cX8_suppose 104 = .ok (.aload_n 0, 1) := by decide +kernel
theorem dX8_suppose_105 : decode cX8_suppose 105 = .ok (.getfield 47, 3) := by decide +kernel
theorem dX8_suppose_108 : decode cX8_suppose 108 = .ok (.iload 7, 2) := by decide +kernel
theorem dX8_suppose_110 : decode cX8_suppose 110 = .ok (.aload 5, 2) := by decide +kernel
theorem dX8_suppose_112 : decode cX8_suppose 112 = .ok (.aload_n 1, 1) := by decide +kernel
theorem dX8_suppose_113 : decode cX8_suppose 113 = .ok (.getfield 99, 3) := by decide +kernel
theorem dX8_suppose_116 : decode cX8_suppose 116 = .ok (.iload_n 2, 1) := by decide +kernel
theorem dX8_suppose_117 : decode cX8_suppose 117 = .ok (.iaload, 1) := by decide +kernel
theorem dX8_suppose_118 : decode cX8_suppose 118 = .ok (.aload_n 0, 1) := by decide +kernel
theorem dX8_suppose_119 : decode cX8_suppose 119 = .ok (.getfield 40, 3) := by decide +kernel
theorem dX8_suppose_122 : decode cX8_suppose 122 = .ok (.iload 7, 2) := by decide +kernel
theorem dX8_suppose_124 : decode cX8_suppose 124 = .ok (.baload, 1) := by decide +kernel
theorem dX8_suppose_125 : decode cX8_suppose 125 = .ok (.invokevirtual 102, 3) := by decide +kernel
theorem dX8_suppose_128 : decode cX8_suppose 128 = .ok (.iastore, 1) := by decide +kernel
theorem dX8_suppose_129 : decode cX8_suppose 129 = .ok (.iinc 6 1, 3) := by decide +kernel
theorem dX8_suppose_132 : decode cX8_suppose 132 = .ok (.goto (-113), 3) := by decide +kernel
theorem dX8_suppose_135 : decode cX8_suppose 135 = .ok (.return_, 1) := by decide +kernel
def P_X8_suppose : Nat → Nat
  | 1 => 19
  | 2 => 57
  | 3 => 75
  | _ => 0
set_option maxRecDepth 100000 in
set_option maxHeartbeats 4000000 in
theorem S_X8_suppose : zSd yX8_suppose cX8_suppose 8 none { frames := 2, cells := 0, slots := 0, locals := 44 } T_X8_suppose := by
  refine zMet (pcs := P_X8_suppose) (F := F_X8_suppose) (by decide) rfl ?_
  intro p l e s m args below meth c D ids ad A Q Y C hr hk hY b
  match b with
  | 0 => exact (z_aln (pc := 0) C dX8_suppose_0 rfl <| z_gf (pc := 1) C dX8_suppose_1 fl_8_27 <| z_iln (pc := 4) C dX8_suppose_4 rfl <| z_aa (pc := 5) C dX8_suppose_5 <| z_as (pc := 6) C dX8_suppose_6 (by decide) <| z_aln (pc := 8) C dX8_suppose_8 rfl <| z_gf (pc := 9) C dX8_suppose_9 fl_8_33 <| z_iln (pc := 12) C dX8_suppose_12 rfl <| z_il (pc := 13) C dX8_suppose_13 <| z_iast (pc := 15) C dX8_suppose_15 <| z_ic (pc := 16) C dX8_suppose_16 (by decide +kernel) <| z_is (pc := 17) C dX8_suppose_17 (by decide) <| z_jmp (hY 1))
  | 1 => exact (z_il (pc := 19) C dX8_suppose_19 <| z_ic (pc := 21) C dX8_suppose_21 (by decide +kernel) <| z_cmpge (tgt := 135) (pc := 22) C dX8_suppose_22 (by decide) (z_vr C hr hk dX8_suppose_135) <| z_iln (pc := 25) C dX8_suppose_25 rfl <| z_ic (pc := 26) C dX8_suppose_26 (by decide +kernel) <| z_imul (pc := 27) C dX8_suppose_27 <| z_il (pc := 28) C dX8_suppose_28 <| z_iadd (pc := 30) C dX8_suppose_30 <| z_is (pc := 31) C dX8_suppose_31 (by decide) <| z_aln (pc := 33) C dX8_suppose_33 rfl <| z_gf (pc := 34) C dX8_suppose_34 fl_8_40 <| z_il (pc := 37) C dX8_suppose_37 <| z_al (pc := 39) C dX8_suppose_39 <| z_il (pc := 41) C dX8_suppose_41 <| z_il (pc := 43) C dX8_suppose_43 <| z_cSN (pc := 45) C dX8_suppose_45 S_X11_bit (host := "EveryPew") (by decide +kernel) (zl2 w_496 w_1) w_497 ds_X11_bit (zrm rfl rfl (by decide) (by decide)) <| z_ic (pc := 48) C dX8_suppose_48 (by decide +kernel) <| z_cmpne (tgt := 56) (pc := 49) C dX8_suppose_49 (by decide) (z_ic (pc := 56) C dX8_suppose_56 (by decide +kernel) <| z_jmp (hY 2)) <| z_ic (pc := 52) C dX8_suppose_52 (by decide +kernel) <| z_goto (tgt := 57) (pc := 53) C dX8_suppose_53 (by decide) <| z_jmp (hY 2))
  | 2 => exact (z_il (pc := 57) C dX8_suppose_57 <| z_ic (pc := 59) C dX8_suppose_59 (by decide +kernel) <| z_il (pc := 60) C dX8_suppose_60 <| z_isub (pc := 62) C dX8_suppose_62 <| z_cSN (pc := 63) C dX8_suppose_63 S_X11_bit (host := "EveryPew") (by decide +kernel) (zl2 w_496 w_1) w_497 ds_X11_bit (zrm rfl rfl (by decide) (by decide)) <| z_ic (pc := 66) C dX8_suppose_66 (by decide +kernel) <| z_cmpne (tgt := 74) (pc := 67) C dX8_suppose_67 (by decide) (z_ic (pc := 74) C dX8_suppose_74 (by decide +kernel) <| z_jmp (hY 3)) <| z_ic (pc := 70) C dX8_suppose_70 (by decide +kernel) <| z_goto (tgt := 75) (pc := 71) C dX8_suppose_71 (by decide) <| z_jmp (hY 3))
  | 3 => exact (z_cD (pc := 75) (x := ⟨"EveryPew$Plain", "kneelsAt", "(ZZ)Z"⟩) (owner := "EveryPew$Plain") C dX8_suppose_75 (fun ci => match ci with
  | 0 => Or.inl ⟨_, _, _, _, _, _, _, _, rfl, S_X6_kneelsAt, zl6 w_538 w_541 w_539 w_542 w_539 w_5, w_553, zrm rfl rfl (by decide) (by decide)⟩
  | 2 => Or.inl ⟨_, _, _, _, _, _, _, _, rfl, S_X2_kneelsAt, zl6 w_538 w_541 w_539 w_543 w_544 w_7, w_545, zrm rfl rfl (by decide) (by decide)⟩
  | 4 => Or.inl ⟨_, _, _, _, _, _, _, _, rfl, S_X4_kneelsAt, zl6 w_538 w_541 w_539 w_546 w_547 w_8, w_548, zrm rfl rfl (by decide) (by decide)⟩
  | 5 => Or.inl ⟨_, _, _, _, _, _, _, _, rfl, S_X6_kneelsAt, zl6 w_538 w_541 w_539 w_549 w_539 w_5, w_553, zrm rfl rfl (by decide) (by decide)⟩
  | 6 => Or.inl ⟨_, _, _, _, _, _, _, _, rfl, S_X6_kneelsAt, zl6 w_538 w_541 w_539 w_540 w_539 w_5, w_553, zrm rfl rfl (by decide) (by decide)⟩
  | 10 => Or.inl ⟨_, _, _, _, _, _, _, _, rfl, S_X10_kneelsAt, zl6 w_538 w_541 w_539 w_550 w_551 w_10, w_552, zrm rfl rfl (by decide) (by decide)⟩
  | 1 => Or.inr (fun _ _ _ h => h)
  | 3 => Or.inr (fun _ _ _ h => h)
  | 7 => Or.inr (fun _ _ _ h => h)
  | 8 => Or.inr (fun _ _ _ h => h)
  | 9 => Or.inr (fun _ _ _ h => h)
  | 11 => Or.inr (fun _ _ _ h => h)
  | 12 => Or.inr (fun _ _ _ h => h)
  | ci + 13 => Or.inr (fun _ _ _ h => h)) w_553 ⟨by decide, by decide, by decide +kernel⟩ <| z_bast (pc := 78) C dX8_suppose_78 <| z_aln (pc := 79) C dX8_suppose_79 rfl <| z_gf (pc := 80) C dX8_suppose_80 fl_8_44 <| z_il (pc := 83) C dX8_suppose_83 <| z_al (pc := 85) C dX8_suppose_85 <| z_aln (pc := 87) C dX8_suppose_87 rfl <| z_gf (pc := 88) C dX8_suppose_88 fl_8_93 <| z_iln (pc := 91) C dX8_suppose_91 rfl <| z_ia (pc := 92) C dX8_suppose_92 <| z_aln (pc := 93) C dX8_suppose_93 rfl <| z_gf (pc := 94) C dX8_suppose_94 fl_8_40 <| z_il (pc := 97) C dX8_suppose_97 <| z_ba (pc := 99) C dX8_suppose_99 <| z_cD (pc := 100) (x := ⟨"EveryPew$Plain", "height", "(IZ)I"⟩) (owner := "EveryPew$Plain") C dX8_suppose_100 (fun ci => match ci with
  | 0 => Or.inl ⟨_, _, _, _, _, _, _, _, rfl, S_X0_height, zl6 w_554 w_557 w_555 w_558 w_559 w_9, w_560, zrm rfl rfl (by decide) (by decide)⟩
  | 2 => Or.inl ⟨_, _, _, _, _, _, _, _, rfl, S_X6_height, zl6 w_554 w_557 w_555 w_567 w_555 w_5, w_574, zrm rfl rfl (by decide) (by decide)⟩
  | 4 => Or.inl ⟨_, _, _, _, _, _, _, _, rfl, S_X4_height, zl6 w_554 w_557 w_555 w_568 w_569 w_8, w_570, zrm rfl rfl (by decide) (by decide)⟩
  | 5 => Or.inl ⟨_, _, _, _, _, _, _, _, rfl, S_X6_height, zl6 w_554 w_557 w_555 w_572 w_555 w_5, w_574, zrm rfl rfl (by decide) (by decide)⟩
  | 6 => Or.inl ⟨_, _, _, _, _, _, _, _, rfl, S_X6_height, zl6 w_554 w_557 w_555 w_556 w_555 w_5, w_574, zrm rfl rfl (by decide) (by decide)⟩
  | 10 => Or.inl ⟨_, _, _, _, _, _, _, _, rfl, S_X6_height, zl6 w_554 w_557 w_555 w_573 w_555 w_5, w_574, zrm rfl rfl (by decide) (by decide)⟩
  | 1 => Or.inr (fun _ _ _ h => h)
  | 3 => Or.inr (fun _ _ _ h => h)
  | 7 => Or.inr (fun _ _ _ h => h)
  | 8 => Or.inr (fun _ _ _ h => h)
  | 9 => Or.inr (fun _ _ _ h => h)
  | 11 => Or.inr (fun _ _ _ h => h)
  | 12 => Or.inr (fun _ _ _ h => h)
  | ci + 13 => Or.inr (fun _ _ _ h => h)) w_574 ⟨by decide, by decide, by decide +kernel⟩ <| z_iast (pc := 103) C dX8_suppose_103 <| z_aln (pc := 104) C dX8_suppose_104 rfl <| z_gf (pc := 105) C dX8_suppose_105 fl_8_47 <| z_il (pc := 108) C dX8_suppose_108 <| z_al (pc := 110) C dX8_suppose_110 <| z_aln (pc := 112) C dX8_suppose_112 rfl <| z_gf (pc := 113) C dX8_suppose_113 fl_8_99 <| z_iln (pc := 116) C dX8_suppose_116 rfl <| z_ia (pc := 117) C dX8_suppose_117 <| z_aln (pc := 118) C dX8_suppose_118 rfl <| z_gf (pc := 119) C dX8_suppose_119 fl_8_40 <| z_il (pc := 122) C dX8_suppose_122 <| z_ba (pc := 124) C dX8_suppose_124 <| z_cD (pc := 125) (x := ⟨"EveryPew$Plain", "sound", "(IZ)I"⟩) (owner := "EveryPew$Plain") C dX8_suppose_125 (fun ci => match ci with
  | 0 => Or.inl ⟨_, _, _, _, _, _, _, _, rfl, S_X5_sound, zl6 w_575 w_578 w_576 w_579 w_580 w_6, w_581, zrm rfl rfl (by decide) (by decide)⟩
  | 2 => Or.inl ⟨_, _, _, _, _, _, _, _, rfl, S_X6_sound, zl6 w_575 w_578 w_576 w_583 w_576 w_5, w_593, zrm rfl rfl (by decide) (by decide)⟩
  | 4 => Or.inl ⟨_, _, _, _, _, _, _, _, rfl, S_X6_sound, zl6 w_575 w_578 w_576 w_584 w_576 w_5, w_593, zrm rfl rfl (by decide) (by decide)⟩
  | 5 => Or.inl ⟨_, _, _, _, _, _, _, _, rfl, S_X5_sound, zl6 w_575 w_578 w_576 w_585 w_580 w_6, w_581, zrm rfl rfl (by decide) (by decide)⟩
  | 6 => Or.inl ⟨_, _, _, _, _, _, _, _, rfl, S_X6_sound, zl6 w_575 w_578 w_576 w_577 w_576 w_5, w_593, zrm rfl rfl (by decide) (by decide)⟩
  | 10 => Or.inl ⟨_, _, _, _, _, _, _, _, rfl, S_X10_sound, zl6 w_575 w_578 w_576 w_586 w_587 w_10, w_588, zrm rfl rfl (by decide) (by decide)⟩
  | 1 => Or.inr (fun _ _ _ h => h)
  | 3 => Or.inr (fun _ _ _ h => h)
  | 7 => Or.inr (fun _ _ _ h => h)
  | 8 => Or.inr (fun _ _ _ h => h)
  | 9 => Or.inr (fun _ _ _ h => h)
  | 11 => Or.inr (fun _ _ _ h => h)
  | 12 => Or.inr (fun _ _ _ h => h)
  | ci + 13 => Or.inr (fun _ _ _ h => h)) w_593 ⟨by decide, by decide, by decide +kernel⟩ <| z_iast (pc := 128) C dX8_suppose_128 <| z_inc (pc := 129) C dX8_suppose_129 (by decide +kernel) (by decide) <| z_goto (tgt := 19) (pc := 132) C dX8_suppose_132 (by decide) <| z_jmp (hY 1))
  | b + 4 => exact fun _ _ _ h => h.elim
theorem dX8_hold_0 : decode cX8_hold 0 = .ok (.aload_n 0, 1) := by decide +kernel
theorem dX8_hold_1 : decode cX8_hold 1 = .ok (.aload_n 1, 1) := by decide +kernel
theorem dX8_hold_2 : decode cX8_hold 2 = .ok (.getfield 56, 3) := by decide +kernel
theorem dX8_hold_5 : decode cX8_hold 5 = .ok (.putfield 62, 3) := by decide +kernel
theorem dX8_hold_8 : decode cX8_hold 8 = .ok (.aload_n 0, 1) := by decide +kernel
theorem dX8_hold_9 : decode cX8_hold 9 = .ok (.aload_n 1, 1) := by decide +kernel
theorem dX8_hold_10 : decode cX8_hold 10 = .ok (.getfield 63, 3) := by decide +kernel
theorem dX8_hold_13 : decode cX8_hold 13 = .ok (.putfield 66, 3) := by decide +kernel
theorem dX8_hold_16 : decode cX8_hold 16 = .ok (.aload_n 0, 1) := by decide +kernel
theorem dX8_hold_17 : decode cX8_hold 17 = .ok (.getfield 53, 3) := by decide +kernel
theorem dX8_hold_20 : decode cX8_hold 20 = .ok (.iconst 0, 1) := by decide +kernel
theorem dX8_hold_21 : decode cX8_hold 21 = .ok (.invokestatic 67, 3) := by decide +kernel
theorem dX8_hold_24 : decode cX8_hold 24 = .ok (.iconst 0, 1) := by decide +kernel
theorem dX8_hold_25 : decode cX8_hold 25 = .ok (.istore_n 2, 1) := by decide +kernel
theorem dX8_hold_26 : decode cX8_hold 26 = .ok (.iload_n 2, 1) := by decide +kernel
theorem dX8_hold_27 : decode cX8_hold 27 = .ok (.bipush 16, 2) := by decide +kernel
theorem dX8_hold_29 : decode cX8_hold 29 = .ok (.if_icmp .ge 53, 3) := by decide +kernel
theorem dX8_hold_32 : decode cX8_hold 32 = .ok (.aload_n 0, 1) := by decide +kernel
theorem dX8_hold_33 : decode cX8_hold 33 = .ok (.getfield 50, 3) := by decide +kernel
theorem dX8_hold_36 : decode cX8_hold 36 = .ok (.iload_n 2, 1) := by decide +kernel
theorem dX8_hold_37 : decode cX8_hold 37 = .ok (.aload_n 1, 1) := by decide +kernel
theorem dX8_hold_38 : decode cX8_hold 38 = .ok (.getfield 73, 3) := by decide +kernel
theorem dX8_hold_41 : decode cX8_hold 41 = .ok (.iconst 0, 1) := by decide +kernel
theorem dX8_hold_42 : decode cX8_hold 42 = .ok (.iaload, 1) := by decide +kernel
theorem dX8_hold_43 : decode cX8_hold 43 = .ok (.iload_n 2, 1) := by decide +kernel
theorem dX8_hold_44 : decode cX8_hold 44 = .ok (.invokestatic 76, 3) := by decide +kernel
theorem dX8_hold_47 : decode cX8_hold 47 = .ok (.aload_n 1, 1) := by decide +kernel
theorem dX8_hold_48 : decode cX8_hold 48 = .ok (.getfield 73, 3) := by decide +kernel
theorem dX8_hold_51 : decode cX8_hold 51 = .ok (.iconst 1, 1) := by decide +kernel
theorem dX8_hold_52 : decode cX8_hold 52 = .ok (.iaload, 1) := by decide +kernel
theorem dX8_hold_53 : decode cX8_hold 53 = .ok (.iload_n 2, 1) := by decide +kernel
theorem dX8_hold_54 : decode cX8_hold 54 = .ok (.invokestatic 76, 3) := by decide +kernel
theorem dX8_hold_57 : decode cX8_hold 57 = .ok (.iconst 1, 1) := by decide +kernel
theorem dX8_hold_58 : decode cX8_hold 58 = .ok (.ishl, 1) := by decide +kernel
theorem dX8_hold_59 : decode cX8_hold 59 = .ok (.ior, 1) := by decide +kernel
theorem dX8_hold_60 : decode cX8_hold 60 = .ok (.iastore, 1) := by decide +kernel
theorem dX8_hold_61 : decode cX8_hold 61 = .ok (.aload_n 0, 1) := by decide +kernel
theorem dX8_hold_62 : decode cX8_hold 62 = .ok (.getfield 53, 3) := by decide +kernel
theorem dX8_hold_65 : decode cX8_hold 65 = .ok (.aload_n 0, 1) := by decide +kernel
theorem dX8_hold_66 : decode cX8_hold 66 = .ok (.getfield 50, 3) := by decide +kernel
theorem dX8_hold_69 : decode cX8_hold 69 = .ok (.iload_n 2, 1) := by decide +kernel
theorem dX8_hold_70 : decode cX8_hold 70 = .ok (.iaload, 1) := by decide +kernel
theorem dX8_hold_71 : decode cX8_hold 71 = .ok (.dup2, 1) := by decide +kernel
theorem dX8_hold_72 : decode cX8_hold 72 = .ok (.iaload, 1) := by decide +kernel
theorem dX8_hold_73 : decode cX8_hold 73 = .ok (.iconst 1, 1) := by decide +kernel
theorem dX8_hold_74 : decode cX8_hold 74 = .ok (.iadd, 1) := by decide +kernel
theorem dX8_hold_75 : decode cX8_hold 75 = .ok (.iastore, 1) := by decide +kernel
theorem dX8_hold_76 : decode cX8_hold 76 = .ok (.iinc 2 1, 3) := by decide +kernel
theorem dX8_hold_79 : decode cX8_hold 79 = .ok (.goto (-53), 3) := by decide +kernel
theorem dX8_hold_82 : decode cX8_hold 82 = .ok (.iconst 0, 1) := by decide +kernel
theorem dX8_hold_83 : decode cX8_hold 83 = .ok (.istore_n 2, 1) := by decide +kernel
theorem dX8_hold_84 : decode cX8_hold 84 = .ok (.iload_n 2, 1) := by decide +kernel
theorem dX8_hold_85 : decode cX8_hold 85 = .ok (.aload_n 0, 1) := by decide +kernel
theorem dX8_hold_86 : decode cX8_hold 86 = .ok (.getfield 62, 3) := by decide +kernel
theorem dX8_hold_89 : decode cX8_hold 89 = .ok (.if_icmp .ge 39, 3) := by decide +kernel
theorem dX8_hold_92 : decode cX8_hold 92 = .ok (.aload_n 0, 1) := by decide +kernel
theorem dX8_hold_93 : decode cX8_hold 93 = .ok (.getfield 37, 3) := by decide +kernel
theorem dX8_hold_96 : decode cX8_hold 96 = .ok (.iload_n 2, 1) := by decide +kernel
theorem dX8_hold_97 : decode cX8_hold 97 = .ok (.aload_n 1, 1) := by decide +kernel
theorem dX8_hold_98 : decode cX8_hold 98 = .ok (.getfield 80, 3) := by decide +kernel
theorem dX8_hold_101 : decode cX8_hold 101 = .ok (.iload_n 2, 1) := by decide +kernel
theorem dX8_hold_102 : decode cX8_hold 102 = .ok (.iaload, 1) := by decide +kernel
theorem dX8_hold_103 : decode cX8_hold 103 = .ok (.iastore, 1) := by decide +kernel
theorem dX8_hold_104 : decode cX8_hold 104 = .ok (.aload_n 0, 1) := by decide +kernel
theorem dX8_hold_105 : decode cX8_hold 105 = .ok (.aload_n 1, 1) := by decide +kernel
theorem dX8_hold_106 : decode cX8_hold 106 = .ok (.iload_n 2, 1) := by decide +kernel
theorem dX8_hold_107 : decode cX8_hold 107 = .ok (.aload_n 1, 1) := by decide +kernel
theorem dX8_hold_108 : decode cX8_hold 108 = .ok (.getfield 81, 3) := by decide +kernel
theorem dX8_hold_111 : decode cX8_hold 111 = .ok (.iload_n 2, 1) := by decide +kernel
theorem dX8_hold_112 : decode cX8_hold 112 = .ok (.iaload, 1) := by decide +kernel
theorem dX8_hold_113 : decode cX8_hold 113 = .ok (.aload_n 1, 1) := by decide +kernel
theorem dX8_hold_114 : decode cX8_hold 114 = .ok (.getfield 84, 3) := by decide +kernel
theorem dX8_hold_117 : decode cX8_hold 117 = .ok (.iload_n 2, 1) := by decide +kernel
theorem dX8_hold_118 : decode cX8_hold 118 = .ok (.iaload, 1) := by decide +kernel
theorem dX8_hold_119 : decode cX8_hold 119 = .ok (.invokevirtual 85, 3) := by decide +kernel
theorem dX8_hold_122 : decode cX8_hold 122 = .ok (.iinc 2 1, 3) := by decide +kernel
theorem dX8_hold_125 : decode cX8_hold 125 = .ok (.goto (-41), 3) := by decide +kernel
theorem dX8_hold_128 : decode cX8_hold 128 = .ok (.return_, 1) := by decide +kernel
def P_X8_hold : Nat → Nat
  | 1 => 26
  | 2 => 84
  | _ => 0
set_option maxRecDepth 100000 in
set_option maxHeartbeats 4000000 in
theorem S_X8_hold : zSd yX8_hold cX8_hold 3 none { frames := 3, cells := 0, slots := 0, locals := 71 } T_X8_hold := by
  refine zMet (pcs := P_X8_hold) (F := F_X8_hold) (by decide) rfl ?_
  intro p l e s m args below meth c D ids ad A Q Y C hr hk hY b
  match b with
  | 0 => exact (z_aln (pc := 0) C dX8_hold_0 rfl <| z_aln (pc := 1) C dX8_hold_1 rfl <| z_gf (pc := 2) C dX8_hold_2 fl_8_56 <| z_pf (pc := 5) C dX8_hold_5 fp_8_62 <| z_aln (pc := 8) C dX8_hold_8 rfl <| z_aln (pc := 9) C dX8_hold_9 rfl <| z_gf (pc := 10) C dX8_hold_10 fl_8_63 <| z_pf (pc := 13) C dX8_hold_13 fp_8_66 <| z_aln (pc := 16) C dX8_hold_16 rfl <| z_gf (pc := 17) C dX8_hold_17 fl_8_53 <| z_ic (pc := 20) C dX8_hold_20 (by decide +kernel) <| z_cS (pc := 21) C dX8_hold_21 S_J7_fill_53178 (zl3 w_532 w_320 w_14) w_321 ds_J7_fill_53178 (zrm rfl rfl (by decide) (by decide)) <| z_ic (pc := 24) C dX8_hold_24 (by decide +kernel) <| z_isn (pc := 25) C dX8_hold_25 rfl (by decide) <| z_jmp (hY 1))
  | 1 => exact (z_iln (pc := 26) C dX8_hold_26 rfl <| z_bi (pc := 27) C dX8_hold_27 (by decide +kernel) <| z_cmpge (tgt := 82) (pc := 29) C dX8_hold_29 (by decide) (z_ic (pc := 82) C dX8_hold_82 (by decide +kernel) <| z_isn (pc := 83) C dX8_hold_83 rfl (by decide) <| z_jmp (hY 2)) <| z_aln (pc := 32) C dX8_hold_32 rfl <| z_gf (pc := 33) C dX8_hold_33 fl_8_50 <| z_iln (pc := 36) C dX8_hold_36 rfl <| z_aln (pc := 37) C dX8_hold_37 rfl <| z_gf (pc := 38) C dX8_hold_38 fl_8_73 <| z_ic (pc := 41) C dX8_hold_41 (by decide +kernel) <| z_ia (pc := 42) C dX8_hold_42 <| z_iln (pc := 43) C dX8_hold_43 rfl <| z_cSN (pc := 44) C dX8_hold_44 S_X11_bit (host := "EveryPew") (by decide +kernel) (zl2 w_496 w_1) w_497 ds_X11_bit (zrm rfl rfl (by decide) (by decide)) <| z_aln (pc := 47) C dX8_hold_47 rfl <| z_gf (pc := 48) C dX8_hold_48 fl_8_73 <| z_ic (pc := 51) C dX8_hold_51 (by decide +kernel) <| z_ia (pc := 52) C dX8_hold_52 <| z_iln (pc := 53) C dX8_hold_53 rfl <| z_cSN (pc := 54) C dX8_hold_54 S_X11_bit (host := "EveryPew") (by decide +kernel) (zl2 w_496 w_1) w_497 ds_X11_bit (zrm rfl rfl (by decide) (by decide)) <| z_ic (pc := 57) C dX8_hold_57 (by decide +kernel) <| z_ishl (pc := 58) C dX8_hold_58 <| z_ior (pc := 59) C dX8_hold_59 <| z_iast (pc := 60) C dX8_hold_60 <| z_aln (pc := 61) C dX8_hold_61 rfl <| z_gf (pc := 62) C dX8_hold_62 fl_8_53 <| z_aln (pc := 65) C dX8_hold_65 rfl <| z_gf (pc := 66) C dX8_hold_66 fl_8_50 <| z_iln (pc := 69) C dX8_hold_69 rfl <| z_ia (pc := 70) C dX8_hold_70 <| z_dup2 (pc := 71) C dX8_hold_71 <| z_ia (pc := 72) C dX8_hold_72 <| z_ic (pc := 73) C dX8_hold_73 (by decide +kernel) <| z_iadd (pc := 74) C dX8_hold_74 <| z_iast (pc := 75) C dX8_hold_75 <| z_inc (pc := 76) C dX8_hold_76 (by decide +kernel) (by decide) <| z_goto (tgt := 26) (pc := 79) C dX8_hold_79 (by decide) <| z_jmp (hY 1))
  | 2 => exact (z_iln (pc := 84) C dX8_hold_84 rfl <| z_aln (pc := 85) C dX8_hold_85 rfl <| z_gf (pc := 86) C dX8_hold_86 fl_8_62 <| z_cmpge (tgt := 128) (pc := 89) C dX8_hold_89 (by decide) (z_vr C hr hk dX8_hold_128) <| z_aln (pc := 92) C dX8_hold_92 rfl <| z_gf (pc := 93) C dX8_hold_93 fl_8_37 <| z_iln (pc := 96) C dX8_hold_96 rfl <| z_aln (pc := 97) C dX8_hold_97 rfl <| z_gf (pc := 98) C dX8_hold_98 fl_8_80 <| z_iln (pc := 101) C dX8_hold_101 rfl <| z_ia (pc := 102) C dX8_hold_102 <| z_iast (pc := 103) C dX8_hold_103 <| z_aln (pc := 104) C dX8_hold_104 rfl <| z_aln (pc := 105) C dX8_hold_105 rfl <| z_iln (pc := 106) C dX8_hold_106 rfl <| z_aln (pc := 107) C dX8_hold_107 rfl <| z_gf (pc := 108) C dX8_hold_108 fl_8_81 <| z_iln (pc := 111) C dX8_hold_111 rfl <| z_ia (pc := 112) C dX8_hold_112 <| z_aln (pc := 113) C dX8_hold_113 rfl <| z_gf (pc := 114) C dX8_hold_114 fl_8_84 <| z_iln (pc := 117) C dX8_hold_117 rfl <| z_ia (pc := 118) C dX8_hold_118 <| z_cV (pc := 119) C dX8_hold_119 S_X8_suppose rfl (zl4 w_534 w_535 w_536 w_4) w_537 ds_X8_suppose (zrm rfl rfl (by decide) (by decide)) <| z_inc (pc := 122) C dX8_hold_122 (by decide +kernel) (by decide) <| z_goto (tgt := 84) (pc := 125) C dX8_hold_125 (by decide) <| z_jmp (hY 2))
  | b + 3 => exact fun _ _ _ h => h.elim
theorem dX8_kneels_0 : decode cX8_kneels 0 = .ok (.aload_n 0, 1) := by decide +kernel
theorem dX8_kneels_1 : decode cX8_kneels 1 = .ok (.getfield 40, 3) := by decide +kernel
theorem dX8_kneels_4 : decode cX8_kneels 4 = .ok (.iload_n 1, 1) := by decide +kernel
theorem dX8_kneels_5 : decode cX8_kneels 5 = .ok (.iconst 4, 1) := by decide +kernel
theorem dX8_kneels_6 : decode cX8_kneels 6 = .ok (.imul, 1) := by decide +kernel
theorem dX8_kneels_7 : decode cX8_kneels 7 = .ok (.aload_n 0, 1) := by decide +kernel
theorem dX8_kneels_8 : decode cX8_kneels 8 = .ok (.getfield 50, 3) := by decide +kernel
theorem dX8_kneels_11 : decode cX8_kneels 11 = .ok (.iload_n 2, 1) := by decide +kernel
theorem dX8_kneels_12 : decode cX8_kneels 12 = .ok (.iaload, 1) := by decide +kernel
theorem dX8_kneels_13 : decode cX8_kneels 13 = .ok (.iadd, 1) := by decide +kernel
theorem dX8_kneels_14 : decode cX8_kneels 14 = .ok (.baload, 1) := by decide +kernel
theorem dX8_kneels_15 : decode cX8_kneels 15 = .ok (.ireturn, 1) := by decide +kernel
def P_X8_kneels : Nat → Nat
  | _ => 0
set_option maxRecDepth 100000 in
set_option maxHeartbeats 4000000 in
theorem S_X8_kneels : zSd yX8_kneels cX8_kneels 3 (some .boolean) { frames := 0, cells := 0, slots := 0, locals := 0 } T_X8_kneels := by
  refine zMet (pcs := P_X8_kneels) (F := F_X8_kneels) (by decide) rfl ?_
  intro p l e s m args below meth c D ids ad A Q Y C hr hk hY b
  match b with
  | 0 => exact (z_aln (pc := 0) C dX8_kneels_0 rfl <| z_gf (pc := 1) C dX8_kneels_1 fl_8_40 <| z_iln (pc := 4) C dX8_kneels_4 rfl <| z_ic (pc := 5) C dX8_kneels_5 (by decide +kernel) <| z_imul (pc := 6) C dX8_kneels_6 <| z_aln (pc := 7) C dX8_kneels_7 rfl <| z_gf (pc := 8) C dX8_kneels_8 fl_8_50 <| z_iln (pc := 11) C dX8_kneels_11 rfl <| z_ia (pc := 12) C dX8_kneels_12 <| z_iadd (pc := 13) C dX8_kneels_13 <| z_ba (pc := 14) C dX8_kneels_14 <| z_zr C hr hk dX8_kneels_15)
  | b + 1 => exact fun _ _ _ h => h.elim
theorem dX8_high_0 : decode cX8_high 0 = .ok (.aload_n 0, 1) := by decide +kernel
theorem dX8_high_1 : decode cX8_high 1 = .ok (.getfield 44, 3) := by decide +kernel
theorem dX8_high_4 : decode cX8_high 4 = .ok (.iload_n 1, 1) := by decide +kernel
theorem dX8_high_5 : decode cX8_high 5 = .ok (.iconst 4, 1) := by decide +kernel
theorem dX8_high_6 : decode cX8_high 6 = .ok (.imul, 1) := by decide +kernel
theorem dX8_high_7 : decode cX8_high 7 = .ok (.aload_n 0, 1) := by decide +kernel
theorem dX8_high_8 : decode cX8_high 8 = .ok (.getfield 50, 3) := by decide +kernel
theorem dX8_high_11 : decode cX8_high 11 = .ok (.iload_n 2, 1) := by decide +kernel
theorem dX8_high_12 : decode cX8_high 12 = .ok (.iaload, 1) := by decide +kernel
theorem dX8_high_13 : decode cX8_high 13 = .ok (.iadd, 1) := by decide +kernel
theorem dX8_high_14 : decode cX8_high 14 = .ok (.iaload, 1) := by decide +kernel
theorem dX8_high_15 : decode cX8_high 15 = .ok (.ireturn, 1) := by decide +kernel
def P_X8_high : Nat → Nat
  | _ => 0
set_option maxRecDepth 100000 in
set_option maxHeartbeats 4000000 in
theorem S_X8_high : zSd yX8_high cX8_high 3 (some .int) { frames := 0, cells := 0, slots := 0, locals := 0 } T_X8_high := by
  refine zMet (pcs := P_X8_high) (F := F_X8_high) (by decide) rfl ?_
  intro p l e s m args below meth c D ids ad A Q Y C hr hk hY b
  match b with
  | 0 => exact (z_aln (pc := 0) C dX8_high_0 rfl <| z_gf (pc := 1) C dX8_high_1 fl_8_44 <| z_iln (pc := 4) C dX8_high_4 rfl <| z_ic (pc := 5) C dX8_high_5 (by decide +kernel) <| z_imul (pc := 6) C dX8_high_6 <| z_aln (pc := 7) C dX8_high_7 rfl <| z_gf (pc := 8) C dX8_high_8 fl_8_50 <| z_iln (pc := 11) C dX8_high_11 rfl <| z_ia (pc := 12) C dX8_high_12 <| z_iadd (pc := 13) C dX8_high_13 <| z_ia (pc := 14) C dX8_high_14 <| z_ir C hr hk dX8_high_15)
  | b + 1 => exact fun _ _ _ h => h.elim
theorem dX8_voices_0 : decode cX8_voices 0 = .ok (.iload_n 3, 1) := by decide +kernel
theorem dX8_voices_1 : decode cX8_voices 1 = .ok (.iload_n 1, 1) := by decide +kernel
theorem dX8_voices_2 : decode cX8_voices 2 = .ok (.invokestatic 76, 3) := by decide +kernel
theorem dX8_voices_5 : decode cX8_voices 5 = .ok (.iconst 1, 1) := by decide +kernel
theorem dX8_voices_6 : decode cX8_voices 6 = .ok (.if_icmp .ne 7, 3) := by decide +kernel
theorem dX8_voices_9 : decode cX8_voices 9 = .ok (.iconst 0, 1) := by decide +kernel
theorem dX8_voices_10 : decode cX8_voices 10 = .ok (.goto 18, 3) := by decide +kernel
theorem dX8_voices_13 : decode cX8_voices 13 = .ok (.aload_n 0, 1) := by decide +kernel
theorem dX8_voices_14 : decode cX8_voices 14 = .ok (.getfield 47, 3) := by decide +kernel
theorem dX8_voices_17 : decode cX8_voices 17 = .ok (.iload_n 1, 1) := by decide +kernel
theorem dX8_voices_18 : decode cX8_voices 18 = .ok (.iconst 4, 1) := by decide +kernel
theorem dX8_voices_19 : decode cX8_voices 19 = .ok (.imul, 1) := by decide +kernel
theorem dX8_voices_20 : decode cX8_voices 20 = .ok (.aload_n 0, 1) := by decide +kernel
theorem dX8_voices_21 : decode cX8_voices 21 = .ok (.getfield 50, 3) := by decide +kernel
theorem dX8_voices_24 : decode cX8_voices 24 = .ok (.iload_n 2, 1) := by decide +kernel
theorem dX8_voices_25 : decode cX8_voices 25 = .ok (.iaload, 1) := by decide +kernel
theorem dX8_voices_26 : decode cX8_voices 26 = .ok (.iadd, 1) := by decide +kernel
theorem dX8_voices_27 : decode cX8_voices 27 = .ok (.iaload, 1) := by decide +kernel
theorem dX8_voices_28 : decode cX8_voices 28 = .ok (.ireturn, 1) := by decide +kernel
def P_X8_voices : Nat → Nat
  | _ => 0
set_option maxRecDepth 100000 in
set_option maxHeartbeats 4000000 in
theorem S_X8_voices : zSd yX8_voices cX8_voices 4 (some .int) { frames := 1, cells := 0, slots := 0, locals := 21 } T_X8_voices := by
  refine zMet (pcs := P_X8_voices) (F := F_X8_voices) (by decide) rfl ?_
  intro p l e s m args below meth c D ids ad A Q Y C hr hk hY b
  match b with
  | 0 => exact (z_iln (pc := 0) C dX8_voices_0 rfl <| z_iln (pc := 1) C dX8_voices_1 rfl <| z_cSN (pc := 2) C dX8_voices_2 S_X11_bit (host := "EveryPew") (by decide +kernel) (zl2 w_496 w_1) w_497 ds_X11_bit (zrm rfl rfl (by decide) (by decide)) <| z_ic (pc := 5) C dX8_voices_5 (by decide +kernel) <| z_cmpne (tgt := 13) (pc := 6) C dX8_voices_6 (by decide) (z_aln (pc := 13) C dX8_voices_13 rfl <| z_gf (pc := 14) C dX8_voices_14 fl_8_47 <| z_iln (pc := 17) C dX8_voices_17 rfl <| z_ic (pc := 18) C dX8_voices_18 (by decide +kernel) <| z_imul (pc := 19) C dX8_voices_19 <| z_aln (pc := 20) C dX8_voices_20 rfl <| z_gf (pc := 21) C dX8_voices_21 fl_8_50 <| z_iln (pc := 24) C dX8_voices_24 rfl <| z_ia (pc := 25) C dX8_voices_25 <| z_iadd (pc := 26) C dX8_voices_26 <| z_ia (pc := 27) C dX8_voices_27 <| z_ir C hr hk dX8_voices_28) <| z_ic (pc := 9) C dX8_voices_9 (by decide +kernel) <| z_goto (tgt := 28) (pc := 10) C dX8_voices_10 (by decide) <| z_ir C hr hk dX8_voices_28)
  | b + 1 => exact fun _ _ _ h => h.elim
theorem dX8_sees_0 : decode cX8_sees 0 = .ok (.iconst 0, 1) := by decide +kernel
theorem dX8_sees_1 : decode cX8_sees 1 = .ok (.istore_n 3, 1) := by decide +kernel
theorem dX8_sees_2 : decode cX8_sees 2 = .ok (.iload_n 3, 1) := by decide +kernel
theorem dX8_sees_3 : decode cX8_sees 3 = .ok (.aload_n 0, 1) := by decide +kernel
theorem dX8_sees_4 : decode cX8_sees 4 = .ok (.getfield 62, 3) := by decide +kernel
theorem dX8_sees_7 : decode cX8_sees 7 = .ok (.if_icmp .ge 41, 3) := by decide +kernel
theorem dX8_sees_10 : decode cX8_sees 10 = .ok (.aload_n 0, 1) := by decide +kernel
theorem dX8_sees_11 : decode cX8_sees 11 = .ok (.getfield 37, 3) := by decide +kernel
theorem dX8_sees_14 : decode cX8_sees 14 = .ok (.iload_n 3, 1) := by decide +kernel
theorem dX8_sees_15 : decode cX8_sees 15 = .ok (.iaload, 1) := by decide +kernel
theorem dX8_sees_16 : decode cX8_sees 16 = .ok (.aload_n 0, 1) := by decide +kernel
theorem dX8_sees_17 : decode cX8_sees 17 = .ok (.getfield 37, 3) := by decide +kernel
theorem dX8_sees_20 : decode cX8_sees 20 = .ok (.iload_n 1, 1) := by decide +kernel
theorem dX8_sees_21 : decode cX8_sees 21 = .ok (.iaload, 1) := by decide +kernel
theorem dX8_sees_22 : decode cX8_sees 22 = .ok (.if_icmp .ge 20, 3) := by decide +kernel
theorem dX8_sees_25 : decode cX8_sees 25 = .ok (.aload_n 0, 1) := by decide +kernel
theorem dX8_sees_26 : decode cX8_sees 26 = .ok (.iload_n 3, 1) := by decide +kernel
theorem dX8_sees_27 : decode cX8_sees 27 = .ok (.iload_n 2, 1) := by decide +kernel
theorem dX8_sees_28 : decode cX8_sees 28 = .ok (.invokevirtual 104, 3) := by decide +kernel
theorem dX8_sees_31 : decode cX8_sees 31 = .ok (.aload_n 0, 1) := by decide +kernel
theorem dX8_sees_32 : decode cX8_sees 32 = .ok (.iload_n 1, 1) := by decide +kernel
theorem dX8_sees_33 : decode cX8_sees 33 = .ok (.iload_n 2, 1) := by decide +kernel
theorem dX8_sees_34 : decode cX8_sees 34 = .ok (.invokevirtual 104, 3) := by decide +kernel
theorem dX8_sees_37 : decode cX8_sees 37 = .ok (.if_icmp .lt 5, 3) := by decide +kernel
theorem dX8_sees_40 : decode cX8_sees 40 = .ok (.iconst 0, 1) := by decide +kernel
theorem dX8_sees_41 : decode cX8_sees 41 = .ok (.ireturn, 1) := by decide +kernel
theorem dX8_sees_42 : decode cX8_sees 42 = .ok (.iinc 3 1, 3) := by decide +kernel
theorem dX8_sees_45 : decode cX8_sees 45 = .ok (.goto (-43), 3) := by decide +kernel
theorem dX8_sees_48 : decode cX8_sees 48 = .ok (.iconst 1, 1) := by decide +kernel
theorem dX8_sees_49 : decode cX8_sees 49 = .ok (.ireturn, 1) := by decide +kernel
def P_X8_sees : Nat → Nat
  | 1 => 2
  | 2 => 42
  | _ => 0
set_option maxRecDepth 100000 in
set_option maxHeartbeats 4000000 in
theorem S_X8_sees : zSd yX8_sees cX8_sees 4 (some .boolean) { frames := 1, cells := 0, slots := 0, locals := 22 } T_X8_sees := by
  refine zMet (pcs := P_X8_sees) (F := F_X8_sees) (by decide) rfl ?_
  intro p l e s m args below meth c D ids ad A Q Y C hr hk hY b
  match b with
  | 0 => exact (z_ic (pc := 0) C dX8_sees_0 (by decide +kernel) <| z_isn (pc := 1) C dX8_sees_1 rfl (by decide) <| z_jmp (hY 1))
  | 1 => exact (z_iln (pc := 2) C dX8_sees_2 rfl <| z_aln (pc := 3) C dX8_sees_3 rfl <| z_gf (pc := 4) C dX8_sees_4 fl_8_62 <| z_cmpge (tgt := 48) (pc := 7) C dX8_sees_7 (by decide) (z_ic (pc := 48) C dX8_sees_48 (by decide +kernel) <| z_zr C hr hk dX8_sees_49) <| z_aln (pc := 10) C dX8_sees_10 rfl <| z_gf (pc := 11) C dX8_sees_11 fl_8_37 <| z_iln (pc := 14) C dX8_sees_14 rfl <| z_ia (pc := 15) C dX8_sees_15 <| z_aln (pc := 16) C dX8_sees_16 rfl <| z_gf (pc := 17) C dX8_sees_17 fl_8_37 <| z_iln (pc := 20) C dX8_sees_20 rfl <| z_ia (pc := 21) C dX8_sees_21 <| z_cmpge (tgt := 42) (pc := 22) C dX8_sees_22 (by decide) (z_jmp (hY 2)) <| z_aln (pc := 25) C dX8_sees_25 rfl <| z_iln (pc := 26) C dX8_sees_26 rfl <| z_iln (pc := 27) C dX8_sees_27 rfl <| z_cV (pc := 28) C dX8_sees_28 S_X8_high rfl (zl4 w_610 w_599 w_600 w_4) w_601 ds_X8_high (zrm rfl rfl (by decide) (by decide)) <| z_aln (pc := 31) C dX8_sees_31 rfl <| z_iln (pc := 32) C dX8_sees_32 rfl <| z_iln (pc := 33) C dX8_sees_33 rfl <| z_cV (pc := 34) C dX8_sees_34 S_X8_high rfl (zl4 w_610 w_599 w_600 w_4) w_601 ds_X8_high (zrm rfl rfl (by decide) (by decide)) <| z_cmplt (tgt := 42) (pc := 37) C dX8_sees_37 (by decide) (z_jmp (hY 2)) <| z_ic (pc := 40) C dX8_sees_40 (by decide +kernel) <| z_zr C hr hk dX8_sees_41)
  | 2 => exact (z_inc (pc := 42) C dX8_sees_42 (by decide +kernel) (by decide) <| z_goto (tgt := 2) (pc := 45) C dX8_sees_45 (by decide) <| z_jmp (hY 1))
  | b + 3 => exact fun _ _ _ h => h.elim
theorem dX8_isPeacefulInCase_0 : decode cX8_isPeacefulInCase 0 = .ok (.aload_n 0, 1) := by decide +kernel
theorem dX8_isPeacefulInCase_1 : decode cX8_isPeacefulInCase 1 = .ok (.iload_n 1, 1) := by decide +kernel
theorem dX8_isPeacefulInCase_2 : decode cX8_isPeacefulInCase 2 = .ok (.iconst 0, 1) := by decide +kernel
theorem dX8_isPeacefulInCase_3 : decode cX8_isPeacefulInCase 3 = .ok (.iload_n 2, 1) := by decide +kernel
theorem dX8_isPeacefulInCase_4 : decode cX8_isPeacefulInCase 4 = .ok (.invokevirtual 107, 3) := by decide +kernel
theorem dX8_isPeacefulInCase_7 : decode cX8_isPeacefulInCase 7 = .ok (.aload_n 0, 1) := by decide +kernel
theorem dX8_isPeacefulInCase_8 : decode cX8_isPeacefulInCase 8 = .ok (.iload_n 1, 1) := by decide +kernel
theorem dX8_isPeacefulInCase_9 : decode cX8_isPeacefulInCase 9 = .ok (.iconst 1, 1) := by decide +kernel
theorem dX8_isPeacefulInCase_10 : decode cX8_isPeacefulInCase 10 = .ok (.iload_n 2, 1) := by decide +kernel
theorem dX8_isPeacefulInCase_11 : decode cX8_isPeacefulInCase 11 = .ok (.invokevirtual 107, 3) := by decide +kernel
theorem dX8_isPeacefulInCase_14 : decode cX8_isPeacefulInCase 14 = .ok (.isub, 1) := by decide +kernel
theorem dX8_isPeacefulInCase_15 : decode cX8_isPeacefulInCase 15 = .ok (.invokestatic 115, 3) := by decide +kernel
theorem dX8_isPeacefulInCase_18 : decode cX8_isPeacefulInCase 18 = .ok (.aload_n 0, 1) := by decide +kernel
theorem dX8_isPeacefulInCase_19 : decode cX8_isPeacefulInCase 19 = .ok (.getfield 66, 3) := by decide +kernel
theorem dX8_isPeacefulInCase_22 : decode cX8_isPeacefulInCase 22 = .ok (.if_icmp .gt 7, 3) := by decide +kernel
theorem dX8_isPeacefulInCase_25 : decode cX8_isPeacefulInCase 25 = .ok (.iconst 1, 1) := by decide +kernel
theorem dX8_isPeacefulInCase_26 : decode cX8_isPeacefulInCase 26 = .ok (.goto 4, 3) := by decide +kernel
theorem dX8_isPeacefulInCase_29 : decode cX8_isPeacefulInCase 29 = .ok (.iconst 0, 1) := by decide +kernel
theorem dX8_isPeacefulInCase_30 : decode cX8_isPeacefulInCase 30 = .ok (.ireturn, 1) := by decide +kernel
def P_X8_isPeacefulInCase : Nat → Nat
  | _ => 0
set_option maxRecDepth 100000 in
set_option maxHeartbeats 4000000 in
theorem S_X8_isPeacefulInCase : zSd yX8_isPeacefulInCase cX8_isPeacefulInCase 3 (some .boolean) { frames := 2, cells := 0, slots := 0, locals := 46 } T_X8_isPeacefulInCase := by
  refine zMet (pcs := P_X8_isPeacefulInCase) (F := F_X8_isPeacefulInCase) (by decide) rfl ?_
  intro p l e s m args below meth c D ids ad A Q Y C hr hk hY b
  match b with
  | 0 => exact (z_aln (pc := 0) C dX8_isPeacefulInCase_0 rfl <| z_iln (pc := 1) C dX8_isPeacefulInCase_1 rfl <| z_ic (pc := 2) C dX8_isPeacefulInCase_2 (by decide +kernel) <| z_iln (pc := 3) C dX8_isPeacefulInCase_3 rfl <| z_cV (pc := 4) C dX8_isPeacefulInCase_4 S_X8_loudnessInCase rfl (zl4 w_627 w_628 w_629 w_4) w_630 ds_X8_loudnessInCase (zrm rfl rfl (by decide) (by decide)) <| z_aln (pc := 7) C dX8_isPeacefulInCase_7 rfl <| z_iln (pc := 8) C dX8_isPeacefulInCase_8 rfl <| z_ic (pc := 9) C dX8_isPeacefulInCase_9 (by decide +kernel) <| z_iln (pc := 10) C dX8_isPeacefulInCase_10 rfl <| z_cV (pc := 11) C dX8_isPeacefulInCase_11 S_X8_loudnessInCase rfl (zl4 w_627 w_628 w_629 w_4) w_630 ds_X8_loudnessInCase (zrm rfl rfl (by decide) (by decide)) <| z_isub (pc := 14) C dX8_isPeacefulInCase_14 <| z_mabs (pc := 15) C dX8_isPeacefulInCase_15 w_643 w_644 w_19 w_645 (by decide) <| z_aln (pc := 18) C dX8_isPeacefulInCase_18 rfl <| z_gf (pc := 19) C dX8_isPeacefulInCase_19 fl_8_66 <| z_cmpgt (tgt := 29) (pc := 22) C dX8_isPeacefulInCase_22 (by decide) (z_ic (pc := 29) C dX8_isPeacefulInCase_29 (by decide +kernel) <| z_zr C hr hk dX8_isPeacefulInCase_30) <| z_ic (pc := 25) C dX8_isPeacefulInCase_25 (by decide +kernel) <| z_goto (tgt := 30) (pc := 26) C dX8_isPeacefulInCase_26 (by decide) <| z_zr C hr hk dX8_isPeacefulInCase_30)
  | b + 1 => exact fun _ _ _ h => h.elim
theorem dX8_isPeaceful_0 : decode cX8_isPeaceful 0 = .ok (.aload_n 0, 1) := by decide +kernel
theorem dX8_isPeaceful_1 : decode cX8_isPeaceful 1 = .ok (.aload_n 0, 1) := by decide +kernel
theorem dX8_isPeaceful_2 : decode cX8_isPeaceful 2 = .ok (.getfield 50, 3) := by decide +kernel
theorem dX8_isPeaceful_5 : decode cX8_isPeaceful 5 = .ok (.iload_n 1, 1) := by decide +kernel
theorem dX8_isPeaceful_6 : decode cX8_isPeaceful 6 = .ok (.iaload, 1) := by decide +kernel
theorem dX8_isPeaceful_7 : decode cX8_isPeaceful 7 = .ok (.iload_n 2, 1) := by decide +kernel
theorem dX8_isPeaceful_8 : decode cX8_isPeaceful 8 = .ok (.invokevirtual 111, 3) := by decide +kernel
theorem dX8_isPeaceful_11 : decode cX8_isPeaceful 11 = .ok (.ireturn, 1) := by decide +kernel
def P_X8_isPeaceful : Nat → Nat
  | _ => 0
set_option maxRecDepth 100000 in
set_option maxHeartbeats 4000000 in
theorem S_X8_isPeaceful : zSd yX8_isPeaceful cX8_isPeaceful 3 (some .boolean) { frames := 3, cells := 0, slots := 0, locals := 68 } T_X8_isPeaceful := by
  refine zMet (pcs := P_X8_isPeaceful) (F := F_X8_isPeaceful) (by decide) rfl ?_
  intro p l e s m args below meth c D ids ad A Q Y C hr hk hY b
  match b with
  | 0 => exact (z_aln (pc := 0) C dX8_isPeaceful_0 rfl <| z_aln (pc := 1) C dX8_isPeaceful_1 rfl <| z_gf (pc := 2) C dX8_isPeaceful_2 fl_8_50 <| z_iln (pc := 5) C dX8_isPeaceful_5 rfl <| z_ia (pc := 6) C dX8_isPeaceful_6 <| z_iln (pc := 7) C dX8_isPeaceful_7 rfl <| z_cV (pc := 8) C dX8_isPeaceful_8 S_X8_isPeacefulInCase rfl (zl4 w_639 w_641 wp_11 w_4) w_642 ds_X8_isPeacefulInCase (zrm rfl rfl (by decide) (by decide)) <| z_zr C hr hk dX8_isPeaceful_11)
  | b + 1 => exact fun _ _ _ h => h.elim
theorem dX8_peacefulWords_0 : decode cX8_peacefulWords 0 = .ok (.iconst 0, 1) := by decide +kernel
theorem dX8_peacefulWords_1 : decode cX8_peacefulWords 1 = .ok (.istore_n 2, 1) := by decide +kernel
theorem dX8_peacefulWords_2 : decode cX8_peacefulWords 2 = .ok (.iconst 0, 1) := by decide +kernel
theorem dX8_peacefulWords_3 : decode cX8_peacefulWords 3 = .ok (.istore_n 3, 1) := by decide +kernel
theorem dX8_peacefulWords_4 : decode cX8_peacefulWords 4 = .ok (.iload_n 3, 1) := by decide +kernel
theorem dX8_peacefulWords_5 : decode cX8_peacefulWords 5 = .ok (.iconst 4, 1) := by decide +kernel
theorem dX8_peacefulWords_6 : decode cX8_peacefulWords 6 = .ok (.if_icmp .ge 36, 3) := by decide +kernel
theorem dX8_peacefulWords_9 : decode cX8_peacefulWords 9 = .ok (.aload_n 0, 1) := by decide +kernel
theorem dX8_peacefulWords_10 : decode cX8_peacefulWords 10 = .ok (.getfield 53, 3) := by decide +kernel
theorem dX8_peacefulWords_13 : decode cX8_peacefulWords 13 = .ok (.iload_n 3, 1) := by decide +kernel
theorem dX8_peacefulWords_14 : decode cX8_peacefulWords 14 = .ok (.iaload, 1) := by decide +kernel
theorem dX8_peacefulWords_15 : decode cX8_peacefulWords 15 = .ok (.ifCond .le 21, 3) := by decide +kernel
theorem dX8_peacefulWords_18 : decode cX8_peacefulWords 18 = .ok (.aload_n 0, 1) := by decide +kernel
theorem dX8_peacefulWords_19 : decode cX8_peacefulWords 19 = .ok (.iload_n 3, 1) := by decide +kernel
theorem dX8_peacefulWords_20 : decode cX8_peacefulWords 20 = .ok (.iload_n 1, 1) := by decide +kernel
theorem dX8_peacefulWords_21 : decode cX8_peacefulWords 21 = .ok (.invokevirtual 111, 3) := by decide +kernel
theorem dX8_peacefulWords_24 : decode cX8_peacefulWords 24 = .ok (.ifCond .eq 12, 3) := by decide +kernel
theorem dX8_peacefulWords_27 : decode cX8_peacefulWords 27 = .ok (.iload_n 2, 1) := by decide +kernel
theorem dX8_peacefulWords_28 : decode cX8_peacefulWords 28 = .ok (.aload_n 0, 1) := by decide +kernel
theorem dX8_peacefulWords_29 : decode cX8_peacefulWords 29 = .ok (.getfield 53, 3) := by decide +kernel
theorem dX8_peacefulWords_32 : decode cX8_peacefulWords 32 = .ok (.iload_n 3, 1) := by decide +kernel
theorem dX8_peacefulWords_33 : decode cX8_peacefulWords 33 = .ok (.iaload, 1) := by decide +kernel
theorem dX8_peacefulWords_34 : decode cX8_peacefulWords 34 = .ok (.iadd, 1) := by decide +kernel
theorem dX8_peacefulWords_35 : decode cX8_peacefulWords 35 = .ok (.istore_n 2, 1) := by decide +kernel
theorem dX8_peacefulWords_36 : decode cX8_peacefulWords 36 = .ok (.iinc 3 1, 3) := by decide +kernel
theorem dX8_peacefulWords_39 : decode cX8_peacefulWords 39 = .ok (.goto (-35), 3) := by decide +kernel
theorem dX8_peacefulWords_42 : decode cX8_peacefulWords 42 = .ok (.iload_n 2, 1) := by decide +kernel
theorem dX8_peacefulWords_43 : decode cX8_peacefulWords 43 = .ok (.ireturn, 1) := by decide +kernel
def P_X8_peacefulWords : Nat → Nat
  | 1 => 4
  | 2 => 36
  | _ => 0
set_option maxRecDepth 100000 in
set_option maxHeartbeats 4000000 in
theorem S_X8_peacefulWords : zSd yX8_peacefulWords cX8_peacefulWords 4 (some .int) { frames := 3, cells := 0, slots := 0, locals := 68 } T_X8_peacefulWords := by
  refine zMet (pcs := P_X8_peacefulWords) (F := F_X8_peacefulWords) (by decide) rfl ?_
  intro p l e s m args below meth c D ids ad A Q Y C hr hk hY b
  match b with
  | 0 => exact (z_ic (pc := 0) C dX8_peacefulWords_0 (by decide +kernel) <| z_isn (pc := 1) C dX8_peacefulWords_1 rfl (by decide) <| z_ic (pc := 2) C dX8_peacefulWords_2 (by decide +kernel) <| z_isn (pc := 3) C dX8_peacefulWords_3 rfl (by decide) <| z_jmp (hY 1))
  | 1 => exact (z_iln (pc := 4) C dX8_peacefulWords_4 rfl <| z_ic (pc := 5) C dX8_peacefulWords_5 (by decide +kernel) <| z_cmpge (tgt := 42) (pc := 6) C dX8_peacefulWords_6 (by decide) (z_iln (pc := 42) C dX8_peacefulWords_42 rfl <| z_ir C hr hk dX8_peacefulWords_43) <| z_aln (pc := 9) C dX8_peacefulWords_9 rfl <| z_gf (pc := 10) C dX8_peacefulWords_10 fl_8_53 <| z_iln (pc := 13) C dX8_peacefulWords_13 rfl <| z_ia (pc := 14) C dX8_peacefulWords_14 <| z_ifle (tgt := 36) (pc := 15) C dX8_peacefulWords_15 (by decide) (z_jmp (hY 2)) <| z_aln (pc := 18) C dX8_peacefulWords_18 rfl <| z_iln (pc := 19) C dX8_peacefulWords_19 rfl <| z_iln (pc := 20) C dX8_peacefulWords_20 rfl <| z_cV (pc := 21) C dX8_peacefulWords_21 S_X8_isPeacefulInCase rfl (zl4 w_639 w_641 wp_11 w_4) w_642 ds_X8_isPeacefulInCase (zrm rfl rfl (by decide) (by decide)) <| z_ifeq (tgt := 36) (pc := 24) C dX8_peacefulWords_24 (by decide) (z_jmp (hY 2)) <| z_iln (pc := 27) C dX8_peacefulWords_27 rfl <| z_aln (pc := 28) C dX8_peacefulWords_28 rfl <| z_gf (pc := 29) C dX8_peacefulWords_29 fl_8_53 <| z_iln (pc := 32) C dX8_peacefulWords_32 rfl <| z_ia (pc := 33) C dX8_peacefulWords_33 <| z_iadd (pc := 34) C dX8_peacefulWords_34 <| z_isn (pc := 35) C dX8_peacefulWords_35 rfl (by decide) <| z_jmp (hY 2))
  | 2 => exact (z_inc (pc := 36) C dX8_peacefulWords_36 (by decide +kernel) (by decide) <| z_goto (tgt := 4) (pc := 39) C dX8_peacefulWords_39 (by decide) <| z_jmp (hY 1))
  | b + 3 => exact fun _ _ _ h => h.elim
theorem dX8_isPeacefulThroughout_0 : decode cX8_isPeacefulThroughout 0 = .ok (.iconst 0, 1) := by decide +kernel
theorem dX8_isPeacefulThroughout_1 : decode cX8_isPeacefulThroughout 1 = .ok (.istore_n 2, 1) := by decide +kernel
theorem dX8_isPeacefulThroughout_2 : decode cX8_isPeacefulThroughout 2 = .ok (.iload_n 2, 1) := by decide +kernel
theorem dX8_isPeacefulThroughout_3 : decode cX8_isPeacefulThroughout 3 = .ok (.iconst 4, 1) := by decide +kernel
theorem dX8_isPeacefulThroughout_4 : decode cX8_isPeacefulThroughout 4 = .ok (.if_icmp .ge 29, 3) := by decide +kernel
theorem dX8_isPeacefulThroughout_7 : decode cX8_isPeacefulThroughout 7 = .ok (.aload_n 0, 1) := by decide +kernel
theorem dX8_isPeacefulThroughout_8 : decode cX8_isPeacefulThroughout 8 = .ok (.getfield 53, 3) := by decide +kernel
theorem dX8_isPeacefulThroughout_11 : decode cX8_isPeacefulThroughout 11 = .ok (.iload_n 2, 1) := by decide +kernel
theorem dX8_isPeacefulThroughout_12 : decode cX8_isPeacefulThroughout 12 = .ok (.iaload, 1) := by decide +kernel
theorem dX8_isPeacefulThroughout_13 : decode cX8_isPeacefulThroughout 13 = .ok (.ifCond .le 14, 3) := by decide +kernel
theorem dX8_isPeacefulThroughout_16 : decode cX8_isPeacefulThroughout 16 = .ok (.aload_n 0, 1) := by decide +kernel
theorem dX8_isPeacefulThroughout_17 : decode cX8_isPeacefulThroughout 17 = .ok (.iload_n 2, 1) := by decide +kernel
theorem dX8_isPeacefulThroughout_18 : decode cX8_isPeacefulThroughout 18 = .ok (.iload_n 1, 1) := by decide +kernel
theorem dX8_isPeacefulThroughout_19 : decode cX8_isPeacefulThroughout 19 = .ok (.invokevirtual 111, 3) := by decide +kernel
theorem dX8_isPeacefulThroughout_22 : decode cX8_isPeacefulThroughout 22 = .ok (.ifCond .ne 5, 3) := by decide +kernel
theorem dX8_isPeacefulThroughout_25 : decode cX8_isPeacefulThroughout 25 = .ok (.iconst 0, 1) := by decide +kernel
theorem dX8_isPeacefulThroughout_26 : decode cX8_isPeacefulThroughout 26 = .ok (.ireturn, 1) := by decide +kernel
theorem dX8_isPeacefulThroughout_27 : decode cX8_isPeacefulThroughout 27 = .ok (.iinc 2 1, 3) := by decide +kernel
theorem dX8_isPeacefulThroughout_30 : decode cX8_isPeacefulThroughout 30 = .ok (.goto (-28), 3) := by decide +kernel
theorem dX8_isPeacefulThroughout_33 : decode cX8_isPeacefulThroughout 33 = .ok (.iconst 1, 1) := by decide +kernel
theorem dX8_isPeacefulThroughout_34 : decode cX8_isPeacefulThroughout 34 = .ok (.ireturn, 1) := by decide +kernel
def P_X8_isPeacefulThroughout : Nat → Nat
  | 1 => 2
  | 2 => 27
  | _ => 0
set_option maxRecDepth 100000 in
set_option maxHeartbeats 4000000 in
theorem S_X8_isPeacefulThroughout : zSd yX8_isPeacefulThroughout cX8_isPeacefulThroughout 3 (some .boolean) { frames := 3, cells := 0, slots := 0, locals := 68 } T_X8_isPeacefulThroughout := by
  refine zMet (pcs := P_X8_isPeacefulThroughout) (F := F_X8_isPeacefulThroughout) (by decide) rfl ?_
  intro p l e s m args below meth c D ids ad A Q Y C hr hk hY b
  match b with
  | 0 => exact (z_ic (pc := 0) C dX8_isPeacefulThroughout_0 (by decide +kernel) <| z_isn (pc := 1) C dX8_isPeacefulThroughout_1 rfl (by decide) <| z_jmp (hY 1))
  | 1 => exact (z_iln (pc := 2) C dX8_isPeacefulThroughout_2 rfl <| z_ic (pc := 3) C dX8_isPeacefulThroughout_3 (by decide +kernel) <| z_cmpge (tgt := 33) (pc := 4) C dX8_isPeacefulThroughout_4 (by decide) (z_ic (pc := 33) C dX8_isPeacefulThroughout_33 (by decide +kernel) <| z_zr C hr hk dX8_isPeacefulThroughout_34) <| z_aln (pc := 7) C dX8_isPeacefulThroughout_7 rfl <| z_gf (pc := 8) C dX8_isPeacefulThroughout_8 fl_8_53 <| z_iln (pc := 11) C dX8_isPeacefulThroughout_11 rfl <| z_ia (pc := 12) C dX8_isPeacefulThroughout_12 <| z_ifle (tgt := 27) (pc := 13) C dX8_isPeacefulThroughout_13 (by decide) (z_jmp (hY 2)) <| z_aln (pc := 16) C dX8_isPeacefulThroughout_16 rfl <| z_iln (pc := 17) C dX8_isPeacefulThroughout_17 rfl <| z_iln (pc := 18) C dX8_isPeacefulThroughout_18 rfl <| z_cV (pc := 19) C dX8_isPeacefulThroughout_19 S_X8_isPeacefulInCase rfl (zl4 w_639 w_641 wp_11 w_4) w_642 ds_X8_isPeacefulInCase (zrm rfl rfl (by decide) (by decide)) <| z_ifne (tgt := 27) (pc := 22) C dX8_isPeacefulThroughout_22 (by decide) (z_jmp (hY 2)) <| z_ic (pc := 25) C dX8_isPeacefulThroughout_25 (by decide +kernel) <| z_zr C hr hk dX8_isPeacefulThroughout_26)
  | 2 => exact (z_inc (pc := 27) C dX8_isPeacefulThroughout_27 (by decide +kernel) (by decide) <| z_goto (tgt := 2) (pc := 30) C dX8_isPeacefulThroughout_30 (by decide) <| z_jmp (hY 1))
  | b + 3 => exact fun _ _ _ h => h.elim
theorem dX9_append_0 : decode cX9_append 0 = .ok (.aload_n 0, 1) := by decide +kernel
theorem dX9_append_1 : decode cX9_append 1 = .ok (.getfield 9, 3) := by decide +kernel
theorem dX9_append_4 : decode cX9_append 4 = .ok (.aload_n 0, 1) := by decide +kernel
theorem dX9_append_5 : decode cX9_append 5 = .ok (.getfield 15, 3) := by decide +kernel
theorem dX9_append_8 : decode cX9_append 8 = .ok (.iload_n 1, 1) := by decide +kernel
theorem dX9_append_9 : decode cX9_append 9 = .ok (.iastore, 1) := by decide +kernel
theorem dX9_append_10 : decode cX9_append 10 = .ok (.aload_n 0, 1) := by decide +kernel
theorem dX9_append_11 : decode cX9_append 11 = .ok (.dup, 1) := by decide +kernel
theorem dX9_append_12 : decode cX9_append 12 = .ok (.getfield 15, 3) := by decide +kernel
theorem dX9_append_15 : decode cX9_append 15 = .ok (.iconst 1, 1) := by decide +kernel
theorem dX9_append_16 : decode cX9_append 16 = .ok (.iadd, 1) := by decide +kernel
theorem dX9_append_17 : decode cX9_append 17 = .ok (.putfield 15, 3) := by decide +kernel
theorem dX9_append_20 : decode cX9_append 20 = .ok (.aload_n 0, 1) := by decide +kernel
theorem dX9_append_21 : decode cX9_append 21 = .ok (.getfield 15, 3) := by decide +kernel
theorem dX9_append_24 : decode cX9_append 24 = .ok (.ireturn, 1) := by decide +kernel
def P_X9_append : Nat → Nat
  | _ => 0
set_option maxRecDepth 100000 in
set_option maxHeartbeats 4000000 in
theorem S_X9_append : zSd yX9_append cX9_append 2 (some .int) { frames := 0, cells := 0, slots := 0, locals := 0 } T_X9_append := by
  refine zMet (pcs := P_X9_append) (F := F_X9_append) (by decide) rfl ?_
  intro p l e s m args below meth c D ids ad A Q Y C hr hk hY b
  match b with
  | 0 => exact (z_aln (pc := 0) C dX9_append_0 rfl <| z_gf (pc := 1) C dX9_append_1 fl_9_9 <| z_aln (pc := 4) C dX9_append_4 rfl <| z_gf (pc := 5) C dX9_append_5 fl_9_15 <| z_iln (pc := 8) C dX9_append_8 rfl <| z_iast (pc := 9) C dX9_append_9 <| z_aln (pc := 10) C dX9_append_10 rfl <| z_dup (pc := 11) C dX9_append_11 <| z_gf (pc := 12) C dX9_append_12 fl_9_15 <| z_ic (pc := 15) C dX9_append_15 (by decide +kernel) <| z_iadd (pc := 16) C dX9_append_16 <| z_pf (pc := 17) C dX9_append_17 fp_9_15 <| z_aln (pc := 20) C dX9_append_20 rfl <| z_gf (pc := 21) C dX9_append_21 fl_9_15 <| z_ir C hr hk dX9_append_24)
  | b + 1 => exact fun _ _ _ h => h.elim
theorem dX9_figures_0 : decode cX9_figures 0 = .ok (.aload_n 0, 1) := by decide +kernel
theorem dX9_figures_1 : decode cX9_figures 1 = .ok (.getfield 19, 3) := by decide +kernel
theorem dX9_figures_4 : decode cX9_figures 4 = .ok (.aload_n 0, 1) := by decide +kernel
theorem dX9_figures_5 : decode cX9_figures 5 = .ok (.getfield 35, 3) := by decide +kernel
theorem dX9_figures_8 : decode cX9_figures 8 = .ok (.isub, 1) := by decide +kernel
theorem dX9_figures_9 : decode cX9_figures 9 = .ok (.iconst 2, 1) := by decide +kernel
theorem dX9_figures_10 : decode cX9_figures 10 = .ok (.if_icmp .le 5, 3) := by decide +kernel
theorem dX9_figures_13 : decode cX9_figures 13 = .ok (.iconst (-1), 1) := by decide +kernel
theorem dX9_figures_14 : decode cX9_figures 14 = .ok (.ireturn, 1) := by decide +kernel
theorem dX9_figures_15 : decode cX9_figures 15 = .ok (.iconst 0, 1) := by decide +kernel
theorem dX9_figures_16 : decode cX9_figures 16 = .ok (.istore_n 1, 1) := by decide +kernel
theorem dX9_figures_17 : decode cX9_figures 17 = .ok (.aload_n 0, 1) := by decide +kernel
theorem dX9_figures_18 : decode cX9_figures 18 = .ok (.getfield 35, 3) := by decide +kernel
theorem dX9_figures_21 : decode cX9_figures 21 = .ok (.istore_n 2, 1) := by decide +kernel
theorem dX9_figures_22 : decode cX9_figures 22 = .ok (.iload_n 2, 1) := by decide +kernel
theorem dX9_figures_23 : decode cX9_figures 23 = .ok (.aload_n 0, 1) := by decide +kernel
theorem dX9_figures_24 : decode cX9_figures 24 = .ok (.getfield 19, 3) := by decide +kernel
theorem dX9_figures_27 : decode cX9_figures 27 = .ok (.if_icmp .ge 24, 3) := by decide +kernel
theorem dX9_figures_30 : decode cX9_figures 30 = .ok (.iload_n 1, 1) := by decide +kernel
theorem dX9_figures_31 : decode cX9_figures 31 = .ok (.bipush 10, 2) := by decide +kernel
theorem dX9_figures_33 : decode cX9_figures 33 = .ok (.imul, 1) := by decide +kernel
theorem dX9_figures_34 : decode cX9_figures 34 = .ok (.aload_n 0, 1) := by decide +kernel
theorem dX9_figures_35 : decode cX9_figures 35 = .ok (.getfield 9, 3) := by decide +kernel
theorem dX9_figures_38 : decode cX9_figures 38 = .ok (.iload_n 2, 1) := by decide +kernel
theorem dX9_figures_39 : decode cX9_figures 39 = .ok (.iaload, 1) := by decide +kernel
theorem dX9_figures_40 : decode cX9_figures 40 = .ok (.iadd, 1) := by decide +kernel
theorem dX9_figures_41 : decode cX9_figures 41 = .ok (.bipush 48, 2) := by decide +kernel
theorem dX9_figures_43 : decode cX9_figures 43 = .ok (.isub, 1) := by decide +kernel
theorem dX9_figures_44 : decode cX9_figures 44 = .ok (.istore_n 1, 1) := by decide +kernel
theorem dX9_figures_45 : decode cX9_figures 45 = .ok (.iinc 2 1, 3) := by decide +kernel
theorem dX9_figures_48 : decode cX9_figures 48 = .ok (.goto (-26), 3) := by decide +kernel
theorem dX9_figures_51 : decode cX9_figures 51 = .ok (.iload_n 1, 1) := by decide +kernel
theorem dX9_figures_52 : decode cX9_figures 52 = .ok (.ireturn, 1) := by decide +kernel
def P_X9_figures : Nat → Nat
  | 1 => 22
  | _ => 0
set_option maxRecDepth 100000 in
set_option maxHeartbeats 4000000 in
theorem S_X9_figures : zSd yX9_figures cX9_figures 3 (some .int) { frames := 0, cells := 0, slots := 0, locals := 0 } T_X9_figures := by
  refine zMet (pcs := P_X9_figures) (F := F_X9_figures) (by decide) rfl ?_
  intro p l e s m args below meth c D ids ad A Q Y C hr hk hY b
  match b with
  | 0 => exact (z_aln (pc := 0) C dX9_figures_0 rfl <| z_gf (pc := 1) C dX9_figures_1 fl_9_19 <| z_aln (pc := 4) C dX9_figures_4 rfl <| z_gf (pc := 5) C dX9_figures_5 fl_9_35 <| z_isub (pc := 8) C dX9_figures_8 <| z_ic (pc := 9) C dX9_figures_9 (by decide +kernel) <| z_cmple (tgt := 15) (pc := 10) C dX9_figures_10 (by decide) (z_ic (pc := 15) C dX9_figures_15 (by decide +kernel) <| z_isn (pc := 16) C dX9_figures_16 rfl (by decide) <| z_aln (pc := 17) C dX9_figures_17 rfl <| z_gf (pc := 18) C dX9_figures_18 fl_9_35 <| z_isn (pc := 21) C dX9_figures_21 rfl (by decide) <| z_jmp (hY 1)) <| z_ic (pc := 13) C dX9_figures_13 (by decide +kernel) <| z_ir C hr hk dX9_figures_14)
  | 1 => exact (z_iln (pc := 22) C dX9_figures_22 rfl <| z_aln (pc := 23) C dX9_figures_23 rfl <| z_gf (pc := 24) C dX9_figures_24 fl_9_19 <| z_cmpge (tgt := 51) (pc := 27) C dX9_figures_27 (by decide) (z_iln (pc := 51) C dX9_figures_51 rfl <| z_ir C hr hk dX9_figures_52) <| z_iln (pc := 30) C dX9_figures_30 rfl <| z_bi (pc := 31) C dX9_figures_31 (by decide +kernel) <| z_imul (pc := 33) C dX9_figures_33 <| z_aln (pc := 34) C dX9_figures_34 rfl <| z_gf (pc := 35) C dX9_figures_35 fl_9_9 <| z_iln (pc := 38) C dX9_figures_38 rfl <| z_ia (pc := 39) C dX9_figures_39 <| z_iadd (pc := 40) C dX9_figures_40 <| z_bi (pc := 41) C dX9_figures_41 (by decide +kernel) <| z_isub (pc := 43) C dX9_figures_43 <| z_isn (pc := 44) C dX9_figures_44 rfl (by decide) <| z_inc (pc := 45) C dX9_figures_45 (by decide +kernel) (by decide) <| z_goto (tgt := 22) (pc := 48) C dX9_figures_48 (by decide) <| z_jmp (hY 1))
  | b + 2 => exact fun _ _ _ h => h.elim
