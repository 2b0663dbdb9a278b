/-! Soundness of methods: by program. -/
theorem dX12_goBehind_0 : decode cX12_goBehind 0 = .ok (.aload_n 0, 1) := by decide +kernel
theorem dX12_goBehind_1 : decode cX12_goBehind 1 = .ok (.aload_n 0, 1) := by decide +kernel
theorem dX12_goBehind_2 : decode cX12_goBehind 2 = .ok (.getfield 234, 3) := by decide +kernel
theorem dX12_goBehind_5 : decode cX12_goBehind 5 = .ok (.aload_n 0, 1) := by decide +kernel
theorem dX12_goBehind_6 : decode cX12_goBehind 6 = .ok (.getfield 237, 3) := by decide +kernel
theorem dX12_goBehind_9 : decode cX12_goBehind 9 = .ok (.iadd, 1) := by decide +kernel
theorem dX12_goBehind_10 : decode cX12_goBehind 10 = .ok (.invokevirtual 252, 3) := by decide +kernel
theorem dX12_goBehind_13 : decode cX12_goBehind 13 = .ok (.return_, 1) := by decide +kernel
def P_X12_goBehind : Nat → Nat
  | _ => 0
set_option maxRecDepth 100000 in
set_option maxHeartbeats 4000000 in
theorem S_X12_goBehind : zSd yX12_goBehind cX12_goBehind 1 none { frames := 3, cells := 0, slots := 0, locals := 69 } T_X12_goBehind := by
  refine zMet (pcs := P_X12_goBehind) (F := F_X12_goBehind) (by decide) rfl ?_
  intro p l e s m args below meth c D ids ad A Q Y C hr hk hY b
  match b with
  | 0 => exact (z_aln (pc := 0) C dX12_goBehind_0 rfl <| z_aln (pc := 1) C dX12_goBehind_1 rfl <| z_gf (pc := 2) C dX12_goBehind_2 fl_12_234 <| z_aln (pc := 5) C dX12_goBehind_5 rfl <| z_gf (pc := 6) C dX12_goBehind_6 fl_12_237 <| z_iadd (pc := 9) C dX12_goBehind_9 <| z_cV (pc := 10) C dX12_goBehind_10 S_X12_lookAt rfl (zl4 w_1167 w_1169 wp_43 w_13) w_1170 ds_X12_lookAt (zrm rfl rfl (by decide) (by decide)) <| z_vr C hr hk dX12_goBehind_13)
  | b + 1 => exact fun _ _ _ h => h.elim
theorem dX12_spells_0 : decode cX12_spells 0 = .ok (.aload_n 0, 1) := by decide +kernel
theorem dX12_spells_1 : decode cX12_spells 1 = .ok (.getfield 240, 3) := by decide +kernel
theorem dX12_spells_4 : decode cX12_spells 4 = .ok (.iconst 1, 1) := by decide +kernel
theorem dX12_spells_5 : decode cX12_spells 5 = .ok (.if_icmp .ne 15, 3) := by decide +kernel
theorem dX12_spells_8 : decode cX12_spells 8 = .ok (.aload_n 0, 1) := by decide +kernel
theorem dX12_spells_9 : decode cX12_spells 9 = .ok (.getfield 237, 3) := by decide +kernel
theorem dX12_spells_12 : decode cX12_spells 12 = .ok (.iload_n 1, 1) := by decide +kernel
theorem dX12_spells_13 : decode cX12_spells 13 = .ok (.if_icmp .ne 7, 3) := by decide +kernel
theorem dX12_spells_16 : decode cX12_spells 16 = .ok (.iconst 1, 1) := by decide +kernel
theorem dX12_spells_17 : decode cX12_spells 17 = .ok (.goto 4, 3) := by decide +kernel
theorem dX12_spells_20 : decode cX12_spells 20 = .ok (.iconst 0, 1) := by decide +kernel
theorem dX12_spells_21 : decode cX12_spells 21 = .ok (.istore 8, 2) := by decide +kernel
theorem dX12_spells_23 : decode cX12_spells 23 = .ok (.iconst 0, 1) := by decide +kernel
theorem dX12_spells_24 : decode cX12_spells 24 = .ok (.istore 9, 2) := by decide +kernel
theorem dX12_spells_26 : decode cX12_spells 26 = .ok (.iload 9, 2) := by decide +kernel
theorem dX12_spells_28 : decode cX12_spells 28 = .ok (.iload_n 1, 1) := by decide +kernel
theorem dX12_spells_29 : decode cX12_spells 29 = .ok (.if_icmp .ge 90, 3) := by decide +kernel
theorem dX12_spells_32 : decode cX12_spells 32 = .ok (.iload 8, 2) := by decide +kernel
theorem dX12_spells_34 : decode cX12_spells 34 = .ok (.ifCond .eq 85, 3) := by decide +kernel
theorem dX12_spells_37 : decode cX12_spells 37 = .ok (.aload_n 0, 1) := by decide +kernel
theorem dX12_spells_38 : decode cX12_spells 38 = .ok (.getfield 51, 3) := by decide +kernel
theorem dX12_spells_41 : decode cX12_spells 41 = .ok (.aload_n 0, 1) := by decide +kernel
theorem dX12_spells_42 : decode cX12_spells 42 = .ok (.getfield 234, 3) := by decide +kernel
theorem dX12_spells_45 : decode cX12_spells 45 = .ok (.iload 9, 2) := by decide +kernel
theorem dX12_spells_47 : decode cX12_spells 47 = .ok (.iadd, 1) := by decide +kernel
theorem dX12_spells_48 : decode cX12_spells 48 = .ok (.iaload, 1) := by decide +kernel
theorem dX12_spells_49 : decode cX12_spells 49 = .ok (.iload 9, 2) := by decide +kernel
theorem dX12_spells_51 : decode cX12_spells 51 = .ok (.ifCond .ne 7, 3) := by decide +kernel
theorem dX12_spells_54 : decode cX12_spells 54 = .ok (.iload_n 2, 1) := by decide +kernel
theorem dX12_spells_55 : decode cX12_spells 55 = .ok (.goto 48, 3) := by decide +kernel
theorem dX12_spells_58 : decode cX12_spells 58 = .ok (.iload 9, 2) := by decide +kernel
theorem dX12_spells_60 : decode cX12_spells 60 = .ok (.iconst 1, 1) := by decide +kernel
theorem dX12_spells_61 : decode cX12_spells 61 = .ok (.if_icmp .ne 7, 3) := by decide +kernel
theorem dX12_spells_64 : decode cX12_spells 64 = .ok (.iload_n 3, 1) := by decide +kernel
theorem dX12_spells_65 : decode cX12_spells 65 = .ok (.goto 38, 3) := by decide +kernel
theorem dX12_spells_68 : decode cX12_spells 68 = .ok (.iload 9, 2) := by decide +kernel
theorem dX12_spells_70 : decode cX12_spells 70 = .ok (.iconst 2, 1) := by decide +kernel
theorem dX12_spells_71 : decode cX12_spells 71 = .ok (.if_icmp .ne 8, 3) := by decide +kernel
theorem dX12_spells_74 : decode cX12_spells 74 = .ok (.iload 4, 2) := by decide +kernel
theorem dX12_spells_76 : decode cX12_spells 76 = .ok (.goto 27, 3) := by decide +kernel
theorem dX12_spells_79 : decode cX12_spells 79 = .ok (.iload 9, 2) := by decide +kernel
theorem dX12_spells_81 : decode cX12_spells 81 = .ok (.iconst 3, 1) := by decide +kernel
theorem dX12_spells_82 : decode cX12_spells 82 = .ok (.if_icmp .ne 8, 3) := by decide +kernel
theorem dX12_spells_85 : decode cX12_spells 85 = .ok (.iload 5, 2) := by decide +kernel
theorem dX12_spells_87 : decode cX12_spells 87 = .ok (.goto 16, 3) := by decide +kernel
theorem dX12_spells_90 : decode cX12_spells 90 = .ok (.iload 9, 2) := by decide +kernel
theorem dX12_spells_92 : decode cX12_spells 92 = .ok (.iconst 4, 1) := by decide +kernel
theorem dX12_spells_93 : decode cX12_spells 93 = .ok (.if_icmp .ne 8, 3) := by decide +kernel
theorem dX12_spells_96 : decode cX12_spells 96 = .ok (.iload 6, 2) := by decide +kernel
theorem dX12_spells_98 : decode cX12_spells 98 = .ok (.goto 5, 3) := by decide +kernel
theorem dX12_spells_101 : decode cX12_spells 101 = .ok (.iload 7, 2) := by decide +kernel
theorem dX12_spells_103 : decode cX12_spells 103 = .ok (.if_icmp .ne 7, 3) := by decide +kernel
theorem dX12_spells_106 : decode cX12_spells 106 = .ok (.iconst 1, 1) := by decide +kernel
theorem dX12_spells_107 : decode cX12_spells 107 = .ok (.goto 4, 3) := by decide +kernel
theorem dX12_spells_110 : decode cX12_spells 110 = .ok (.iconst 0, 1) := by decide +kernel
theorem dX12_spells_111 : decode cX12_spells 111 = .ok (.istore 8, 2) := by decide +kernel
theorem dX12_spells_113 : decode cX12_spells 113 = .ok (.iinc 9 1, 3) := by decide +kernel
theorem dX12_spells_116 : decode cX12_spells 116 = .ok (.goto (-90), 3) := by decide +kernel
theorem dX12_spells_119 : decode cX12_spells 119 = .ok (.iload 8, 2) := by decide +kernel
theorem dX12_spells_121 : decode cX12_spells 121 = .ok (.ireturn, 1) := by decide +kernel
def P_X12_spells : Nat → Nat
  | 1 => 20
  | 2 => 21
  | 3 => 26
  | 4 => 103
  | 5 => 111
  | _ => 0
set_option maxRecDepth 100000 in
set_option maxHeartbeats 4000000 in
theorem S_X12_spells : zSd yX12_spells cX12_spells 10 (some .boolean) { frames := 0, cells := 0, slots := 0, locals := 0 } T_X12_spells := by
  refine zMet (pcs := P_X12_spells) (F := F_X12_spells) (by decide) rfl ?_
  intro p l e s m args below meth c D ids ad A Q Y C hr hk hY b
  match b with
  | 0 => exact (z_aln (pc := 0) C dX12_spells_0 rfl <| z_gf (pc := 1) C dX12_spells_1 fl_12_240 <| z_ic (pc := 4) C dX12_spells_4 (by decide +kernel) <| z_cmpne (tgt := 20) (pc := 5) C dX12_spells_5 (by decide) (z_jmp (hY 1)) <| z_aln (pc := 8) C dX12_spells_8 rfl <| z_gf (pc := 9) C dX12_spells_9 fl_12_237 <| z_iln (pc := 12) C dX12_spells_12 rfl <| z_cmpne (tgt := 20) (pc := 13) C dX12_spells_13 (by decide) (z_jmp (hY 1)) <| z_ic (pc := 16) C dX12_spells_16 (by decide +kernel) <| z_goto (tgt := 21) (pc := 17) C dX12_spells_17 (by decide) <| z_jmp (hY 2))
  | 1 => exact (z_ic (pc := 20) C dX12_spells_20 (by decide +kernel) <| z_jmp (hY 2))
  | 2 => exact (z_is (pc := 21) C dX12_spells_21 (by decide) <| z_ic (pc := 23) C dX12_spells_23 (by decide +kernel) <| z_is (pc := 24) C dX12_spells_24 (by decide) <| z_jmp (hY 3))
  | 3 => exact (z_il (pc := 26) C dX12_spells_26 <| z_iln (pc := 28) C dX12_spells_28 rfl <| z_cmpge (tgt := 119) (pc := 29) C dX12_spells_29 (by decide) (z_il (pc := 119) C dX12_spells_119 <| z_zr C hr hk dX12_spells_121) <| z_il (pc := 32) C dX12_spells_32 <| z_ifeq (tgt := 119) (pc := 34) C dX12_spells_34 (by decide) (z_il (pc := 119) C dX12_spells_119 <| z_zr C hr hk dX12_spells_121) <| z_aln (pc := 37) C dX12_spells_37 rfl <| z_gf (pc := 38) C dX12_spells_38 fl_12_51 <| z_aln (pc := 41) C dX12_spells_41 rfl <| z_gf (pc := 42) C dX12_spells_42 fl_12_234 <| z_il (pc := 45) C dX12_spells_45 <| z_iadd (pc := 47) C dX12_spells_47 <| z_ia (pc := 48) C dX12_spells_48 <| z_il (pc := 49) C dX12_spells_49 <| z_ifne (tgt := 58) (pc := 51) C dX12_spells_51 (by decide) (z_il (pc := 58) C dX12_spells_58 <| z_ic (pc := 60) C dX12_spells_60 (by decide +kernel) <| z_cmpne (tgt := 68) (pc := 61) C dX12_spells_61 (by decide) (z_il (pc := 68) C dX12_spells_68 <| z_ic (pc := 70) C dX12_spells_70 (by decide +kernel) <| z_cmpne (tgt := 79) (pc := 71) C dX12_spells_71 (by decide) (z_il (pc := 79) C dX12_spells_79 <| z_ic (pc := 81) C dX12_spells_81 (by decide +kernel) <| z_cmpne (tgt := 90) (pc := 82) C dX12_spells_82 (by decide) (z_il (pc := 90) C dX12_spells_90 <| z_ic (pc := 92) C dX12_spells_92 (by decide +kernel) <| z_cmpne (tgt := 101) (pc := 93) C dX12_spells_93 (by decide) (z_il (pc := 101) C dX12_spells_101 <| z_jmp (hY 4)) <| z_il (pc := 96) C dX12_spells_96 <| z_goto (tgt := 103) (pc := 98) C dX12_spells_98 (by decide) <| z_jmp (hY 4)) <| z_il (pc := 85) C dX12_spells_85 <| z_goto (tgt := 103) (pc := 87) C dX12_spells_87 (by decide) <| z_jmp (hY 4)) <| z_il (pc := 74) C dX12_spells_74 <| z_goto (tgt := 103) (pc := 76) C dX12_spells_76 (by decide) <| z_jmp (hY 4)) <| z_iln (pc := 64) C dX12_spells_64 rfl <| z_goto (tgt := 103) (pc := 65) C dX12_spells_65 (by decide) <| z_jmp (hY 4)) <| z_iln (pc := 54) C dX12_spells_54 rfl <| z_goto (tgt := 103) (pc := 55) C dX12_spells_55 (by decide) <| z_jmp (hY 4))
  | 4 => exact (z_cmpne (tgt := 110) (pc := 103) C dX12_spells_103 (by decide) (z_ic (pc := 110) C dX12_spells_110 (by decide +kernel) <| z_jmp (hY 5)) <| z_ic (pc := 106) C dX12_spells_106 (by decide +kernel) <| z_goto (tgt := 111) (pc := 107) C dX12_spells_107 (by decide) <| z_jmp (hY 5))
  | 5 => exact (z_is (pc := 111) C dX12_spells_111 (by decide) <| z_inc (pc := 113) C dX12_spells_113 (by decide +kernel) (by decide) <| z_goto (tgt := 26) (pc := 116) C dX12_spells_116 (by decide) <| z_jmp (hY 3))
  | b + 6 => exact fun _ _ _ h => h.elim
theorem dX12_takes_0 : decode cX12_takes 0 = .ok (.aload_n 0, 1) := by decide +kernel
theorem dX12_takes_1 : decode cX12_takes 1 = .ok (.getfield 240, 3) := by decide +kernel
theorem dX12_takes_4 : decode cX12_takes 4 = .ok (.iconst 2, 1) := by decide +kernel
theorem dX12_takes_5 : decode cX12_takes 5 = .ok (.if_icmp .ne 18, 3) := by decide +kernel
theorem dX12_takes_8 : decode cX12_takes 8 = .ok (.aload_n 0, 1) := by decide +kernel
theorem dX12_takes_9 : decode cX12_takes 9 = .ok (.getfield 243, 3) := by decide +kernel
theorem dX12_takes_12 : decode cX12_takes 12 = .ok (.i2l, 1) := by decide +kernel
theorem dX12_takes_13 : decode cX12_takes 13 = .ok (.iload_n 2, 1) := by decide +kernel
theorem dX12_takes_14 : decode cX12_takes 14 = .ok (.i2l, 1) := by decide +kernel
theorem dX12_takes_15 : decode cX12_takes 15 = .ok (.iload_n 3, 1) := by decide +kernel
theorem dX12_takes_16 : decode cX12_takes 16 = .ok (.i2l, 1) := by decide +kernel
theorem dX12_takes_17 : decode cX12_takes 17 = .ok (.invokestatic 68, 3) := by decide +kernel
theorem dX12_takes_20 : decode cX12_takes 20 = .ok (.ifCond .ne 5, 3) := by decide +kernel
theorem dX12_takes_23 : decode cX12_takes 23 = .ok (.iconst 0, 1) := by decide +kernel
theorem dX12_takes_24 : decode cX12_takes 24 = .ok (.ireturn, 1) := by decide +kernel
theorem dX12_takes_25 : decode cX12_takes 25 = .ok (.aload_n 0, 1) := by decide +kernel
theorem dX12_takes_26 : decode cX12_takes 26 = .ok (.getfield 57, 3) := by decide +kernel
theorem dX12_takes_29 : decode cX12_takes 29 = .ok (.iload_n 1, 1) := by decide +kernel
theorem dX12_takes_30 : decode cX12_takes 30 = .ok (.aload_n 0, 1) := by decide +kernel
theorem dX12_takes_31 : decode cX12_takes 31 = .ok (.getfield 243, 3) := by decide +kernel
theorem dX12_takes_34 : decode cX12_takes 34 = .ok (.iastore, 1) := by decide +kernel
theorem dX12_takes_35 : decode cX12_takes 35 = .ok (.aload_n 0, 1) := by decide +kernel
theorem dX12_takes_36 : decode cX12_takes 36 = .ok (.invokevirtual 256, 3) := by decide +kernel
theorem dX12_takes_39 : decode cX12_takes 39 = .ok (.iconst 1, 1) := by decide +kernel
theorem dX12_takes_40 : decode cX12_takes 40 = .ok (.ireturn, 1) := by decide +kernel
def P_X12_takes : Nat → Nat
  | _ => 0
set_option maxRecDepth 100000 in
set_option maxHeartbeats 4000000 in
theorem S_X12_takes : zSd yX12_takes cX12_takes 4 (some .boolean) { frames := 4, cells := 0, slots := 0, locals := 89 } T_X12_takes := by
  refine zMet (pcs := P_X12_takes) (F := F_X12_takes) (by decide) rfl ?_
  intro p l e s m args below meth c D ids ad A Q Y C hr hk hY b
  match b with
  | 0 => exact (z_aln (pc := 0) C dX12_takes_0 rfl <| z_gf (pc := 1) C dX12_takes_1 fl_12_240 <| z_ic (pc := 4) C dX12_takes_4 (by decide +kernel) <| z_cmpne (tgt := 23) (pc := 5) C dX12_takes_5 (by decide) (z_ic (pc := 23) C dX12_takes_23 (by decide +kernel) <| z_zr C hr hk dX12_takes_24) <| z_aln (pc := 8) C dX12_takes_8 rfl <| z_gf (pc := 9) C dX12_takes_9 fl_12_243 <| z_i2l (pc := 12) C dX12_takes_12 <| z_iln (pc := 13) C dX12_takes_13 rfl <| z_i2l (pc := 14) C dX12_takes_14 <| z_iln (pc := 15) C dX12_takes_15 rfl <| z_i2l (pc := 16) C dX12_takes_16 <| z_cS (pc := 17) C dX12_takes_17 S_X12_in (zl3 w_922 w_923 w_13) w_924 ds_X12_in (zrm rfl rfl (by decide) (by decide)) <| z_ifne (tgt := 25) (pc := 20) C dX12_takes_20 (by decide) (z_aln (pc := 25) C dX12_takes_25 rfl <| z_gf (pc := 26) C dX12_takes_26 fl_12_57 <| z_iln (pc := 29) C dX12_takes_29 rfl <| z_aln (pc := 30) C dX12_takes_30 rfl <| z_gf (pc := 31) C dX12_takes_31 fl_12_243 <| z_iast (pc := 34) C dX12_takes_34 <| z_aln (pc := 35) C dX12_takes_35 rfl <| z_cV (pc := 36) C dX12_takes_36 S_X12_goBehind rfl (zl4 w_1189 w_1191 wp_46 w_13) w_1192 ds_X12_goBehind (zrm rfl rfl (by decide) (by decide)) <| z_ic (pc := 39) C dX12_takes_39 (by decide +kernel) <| z_zr C hr hk dX12_takes_40) <| z_ic (pc := 23) C dX12_takes_23 (by decide +kernel) <| z_zr C hr hk dX12_takes_24)
  | b + 1 => exact fun _ _ _ h => h.elim
theorem dX12_takesChurch_0 : decode cX12_takesChurch 0 = .ok (.aload_n 0, 1) := by decide +kernel
theorem dX12_takesChurch_1 : decode cX12_takesChurch 1 = .ok (.bipush 6, 2) := by decide +kernel
theorem dX12_takesChurch_3 : decode cX12_takesChurch 3 = .ok (.bipush 99, 2) := by decide +kernel
theorem dX12_takesChurch_5 : decode cX12_takesChurch 5 = .ok (.bipush 104, 2) := by decide +kernel
theorem dX12_takesChurch_7 : decode cX12_takesChurch 7 = .ok (.bipush 117, 2) := by decide +kernel
theorem dX12_takesChurch_9 : decode cX12_takesChurch 9 = .ok (.bipush 114, 2) := by decide +kernel
theorem dX12_takesChurch_11 : decode cX12_takesChurch 11 = .ok (.bipush 99, 2) := by decide +kernel
theorem dX12_takesChurch_13 : decode cX12_takesChurch 13 = .ok (.bipush 104, 2) := by decide +kernel
theorem dX12_takesChurch_15 : decode cX12_takesChurch 15 = .ok (.invokevirtual 259, 3) := by decide +kernel
theorem dX12_takesChurch_18 : decode cX12_takesChurch 18 = .ok (.ifCond .ne 5, 3) := by decide +kernel
theorem dX12_takesChurch_21 : decode cX12_takesChurch 21 = .ok (.iconst 0, 1) := by decide +kernel
theorem dX12_takesChurch_22 : decode cX12_takesChurch 22 = .ok (.ireturn, 1) := by decide +kernel
theorem dX12_takesChurch_23 : decode cX12_takesChurch 23 = .ok (.aload_n 0, 1) := by decide +kernel
theorem dX12_takesChurch_24 : decode cX12_takesChurch 24 = .ok (.invokevirtual 256, 3) := by decide +kernel
theorem dX12_takesChurch_27 : decode cX12_takesChurch 27 = .ok (.aload_n 0, 1) := by decide +kernel
theorem dX12_takesChurch_28 : decode cX12_takesChurch 28 = .ok (.iconst 0, 1) := by decide +kernel
theorem dX12_takesChurch_29 : decode cX12_takesChurch 29 = .ok (.iconst 0, 1) := by decide +kernel
theorem dX12_takesChurch_30 : decode cX12_takesChurch 30 = .ok (.bipush 30, 2) := by decide +kernel
theorem dX12_takesChurch_32 : decode cX12_takesChurch 32 = .ok (.invokevirtual 263, 3) := by decide +kernel
theorem dX12_takesChurch_35 : decode cX12_takesChurch 35 = .ok (.ifCond .ne 5, 3) := by decide +kernel
theorem dX12_takesChurch_38 : decode cX12_takesChurch 38 = .ok (.iconst 0, 1) := by decide +kernel
theorem dX12_takesChurch_39 : decode cX12_takesChurch 39 = .ok (.ireturn, 1) := by decide +kernel
theorem dX12_takesChurch_40 : decode cX12_takesChurch 40 = .ok (.aload_n 0, 1) := by decide +kernel
theorem dX12_takesChurch_41 : decode cX12_takesChurch 41 = .ok (.getfield 54, 3) := by decide +kernel
theorem dX12_takesChurch_44 : decode cX12_takesChurch 44 = .ok (.aload_n 0, 1) := by decide +kernel
theorem dX12_takesChurch_45 : decode cX12_takesChurch 45 = .ok (.getfield 57, 3) := by decide +kernel
theorem dX12_takesChurch_48 : decode cX12_takesChurch 48 = .ok (.iconst 0, 1) := by decide +kernel
theorem dX12_takesChurch_49 : decode cX12_takesChurch 49 = .ok (.iaload, 1) := by decide +kernel
theorem dX12_takesChurch_50 : decode cX12_takesChurch 50 = .ok (.invokestatic 60, 3) := by decide +kernel
theorem dX12_takesChurch_53 : decode cX12_takesChurch 53 = .ok (.aload_n 0, 1) := by decide +kernel
theorem dX12_takesChurch_54 : decode cX12_takesChurch 54 = .ok (.getfield 240, 3) := by decide +kernel
theorem dX12_takesChurch_57 : decode cX12_takesChurch 57 = .ok (.iconst 3, 1) := by decide +kernel
theorem dX12_takesChurch_58 : decode cX12_takesChurch 58 = .ok (.if_icmp .ne 7, 3) := by decide +kernel
theorem dX12_takesChurch_61 : decode cX12_takesChurch 61 = .ok (.iconst 1, 1) := by decide +kernel
theorem dX12_takesChurch_62 : decode cX12_takesChurch 62 = .ok (.goto 4, 3) := by decide +kernel
theorem dX12_takesChurch_65 : decode cX12_takesChurch 65 = .ok (.iconst 0, 1) := by decide +kernel
theorem dX12_takesChurch_66 : decode cX12_takesChurch 66 = .ok (.ireturn, 1) := by decide +kernel
def P_X12_takesChurch : Nat → Nat
  | _ => 0
set_option maxRecDepth 100000 in
set_option maxHeartbeats 4000000 in
theorem S_X12_takesChurch : zSd yX12_takesChurch cX12_takesChurch 1 (some .boolean) { frames := 5, cells := 0, slots := 0, locals := 112 } T_X12_takesChurch := by
  refine zMet (pcs := P_X12_takesChurch) (F := F_X12_takesChurch) (by decide) rfl ?_
  intro p l e s m args below meth c D ids ad A Q Y C hr hk hY b
  match b with
  | 0 => exact (z_aln (pc := 0) C dX12_takesChurch_0 rfl <| z_bi (pc := 1) C dX12_takesChurch_1 (by decide +kernel) <| z_bi (pc := 3) C dX12_takesChurch_3 (by decide +kernel) <| z_bi (pc := 5) C dX12_takesChurch_5 (by decide +kernel) <| z_bi (pc := 7) C dX12_takesChurch_7 (by decide +kernel) <| z_bi (pc := 9) C dX12_takesChurch_9 (by decide +kernel) <| z_bi (pc := 11) C dX12_takesChurch_11 (by decide +kernel) <| z_bi (pc := 13) C dX12_takesChurch_13 (by decide +kernel) <| z_cV (pc := 15) C dX12_takesChurch_15 S_X12_spells rfl (zl4 w_1185 w_1187 wp_45 w_13) w_1188 ds_X12_spells (zrm rfl rfl (by decide) (by decide)) <| z_ifne (tgt := 23) (pc := 18) C dX12_takesChurch_18 (by decide) (z_aln (pc := 23) C dX12_takesChurch_23 rfl <| z_cV (pc := 24) C dX12_takesChurch_24 S_X12_goBehind rfl (zl4 w_1189 w_1191 wp_46 w_13) w_1192 ds_X12_goBehind (zrm rfl rfl (by decide) (by decide)) <| z_aln (pc := 27) C dX12_takesChurch_27 rfl <| z_ic (pc := 28) C dX12_takesChurch_28 (by decide +kernel) <| z_ic (pc := 29) C dX12_takesChurch_29 (by decide +kernel) <| z_bi (pc := 30) C dX12_takesChurch_30 (by decide +kernel) <| z_cV (pc := 32) C dX12_takesChurch_32 S_X12_takes rfl (zl4 w_1193 w_1195 wp_47 w_13) w_1196 ds_X12_takes (zrm rfl rfl (by decide) (by decide)) <| z_ifne (tgt := 40) (pc := 35) C dX12_takesChurch_35 (by decide) (z_aln (pc := 40) C dX12_takesChurch_40 rfl <| z_gf (pc := 41) C dX12_takesChurch_41 fl_12_54 <| z_aln (pc := 44) C dX12_takesChurch_44 rfl <| z_gf (pc := 45) C dX12_takesChurch_45 fl_12_57 <| z_ic (pc := 48) C dX12_takesChurch_48 (by decide +kernel) <| z_ia (pc := 49) C dX12_takesChurch_49 <| z_cS (pc := 50) C dX12_takesChurch_50 S_X12_begin (zl3 w_838 w_839 w_13) w_840 ds_X12_begin (zrm rfl rfl (by decide) (by decide)) <| z_aln (pc := 53) C dX12_takesChurch_53 rfl <| z_gf (pc := 54) C dX12_takesChurch_54 fl_12_240 <| z_ic (pc := 57) C dX12_takesChurch_57 (by decide +kernel) <| z_cmpne (tgt := 65) (pc := 58) C dX12_takesChurch_58 (by decide) (z_ic (pc := 65) C dX12_takesChurch_65 (by decide +kernel) <| z_zr C hr hk dX12_takesChurch_66) <| z_ic (pc := 61) C dX12_takesChurch_61 (by decide +kernel) <| z_goto (tgt := 66) (pc := 62) C dX12_takesChurch_62 (by decide) <| z_zr C hr hk dX12_takesChurch_66) <| z_ic (pc := 38) C dX12_takesChurch_38 (by decide +kernel) <| z_zr C hr hk dX12_takesChurch_39) <| z_ic (pc := 21) C dX12_takesChurch_21 (by decide +kernel) <| z_zr C hr hk dX12_takesChurch_22)
  | b + 1 => exact fun _ _ _ h => h.elim
theorem dX12_takesBook_0 : decode cX12_takesBook 0 = .ok (.aload_n 0, 1) := by decide +kernel
theorem dX12_takesBook_1 : decode cX12_takesBook 1 = .ok (.invokevirtual 256, 3) := by decide +kernel
theorem dX12_takesBook_4 : decode cX12_takesBook 4 = .ok (.aload_n 0, 1) := by decide +kernel
theorem dX12_takesBook_5 : decode cX12_takesBook 5 = .ok (.iconst 0, 1) := by decide +kernel
theorem dX12_takesBook_6 : decode cX12_takesBook 6 = .ok (.iconst 0, 1) := by decide +kernel
theorem dX12_takesBook_7 : decode cX12_takesBook 7 = .ok (.iconst 1, 1) := by decide +kernel
theorem dX12_takesBook_8 : decode cX12_takesBook 8 = .ok (.invokevirtual 263, 3) := by decide +kernel
theorem dX12_takesBook_11 : decode cX12_takesBook 11 = .ok (.ifCond .ne 5, 3) := by decide +kernel
theorem dX12_takesBook_14 : decode cX12_takesBook 14 = .ok (.iconst 0, 1) := by decide +kernel
theorem dX12_takesBook_15 : decode cX12_takesBook 15 = .ok (.ireturn, 1) := by decide +kernel
theorem dX12_takesBook_16 : decode cX12_takesBook 16 = .ok (.iconst 0, 1) := by decide +kernel
theorem dX12_takesBook_17 : decode cX12_takesBook 17 = .ok (.istore_n 1, 1) := by decide +kernel
theorem dX12_takesBook_18 : decode cX12_takesBook 18 = .ok (.aload_n 0, 1) := by decide +kernel
theorem dX12_takesBook_19 : decode cX12_takesBook 19 = .ok (.getfield 240, 3) := by decide +kernel
theorem dX12_takesBook_22 : decode cX12_takesBook 22 = .ok (.iconst 2, 1) := by decide +kernel
theorem dX12_takesBook_23 : decode cX12_takesBook 23 = .ok (.if_icmp .ne 30, 3) := by decide +kernel
theorem dX12_takesBook_26 : decode cX12_takesBook 26 = .ok (.aload_n 0, 1) := by decide +kernel
theorem dX12_takesBook_27 : decode cX12_takesBook 27 = .ok (.iconst 1, 1) := by decide +kernel
theorem dX12_takesBook_28 : decode cX12_takesBook 28 = .ok (.iconst 0, 1) := by decide +kernel
theorem dX12_takesBook_29 : decode cX12_takesBook 29 = .ok (.bipush 15, 2) := by decide +kernel
theorem dX12_takesBook_31 : decode cX12_takesBook 31 = .ok (.invokevirtual 263, 3) := by decide +kernel
theorem dX12_takesBook_34 : decode cX12_takesBook 34 = .ok (.ifCond .ne 5, 3) := by decide +kernel
theorem dX12_takesBook_37 : decode cX12_takesBook 37 = .ok (.iconst 0, 1) := by decide +kernel
theorem dX12_takesBook_38 : decode cX12_takesBook 38 = .ok (.ireturn, 1) := by decide +kernel
theorem dX12_takesBook_39 : decode cX12_takesBook 39 = .ok (.iload_n 1, 1) := by decide +kernel
theorem dX12_takesBook_40 : decode cX12_takesBook 40 = .ok (.iconst 1, 1) := by decide +kernel
theorem dX12_takesBook_41 : decode cX12_takesBook 41 = .ok (.aload_n 0, 1) := by decide +kernel
theorem dX12_takesBook_42 : decode cX12_takesBook 42 = .ok (.getfield 57, 3) := by decide +kernel
theorem dX12_takesBook_45 : decode cX12_takesBook 45 = .ok (.iconst 1, 1) := by decide +kernel
theorem dX12_takesBook_46 : decode cX12_takesBook 46 = .ok (.iaload, 1) := by decide +kernel
theorem dX12_takesBook_47 : decode cX12_takesBook 47 = .ok (.ishl, 1) := by decide +kernel
theorem dX12_takesBook_48 : decode cX12_takesBook 48 = .ok (.ior, 1) := by decide +kernel
theorem dX12_takesBook_49 : decode cX12_takesBook 49 = .ok (.istore_n 1, 1) := by decide +kernel
theorem dX12_takesBook_50 : decode cX12_takesBook 50 = .ok (.goto (-32), 3) := by decide +kernel
theorem dX12_takesBook_53 : decode cX12_takesBook 53 = .ok (.aload_n 0, 1) := by decide +kernel
theorem dX12_takesBook_54 : decode cX12_takesBook 54 = .ok (.getfield 54, 3) := by decide +kernel
theorem dX12_takesBook_57 : decode cX12_takesBook 57 = .ok (.iconst 2, 1) := by decide +kernel
theorem dX12_takesBook_58 : decode cX12_takesBook 58 = .ok (.aload_n 0, 1) := by decide +kernel
theorem dX12_takesBook_59 : decode cX12_takesBook 59 = .ok (.getfield 57, 3) := by decide +kernel
theorem dX12_takesBook_62 : decode cX12_takesBook 62 = .ok (.iconst 0, 1) := by decide +kernel
theorem dX12_takesBook_63 : decode cX12_takesBook 63 = .ok (.iaload, 1) := by decide +kernel
theorem dX12_takesBook_64 : decode cX12_takesBook 64 = .ok (.iadd, 1) := by decide +kernel
theorem dX12_takesBook_65 : decode cX12_takesBook 65 = .ok (.iload_n 1, 1) := by decide +kernel
theorem dX12_takesBook_66 : decode cX12_takesBook 66 = .ok (.iastore, 1) := by decide +kernel
theorem dX12_takesBook_67 : decode cX12_takesBook 67 = .ok (.iconst 1, 1) := by decide +kernel
theorem dX12_takesBook_68 : decode cX12_takesBook 68 = .ok (.ireturn, 1) := by decide +kernel
def P_X12_takesBook : Nat → Nat
  | 1 => 18
  | _ => 0
set_option maxRecDepth 100000 in
set_option maxHeartbeats 4000000 in
theorem S_X12_takesBook : zSd yX12_takesBook cX12_takesBook 2 (some .boolean) { frames := 5, cells := 0, slots := 0, locals := 112 } T_X12_takesBook := by
  refine zMet (pcs := P_X12_takesBook) (F := F_X12_takesBook) (by decide) rfl ?_
  intro p l e s m args below meth c D ids ad A Q Y C hr hk hY b
  match b with
  | 0 => exact (z_aln (pc := 0) C dX12_takesBook_0 rfl <| z_cV (pc := 1) C dX12_takesBook_1 S_X12_goBehind rfl (zl4 w_1189 w_1191 wp_46 w_13) w_1192 ds_X12_goBehind (zrm rfl rfl (by decide) (by decide)) <| z_aln (pc := 4) C dX12_takesBook_4 rfl <| z_ic (pc := 5) C dX12_takesBook_5 (by decide +kernel) <| z_ic (pc := 6) C dX12_takesBook_6 (by decide +kernel) <| z_ic (pc := 7) C dX12_takesBook_7 (by decide +kernel) <| z_cV (pc := 8) C dX12_takesBook_8 S_X12_takes rfl (zl4 w_1193 w_1195 wp_47 w_13) w_1196 ds_X12_takes (zrm rfl rfl (by decide) (by decide)) <| z_ifne (tgt := 16) (pc := 11) C dX12_takesBook_11 (by decide) (z_ic (pc := 16) C dX12_takesBook_16 (by decide +kernel) <| z_isn (pc := 17) C dX12_takesBook_17 rfl (by decide) <| z_jmp (hY 1)) <| z_ic (pc := 14) C dX12_takesBook_14 (by decide +kernel) <| z_zr C hr hk dX12_takesBook_15)
  | 1 => exact (z_aln (pc := 18) C dX12_takesBook_18 rfl <| z_gf (pc := 19) C dX12_takesBook_19 fl_12_240 <| z_ic (pc := 22) C dX12_takesBook_22 (by decide +kernel) <| z_cmpne (tgt := 53) (pc := 23) C dX12_takesBook_23 (by decide) (z_aln (pc := 53) C dX12_takesBook_53 rfl <| z_gf (pc := 54) C dX12_takesBook_54 fl_12_54 <| z_ic (pc := 57) C dX12_takesBook_57 (by decide +kernel) <| z_aln (pc := 58) C dX12_takesBook_58 rfl <| z_gf (pc := 59) C dX12_takesBook_59 fl_12_57 <| z_ic (pc := 62) C dX12_takesBook_62 (by decide +kernel) <| z_ia (pc := 63) C dX12_takesBook_63 <| z_iadd (pc := 64) C dX12_takesBook_64 <| z_iln (pc := 65) C dX12_takesBook_65 rfl <| z_iast (pc := 66) C dX12_takesBook_66 <| z_ic (pc := 67) C dX12_takesBook_67 (by decide +kernel) <| z_zr C hr hk dX12_takesBook_68) <| z_aln (pc := 26) C dX12_takesBook_26 rfl <| z_ic (pc := 27) C dX12_takesBook_27 (by decide +kernel) <| z_ic (pc := 28) C dX12_takesBook_28 (by decide +kernel) <| z_bi (pc := 29) C dX12_takesBook_29 (by decide +kernel) <| z_cV (pc := 31) C dX12_takesBook_31 S_X12_takes rfl (zl4 w_1193 w_1195 wp_47 w_13) w_1196 ds_X12_takes (zrm rfl rfl (by decide) (by decide)) <| z_ifne (tgt := 39) (pc := 34) C dX12_takesBook_34 (by decide) (z_iln (pc := 39) C dX12_takesBook_39 rfl <| z_ic (pc := 40) C dX12_takesBook_40 (by decide +kernel) <| z_aln (pc := 41) C dX12_takesBook_41 rfl <| z_gf (pc := 42) C dX12_takesBook_42 fl_12_57 <| z_ic (pc := 45) C dX12_takesBook_45 (by decide +kernel) <| z_ia (pc := 46) C dX12_takesBook_46 <| z_ishl (pc := 47) C dX12_takesBook_47 <| z_ior (pc := 48) C dX12_takesBook_48 <| z_isn (pc := 49) C dX12_takesBook_49 rfl (by decide) <| z_goto (tgt := 18) (pc := 50) C dX12_takesBook_50 (by decide) <| z_jmp (hY 1)) <| z_ic (pc := 37) C dX12_takesBook_37 (by decide +kernel) <| z_zr C hr hk dX12_takesBook_38)
  | b + 2 => exact fun _ _ _ h => h.elim
theorem dX12_takesFamily_0 : decode cX12_takesFamily 0 = .ok (.aload_n 0, 1) := by decide +kernel
theorem dX12_takesFamily_1 : decode cX12_takesFamily 1 = .ok (.getfield 54, 3) := by decide +kernel
theorem dX12_takesFamily_4 : decode cX12_takesFamily 4 = .ok (.iconst 0, 1) := by decide +kernel
theorem dX12_takesFamily_5 : decode cX12_takesFamily 5 = .ok (.iaload, 1) := by decide +kernel
theorem dX12_takesFamily_6 : decode cX12_takesFamily 6 = .ok (.bipush 7, 2) := by decide +kernel
theorem dX12_takesFamily_8 : decode cX12_takesFamily 8 = .ok (.if_icmp .ne 5, 3) := by decide +kernel
theorem dX12_takesFamily_11 : decode cX12_takesFamily 11 = .ok (.iconst 0, 1) := by decide +kernel
theorem dX12_takesFamily_12 : decode cX12_takesFamily 12 = .ok (.ireturn, 1) := by decide +kernel
theorem dX12_takesFamily_13 : decode cX12_takesFamily 13 = .ok (.aload_n 0, 1) := by decide +kernel
theorem dX12_takesFamily_14 : decode cX12_takesFamily 14 = .ok (.invokevirtual 256, 3) := by decide +kernel
theorem dX12_takesFamily_17 : decode cX12_takesFamily 17 = .ok (.aload_n 0, 1) := by decide +kernel
theorem dX12_takesFamily_18 : decode cX12_takesFamily 18 = .ok (.iconst 0, 1) := by decide +kernel
theorem dX12_takesFamily_19 : decode cX12_takesFamily 19 = .ok (.iconst 0, 1) := by decide +kernel
theorem dX12_takesFamily_20 : decode cX12_takesFamily 20 = .ok (.iconst 5, 1) := by decide +kernel
theorem dX12_takesFamily_21 : decode cX12_takesFamily 21 = .ok (.invokevirtual 263, 3) := by decide +kernel
theorem dX12_takesFamily_24 : decode cX12_takesFamily 24 = .ok (.ifCond .eq 35, 3) := by decide +kernel
theorem dX12_takesFamily_27 : decode cX12_takesFamily 27 = .ok (.aload_n 0, 1) := by decide +kernel
theorem dX12_takesFamily_28 : decode cX12_takesFamily 28 = .ok (.iconst 1, 1) := by decide +kernel
theorem dX12_takesFamily_29 : decode cX12_takesFamily 29 = .ok (.iconst 0, 1) := by decide +kernel
theorem dX12_takesFamily_30 : decode cX12_takesFamily 30 = .ok (.iconst 1, 1) := by decide +kernel
theorem dX12_takesFamily_31 : decode cX12_takesFamily 31 = .ok (.invokevirtual 263, 3) := by decide +kernel
theorem dX12_takesFamily_34 : decode cX12_takesFamily 34 = .ok (.ifCond .eq 25, 3) := by decide +kernel
theorem dX12_takesFamily_37 : decode cX12_takesFamily 37 = .ok (.aload_n 0, 1) := by decide +kernel
theorem dX12_takesFamily_38 : decode cX12_takesFamily 38 = .ok (.iconst 2, 1) := by decide +kernel
theorem dX12_takesFamily_39 : decode cX12_takesFamily 39 = .ok (.iconst 1, 1) := by decide +kernel
theorem dX12_takesFamily_40 : decode cX12_takesFamily 40 = .ok (.bipush 9, 2) := by decide +kernel
theorem dX12_takesFamily_42 : decode cX12_takesFamily 42 = .ok (.invokevirtual 263, 3) := by decide +kernel
theorem dX12_takesFamily_45 : decode cX12_takesFamily 45 = .ok (.ifCond .eq 14, 3) := by decide +kernel
theorem dX12_takesFamily_48 : decode cX12_takesFamily 48 = .ok (.aload_n 0, 1) := by decide +kernel
theorem dX12_takesFamily_49 : decode cX12_takesFamily 49 = .ok (.iconst 3, 1) := by decide +kernel
theorem dX12_takesFamily_50 : decode cX12_takesFamily 50 = .ok (.iconst 1, 1) := by decide +kernel
theorem dX12_takesFamily_51 : decode cX12_takesFamily 51 = .ok (.bipush 20, 2) := by decide +kernel
theorem dX12_takesFamily_53 : decode cX12_takesFamily 53 = .ok (.invokevirtual 263, 3) := by decide +kernel
theorem dX12_takesFamily_56 : decode cX12_takesFamily 56 = .ok (.ifCond .ne 5, 3) := by decide +kernel
theorem dX12_takesFamily_59 : decode cX12_takesFamily 59 = .ok (.iconst 0, 1) := by decide +kernel
theorem dX12_takesFamily_60 : decode cX12_takesFamily 60 = .ok (.ireturn, 1) := by decide +kernel
theorem dX12_takesFamily_61 : decode cX12_takesFamily 61 = .ok (.aload_n 0, 1) := by decide +kernel
theorem dX12_takesFamily_62 : decode cX12_takesFamily 62 = .ok (.getfield 240, 3) := by decide +kernel
theorem dX12_takesFamily_65 : decode cX12_takesFamily 65 = .ok (.iconst 2, 1) := by decide +kernel
theorem dX12_takesFamily_66 : decode cX12_takesFamily 66 = .ok (.if_icmp .ne 44, 3) := by decide +kernel
theorem dX12_takesFamily_69 : decode cX12_takesFamily 69 = .ok (.aload_n 0, 1) := by decide +kernel
theorem dX12_takesFamily_70 : decode cX12_takesFamily 70 = .ok (.getfield 243, 3) := by decide +kernel
theorem dX12_takesFamily_73 : decode cX12_takesFamily 73 = .ok (.aload_n 0, 1) := by decide +kernel
theorem dX12_takesFamily_74 : decode cX12_takesFamily 74 = .ok (.getfield 57, 3) := by decide +kernel
theorem dX12_takesFamily_77 : decode cX12_takesFamily 77 = .ok (.iconst 1, 1) := by decide +kernel
theorem dX12_takesFamily_78 : decode cX12_takesFamily 78 = .ok (.iaload, 1) := by decide +kernel
theorem dX12_takesFamily_79 : decode cX12_takesFamily 79 = .ok (.invokestatic 92, 3) := by decide +kernel
theorem dX12_takesFamily_82 : decode cX12_takesFamily 82 = .ok (.ifCond .eq 28, 3) := by decide +kernel
theorem dX12_takesFamily_85 : decode cX12_takesFamily 85 = .ok (.aload_n 0, 1) := by decide +kernel
theorem dX12_takesFamily_86 : decode cX12_takesFamily 86 = .ok (.getfield 54, 3) := by decide +kernel
theorem dX12_takesFamily_89 : decode cX12_takesFamily 89 = .ok (.aload_n 0, 1) := by decide +kernel
theorem dX12_takesFamily_90 : decode cX12_takesFamily 90 = .ok (.getfield 243, 3) := by decide +kernel
theorem dX12_takesFamily_93 : decode cX12_takesFamily 93 = .ok (.invokestatic 96, 3) := by decide +kernel
theorem dX12_takesFamily_96 : decode cX12_takesFamily 96 = .ok (.ifCond .ne 14, 3) := by decide +kernel
theorem dX12_takesFamily_99 : decode cX12_takesFamily 99 = .ok (.aload_n 0, 1) := by decide +kernel
theorem dX12_takesFamily_100 : decode cX12_takesFamily 100 = .ok (.iconst 4, 1) := by decide +kernel
theorem dX12_takesFamily_101 : decode cX12_takesFamily 101 = .ok (.iconst 0, 1) := by decide +kernel
theorem dX12_takesFamily_102 : decode cX12_takesFamily 102 = .ok (.bipush 9, 2) := by decide +kernel
theorem dX12_takesFamily_104 : decode cX12_takesFamily 104 = .ok (.invokevirtual 263, 3) := by decide +kernel
theorem dX12_takesFamily_107 : decode cX12_takesFamily 107 = .ok (.ifCond .ne 5, 3) := by decide +kernel
theorem dX12_takesFamily_110 : decode cX12_takesFamily 110 = .ok (.iconst 0, 1) := by decide +kernel
theorem dX12_takesFamily_111 : decode cX12_takesFamily 111 = .ok (.ireturn, 1) := by decide +kernel
theorem dX12_takesFamily_112 : decode cX12_takesFamily 112 = .ok (.aload_n 0, 1) := by decide +kernel
theorem dX12_takesFamily_113 : decode cX12_takesFamily 113 = .ok (.getfield 54, 3) := by decide +kernel
theorem dX12_takesFamily_116 : decode cX12_takesFamily 116 = .ok (.aload_n 0, 1) := by decide +kernel
theorem dX12_takesFamily_117 : decode cX12_takesFamily 117 = .ok (.getfield 57, 3) := by decide +kernel
theorem dX12_takesFamily_120 : decode cX12_takesFamily 120 = .ok (.iconst 0, 1) := by decide +kernel
theorem dX12_takesFamily_121 : decode cX12_takesFamily 121 = .ok (.iaload, 1) := by decide +kernel
theorem dX12_takesFamily_122 : decode cX12_takesFamily 122 = .ok (.aload_n 0, 1) := by decide +kernel
theorem dX12_takesFamily_123 : decode cX12_takesFamily 123 = .ok (.getfield 57, 3) := by decide +kernel
theorem dX12_takesFamily_126 : decode cX12_takesFamily 126 = .ok (.iconst 1, 1) := by decide +kernel
theorem dX12_takesFamily_127 : decode cX12_takesFamily 127 = .ok (.iaload, 1) := by decide +kernel
theorem dX12_takesFamily_128 : decode cX12_takesFamily 128 = .ok (.aload_n 0, 1) := by decide +kernel
theorem dX12_takesFamily_129 : decode cX12_takesFamily 129 = .ok (.getfield 57, 3) := by decide +kernel
theorem dX12_takesFamily_132 : decode cX12_takesFamily 132 = .ok (.iconst 2, 1) := by decide +kernel
theorem dX12_takesFamily_133 : decode cX12_takesFamily 133 = .ok (.iaload, 1) := by decide +kernel
theorem dX12_takesFamily_134 : decode cX12_takesFamily 134 = .ok (.aload_n 0, 1) := by decide +kernel
theorem dX12_takesFamily_135 : decode cX12_takesFamily 135 = .ok (.getfield 57, 3) := by decide +kernel
theorem dX12_takesFamily_138 : decode cX12_takesFamily 138 = .ok (.iconst 3, 1) := by decide +kernel
theorem dX12_takesFamily_139 : decode cX12_takesFamily 139 = .ok (.iaload, 1) := by decide +kernel
theorem dX12_takesFamily_140 : decode cX12_takesFamily 140 = .ok (.aload_n 0, 1) := by decide +kernel
theorem dX12_takesFamily_141 : decode cX12_takesFamily 141 = .ok (.getfield 57, 3) := by decide +kernel
theorem dX12_takesFamily_144 : decode cX12_takesFamily 144 = .ok (.iconst 4, 1) := by decide +kernel
theorem dX12_takesFamily_145 : decode cX12_takesFamily 145 = .ok (.iaload, 1) := by decide +kernel
theorem dX12_takesFamily_146 : decode cX12_takesFamily 146 = .ok (.invokestatic 106, 3) := by decide +kernel
theorem dX12_takesFamily_149 : decode cX12_takesFamily 149 = .ok (.iconst 1, 1) := by decide +kernel
theorem dX12_takesFamily_150 : decode cX12_takesFamily 150 = .ok (.ireturn, 1) := by decide +kernel
def P_X12_takesFamily : Nat → Nat
  | _ => 0
set_option maxRecDepth 100000 in
set_option maxHeartbeats 4000000 in
theorem S_X12_takesFamily : zSd yX12_takesFamily cX12_takesFamily 1 (some .boolean) { frames := 5, cells := 0, slots := 0, locals := 112 } T_X12_takesFamily := by
  refine zMet (pcs := P_X12_takesFamily) (F := F_X12_takesFamily) (by decide) rfl ?_
  intro p l e s m args below meth c D ids ad A Q Y C hr hk hY b
  match b with
  | 0 => exact (z_aln (pc := 0) C dX12_takesFamily_0 rfl <| z_gf (pc := 1) C dX12_takesFamily_1 fl_12_54 <| z_ic (pc := 4) C dX12_takesFamily_4 (by decide +kernel) <| z_ia (pc := 5) C dX12_takesFamily_5 <| z_bi (pc := 6) C dX12_takesFamily_6 (by decide +kernel) <| z_cmpne (tgt := 13) (pc := 8) C dX12_takesFamily_8 (by decide) (z_aln (pc := 13) C dX12_takesFamily_13 rfl <| z_cV (pc := 14) C dX12_takesFamily_14 S_X12_goBehind rfl (zl4 w_1189 w_1191 wp_46 w_13) w_1192 ds_X12_goBehind (zrm rfl rfl (by decide) (by decide)) <| z_aln (pc := 17) C dX12_takesFamily_17 rfl <| z_ic (pc := 18) C dX12_takesFamily_18 (by decide +kernel) <| z_ic (pc := 19) C dX12_takesFamily_19 (by decide +kernel) <| z_ic (pc := 20) C dX12_takesFamily_20 (by decide +kernel) <| z_cV (pc := 21) C dX12_takesFamily_21 S_X12_takes rfl (zl4 w_1193 w_1195 wp_47 w_13) w_1196 ds_X12_takes (zrm rfl rfl (by decide) (by decide)) <| z_ifeq (tgt := 59) (pc := 24) C dX12_takesFamily_24 (by decide) (z_ic (pc := 59) C dX12_takesFamily_59 (by decide +kernel) <| z_zr C hr hk dX12_takesFamily_60) <| z_aln (pc := 27) C dX12_takesFamily_27 rfl <| z_ic (pc := 28) C dX12_takesFamily_28 (by decide +kernel) <| z_ic (pc := 29) C dX12_takesFamily_29 (by decide +kernel) <| z_ic (pc := 30) C dX12_takesFamily_30 (by decide +kernel) <| z_cV (pc := 31) C dX12_takesFamily_31 S_X12_takes rfl (zl4 w_1193 w_1195 wp_47 w_13) w_1196 ds_X12_takes (zrm rfl rfl (by decide) (by decide)) <| z_ifeq (tgt := 59) (pc := 34) C dX12_takesFamily_34 (by decide) (z_ic (pc := 59) C dX12_takesFamily_59 (by decide +kernel) <| z_zr C hr hk dX12_takesFamily_60) <| z_aln (pc := 37) C dX12_takesFamily_37 rfl <| z_ic (pc := 38) C dX12_takesFamily_38 (by decide +kernel) <| z_ic (pc := 39) C dX12_takesFamily_39 (by decide +kernel) <| z_bi (pc := 40) C dX12_takesFamily_40 (by decide +kernel) <| z_cV (pc := 42) C dX12_takesFamily_42 S_X12_takes rfl (zl4 w_1193 w_1195 wp_47 w_13) w_1196 ds_X12_takes (zrm rfl rfl (by decide) (by decide)) <| z_ifeq (tgt := 59) (pc := 45) C dX12_takesFamily_45 (by decide) (z_ic (pc := 59) C dX12_takesFamily_59 (by decide +kernel) <| z_zr C hr hk dX12_takesFamily_60) <| z_aln (pc := 48) C dX12_takesFamily_48 rfl <| z_ic (pc := 49) C dX12_takesFamily_49 (by decide +kernel) <| z_ic (pc := 50) C dX12_takesFamily_50 (by decide +kernel) <| z_bi (pc := 51) C dX12_takesFamily_51 (by decide +kernel) <| z_cV (pc := 53) C dX12_takesFamily_53 S_X12_takes rfl (zl4 w_1193 w_1195 wp_47 w_13) w_1196 ds_X12_takes (zrm rfl rfl (by decide) (by decide)) <| z_ifne (tgt := 61) (pc := 56) C dX12_takesFamily_56 (by decide) (z_aln (pc := 61) C dX12_takesFamily_61 rfl <| z_gf (pc := 62) C dX12_takesFamily_62 fl_12_240 <| z_ic (pc := 65) C dX12_takesFamily_65 (by decide +kernel) <| z_cmpne (tgt := 110) (pc := 66) C dX12_takesFamily_66 (by decide) (z_ic (pc := 110) C dX12_takesFamily_110 (by decide +kernel) <| z_zr C hr hk dX12_takesFamily_111) <| z_aln (pc := 69) C dX12_takesFamily_69 rfl <| z_gf (pc := 70) C dX12_takesFamily_70 fl_12_243 <| z_aln (pc := 73) C dX12_takesFamily_73 rfl <| z_gf (pc := 74) C dX12_takesFamily_74 fl_12_57 <| z_ic (pc := 77) C dX12_takesFamily_77 (by decide +kernel) <| z_ia (pc := 78) C dX12_takesFamily_78 <| z_cS (pc := 79) C dX12_takesFamily_79 S_X12_isPewOf (zl3 w_948 w_949 w_13) w_950 ds_X12_isPewOf (zrm rfl rfl (by decide) (by decide)) <| z_ifeq (tgt := 110) (pc := 82) C dX12_takesFamily_82 (by decide) (z_ic (pc := 110) C dX12_takesFamily_110 (by decide +kernel) <| z_zr C hr hk dX12_takesFamily_111) <| z_aln (pc := 85) C dX12_takesFamily_85 rfl <| z_gf (pc := 86) C dX12_takesFamily_86 fl_12_54 <| z_aln (pc := 89) C dX12_takesFamily_89 rfl <| z_gf (pc := 90) C dX12_takesFamily_90 fl_12_243 <| z_cS (pc := 93) C dX12_takesFamily_93 S_X12_isTaken (zl3 w_951 w_952 w_13) w_953 ds_X12_isTaken (zrm rfl rfl (by decide) (by decide)) <| z_ifne (tgt := 110) (pc := 96) C dX12_takesFamily_96 (by decide) (z_ic (pc := 110) C dX12_takesFamily_110 (by decide +kernel) <| z_zr C hr hk dX12_takesFamily_111) <| z_aln (pc := 99) C dX12_takesFamily_99 rfl <| z_ic (pc := 100) C dX12_takesFamily_100 (by decide +kernel) <| z_ic (pc := 101) C dX12_takesFamily_101 (by decide +kernel) <| z_bi (pc := 102) C dX12_takesFamily_102 (by decide +kernel) <| z_cV (pc := 104) C dX12_takesFamily_104 S_X12_takes rfl (zl4 w_1193 w_1195 wp_47 w_13) w_1196 ds_X12_takes (zrm rfl rfl (by decide) (by decide)) <| z_ifne (tgt := 112) (pc := 107) C dX12_takesFamily_107 (by decide) (z_aln (pc := 112) C dX12_takesFamily_112 rfl <| z_gf (pc := 113) C dX12_takesFamily_113 fl_12_54 <| z_aln (pc := 116) C dX12_takesFamily_116 rfl <| z_gf (pc := 117) C dX12_takesFamily_117 fl_12_57 <| z_ic (pc := 120) C dX12_takesFamily_120 (by decide +kernel) <| z_ia (pc := 121) C dX12_takesFamily_121 <| z_aln (pc := 122) C dX12_takesFamily_122 rfl <| z_gf (pc := 123) C dX12_takesFamily_123 fl_12_57 <| z_ic (pc := 126) C dX12_takesFamily_126 (by decide +kernel) <| z_ia (pc := 127) C dX12_takesFamily_127 <| z_aln (pc := 128) C dX12_takesFamily_128 rfl <| z_gf (pc := 129) C dX12_takesFamily_129 fl_12_57 <| z_ic (pc := 132) C dX12_takesFamily_132 (by decide +kernel) <| z_ia (pc := 133) C dX12_takesFamily_133 <| z_aln (pc := 134) C dX12_takesFamily_134 rfl <| z_gf (pc := 135) C dX12_takesFamily_135 fl_12_57 <| z_ic (pc := 138) C dX12_takesFamily_138 (by decide +kernel) <| z_ia (pc := 139) C dX12_takesFamily_139 <| z_aln (pc := 140) C dX12_takesFamily_140 rfl <| z_gf (pc := 141) C dX12_takesFamily_141 fl_12_57 <| z_ic (pc := 144) C dX12_takesFamily_144 (by decide +kernel) <| z_ia (pc := 145) C dX12_takesFamily_145 <| z_cS (pc := 146) C dX12_takesFamily_146 S_X12_layFamily (zl3 w_962 w_963 w_13) w_964 ds_X12_layFamily (zrm rfl rfl (by decide) (by decide)) <| z_ic (pc := 149) C dX12_takesFamily_149 (by decide +kernel) <| z_zr C hr hk dX12_takesFamily_150) <| z_ic (pc := 110) C dX12_takesFamily_110 (by decide +kernel) <| z_zr C hr hk dX12_takesFamily_111) <| z_ic (pc := 59) C dX12_takesFamily_59 (by decide +kernel) <| z_zr C hr hk dX12_takesFamily_60) <| z_ic (pc := 11) C dX12_takesFamily_11 (by decide +kernel) <| z_zr C hr hk dX12_takesFamily_12)
  | b + 1 => exact fun _ _ _ h => h.elim
theorem dX12_takesCold_0 : decode cX12_takesCold 0 = .ok (.aload_n 0, 1) := by decide +kernel
theorem dX12_takesCold_1 : decode cX12_takesCold 1 = .ok (.invokevirtual 256, 3) := by decide +kernel
theorem dX12_takesCold_4 : decode cX12_takesCold 4 = .ok (.aload_n 0, 1) := by decide +kernel
theorem dX12_takesCold_5 : decode cX12_takesCold 5 = .ok (.iconst 0, 1) := by decide +kernel
theorem dX12_takesCold_6 : decode cX12_takesCold 6 = .ok (.iconst 0, 1) := by decide +kernel
theorem dX12_takesCold_7 : decode cX12_takesCold 7 = .ok (.aload_n 0, 1) := by decide +kernel
theorem dX12_takesCold_8 : decode cX12_takesCold 8 = .ok (.getfield 54, 3) := by decide +kernel
theorem dX12_takesCold_11 : decode cX12_takesCold 11 = .ok (.iconst 0, 1) := by decide +kernel
theorem dX12_takesCold_12 : decode cX12_takesCold 12 = .ok (.iaload, 1) := by decide +kernel
theorem dX12_takesCold_13 : decode cX12_takesCold 13 = .ok (.iconst 1, 1) := by decide +kernel
theorem dX12_takesCold_14 : decode cX12_takesCold 14 = .ok (.isub, 1) := by decide +kernel
theorem dX12_takesCold_15 : decode cX12_takesCold 15 = .ok (.invokevirtual 263, 3) := by decide +kernel
theorem dX12_takesCold_18 : decode cX12_takesCold 18 = .ok (.ifCond .ne 5, 3) := by decide +kernel
theorem dX12_takesCold_21 : decode cX12_takesCold 21 = .ok (.iconst 0, 1) := by decide +kernel
theorem dX12_takesCold_22 : decode cX12_takesCold 22 = .ok (.ireturn, 1) := by decide +kernel
theorem dX12_takesCold_23 : decode cX12_takesCold 23 = .ok (.aload_n 0, 1) := by decide +kernel
theorem dX12_takesCold_24 : decode cX12_takesCold 24 = .ok (.getfield 54, 3) := by decide +kernel
theorem dX12_takesCold_27 : decode cX12_takesCold 27 = .ok (.bipush 6, 2) := by decide +kernel
theorem dX12_takesCold_29 : decode cX12_takesCold 29 = .ok (.bipush 6, 2) := by decide +kernel
theorem dX12_takesCold_31 : decode cX12_takesCold 31 = .ok (.aload_n 0, 1) := by decide +kernel
theorem dX12_takesCold_32 : decode cX12_takesCold 32 = .ok (.getfield 57, 3) := by decide +kernel
theorem dX12_takesCold_35 : decode cX12_takesCold 35 = .ok (.iconst 0, 1) := by decide +kernel
theorem dX12_takesCold_36 : decode cX12_takesCold 36 = .ok (.iaload, 1) := by decide +kernel
theorem dX12_takesCold_37 : decode cX12_takesCold 37 = .ok (.imul, 1) := by decide +kernel
theorem dX12_takesCold_38 : decode cX12_takesCold 38 = .ok (.iadd, 1) := by decide +kernel
theorem dX12_takesCold_39 : decode cX12_takesCold 39 = .ok (.iconst 5, 1) := by decide +kernel
theorem dX12_takesCold_40 : decode cX12_takesCold 40 = .ok (.iadd, 1) := by decide +kernel
theorem dX12_takesCold_41 : decode cX12_takesCold 41 = .ok (.iconst 1, 1) := by decide +kernel
theorem dX12_takesCold_42 : decode cX12_takesCold 42 = .ok (.iastore, 1) := by decide +kernel
theorem dX12_takesCold_43 : decode cX12_takesCold 43 = .ok (.iconst 1, 1) := by decide +kernel
theorem dX12_takesCold_44 : decode cX12_takesCold 44 = .ok (.ireturn, 1) := by decide +kernel
def P_X12_takesCold : Nat → Nat
  | _ => 0
set_option maxRecDepth 100000 in
set_option maxHeartbeats 4000000 in
theorem S_X12_takesCold : zSd yX12_takesCold cX12_takesCold 1 (some .boolean) { frames := 5, cells := 0, slots := 0, locals := 112 } T_X12_takesCold := by
  refine zMet (pcs := P_X12_takesCold) (F := F_X12_takesCold) (by decide) rfl ?_
  intro p l e s m args below meth c D ids ad A Q Y C hr hk hY b
  match b with
  | 0 => exact (z_aln (pc := 0) C dX12_takesCold_0 rfl <| z_cV (pc := 1) C dX12_takesCold_1 S_X12_goBehind rfl (zl4 w_1189 w_1191 wp_46 w_13) w_1192 ds_X12_goBehind (zrm rfl rfl (by decide) (by decide)) <| z_aln (pc := 4) C dX12_takesCold_4 rfl <| z_ic (pc := 5) C dX12_takesCold_5 (by decide +kernel) <| z_ic (pc := 6) C dX12_takesCold_6 (by decide +kernel) <| z_aln (pc := 7) C dX12_takesCold_7 rfl <| z_gf (pc := 8) C dX12_takesCold_8 fl_12_54 <| z_ic (pc := 11) C dX12_takesCold_11 (by decide +kernel) <| z_ia (pc := 12) C dX12_takesCold_12 <| z_ic (pc := 13) C dX12_takesCold_13 (by decide +kernel) <| z_isub (pc := 14) C dX12_takesCold_14 <| z_cV (pc := 15) C dX12_takesCold_15 S_X12_takes rfl (zl4 w_1193 w_1195 wp_47 w_13) w_1196 ds_X12_takes (zrm rfl rfl (by decide) (by decide)) <| z_ifne (tgt := 23) (pc := 18) C dX12_takesCold_18 (by decide) (z_aln (pc := 23) C dX12_takesCold_23 rfl <| z_gf (pc := 24) C dX12_takesCold_24 fl_12_54 <| z_bi (pc := 27) C dX12_takesCold_27 (by decide +kernel) <| z_bi (pc := 29) C dX12_takesCold_29 (by decide +kernel) <| z_aln (pc := 31) C dX12_takesCold_31 rfl <| z_gf (pc := 32) C dX12_takesCold_32 fl_12_57 <| z_ic (pc := 35) C dX12_takesCold_35 (by decide +kernel) <| z_ia (pc := 36) C dX12_takesCold_36 <| z_imul (pc := 37) C dX12_takesCold_37 <| z_iadd (pc := 38) C dX12_takesCold_38 <| z_ic (pc := 39) C dX12_takesCold_39 (by decide +kernel) <| z_iadd (pc := 40) C dX12_takesCold_40 <| z_ic (pc := 41) C dX12_takesCold_41 (by decide +kernel) <| z_iast (pc := 42) C dX12_takesCold_42 <| z_ic (pc := 43) C dX12_takesCold_43 (by decide +kernel) <| z_zr C hr hk dX12_takesCold_44) <| z_ic (pc := 21) C dX12_takesCold_21 (by decide +kernel) <| z_zr C hr hk dX12_takesCold_22)
  | b + 1 => exact fun _ _ _ h => h.elim
theorem dX12_takesItem_0 : decode cX12_takesItem 0 = .ok (.aload_n 0, 1) := by decide +kernel
theorem dX12_takesItem_1 : decode cX12_takesItem 1 = .ok (.iconst 4, 1) := by decide +kernel
theorem dX12_takesItem_2 : decode cX12_takesItem 2 = .ok (.bipush 98, 2) := by decide +kernel
theorem dX12_takesItem_4 : decode cX12_takesItem 4 = .ok (.bipush 111, 2) := by decide +kernel
theorem dX12_takesItem_6 : decode cX12_takesItem 6 = .ok (.bipush 111, 2) := by decide +kernel
theorem dX12_takesItem_8 : decode cX12_takesItem 8 = .ok (.bipush 107, 2) := by decide +kernel
theorem dX12_takesItem_10 : decode cX12_takesItem 10 = .ok (.iconst 0, 1) := by decide +kernel
theorem dX12_takesItem_11 : decode cX12_takesItem 11 = .ok (.iconst 0, 1) := by decide +kernel
theorem dX12_takesItem_12 : decode cX12_takesItem 12 = .ok (.invokevirtual 259, 3) := by decide +kernel
theorem dX12_takesItem_15 : decode cX12_takesItem 15 = .ok (.ifCond .eq 8, 3) := by decide +kernel
theorem dX12_takesItem_18 : decode cX12_takesItem 18 = .ok (.aload_n 0, 1) := by decide +kernel
theorem dX12_takesItem_19 : decode cX12_takesItem 19 = .ok (.invokevirtual 267, 3) := by decide +kernel
theorem dX12_takesItem_22 : decode cX12_takesItem 22 = .ok (.ireturn, 1) := by decide +kernel
theorem dX12_takesItem_23 : decode cX12_takesItem 23 = .ok (.aload_n 0, 1) := by decide +kernel
theorem dX12_takesItem_24 : decode cX12_takesItem 24 = .ok (.bipush 6, 2) := by decide +kernel
theorem dX12_takesItem_26 : decode cX12_takesItem 26 = .ok (.bipush 102, 2) := by decide +kernel
theorem dX12_takesItem_28 : decode cX12_takesItem 28 = .ok (.bipush 97, 2) := by decide +kernel
theorem dX12_takesItem_30 : decode cX12_takesItem 30 = .ok (.bipush 109, 2) := by decide +kernel
theorem dX12_takesItem_32 : decode cX12_takesItem 32 = .ok (.bipush 105, 2) := by decide +kernel
theorem dX12_takesItem_34 : decode cX12_takesItem 34 = .ok (.bipush 108, 2) := by decide +kernel
theorem dX12_takesItem_36 : decode cX12_takesItem 36 = .ok (.bipush 121, 2) := by decide +kernel
theorem dX12_takesItem_38 : decode cX12_takesItem 38 = .ok (.invokevirtual 259, 3) := by decide +kernel
theorem dX12_takesItem_41 : decode cX12_takesItem 41 = .ok (.ifCond .eq 8, 3) := by decide +kernel
theorem dX12_takesItem_44 : decode cX12_takesItem 44 = .ok (.aload_n 0, 1) := by decide +kernel
theorem dX12_takesItem_45 : decode cX12_takesItem 45 = .ok (.invokevirtual 270, 3) := by decide +kernel
theorem dX12_takesItem_48 : decode cX12_takesItem 48 = .ok (.ireturn, 1) := by decide +kernel
theorem dX12_takesItem_49 : decode cX12_takesItem 49 = .ok (.aload_n 0, 1) := by decide +kernel
theorem dX12_takesItem_50 : decode cX12_takesItem 50 = .ok (.iconst 4, 1) := by decide +kernel
theorem dX12_takesItem_51 : decode cX12_takesItem 51 = .ok (.bipush 99, 2) := by decide +kernel
theorem dX12_takesItem_53 : decode cX12_takesItem 53 = .ok (.bipush 111, 2) := by decide +kernel
theorem dX12_takesItem_55 : decode cX12_takesItem 55 = .ok (.bipush 108, 2) := by decide +kernel
theorem dX12_takesItem_57 : decode cX12_takesItem 57 = .ok (.bipush 100, 2) := by decide +kernel
theorem dX12_takesItem_59 : decode cX12_takesItem 59 = .ok (.iconst 0, 1) := by decide +kernel
theorem dX12_takesItem_60 : decode cX12_takesItem 60 = .ok (.iconst 0, 1) := by decide +kernel
theorem dX12_takesItem_61 : decode cX12_takesItem 61 = .ok (.invokevirtual 259, 3) := by decide +kernel
theorem dX12_takesItem_64 : decode cX12_takesItem 64 = .ok (.ifCond .eq 14, 3) := by decide +kernel
theorem dX12_takesItem_67 : decode cX12_takesItem 67 = .ok (.aload_n 0, 1) := by decide +kernel
theorem dX12_takesItem_68 : decode cX12_takesItem 68 = .ok (.invokevirtual 273, 3) := by decide +kernel
theorem dX12_takesItem_71 : decode cX12_takesItem 71 = .ok (.ifCond .eq 7, 3) := by decide +kernel
theorem dX12_takesItem_74 : decode cX12_takesItem 74 = .ok (.iconst 1, 1) := by decide +kernel
theorem dX12_takesItem_75 : decode cX12_takesItem 75 = .ok (.goto 4, 3) := by decide +kernel
theorem dX12_takesItem_78 : decode cX12_takesItem 78 = .ok (.iconst 0, 1) := by decide +kernel
theorem dX12_takesItem_79 : decode cX12_takesItem 79 = .ok (.ireturn, 1) := by decide +kernel
def P_X12_takesItem : Nat → Nat
  | _ => 0
set_option maxRecDepth 100000 in
set_option maxHeartbeats 4000000 in
theorem S_X12_takesItem : zSd yX12_takesItem cX12_takesItem 1 (some .boolean) { frames := 6, cells := 0, slots := 0, locals := 133 } T_X12_takesItem := by
  refine zMet (pcs := P_X12_takesItem) (F := F_X12_takesItem) (by decide) rfl ?_
  intro p l e s m args below meth c D ids ad A Q Y C hr hk hY b
  match b with
  | 0 => exact (z_aln (pc := 0) C dX12_takesItem_0 rfl <| z_ic (pc := 1) C dX12_takesItem_1 (by decide +kernel) <| z_bi (pc := 2) C dX12_takesItem_2 (by decide +kernel) <| z_bi (pc := 4) C dX12_takesItem_4 (by decide +kernel) <| z_bi (pc := 6) C dX12_takesItem_6 (by decide +kernel) <| z_bi (pc := 8) C dX12_takesItem_8 (by decide +kernel) <| z_ic (pc := 10) C dX12_takesItem_10 (by decide +kernel) <| z_ic (pc := 11) C dX12_takesItem_11 (by decide +kernel) <| z_cV (pc := 12) C dX12_takesItem_12 S_X12_spells rfl (zl4 w_1185 w_1187 wp_45 w_13) w_1188 ds_X12_spells (zrm rfl rfl (by decide) (by decide)) <| z_ifeq (tgt := 23) (pc := 15) C dX12_takesItem_15 (by decide) (z_aln (pc := 23) C dX12_takesItem_23 rfl <| z_bi (pc := 24) C dX12_takesItem_24 (by decide +kernel) <| z_bi (pc := 26) C dX12_takesItem_26 (by decide +kernel) <| z_bi (pc := 28) C dX12_takesItem_28 (by decide +kernel) <| z_bi (pc := 30) C dX12_takesItem_30 (by decide +kernel) <| z_bi (pc := 32) C dX12_takesItem_32 (by decide +kernel) <| z_bi (pc := 34) C dX12_takesItem_34 (by decide +kernel) <| z_bi (pc := 36) C dX12_takesItem_36 (by decide +kernel) <| z_cV (pc := 38) C dX12_takesItem_38 S_X12_spells rfl (zl4 w_1185 w_1187 wp_45 w_13) w_1188 ds_X12_spells (zrm rfl rfl (by decide) (by decide)) <| z_ifeq (tgt := 49) (pc := 41) C dX12_takesItem_41 (by decide) (z_aln (pc := 49) C dX12_takesItem_49 rfl <| z_ic (pc := 50) C dX12_takesItem_50 (by decide +kernel) <| z_bi (pc := 51) C dX12_takesItem_51 (by decide +kernel) <| z_bi (pc := 53) C dX12_takesItem_53 (by decide +kernel) <| z_bi (pc := 55) C dX12_takesItem_55 (by decide +kernel) <| z_bi (pc := 57) C dX12_takesItem_57 (by decide +kernel) <| z_ic (pc := 59) C dX12_takesItem_59 (by decide +kernel) <| z_ic (pc := 60) C dX12_takesItem_60 (by decide +kernel) <| z_cV (pc := 61) C dX12_takesItem_61 S_X12_spells rfl (zl4 w_1185 w_1187 wp_45 w_13) w_1188 ds_X12_spells (zrm rfl rfl (by decide) (by decide)) <| z_ifeq (tgt := 78) (pc := 64) C dX12_takesItem_64 (by decide) (z_ic (pc := 78) C dX12_takesItem_78 (by decide +kernel) <| z_zr C hr hk dX12_takesItem_79) <| z_aln (pc := 67) C dX12_takesItem_67 rfl <| z_cV (pc := 68) C dX12_takesItem_68 S_X12_takesCold rfl (zl4 w_1209 w_1211 wp_51 w_13) w_1212 ds_X12_takesCold (zrm rfl rfl (by decide) (by decide)) <| z_ifeq (tgt := 78) (pc := 71) C dX12_takesItem_71 (by decide) (z_ic (pc := 78) C dX12_takesItem_78 (by decide +kernel) <| z_zr C hr hk dX12_takesItem_79) <| z_ic (pc := 74) C dX12_takesItem_74 (by decide +kernel) <| z_goto (tgt := 79) (pc := 75) C dX12_takesItem_75 (by decide) <| z_zr C hr hk dX12_takesItem_79) <| z_aln (pc := 44) C dX12_takesItem_44 rfl <| z_cV (pc := 45) C dX12_takesItem_45 S_X12_takesFamily rfl (zl4 w_1205 w_1207 wp_50 w_13) w_1208 ds_X12_takesFamily (zrm rfl rfl (by decide) (by decide)) <| z_zr C hr hk dX12_takesItem_48) <| z_aln (pc := 18) C dX12_takesItem_18 rfl <| z_cV (pc := 19) C dX12_takesItem_19 S_X12_takesBook rfl (zl4 w_1201 w_1203 wp_49 w_13) w_1204 ds_X12_takesBook (zrm rfl rfl (by decide) (by decide)) <| z_zr C hr hk dX12_takesItem_22)
  | b + 1 => exact fun _ _ _ h => h.elim
theorem dX12_read_0 : decode cX12_read 0 = .ok (.aload_n 0, 1) := by decide +kernel
theorem dX12_read_1 : decode cX12_read 1 = .ok (.iconst 0, 1) := by decide +kernel
theorem dX12_read_2 : decode cX12_read 2 = .ok (.invokevirtual 252, 3) := by decide +kernel
theorem dX12_read_5 : decode cX12_read 5 = .ok (.aload_n 0, 1) := by decide +kernel
theorem dX12_read_6 : decode cX12_read 6 = .ok (.invokevirtual 276, 3) := by decide +kernel
theorem dX12_read_9 : decode cX12_read 9 = .ok (.ifCond .ne 11, 3) := by decide +kernel
theorem dX12_read_12 : decode cX12_read 12 = .ok (.bipush (-10), 2) := by decide +kernel
theorem dX12_read_14 : decode cX12_read 14 = .ok (.aload_n 0, 1) := by decide +kernel
theorem dX12_read_15 : decode cX12_read 15 = .ok (.getfield 234, 3) := by decide +kernel
theorem dX12_read_18 : decode cX12_read 18 = .ok (.isub, 1) := by decide +kernel
theorem dX12_read_19 : decode cX12_read 19 = .ok (.ireturn, 1) := by decide +kernel
theorem dX12_read_20 : decode cX12_read 20 = .ok (.aload_n 0, 1) := by decide +kernel
theorem dX12_read_21 : decode cX12_read 21 = .ok (.invokevirtual 256, 3) := by decide +kernel
theorem dX12_read_24 : decode cX12_read 24 = .ok (.iconst 1, 1) := by decide +kernel
theorem dX12_read_25 : decode cX12_read 25 = .ok (.istore_n 1, 1) := by decide +kernel
theorem dX12_read_26 : decode cX12_read 26 = .ok (.aload_n 0, 1) := by decide +kernel
theorem dX12_read_27 : decode cX12_read 27 = .ok (.getfield 240, 3) := by decide +kernel
theorem dX12_read_30 : decode cX12_read 30 = .ok (.ifCond .eq 36, 3) := by decide +kernel
theorem dX12_read_33 : decode cX12_read 33 = .ok (.aload_n 0, 1) := by decide +kernel
theorem dX12_read_34 : decode cX12_read 34 = .ok (.invokevirtual 279, 3) := by decide +kernel
theorem dX12_read_37 : decode cX12_read 37 = .ok (.ifCond .eq 11, 3) := by decide +kernel
theorem dX12_read_40 : decode cX12_read 40 = .ok (.aload_n 0, 1) := by decide +kernel
theorem dX12_read_41 : decode cX12_read 41 = .ok (.getfield 240, 3) := by decide +kernel
theorem dX12_read_44 : decode cX12_read 44 = .ok (.iconst 3, 1) := by decide +kernel
theorem dX12_read_45 : decode cX12_read 45 = .ok (.if_icmp .eq 11, 3) := by decide +kernel
theorem dX12_read_48 : decode cX12_read 48 = .ok (.bipush (-10), 2) := by decide +kernel
theorem dX12_read_50 : decode cX12_read 50 = .ok (.aload_n 0, 1) := by decide +kernel
theorem dX12_read_51 : decode cX12_read 51 = .ok (.getfield 234, 3) := by decide +kernel
theorem dX12_read_54 : decode cX12_read 54 = .ok (.isub, 1) := by decide +kernel
theorem dX12_read_55 : decode cX12_read 55 = .ok (.ireturn, 1) := by decide +kernel
theorem dX12_read_56 : decode cX12_read 56 = .ok (.aload_n 0, 1) := by decide +kernel
theorem dX12_read_57 : decode cX12_read 57 = .ok (.invokevirtual 256, 3) := by decide +kernel
theorem dX12_read_60 : decode cX12_read 60 = .ok (.iinc 1 1, 3) := by decide +kernel
theorem dX12_read_63 : decode cX12_read 63 = .ok (.goto (-37), 3) := by decide +kernel
theorem dX12_read_66 : decode cX12_read 66 = .ok (.iconst 0, 1) := by decide +kernel
theorem dX12_read_67 : decode cX12_read 67 = .ok (.istore_n 2, 1) := by decide +kernel
theorem dX12_read_68 : decode cX12_read 68 = .ok (.iload_n 2, 1) := by decide +kernel
theorem dX12_read_69 : decode cX12_read 69 = .ok (.bipush 66, 2) := by decide +kernel
theorem dX12_read_71 : decode cX12_read 71 = .ok (.if_icmp .ge 21, 3) := by decide +kernel
theorem dX12_read_74 : decode cX12_read 74 = .ok (.aload_n 0, 1) := by decide +kernel
theorem dX12_read_75 : decode cX12_read 75 = .ok (.getfield 7, 3) := by decide +kernel
theorem dX12_read_78 : decode cX12_read 78 = .ok (.iload_n 2, 1) := by decide +kernel
theorem dX12_read_79 : decode cX12_read 79 = .ok (.aload_n 0, 1) := by decide +kernel
theorem dX12_read_80 : decode cX12_read 80 = .ok (.getfield 54, 3) := by decide +kernel
theorem dX12_read_83 : decode cX12_read 83 = .ok (.iload_n 2, 1) := by decide +kernel
theorem dX12_read_84 : decode cX12_read 84 = .ok (.iaload, 1) := by decide +kernel
theorem dX12_read_85 : decode cX12_read 85 = .ok (.iastore, 1) := by decide +kernel
theorem dX12_read_86 : decode cX12_read 86 = .ok (.iinc 2 1, 3) := by decide +kernel
theorem dX12_read_89 : decode cX12_read 89 = .ok (.goto (-21), 3) := by decide +kernel
theorem dX12_read_92 : decode cX12_read 92 = .ok (.iload_n 1, 1) := by decide +kernel
theorem dX12_read_93 : decode cX12_read 93 = .ok (.ireturn, 1) := by decide +kernel
def P_X12_read : Nat → Nat
  | 1 => 26
  | 2 => 48
  | 3 => 68
  | _ => 0
set_option maxRecDepth 100000 in
set_option maxHeartbeats 4000000 in
theorem S_X12_read : zSd yX12_read cX12_read 3 (some .int) { frames := 7, cells := 0, slots := 0, locals := 153 } T_X12_read := by
  refine zMet (pcs := P_X12_read) (F := F_X12_read) (by decide) rfl ?_
  intro p l e s m args below meth c D ids ad A Q Y C hr hk hY b
  match b with
  | 0 => exact (z_aln (pc := 0) C dX12_read_0 rfl <| z_ic (pc := 1) C dX12_read_1 (by decide +kernel) <| z_cV (pc := 2) C dX12_read_2 S_X12_lookAt rfl (zl4 w_1167 w_1169 wp_43 w_13) w_1170 ds_X12_lookAt (zrm rfl rfl (by decide) (by decide)) <| z_aln (pc := 5) C dX12_read_5 rfl <| z_cV (pc := 6) C dX12_read_6 S_X12_takesChurch rfl (zl4 w_1181 w_1183 wp_44 w_13) w_1184 ds_X12_takesChurch (zrm rfl rfl (by decide) (by decide)) <| z_ifne (tgt := 20) (pc := 9) C dX12_read_9 (by decide) (z_aln (pc := 20) C dX12_read_20 rfl <| z_cV (pc := 21) C dX12_read_21 S_X12_goBehind rfl (zl4 w_1189 w_1191 wp_46 w_13) w_1192 ds_X12_goBehind (zrm rfl rfl (by decide) (by decide)) <| z_ic (pc := 24) C dX12_read_24 (by decide +kernel) <| z_isn (pc := 25) C dX12_read_25 rfl (by decide) <| z_jmp (hY 1)) <| z_bi (pc := 12) C dX12_read_12 (by decide +kernel) <| z_aln (pc := 14) C dX12_read_14 rfl <| z_gf (pc := 15) C dX12_read_15 fl_12_234 <| z_isub (pc := 18) C dX12_read_18 <| z_ir C hr hk dX12_read_19)
  | 1 => exact (z_aln (pc := 26) C dX12_read_26 rfl <| z_gf (pc := 27) C dX12_read_27 fl_12_240 <| z_ifeq (tgt := 66) (pc := 30) C dX12_read_30 (by decide) (z_ic (pc := 66) C dX12_read_66 (by decide +kernel) <| z_isn (pc := 67) C dX12_read_67 rfl (by decide) <| z_jmp (hY 3)) <| z_aln (pc := 33) C dX12_read_33 rfl <| z_cV (pc := 34) C dX12_read_34 S_X12_takesItem rfl (zl4 w_1197 w_1199 wp_48 w_13) w_1200 ds_X12_takesItem (zrm rfl rfl (by decide) (by decide)) <| z_ifeq (tgt := 48) (pc := 37) C dX12_read_37 (by decide) (z_jmp (hY 2)) <| z_aln (pc := 40) C dX12_read_40 rfl <| z_gf (pc := 41) C dX12_read_41 fl_12_240 <| z_ic (pc := 44) C dX12_read_44 (by decide +kernel) <| z_cmpeq (tgt := 56) (pc := 45) C dX12_read_45 (by decide) (z_aln (pc := 56) C dX12_read_56 rfl <| z_cV (pc := 57) C dX12_read_57 S_X12_goBehind rfl (zl4 w_1189 w_1191 wp_46 w_13) w_1192 ds_X12_goBehind (zrm rfl rfl (by decide) (by decide)) <| z_inc (pc := 60) C dX12_read_60 (by decide +kernel) (by decide) <| z_goto (tgt := 26) (pc := 63) C dX12_read_63 (by decide) <| z_jmp (hY 1)) <| z_jmp (hY 2))
  | 2 => exact (z_bi (pc := 48) C dX12_read_48 (by decide +kernel) <| z_aln (pc := 50) C dX12_read_50 rfl <| z_gf (pc := 51) C dX12_read_51 fl_12_234 <| z_isub (pc := 54) C dX12_read_54 <| z_ir C hr hk dX12_read_55)
  | 3 => exact (z_iln (pc := 68) C dX12_read_68 rfl <| z_bi (pc := 69) C dX12_read_69 (by decide +kernel) <| z_cmpge (tgt := 92) (pc := 71) C dX12_read_71 (by decide) (z_iln (pc := 92) C dX12_read_92 rfl <| z_ir C hr hk dX12_read_93) <| z_aln (pc := 74) C dX12_read_74 rfl <| z_gf (pc := 75) C dX12_read_75 fl_12_7 <| z_iln (pc := 78) C dX12_read_78 rfl <| z_aln (pc := 79) C dX12_read_79 rfl <| z_gf (pc := 80) C dX12_read_80 fl_12_54 <| z_iln (pc := 83) C dX12_read_83 rfl <| z_ia (pc := 84) C dX12_read_84 <| z_iast (pc := 85) C dX12_read_85 <| z_inc (pc := 86) C dX12_read_86 (by decide +kernel) (by decide) <| z_goto (tgt := 68) (pc := 89) C dX12_read_89 (by decide) <| z_jmp (hY 3))
  | b + 4 => exact fun _ _ _ h => h.elim
theorem dX12_part_0 : decode cX12_part 0 = .ok (.iload_n 1, 1) := by decide +kernel
theorem dX12_part_1 : decode cX12_part 1 = .ok (.ifCond .ne 10, 3) := by decide +kernel
theorem dX12_part_4 : decode cX12_part 4 = .ok (.aload_n 0, 1) := by decide +kernel
theorem dX12_part_5 : decode cX12_part 5 = .ok (.getfield 198, 3) := by decide +kernel
theorem dX12_part_8 : decode cX12_part 8 = .ok (.goto 22, 3) := by decide +kernel
theorem dX12_part_11 : decode cX12_part 11 = .ok (.iload_n 1, 1) := by decide +kernel
theorem dX12_part_12 : decode cX12_part 12 = .ok (.iconst 1, 1) := by decide +kernel
theorem dX12_part_13 : decode cX12_part 13 = .ok (.if_icmp .ne 10, 3) := by decide +kernel
theorem dX12_part_16 : decode cX12_part 16 = .ok (.aload_n 0, 1) := by decide +kernel
theorem dX12_part_17 : decode cX12_part 17 = .ok (.getfield 23, 3) := by decide +kernel
theorem dX12_part_20 : decode cX12_part 20 = .ok (.goto 10, 3) := by decide +kernel
theorem dX12_part_23 : decode cX12_part 23 = .ok (.aload_n 0, 1) := by decide +kernel
theorem dX12_part_24 : decode cX12_part 24 = .ok (.bipush (-2), 2) := by decide +kernel
theorem dX12_part_26 : decode cX12_part 26 = .ok (.invokevirtual 78, 3) := by decide +kernel
theorem dX12_part_29 : decode cX12_part 29 = .ok (.i2l, 1) := by decide +kernel
theorem dX12_part_30 : decode cX12_part 30 = .ok (.lreturn, 1) := by decide +kernel
def P_X12_part : Nat → Nat
  | _ => 0
set_option maxRecDepth 100000 in
set_option maxHeartbeats 4000000 in
theorem S_X12_part : zSd yX12_part cX12_part 2 (some .long) { frames := 1, cells := 0, slots := 0, locals := 21 } T_X12_part := by
  refine zMet (pcs := P_X12_part) (F := F_X12_part) (by decide) rfl ?_
  intro p l e s m args below meth c D ids ad A Q Y C hr hk hY b
  match b with
  | 0 => exact (z_iln (pc := 0) C dX12_part_0 rfl <| z_ifne (tgt := 11) (pc := 1) C dX12_part_1 (by decide) (z_iln (pc := 11) C dX12_part_11 rfl <| z_ic (pc := 12) C dX12_part_12 (by decide +kernel) <| z_cmpne (tgt := 23) (pc := 13) C dX12_part_13 (by decide) (z_aln (pc := 23) C dX12_part_23 rfl <| z_bi (pc := 24) C dX12_part_24 (by decide +kernel) <| z_cV (pc := 26) C dX12_part_26 S_X12_bad rfl (zl4 w_925 w_927 wp_20 w_13) w_928 ds_X12_bad (zrm rfl rfl (by decide) (by decide)) <| z_i2l (pc := 29) C dX12_part_29 <| z_lr C hr hk dX12_part_30) <| z_aln (pc := 16) C dX12_part_16 rfl <| z_gf (pc := 17) C dX12_part_17 fl_12_23 <| z_goto (tgt := 30) (pc := 20) C dX12_part_20 (by decide) <| z_lr C hr hk dX12_part_30) <| z_aln (pc := 4) C dX12_part_4 rfl <| z_gf (pc := 5) C dX12_part_5 fl_12_198 <| z_goto (tgt := 30) (pc := 8) C dX12_part_8 (by decide) <| z_lr C hr hk dX12_part_30)
  | b + 1 => exact fun _ _ _ h => h.elim
theorem dX12_image_0 : decode cX12_image 0 = .ok (.iload_n 1, 1) := by decide +kernel
theorem dX12_image_1 : decode cX12_image 1 = .ok (.i2l, 1) := by decide +kernel
theorem dX12_image_2 : decode cX12_image 2 = .ok (.lconst 0, 1) := by decide +kernel
theorem dX12_image_3 : decode cX12_image 3 = .ok (.lconst 1, 1) := by decide +kernel
theorem dX12_image_4 : decode cX12_image 4 = .ok (.invokestatic 68, 3) := by decide +kernel
theorem dX12_image_7 : decode cX12_image 7 = .ok (.ifCond .ne 10, 3) := by decide +kernel
theorem dX12_image_10 : decode cX12_image 10 = .ok (.aload_n 0, 1) := by decide +kernel
theorem dX12_image_11 : decode cX12_image 11 = .ok (.bipush (-2), 2) := by decide +kernel
theorem dX12_image_13 : decode cX12_image 13 = .ok (.invokevirtual 78, 3) := by decide +kernel
theorem dX12_image_16 : decode cX12_image 16 = .ok (.ireturn, 1) := by decide +kernel
theorem dX12_image_17 : decode cX12_image 17 = .ok (.iconst 0, 1) := by decide +kernel
theorem dX12_image_18 : decode cX12_image 18 = .ok (.istore_n 2, 1) := by decide +kernel
theorem dX12_image_19 : decode cX12_image 19 = .ok (.iload_n 2, 1) := by decide +kernel
theorem dX12_image_20 : decode cX12_image 20 = .ok (.sipush 178, 3) := by decide +kernel
theorem dX12_image_23 : decode cX12_image 23 = .ok (.if_icmp .ge 27, 3) := by decide +kernel
theorem dX12_image_26 : decode cX12_image 26 = .ok (.aload_n 0, 1) := by decide +kernel
theorem dX12_image_27 : decode cX12_image 27 = .ok (.getfield 13, 3) := by decide +kernel
theorem dX12_image_30 : decode cX12_image 30 = .ok (.sipush 178, 3) := by decide +kernel
theorem dX12_image_33 : decode cX12_image 33 = .ok (.iload_n 1, 1) := by decide +kernel
theorem dX12_image_34 : decode cX12_image 34 = .ok (.imul, 1) := by decide +kernel
theorem dX12_image_35 : decode cX12_image 35 = .ok (.iload_n 2, 1) := by decide +kernel
theorem dX12_image_36 : decode cX12_image 36 = .ok (.iadd, 1) := by decide +kernel
theorem dX12_image_37 : decode cX12_image 37 = .ok (.aload_n 0, 1) := by decide +kernel
theorem dX12_image_38 : decode cX12_image 38 = .ok (.getfield 7, 3) := by decide +kernel
theorem dX12_image_41 : decode cX12_image 41 = .ok (.iload_n 2, 1) := by decide +kernel
theorem dX12_image_42 : decode cX12_image 42 = .ok (.iaload, 1) := by decide +kernel
theorem dX12_image_43 : decode cX12_image 43 = .ok (.iastore, 1) := by decide +kernel
theorem dX12_image_44 : decode cX12_image 44 = .ok (.iinc 2 1, 3) := by decide +kernel
theorem dX12_image_47 : decode cX12_image 47 = .ok (.goto (-28), 3) := by decide +kernel
theorem dX12_image_50 : decode cX12_image 50 = .ok (.aload_n 0, 1) := by decide +kernel
theorem dX12_image_51 : decode cX12_image 51 = .ok (.getfield 16, 3) := by decide +kernel
theorem dX12_image_54 : decode cX12_image 54 = .ok (.iload_n 1, 1) := by decide +kernel
theorem dX12_image_55 : decode cX12_image 55 = .ok (.iconst 1, 1) := by decide +kernel
theorem dX12_image_56 : decode cX12_image 56 = .ok (.bastore, 1) := by decide +kernel
theorem dX12_image_57 : decode cX12_image 57 = .ok (.iconst 1, 1) := by decide +kernel
theorem dX12_image_58 : decode cX12_image 58 = .ok (.ireturn, 1) := by decide +kernel
def P_X12_image : Nat → Nat
  | 1 => 19
  | _ => 0
set_option maxRecDepth 100000 in
set_option maxHeartbeats 4000000 in
theorem S_X12_image : zSd yX12_image cX12_image 3 (some .int) { frames := 1, cells := 0, slots := 0, locals := 25 } T_X12_image := by
  refine zMet (pcs := P_X12_image) (F := F_X12_image) (by decide) rfl ?_
  intro p l e s m args below meth c D ids ad A Q Y C hr hk hY b
  match b with
  | 0 => exact (z_iln (pc := 0) C dX12_image_0 rfl <| z_i2l (pc := 1) C dX12_image_1 <| z_lc (pc := 2) C dX12_image_2 (by decide +kernel) <| z_lc (pc := 3) C dX12_image_3 (by decide +kernel) <| z_cS (pc := 4) C dX12_image_4 S_X12_in (zl3 w_922 w_923 w_13) w_924 ds_X12_in (zrm rfl rfl (by decide) (by decide)) <| z_ifne (tgt := 17) (pc := 7) C dX12_image_7 (by decide) (z_ic (pc := 17) C dX12_image_17 (by decide +kernel) <| z_isn (pc := 18) C dX12_image_18 rfl (by decide) <| z_jmp (hY 1)) <| z_aln (pc := 10) C dX12_image_10 rfl <| z_bi (pc := 11) C dX12_image_11 (by decide +kernel) <| z_cV (pc := 13) C dX12_image_13 S_X12_bad rfl (zl4 w_925 w_927 wp_20 w_13) w_928 ds_X12_bad (zrm rfl rfl (by decide) (by decide)) <| z_ir C hr hk dX12_image_16)
  | 1 => exact (z_iln (pc := 19) C dX12_image_19 rfl <| z_si (pc := 20) C dX12_image_20 (by decide +kernel) <| z_cmpge (tgt := 50) (pc := 23) C dX12_image_23 (by decide) (z_aln (pc := 50) C dX12_image_50 rfl <| z_gf (pc := 51) C dX12_image_51 fl_12_16 <| z_iln (pc := 54) C dX12_image_54 rfl <| z_ic (pc := 55) C dX12_image_55 (by decide +kernel) <| z_bast (pc := 56) C dX12_image_56 <| z_ic (pc := 57) C dX12_image_57 (by decide +kernel) <| z_ir C hr hk dX12_image_58) <| z_aln (pc := 26) C dX12_image_26 rfl <| z_gf (pc := 27) C dX12_image_27 fl_12_13 <| z_si (pc := 30) C dX12_image_30 (by decide +kernel) <| z_iln (pc := 33) C dX12_image_33 rfl <| z_imul (pc := 34) C dX12_image_34 <| z_iln (pc := 35) C dX12_image_35 rfl <| z_iadd (pc := 36) C dX12_image_36 <| z_aln (pc := 37) C dX12_image_37 rfl <| z_gf (pc := 38) C dX12_image_38 fl_12_7 <| z_iln (pc := 41) C dX12_image_41 rfl <| z_ia (pc := 42) C dX12_image_42 <| z_iast (pc := 43) C dX12_image_43 <| z_inc (pc := 44) C dX12_image_44 (by decide +kernel) (by decide) <| z_goto (tgt := 19) (pc := 47) C dX12_image_47 (by decide) <| z_jmp (hY 1))
  | b + 2 => exact fun _ _ _ h => h.elim
theorem dX12_from_0 : decode cX12_from 0 = .ok (.iload_n 1, 1) := by decide +kernel
theorem dX12_from_1 : decode cX12_from 1 = .ok (.i2l, 1) := by decide +kernel
theorem dX12_from_2 : decode cX12_from 2 = .ok (.lconst 0, 1) := by decide +kernel
theorem dX12_from_3 : decode cX12_from 3 = .ok (.lconst 1, 1) := by decide +kernel
theorem dX12_from_4 : decode cX12_from 4 = .ok (.invokestatic 68, 3) := by decide +kernel
theorem dX12_from_7 : decode cX12_from 7 = .ok (.ifCond .ne 10, 3) := by decide +kernel
theorem dX12_from_10 : decode cX12_from 10 = .ok (.aload_n 0, 1) := by decide +kernel
theorem dX12_from_11 : decode cX12_from 11 = .ok (.bipush (-2), 2) := by decide +kernel
theorem dX12_from_13 : decode cX12_from 13 = .ok (.invokevirtual 78, 3) := by decide +kernel
theorem dX12_from_16 : decode cX12_from 16 = .ok (.ireturn, 1) := by decide +kernel
theorem dX12_from_17 : decode cX12_from 17 = .ok (.aload_n 0, 1) := by decide +kernel
theorem dX12_from_18 : decode cX12_from 18 = .ok (.getfield 16, 3) := by decide +kernel
theorem dX12_from_21 : decode cX12_from 21 = .ok (.iload_n 1, 1) := by decide +kernel
theorem dX12_from_22 : decode cX12_from 22 = .ok (.baload, 1) := by decide +kernel
theorem dX12_from_23 : decode cX12_from 23 = .ok (.ifCond .ne 8, 3) := by decide +kernel
theorem dX12_from_26 : decode cX12_from 26 = .ok (.aload_n 0, 1) := by decide +kernel
theorem dX12_from_27 : decode cX12_from 27 = .ok (.invokevirtual 100, 3) := by decide +kernel
theorem dX12_from_30 : decode cX12_from 30 = .ok (.ireturn, 1) := by decide +kernel
theorem dX12_from_31 : decode cX12_from 31 = .ok (.iconst 0, 1) := by decide +kernel
theorem dX12_from_32 : decode cX12_from 32 = .ok (.istore_n 2, 1) := by decide +kernel
theorem dX12_from_33 : decode cX12_from 33 = .ok (.iload_n 2, 1) := by decide +kernel
theorem dX12_from_34 : decode cX12_from 34 = .ok (.sipush 178, 3) := by decide +kernel
theorem dX12_from_37 : decode cX12_from 37 = .ok (.if_icmp .ge 27, 3) := by decide +kernel
theorem dX12_from_40 : decode cX12_from 40 = .ok (.aload_n 0, 1) := by decide +kernel
theorem dX12_from_41 : decode cX12_from 41 = .ok (.getfield 7, 3) := by decide +kernel
theorem dX12_from_44 : decode cX12_from 44 = .ok (.iload_n 2, 1) := by decide +kernel
theorem dX12_from_45 : decode cX12_from 45 = .ok (.aload_n 0, 1) := by decide +kernel
theorem dX12_from_46 : decode cX12_from 46 = .ok (.getfield 13, 3) := by decide +kernel
theorem dX12_from_49 : decode cX12_from 49 = .ok (.sipush 178, 3) := by decide +kernel
theorem dX12_from_52 : decode cX12_from 52 = .ok (.iload_n 1, 1) := by decide +kernel
theorem dX12_from_53 : decode cX12_from 53 = .ok (.imul, 1) := by decide +kernel
theorem dX12_from_54 : decode cX12_from 54 = .ok (.iload_n 2, 1) := by decide +kernel
theorem dX12_from_55 : decode cX12_from 55 = .ok (.iadd, 1) := by decide +kernel
theorem dX12_from_56 : decode cX12_from 56 = .ok (.iaload, 1) := by decide +kernel
theorem dX12_from_57 : decode cX12_from 57 = .ok (.iastore, 1) := by decide +kernel
theorem dX12_from_58 : decode cX12_from 58 = .ok (.iinc 2 1, 3) := by decide +kernel
theorem dX12_from_61 : decode cX12_from 61 = .ok (.goto (-28), 3) := by decide +kernel
theorem dX12_from_64 : decode cX12_from 64 = .ok (.iconst 1, 1) := by decide +kernel
theorem dX12_from_65 : decode cX12_from 65 = .ok (.ireturn, 1) := by decide +kernel
def P_X12_from : Nat → Nat
  | 1 => 33
  | _ => 0
set_option maxRecDepth 100000 in
set_option maxHeartbeats 4000000 in
theorem S_X12_from : zSd yX12_from cX12_from 3 (some .int) { frames := 1, cells := 0, slots := 0, locals := 25 } T_X12_from := by
  refine zMet (pcs := P_X12_from) (F := F_X12_from) (by decide) rfl ?_
  intro p l e s m args below meth c D ids ad A Q Y C hr hk hY b
  match b with
  | 0 => exact (z_iln (pc := 0) C dX12_from_0 rfl <| z_i2l (pc := 1) C dX12_from_1 <| z_lc (pc := 2) C dX12_from_2 (by decide +kernel) <| z_lc (pc := 3) C dX12_from_3 (by decide +kernel) <| z_cS (pc := 4) C dX12_from_4 S_X12_in (zl3 w_922 w_923 w_13) w_924 ds_X12_in (zrm rfl rfl (by decide) (by decide)) <| z_ifne (tgt := 17) (pc := 7) C dX12_from_7 (by decide) (z_aln (pc := 17) C dX12_from_17 rfl <| z_gf (pc := 18) C dX12_from_18 fl_12_16 <| z_iln (pc := 21) C dX12_from_21 rfl <| z_ba (pc := 22) C dX12_from_22 <| z_ifne (tgt := 31) (pc := 23) C dX12_from_23 (by decide) (z_ic (pc := 31) C dX12_from_31 (by decide +kernel) <| z_isn (pc := 32) C dX12_from_32 rfl (by decide) <| z_jmp (hY 1)) <| z_aln (pc := 26) C dX12_from_26 rfl <| z_cV (pc := 27) C dX12_from_27 S_X12_no rfl (zl4 w_954 w_956 wp_22 w_13) w_957 ds_X12_no (zrm rfl rfl (by decide) (by decide)) <| z_ir C hr hk dX12_from_30) <| z_aln (pc := 10) C dX12_from_10 rfl <| z_bi (pc := 11) C dX12_from_11 (by decide +kernel) <| z_cV (pc := 13) C dX12_from_13 S_X12_bad rfl (zl4 w_925 w_927 wp_20 w_13) w_928 ds_X12_bad (zrm rfl rfl (by decide) (by decide)) <| z_ir C hr hk dX12_from_16)
  | 1 => exact (z_iln (pc := 33) C dX12_from_33 rfl <| z_si (pc := 34) C dX12_from_34 (by decide +kernel) <| z_cmpge (tgt := 64) (pc := 37) C dX12_from_37 (by decide) (z_ic (pc := 64) C dX12_from_64 (by decide +kernel) <| z_ir C hr hk dX12_from_65) <| z_aln (pc := 40) C dX12_from_40 rfl <| z_gf (pc := 41) C dX12_from_41 fl_12_7 <| z_iln (pc := 44) C dX12_from_44 rfl <| z_aln (pc := 45) C dX12_from_45 rfl <| z_gf (pc := 46) C dX12_from_46 fl_12_13 <| z_si (pc := 49) C dX12_from_49 (by decide +kernel) <| z_iln (pc := 52) C dX12_from_52 rfl <| z_imul (pc := 53) C dX12_from_53 <| z_iln (pc := 54) C dX12_from_54 rfl <| z_iadd (pc := 55) C dX12_from_55 <| z_ia (pc := 56) C dX12_from_56 <| z_iast (pc := 57) C dX12_from_57 <| z_inc (pc := 58) C dX12_from_58 (by decide +kernel) (by decide) <| z_goto (tgt := 33) (pc := 61) C dX12_from_61 (by decide) <| z_jmp (hY 1))
  | b + 2 => exact fun _ _ _ h => h.elim
theorem dX12_status_0 : decode cX12_status 0 = .ok (.iload_n 1, 1) := by decide +kernel
theorem dX12_status_1 : decode cX12_status 1 = .ok (.i2l, 1) := by decide +kernel
theorem dX12_status_2 : decode cX12_status 2 = .ok (.lconst 0, 1) := by decide +kernel
theorem dX12_status_3 : decode cX12_status 3 = .ok (.ldc2_w 185, 3) := by decide +kernel
theorem dX12_status_6 : decode cX12_status 6 = .ok (.invokestatic 68, 3) := by decide +kernel
theorem dX12_status_9 : decode cX12_status 9 = .ok (.ifCond .eq 12, 3) := by decide +kernel
theorem dX12_status_12 : decode cX12_status 12 = .ok (.aload_n 0, 1) := by decide +kernel
theorem dX12_status_13 : decode cX12_status 13 = .ok (.getfield 20, 3) := by decide +kernel
theorem dX12_status_16 : decode cX12_status 16 = .ok (.iload_n 1, 1) := by decide +kernel
theorem dX12_status_17 : decode cX12_status 17 = .ok (.iaload, 1) := by decide +kernel
theorem dX12_status_18 : decode cX12_status 18 = .ok (.goto 8, 3) := by decide +kernel
theorem dX12_status_21 : decode cX12_status 21 = .ok (.aload_n 0, 1) := by decide +kernel
theorem dX12_status_22 : decode cX12_status 22 = .ok (.iconst (-1), 1) := by decide +kernel
theorem dX12_status_23 : decode cX12_status 23 = .ok (.invokevirtual 78, 3) := by decide +kernel
theorem dX12_status_26 : decode cX12_status 26 = .ok (.ireturn, 1) := by decide +kernel
def P_X12_status : Nat → Nat
  | _ => 0
set_option maxRecDepth 100000 in
set_option maxHeartbeats 4000000 in
theorem S_X12_status : zSd yX12_status cX12_status 2 (some .int) { frames := 1, cells := 0, slots := 0, locals := 25 } T_X12_status := by
  refine zMet (pcs := P_X12_status) (F := F_X12_status) (by decide) rfl ?_
  intro p l e s m args below meth c D ids ad A Q Y C hr hk hY b
  match b with
  | 0 => exact (z_iln (pc := 0) C dX12_status_0 rfl <| z_i2l (pc := 1) C dX12_status_1 <| z_lc (pc := 2) C dX12_status_2 (by decide +kernel) <| z_ldc2 (pc := 3) C dX12_status_3 w_1102 <| z_cS (pc := 6) C dX12_status_6 S_X12_in (zl3 w_922 w_923 w_13) w_924 ds_X12_in (zrm rfl rfl (by decide) (by decide)) <| z_ifeq (tgt := 21) (pc := 9) C dX12_status_9 (by decide) (z_aln (pc := 21) C dX12_status_21 rfl <| z_ic (pc := 22) C dX12_status_22 (by decide +kernel) <| z_cV (pc := 23) C dX12_status_23 S_X12_bad rfl (zl4 w_925 w_927 wp_20 w_13) w_928 ds_X12_bad (zrm rfl rfl (by decide) (by decide)) <| z_ir C hr hk dX12_status_26) <| z_aln (pc := 12) C dX12_status_12 rfl <| z_gf (pc := 13) C dX12_status_13 fl_12_20 <| z_iln (pc := 16) C dX12_status_16 rfl <| z_ia (pc := 17) C dX12_status_17 <| z_goto (tgt := 26) (pc := 18) C dX12_status_18 (by decide) <| z_ir C hr hk dX12_status_26)
  | b + 1 => exact fun _ _ _ h => h.elim
theorem dX12_counted_0 : decode cX12_counted 0 = .ok (.aload_n 0, 1) := by decide +kernel
theorem dX12_counted_1 : decode cX12_counted 1 = .ok (.invokevirtual 150, 3) := by decide +kernel
theorem dX12_counted_4 : decode cX12_counted 4 = .ok (.iload_n 1, 1) := by decide +kernel
theorem dX12_counted_5 : decode cX12_counted 5 = .ok (.tableswitch 78 0 5 #[39, 44, 51, 59, 64, 71], 39) := by decide +kernel
theorem dX12_counted_44 : decode cX12_counted 44 = .ok (.aload_n 0, 1) := by decide +kernel
theorem dX12_counted_45 : decode cX12_counted 45 = .ok (.invokevirtual 64, 3) := by decide +kernel
theorem dX12_counted_48 : decode cX12_counted 48 = .ok (.ireturn, 1) := by decide +kernel
theorem dX12_counted_49 : decode cX12_counted 49 = .ok (.aload_n 0, 1) := by decide +kernel
theorem dX12_counted_50 : decode cX12_counted 50 = .ok (.getfield 7, 3) := by decide +kernel
theorem dX12_counted_53 : decode cX12_counted 53 = .ok (.iconst 1, 1) := by decide +kernel
theorem dX12_counted_54 : decode cX12_counted 54 = .ok (.iaload, 1) := by decide +kernel
theorem dX12_counted_55 : decode cX12_counted 55 = .ok (.ireturn, 1) := by decide +kernel
theorem dX12_counted_56 : decode cX12_counted 56 = .ok (.aload_n 0, 1) := by decide +kernel
theorem dX12_counted_57 : decode cX12_counted 57 = .ok (.getfield 110, 3) := by decide +kernel
theorem dX12_counted_60 : decode cX12_counted 60 = .ok (.invokestatic 173, 3) := by decide +kernel
theorem dX12_counted_63 : decode cX12_counted 63 = .ok (.ireturn, 1) := by decide +kernel
theorem dX12_counted_64 : decode cX12_counted 64 = .ok (.aload_n 0, 1) := by decide +kernel
theorem dX12_counted_65 : decode cX12_counted 65 = .ok (.invokevirtual 170, 3) := by decide +kernel
theorem dX12_counted_68 : decode cX12_counted 68 = .ok (.ireturn, 1) := by decide +kernel
theorem dX12_counted_69 : decode cX12_counted 69 = .ok (.aload_n 0, 1) := by decide +kernel
theorem dX12_counted_70 : decode cX12_counted 70 = .ok (.getfield 7, 3) := by decide +kernel
theorem dX12_counted_73 : decode cX12_counted 73 = .ok (.iconst 4, 1) := by decide +kernel
theorem dX12_counted_74 : decode cX12_counted 74 = .ok (.iaload, 1) := by decide +kernel
theorem dX12_counted_75 : decode cX12_counted 75 = .ok (.ireturn, 1) := by decide +kernel
theorem dX12_counted_76 : decode cX12_counted 76 = .ok (.aload_n 0, 1) := by decide +kernel
theorem dX12_counted_77 : decode cX12_counted 77 = .ok (.getfield 7, 3) := by decide +kernel
theorem dX12_counted_80 : decode cX12_counted 80 = .ok (.iconst 5, 1) := by decide +kernel
theorem dX12_counted_81 : decode cX12_counted 81 = .ok (.iaload, 1) := by decide +kernel
theorem dX12_counted_82 : decode cX12_counted 82 = .ok (.ireturn, 1) := by decide +kernel
theorem dX12_counted_83 : decode cX12_counted 83 = .ok (.aload_n 0, 1) := by decide +kernel
theorem dX12_counted_84 : decode cX12_counted 84 = .ok (.getfield 223, 3) := by decide +kernel
theorem dX12_counted_87 : decode cX12_counted 87 = .ok (.ireturn, 1) := by decide +kernel
def P_X12_counted : Nat → Nat
  | _ => 0
set_option maxRecDepth 100000 in
set_option maxHeartbeats 4000000 in
theorem S_X12_counted : zSd yX12_counted cX12_counted 2 (some .int) { frames := 6, cells := 0, slots := 0, locals := 137 } T_X12_counted := by
  refine zMet (pcs := P_X12_counted) (F := F_X12_counted) (by decide) rfl ?_
  intro p l e s m args below meth c D ids ad A Q Y C hr hk hY b
  match b with
  | 0 => exact (z_aln (pc := 0) C dX12_counted_0 rfl <| z_cV (pc := 1) C dX12_counted_1 S_X12_layHand rfl (zl4 w_1006 w_1008 wp_28 w_13) w_1009 ds_X12_layHand (zrm rfl rfl (by decide) (by decide)) <| z_iln (pc := 4) C dX12_counted_4 rfl <| z_table (pc := 5) (tgts := [44, 49, 56, 64, 69, 76]) (td := 83) C dX12_counted_5 (keys := [0, 1, 2, 3, 4, 5]) rfl (by decide +kernel) rfl (by decide) (by decide +kernel) (by decide) (fun j q t h1 h2 => match j, q, t, h1, h2 with
  | 0, _, _, h1, h2 => by cases h1; cases h2; exact (z_aln (pc := 44) C dX12_counted_44 rfl <| z_cV (pc := 45) C dX12_counted_45 S_X12_many rfl (zl4 w_929 w_931 wp_21 w_13) w_932 ds_X12_many (zrm rfl rfl (by decide) (by decide)) <| z_ir C hr hk dX12_counted_48)
  | 1, _, _, h1, h2 => by cases h1; cases h2; exact (z_aln (pc := 49) C dX12_counted_49 rfl <| z_gf (pc := 50) C dX12_counted_50 fl_12_7 <| z_ic (pc := 53) C dX12_counted_53 (by decide +kernel) <| z_ia (pc := 54) C dX12_counted_54 <| z_ir C hr hk dX12_counted_55)
  | 2, _, _, h1, h2 => by cases h1; cases h2; exact (z_aln (pc := 56) C dX12_counted_56 rfl <| z_gf (pc := 57) C dX12_counted_57 fl_12_110 <| z_cS (pc := 60) C dX12_counted_60 S_X12_bits (zl3 w_1086 w_1087 w_13) w_1088 ds_X12_bits (zrm rfl rfl (by decide) (by decide)) <| z_ir C hr hk dX12_counted_63)
  | 3, _, _, h1, h2 => by cases h1; cases h2; exact (z_aln (pc := 64) C dX12_counted_64 rfl <| z_cV (pc := 65) C dX12_counted_65 S_X12_peaces rfl (zl4 w_1078 w_1080 wp_38 w_13) w_1081 ds_X12_peaces (zrm rfl rfl (by decide) (by decide)) <| z_ir C hr hk dX12_counted_68)
  | 4, _, _, h1, h2 => by cases h1; cases h2; exact (z_aln (pc := 69) C dX12_counted_69 rfl <| z_gf (pc := 70) C dX12_counted_70 fl_12_7 <| z_ic (pc := 73) C dX12_counted_73 (by decide +kernel) <| z_ia (pc := 74) C dX12_counted_74 <| z_ir C hr hk dX12_counted_75)
  | 5, _, _, h1, h2 => by cases h1; cases h2; exact (z_aln (pc := 76) C dX12_counted_76 rfl <| z_gf (pc := 77) C dX12_counted_77 fl_12_7 <| z_ic (pc := 80) C dX12_counted_80 (by decide +kernel) <| z_ia (pc := 81) C dX12_counted_81 <| z_ir C hr hk dX12_counted_82)
  | j + 6, _, _, h1, _ => by simp at h1) (z_aln (pc := 83) C dX12_counted_83 rfl <| z_gf (pc := 84) C dX12_counted_84 fl_12_223 <| z_ir C hr hk dX12_counted_87))
  | b + 1 => exact fun _ _ _ h => h.elim
theorem dX12_count_0 : decode cX12_count 0 = .ok (.iload_n 1, 1) := by decide +kernel
theorem dX12_count_1 : decode cX12_count 1 = .ok (.i2l, 1) := by decide +kernel
theorem dX12_count_2 : decode cX12_count 2 = .ok (.lconst 0, 1) := by decide +kernel
theorem dX12_count_3 : decode cX12_count 3 = .ok (.ldc2_w 282, 3) := by decide +kernel
theorem dX12_count_6 : decode cX12_count 6 = .ok (.invokestatic 68, 3) := by decide +kernel
theorem dX12_count_9 : decode cX12_count 9 = .ok (.ifCond .eq 11, 3) := by decide +kernel
theorem dX12_count_12 : decode cX12_count 12 = .ok (.aload_n 0, 1) := by decide +kernel
theorem dX12_count_13 : decode cX12_count 13 = .ok (.iload_n 1, 1) := by decide +kernel
theorem dX12_count_14 : decode cX12_count 14 = .ok (.invokevirtual 284, 3) := by decide +kernel
theorem dX12_count_17 : decode cX12_count 17 = .ok (.goto 9, 3) := by decide +kernel
theorem dX12_count_20 : decode cX12_count 20 = .ok (.aload_n 0, 1) := by decide +kernel
theorem dX12_count_21 : decode cX12_count 21 = .ok (.bipush (-2), 2) := by decide +kernel
theorem dX12_count_23 : decode cX12_count 23 = .ok (.invokevirtual 78, 3) := by decide +kernel
theorem dX12_count_26 : decode cX12_count 26 = .ok (.ireturn, 1) := by decide +kernel
def P_X12_count : Nat → Nat
  | _ => 0
set_option maxRecDepth 100000 in
set_option maxHeartbeats 4000000 in
theorem S_X12_count : zSd yX12_count cX12_count 2 (some .int) { frames := 7, cells := 0, slots := 0, locals := 158 } T_X12_count := by
  refine zMet (pcs := P_X12_count) (F := F_X12_count) (by decide) rfl ?_
  intro p l e s m args below meth c D ids ad A Q Y C hr hk hY b
  match b with
  | 0 => exact (z_iln (pc := 0) C dX12_count_0 rfl <| z_i2l (pc := 1) C dX12_count_1 <| z_lc (pc := 2) C dX12_count_2 (by decide +kernel) <| z_ldc2 (pc := 3) C dX12_count_3 w_1233 <| z_cS (pc := 6) C dX12_count_6 S_X12_in (zl3 w_922 w_923 w_13) w_924 ds_X12_in (zrm rfl rfl (by decide) (by decide)) <| z_ifeq (tgt := 20) (pc := 9) C dX12_count_9 (by decide) (z_aln (pc := 20) C dX12_count_20 rfl <| z_bi (pc := 21) C dX12_count_21 (by decide +kernel) <| z_cV (pc := 23) C dX12_count_23 S_X12_bad rfl (zl4 w_925 w_927 wp_20 w_13) w_928 ds_X12_bad (zrm rfl rfl (by decide) (by decide)) <| z_ir C hr hk dX12_count_26) <| z_aln (pc := 12) C dX12_count_12 rfl <| z_iln (pc := 13) C dX12_count_13 rfl <| z_cV (pc := 14) C dX12_count_14 S_X12_counted rfl (zl4 w_1234 w_1236 wp_52 w_13) w_1237 ds_X12_counted (zrm rfl rfl (by decide) (by decide)) <| z_goto (tgt := 26) (pc := 17) C dX12_count_17 (by decide) <| z_ir C hr hk dX12_count_26)
  | b + 1 => exact fun _ _ _ h => h.elim
theorem dX12_sums_0 : decode cX12_sums 0 = .ok (.lload_n 1, 1) := by decide +kernel
theorem dX12_sums_1 : decode cX12_sums 1 = .ok (.lstore 5, 2) := by decide +kernel
theorem dX12_sums_3 : decode cX12_sums 3 = .ok (.iconst 0, 1) := by decide +kernel
theorem dX12_sums_4 : decode cX12_sums 4 = .ok (.istore 7, 2) := by decide +kernel
theorem dX12_sums_6 : decode cX12_sums 6 = .ok (.iload 7, 2) := by decide +kernel
theorem dX12_sums_8 : decode cX12_sums 8 = .ok (.iload 4, 2) := by decide +kernel
theorem dX12_sums_10 : decode cX12_sums 10 = .ok (.if_icmp .ge 28, 3) := by decide +kernel
theorem dX12_sums_13 : decode cX12_sums 13 = .ok (.ldc2_w 287, 3) := by decide +kernel
theorem dX12_sums_16 : decode cX12_sums 16 = .ok (.lload 5, 2) := by decide +kernel
theorem dX12_sums_18 : decode cX12_sums 18 = .ok (.lmul, 1) := by decide +kernel
theorem dX12_sums_19 : decode cX12_sums 19 = .ok (.aload_n 0, 1) := by decide +kernel
theorem dX12_sums_20 : decode cX12_sums 20 = .ok (.getfield 7, 3) := by decide +kernel
theorem dX12_sums_23 : decode cX12_sums 23 = .ok (.iload_n 3, 1) := by decide +kernel
theorem dX12_sums_24 : decode cX12_sums 24 = .ok (.iload 7, 2) := by decide +kernel
theorem dX12_sums_26 : decode cX12_sums 26 = .ok (.iadd, 1) := by decide +kernel
theorem dX12_sums_27 : decode cX12_sums 27 = .ok (.iaload, 1) := by decide +kernel
theorem dX12_sums_28 : decode cX12_sums 28 = .ok (.i2l, 1) := by decide +kernel
theorem dX12_sums_29 : decode cX12_sums 29 = .ok (.ladd, 1) := by decide +kernel
theorem dX12_sums_30 : decode cX12_sums 30 = .ok (.lstore 5, 2) := by decide +kernel
theorem dX12_sums_32 : decode cX12_sums 32 = .ok (.iinc 7 1, 3) := by decide +kernel
theorem dX12_sums_35 : decode cX12_sums 35 = .ok (.goto (-29), 3) := by decide +kernel
theorem dX12_sums_38 : decode cX12_sums 38 = .ok (.lload 5, 2) := by decide +kernel
theorem dX12_sums_40 : decode cX12_sums 40 = .ok (.lreturn, 1) := by decide +kernel
def P_X12_sums : Nat → Nat
  | 1 => 6
  | _ => 0
set_option maxRecDepth 100000 in
set_option maxHeartbeats 4000000 in
theorem S_X12_sums : zSd yX12_sums cX12_sums 8 (some .long) { frames := 0, cells := 0, slots := 0, locals := 0 } T_X12_sums := by
  refine zMet (pcs := P_X12_sums) (F := F_X12_sums) (by decide) rfl ?_
  intro p l e s m args below meth c D ids ad A Q Y C hr hk hY b
  match b with
  | 0 => exact (z_lln (pc := 0) C dX12_sums_0 rfl <| z_lst (pc := 1) C dX12_sums_1 (by decide) <| z_ic (pc := 3) C dX12_sums_3 (by decide +kernel) <| z_is (pc := 4) C dX12_sums_4 (by decide) <| z_jmp (hY 1))
  | 1 => exact (z_il (pc := 6) C dX12_sums_6 <| z_il (pc := 8) C dX12_sums_8 <| z_cmpge (tgt := 38) (pc := 10) C dX12_sums_10 (by decide) (z_ll (pc := 38) C dX12_sums_38 <| z_lr C hr hk dX12_sums_40) <| z_ldc2 (pc := 13) C dX12_sums_13 w_1243 <| z_ll (pc := 16) C dX12_sums_16 <| z_lmul (pc := 18) C dX12_sums_18 <| z_aln (pc := 19) C dX12_sums_19 rfl <| z_gf (pc := 20) C dX12_sums_20 fl_12_7 <| z_iln (pc := 23) C dX12_sums_23 rfl <| z_il (pc := 24) C dX12_sums_24 <| z_iadd (pc := 26) C dX12_sums_26 <| z_ia (pc := 27) C dX12_sums_27 <| z_i2l (pc := 28) C dX12_sums_28 <| z_ladd (pc := 29) C dX12_sums_29 <| z_lst (pc := 30) C dX12_sums_30 (by decide) <| z_inc (pc := 32) C dX12_sums_32 (by decide +kernel) (by decide) <| z_goto (tgt := 6) (pc := 35) C dX12_sums_35 (by decide) <| z_jmp (hY 1))
  | b + 2 => exact fun _ _ _ h => h.elim
theorem dX12_digest_0 : decode cX12_digest 0 = .ok (.ldc2_w 289, 3) := by decide +kernel
theorem dX12_digest_3 : decode cX12_digest 3 = .ok (.lstore_n 1, 1) := by decide +kernel
theorem dX12_digest_4 : decode cX12_digest 4 = .ok (.iconst 0, 1) := by decide +kernel
theorem dX12_digest_5 : decode cX12_digest 5 = .ok (.istore_n 3, 1) := by decide +kernel
theorem dX12_digest_6 : decode cX12_digest 6 = .ok (.iload_n 3, 1) := by decide +kernel
theorem dX12_digest_7 : decode cX12_digest 7 = .ok (.bipush 7, 2) := by decide +kernel
theorem dX12_digest_9 : decode cX12_digest 9 = .ok (.if_icmp .ge 22, 3) := by decide +kernel
theorem dX12_digest_12 : decode cX12_digest 12 = .ok (.ldc2_w 287, 3) := by decide +kernel
theorem dX12_digest_15 : decode cX12_digest 15 = .ok (.lload_n 1, 1) := by decide +kernel
theorem dX12_digest_16 : decode cX12_digest 16 = .ok (.lmul, 1) := by decide +kernel
theorem dX12_digest_17 : decode cX12_digest 17 = .ok (.aload_n 0, 1) := by decide +kernel
theorem dX12_digest_18 : decode cX12_digest 18 = .ok (.iload_n 3, 1) := by decide +kernel
theorem dX12_digest_19 : decode cX12_digest 19 = .ok (.invokevirtual 284, 3) := by decide +kernel
theorem dX12_digest_22 : decode cX12_digest 22 = .ok (.i2l, 1) := by decide +kernel
theorem dX12_digest_23 : decode cX12_digest 23 = .ok (.ladd, 1) := by decide +kernel
theorem dX12_digest_24 : decode cX12_digest 24 = .ok (.lstore_n 1, 1) := by decide +kernel
theorem dX12_digest_25 : decode cX12_digest 25 = .ok (.iinc 3 1, 3) := by decide +kernel
theorem dX12_digest_28 : decode cX12_digest 28 = .ok (.goto (-22), 3) := by decide +kernel
theorem dX12_digest_31 : decode cX12_digest 31 = .ok (.aload_n 0, 1) := by decide +kernel
theorem dX12_digest_32 : decode cX12_digest 32 = .ok (.lload_n 1, 1) := by decide +kernel
theorem dX12_digest_33 : decode cX12_digest 33 = .ok (.iconst 2, 1) := by decide +kernel
theorem dX12_digest_34 : decode cX12_digest 34 = .ok (.iconst 2, 1) := by decide +kernel
theorem dX12_digest_35 : decode cX12_digest 35 = .ok (.invokevirtual 291, 3) := by decide +kernel
theorem dX12_digest_38 : decode cX12_digest 38 = .ok (.lstore_n 1, 1) := by decide +kernel
theorem dX12_digest_39 : decode cX12_digest 39 = .ok (.aload_n 0, 1) := by decide +kernel
theorem dX12_digest_40 : decode cX12_digest 40 = .ok (.lload_n 1, 1) := by decide +kernel
theorem dX12_digest_41 : decode cX12_digest 41 = .ok (.bipush 6, 2) := by decide +kernel
theorem dX12_digest_43 : decode cX12_digest 43 = .ok (.bipush 6, 2) := by decide +kernel
theorem dX12_digest_45 : decode cX12_digest 45 = .ok (.aload_n 0, 1) := by decide +kernel
theorem dX12_digest_46 : decode cX12_digest 46 = .ok (.invokevirtual 64, 3) := by decide +kernel
theorem dX12_digest_49 : decode cX12_digest 49 = .ok (.imul, 1) := by decide +kernel
theorem dX12_digest_50 : decode cX12_digest 50 = .ok (.invokevirtual 291, 3) := by decide +kernel
theorem dX12_digest_53 : decode cX12_digest 53 = .ok (.lstore_n 1, 1) := by decide +kernel
theorem dX12_digest_54 : decode cX12_digest 54 = .ok (.aload_n 0, 1) := by decide +kernel
theorem dX12_digest_55 : decode cX12_digest 55 = .ok (.lload_n 1, 1) := by decide +kernel
theorem dX12_digest_56 : decode cX12_digest 56 = .ok (.bipush 48, 2) := by decide +kernel
theorem dX12_digest_58 : decode cX12_digest 58 = .ok (.iconst 3, 1) := by decide +kernel
theorem dX12_digest_59 : decode cX12_digest 59 = .ok (.aload_n 0, 1) := by decide +kernel
theorem dX12_digest_60 : decode cX12_digest 60 = .ok (.getfield 7, 3) := by decide +kernel
theorem dX12_digest_63 : decode cX12_digest 63 = .ok (.iconst 4, 1) := by decide +kernel
theorem dX12_digest_64 : decode cX12_digest 64 = .ok (.iaload, 1) := by decide +kernel
theorem dX12_digest_65 : decode cX12_digest 65 = .ok (.imul, 1) := by decide +kernel
theorem dX12_digest_66 : decode cX12_digest 66 = .ok (.invokevirtual 291, 3) := by decide +kernel
theorem dX12_digest_69 : decode cX12_digest 69 = .ok (.lstore_n 1, 1) := by decide +kernel
theorem dX12_digest_70 : decode cX12_digest 70 = .ok (.ldc2_w 287, 3) := by decide +kernel
theorem dX12_digest_73 : decode cX12_digest 73 = .ok (.ldc2_w 287, 3) := by decide +kernel
theorem dX12_digest_76 : decode cX12_digest 76 = .ok (.lload_n 1, 1) := by decide +kernel
theorem dX12_digest_77 : decode cX12_digest 77 = .ok (.lmul, 1) := by decide +kernel
theorem dX12_digest_78 : decode cX12_digest 78 = .ok (.aload_n 0, 1) := by decide +kernel
theorem dX12_digest_79 : decode cX12_digest 79 = .ok (.getfield 198, 3) := by decide +kernel
theorem dX12_digest_82 : decode cX12_digest 82 = .ok (.ladd, 1) := by decide +kernel
theorem dX12_digest_83 : decode cX12_digest 83 = .ok (.lmul, 1) := by decide +kernel
theorem dX12_digest_84 : decode cX12_digest 84 = .ok (.aload_n 0, 1) := by decide +kernel
theorem dX12_digest_85 : decode cX12_digest 85 = .ok (.getfield 23, 3) := by decide +kernel
theorem dX12_digest_88 : decode cX12_digest 88 = .ok (.ladd, 1) := by decide +kernel
theorem dX12_digest_89 : decode cX12_digest 89 = .ok (.lreturn, 1) := by decide +kernel
def P_X12_digest : Nat → Nat
  | 1 => 6
  | _ => 0
set_option maxRecDepth 100000 in
set_option maxHeartbeats 4000000 in
theorem S_X12_digest : zSd yX12_digest cX12_digest 4 (some .long) { frames := 7, cells := 0, slots := 0, locals := 158 } T_X12_digest := by
  refine zMet (pcs := P_X12_digest) (F := F_X12_digest) (by decide) rfl ?_
  intro p l e s m args below meth c D ids ad A Q Y C hr hk hY b
  match b with
  | 0 => exact (z_ldc2 (pc := 0) C dX12_digest_0 w_1242 <| z_lstn (pc := 3) C dX12_digest_3 rfl (by decide) <| z_ic (pc := 4) C dX12_digest_4 (by decide +kernel) <| z_isn (pc := 5) C dX12_digest_5 rfl (by decide) <| z_jmp (hY 1))
  | 1 => exact (z_iln (pc := 6) C dX12_digest_6 rfl <| z_bi (pc := 7) C dX12_digest_7 (by decide +kernel) <| z_cmpge (tgt := 31) (pc := 9) C dX12_digest_9 (by decide) (z_aln (pc := 31) C dX12_digest_31 rfl <| z_lln (pc := 32) C dX12_digest_32 rfl <| z_ic (pc := 33) C dX12_digest_33 (by decide +kernel) <| z_ic (pc := 34) C dX12_digest_34 (by decide +kernel) <| z_cV (pc := 35) C dX12_digest_35 S_X12_sums rfl (zl4 w_1244 w_1246 wp_53 w_13) w_1247 ds_X12_sums (zrm rfl rfl (by decide) (by decide)) <| z_lstn (pc := 38) C dX12_digest_38 rfl (by decide) <| z_aln (pc := 39) C dX12_digest_39 rfl <| z_lln (pc := 40) C dX12_digest_40 rfl <| z_bi (pc := 41) C dX12_digest_41 (by decide +kernel) <| z_bi (pc := 43) C dX12_digest_43 (by decide +kernel) <| z_aln (pc := 45) C dX12_digest_45 rfl <| z_cV (pc := 46) C dX12_digest_46 S_X12_many rfl (zl4 w_929 w_931 wp_21 w_13) w_932 ds_X12_many (zrm rfl rfl (by decide) (by decide)) <| z_imul (pc := 49) C dX12_digest_49 <| z_cV (pc := 50) C dX12_digest_50 S_X12_sums rfl (zl4 w_1244 w_1246 wp_53 w_13) w_1247 ds_X12_sums (zrm rfl rfl (by decide) (by decide)) <| z_lstn (pc := 53) C dX12_digest_53 rfl (by decide) <| z_aln (pc := 54) C dX12_digest_54 rfl <| z_lln (pc := 55) C dX12_digest_55 rfl <| z_bi (pc := 56) C dX12_digest_56 (by decide +kernel) <| z_ic (pc := 58) C dX12_digest_58 (by decide +kernel) <| z_aln (pc := 59) C dX12_digest_59 rfl <| z_gf (pc := 60) C dX12_digest_60 fl_12_7 <| z_ic (pc := 63) C dX12_digest_63 (by decide +kernel) <| z_ia (pc := 64) C dX12_digest_64 <| z_imul (pc := 65) C dX12_digest_65 <| z_cV (pc := 66) C dX12_digest_66 S_X12_sums rfl (zl4 w_1244 w_1246 wp_53 w_13) w_1247 ds_X12_sums (zrm rfl rfl (by decide) (by decide)) <| z_lstn (pc := 69) C dX12_digest_69 rfl (by decide) <| z_ldc2 (pc := 70) C dX12_digest_70 w_1243 <| z_ldc2 (pc := 73) C dX12_digest_73 w_1243 <| z_lln (pc := 76) C dX12_digest_76 rfl <| z_lmul (pc := 77) C dX12_digest_77 <| z_aln (pc := 78) C dX12_digest_78 rfl <| z_gf (pc := 79) C dX12_digest_79 fl_12_198 <| z_ladd (pc := 82) C dX12_digest_82 <| z_lmul (pc := 83) C dX12_digest_83 <| z_aln (pc := 84) C dX12_digest_84 rfl <| z_gf (pc := 85) C dX12_digest_85 fl_12_23 <| z_ladd (pc := 88) C dX12_digest_88 <| z_lr C hr hk dX12_digest_89) <| z_ldc2 (pc := 12) C dX12_digest_12 w_1243 <| z_lln (pc := 15) C dX12_digest_15 rfl <| z_lmul (pc := 16) C dX12_digest_16 <| z_aln (pc := 17) C dX12_digest_17 rfl <| z_iln (pc := 18) C dX12_digest_18 rfl <| z_cV (pc := 19) C dX12_digest_19 S_X12_counted rfl (zl4 w_1234 w_1236 wp_52 w_13) w_1237 ds_X12_counted (zrm rfl rfl (by decide) (by decide)) <| z_i2l (pc := 22) C dX12_digest_22 <| z_ladd (pc := 23) C dX12_digest_23 <| z_lstn (pc := 24) C dX12_digest_24 rfl (by decide) <| z_inc (pc := 25) C dX12_digest_25 (by decide +kernel) (by decide) <| z_goto (tgt := 6) (pc := 28) C dX12_digest_28 (by decide) <| z_jmp (hY 1))
  | b + 2 => exact fun _ _ _ h => h.elim
