/-! Soundness of methods: by program. -/
theorem dX9_sortOf_0 : decode cX9_sortOf 0 = .ok (.iload_n 0, 1) := by decide +kernel
theorem dX9_sortOf_1 : decode cX9_sortOf 1 = .ok (.bipush 97, 2) := by decide +kernel
theorem dX9_sortOf_3 : decode cX9_sortOf 3 = .ok (.if_icmp .lt 11, 3) := by decide +kernel
theorem dX9_sortOf_6 : decode cX9_sortOf 6 = .ok (.iload_n 0, 1) := by decide +kernel
theorem dX9_sortOf_7 : decode cX9_sortOf 7 = .ok (.bipush 122, 2) := by decide +kernel
theorem dX9_sortOf_9 : decode cX9_sortOf 9 = .ok (.if_icmp .gt 5, 3) := by decide +kernel
theorem dX9_sortOf_12 : decode cX9_sortOf 12 = .ok (.iconst 1, 1) := by decide +kernel
theorem dX9_sortOf_13 : decode cX9_sortOf 13 = .ok (.ireturn, 1) := by decide +kernel
theorem dX9_sortOf_14 : decode cX9_sortOf 14 = .ok (.iload_n 0, 1) := by decide +kernel
theorem dX9_sortOf_15 : decode cX9_sortOf 15 = .ok (.bipush 48, 2) := by decide +kernel
theorem dX9_sortOf_17 : decode cX9_sortOf 17 = .ok (.if_icmp .lt 11, 3) := by decide +kernel
theorem dX9_sortOf_20 : decode cX9_sortOf 20 = .ok (.iload_n 0, 1) := by decide +kernel
theorem dX9_sortOf_21 : decode cX9_sortOf 21 = .ok (.bipush 57, 2) := by decide +kernel
theorem dX9_sortOf_23 : decode cX9_sortOf 23 = .ok (.if_icmp .gt 5, 3) := by decide +kernel
theorem dX9_sortOf_26 : decode cX9_sortOf 26 = .ok (.iconst 2, 1) := by decide +kernel
theorem dX9_sortOf_27 : decode cX9_sortOf 27 = .ok (.ireturn, 1) := by decide +kernel
theorem dX9_sortOf_28 : decode cX9_sortOf 28 = .ok (.iload_n 0, 1) := by decide +kernel
theorem dX9_sortOf_29 : decode cX9_sortOf 29 = .ok (.bipush 59, 2) := by decide +kernel
theorem dX9_sortOf_31 : decode cX9_sortOf 31 = .ok (.if_icmp .ne 7, 3) := by decide +kernel
theorem dX9_sortOf_34 : decode cX9_sortOf 34 = .ok (.iconst 3, 1) := by decide +kernel
theorem dX9_sortOf_35 : decode cX9_sortOf 35 = .ok (.goto 4, 3) := by decide +kernel
theorem dX9_sortOf_38 : decode cX9_sortOf 38 = .ok (.iconst 4, 1) := by decide +kernel
theorem dX9_sortOf_39 : decode cX9_sortOf 39 = .ok (.ireturn, 1) := by decide +kernel
def P_X9_sortOf : Nat → Nat
  | 1 => 14
  | 2 => 28
  | _ => 0
set_option maxRecDepth 100000 in
set_option maxHeartbeats 4000000 in
theorem S_X9_sortOf : zSd yX9_sortOf cX9_sortOf 1 (some .int) { frames := 0, cells := 0, slots := 0, locals := 0 } T_X9_sortOf := by
  refine zMet (pcs := P_X9_sortOf) (F := F_X9_sortOf) (by decide) rfl ?_
  intro p l e s m args below meth c D ids ad A Q Y C hr hk hY b
  match b with
  | 0 => exact (z_iln (pc := 0) C dX9_sortOf_0 rfl <| z_bi (pc := 1) C dX9_sortOf_1 (by decide +kernel) <| z_cmplt (tgt := 14) (pc := 3) C dX9_sortOf_3 (by decide) (z_jmp (hY 1)) <| z_iln (pc := 6) C dX9_sortOf_6 rfl <| z_bi (pc := 7) C dX9_sortOf_7 (by decide +kernel) <| z_cmpgt (tgt := 14) (pc := 9) C dX9_sortOf_9 (by decide) (z_jmp (hY 1)) <| z_ic (pc := 12) C dX9_sortOf_12 (by decide +kernel) <| z_ir C hr hk dX9_sortOf_13)
  | 1 => exact (z_iln (pc := 14) C dX9_sortOf_14 rfl <| z_bi (pc := 15) C dX9_sortOf_15 (by decide +kernel) <| z_cmplt (tgt := 28) (pc := 17) C dX9_sortOf_17 (by decide) (z_jmp (hY 2)) <| z_iln (pc := 20) C dX9_sortOf_20 rfl <| z_bi (pc := 21) C dX9_sortOf_21 (by decide +kernel) <| z_cmpgt (tgt := 28) (pc := 23) C dX9_sortOf_23 (by decide) (z_jmp (hY 2)) <| z_ic (pc := 26) C dX9_sortOf_26 (by decide +kernel) <| z_ir C hr hk dX9_sortOf_27)
  | 2 => exact (z_iln (pc := 28) C dX9_sortOf_28 rfl <| z_bi (pc := 29) C dX9_sortOf_29 (by decide +kernel) <| z_cmpne (tgt := 38) (pc := 31) C dX9_sortOf_31 (by decide) (z_ic (pc := 38) C dX9_sortOf_38 (by decide +kernel) <| z_ir C hr hk dX9_sortOf_39) <| z_ic (pc := 34) C dX9_sortOf_34 (by decide +kernel) <| z_goto (tgt := 39) (pc := 35) C dX9_sortOf_35 (by decide) <| z_ir C hr hk dX9_sortOf_39)
  | b + 3 => exact fun _ _ _ h => h.elim
theorem dX9_advance_0 : decode cX9_advance 0 = .ok (.aload_n 0, 1) := by decide +kernel
theorem dX9_advance_1 : decode cX9_advance 1 = .ok (.aload_n 0, 1) := by decide +kernel
theorem dX9_advance_2 : decode cX9_advance 2 = .ok (.getfield 19, 3) := by decide +kernel
theorem dX9_advance_5 : decode cX9_advance 5 = .ok (.putfield 35, 3) := by decide +kernel
theorem dX9_advance_8 : decode cX9_advance 8 = .ok (.aload_n 0, 1) := by decide +kernel
theorem dX9_advance_9 : decode cX9_advance 9 = .ok (.getfield 35, 3) := by decide +kernel
theorem dX9_advance_12 : decode cX9_advance 12 = .ok (.aload_n 0, 1) := by decide +kernel
theorem dX9_advance_13 : decode cX9_advance 13 = .ok (.getfield 15, 3) := by decide +kernel
theorem dX9_advance_16 : decode cX9_advance 16 = .ok (.if_icmp .ge 30, 3) := by decide +kernel
theorem dX9_advance_19 : decode cX9_advance 19 = .ok (.aload_n 0, 1) := by decide +kernel
theorem dX9_advance_20 : decode cX9_advance 20 = .ok (.getfield 9, 3) := by decide +kernel
theorem dX9_advance_23 : decode cX9_advance 23 = .ok (.aload_n 0, 1) := by decide +kernel
theorem dX9_advance_24 : decode cX9_advance 24 = .ok (.getfield 35, 3) := by decide +kernel
theorem dX9_advance_27 : decode cX9_advance 27 = .ok (.iaload, 1) := by decide +kernel
theorem dX9_advance_28 : decode cX9_advance 28 = .ok (.bipush 32, 2) := by decide +kernel
theorem dX9_advance_30 : decode cX9_advance 30 = .ok (.if_icmp .ne 16, 3) := by decide +kernel
theorem dX9_advance_33 : decode cX9_advance 33 = .ok (.aload_n 0, 1) := by decide +kernel
theorem dX9_advance_34 : decode cX9_advance 34 = .ok (.dup, 1) := by decide +kernel
theorem dX9_advance_35 : decode cX9_advance 35 = .ok (.getfield 35, 3) := by decide +kernel
theorem dX9_advance_38 : decode cX9_advance 38 = .ok (.iconst 1, 1) := by decide +kernel
theorem dX9_advance_39 : decode cX9_advance 39 = .ok (.iadd, 1) := by decide +kernel
theorem dX9_advance_40 : decode cX9_advance 40 = .ok (.putfield 35, 3) := by decide +kernel
theorem dX9_advance_43 : decode cX9_advance 43 = .ok (.goto (-35), 3) := by decide +kernel
theorem dX9_advance_46 : decode cX9_advance 46 = .ok (.aload_n 0, 1) := by decide +kernel
theorem dX9_advance_47 : decode cX9_advance 47 = .ok (.aload_n 0, 1) := by decide +kernel
theorem dX9_advance_48 : decode cX9_advance 48 = .ok (.getfield 35, 3) := by decide +kernel
theorem dX9_advance_51 : decode cX9_advance 51 = .ok (.putfield 19, 3) := by decide +kernel
theorem dX9_advance_54 : decode cX9_advance 54 = .ok (.aload_n 0, 1) := by decide +kernel
theorem dX9_advance_55 : decode cX9_advance 55 = .ok (.getfield 35, 3) := by decide +kernel
theorem dX9_advance_58 : decode cX9_advance 58 = .ok (.aload_n 0, 1) := by decide +kernel
theorem dX9_advance_59 : decode cX9_advance 59 = .ok (.getfield 15, 3) := by decide +kernel
theorem dX9_advance_62 : decode cX9_advance 62 = .ok (.if_icmp .lt 9, 3) := by decide +kernel
theorem dX9_advance_65 : decode cX9_advance 65 = .ok (.aload_n 0, 1) := by decide +kernel
theorem dX9_advance_66 : decode cX9_advance 66 = .ok (.iconst 0, 1) := by decide +kernel
theorem dX9_advance_67 : decode cX9_advance 67 = .ok (.putfield 51, 3) := by decide +kernel
theorem dX9_advance_70 : decode cX9_advance 70 = .ok (.return_, 1) := by decide +kernel
theorem dX9_advance_71 : decode cX9_advance 71 = .ok (.aload_n 0, 1) := by decide +kernel
theorem dX9_advance_72 : decode cX9_advance 72 = .ok (.aload_n 0, 1) := by decide +kernel
theorem dX9_advance_73 : decode cX9_advance 73 = .ok (.getfield 9, 3) := by decide +kernel
theorem dX9_advance_76 : decode cX9_advance 76 = .ok (.aload_n 0, 1) := by decide +kernel
theorem dX9_advance_77 : decode cX9_advance 77 = .ok (.getfield 35, 3) := by decide +kernel
theorem dX9_advance_80 : decode cX9_advance 80 = .ok (.iaload, 1) := by decide +kernel
theorem dX9_advance_81 : decode cX9_advance 81 = .ok (.invokestatic 109, 3) := by decide +kernel
theorem dX9_advance_84 : decode cX9_advance 84 = .ok (.putfield 51, 3) := by decide +kernel
theorem dX9_advance_87 : decode cX9_advance 87 = .ok (.aload_n 0, 1) := by decide +kernel
theorem dX9_advance_88 : decode cX9_advance 88 = .ok (.dup, 1) := by decide +kernel
theorem dX9_advance_89 : decode cX9_advance 89 = .ok (.getfield 19, 3) := by decide +kernel
theorem dX9_advance_92 : decode cX9_advance 92 = .ok (.iconst 1, 1) := by decide +kernel
theorem dX9_advance_93 : decode cX9_advance 93 = .ok (.iadd, 1) := by decide +kernel
theorem dX9_advance_94 : decode cX9_advance 94 = .ok (.putfield 19, 3) := by decide +kernel
theorem dX9_advance_97 : decode cX9_advance 97 = .ok (.aload_n 0, 1) := by decide +kernel
theorem dX9_advance_98 : decode cX9_advance 98 = .ok (.getfield 51, 3) := by decide +kernel
theorem dX9_advance_101 : decode cX9_advance 101 = .ok (.iconst 1, 1) := by decide +kernel
theorem dX9_advance_102 : decode cX9_advance 102 = .ok (.if_icmp .eq 11, 3) := by decide +kernel
theorem dX9_advance_105 : decode cX9_advance 105 = .ok (.aload_n 0, 1) := by decide +kernel
theorem dX9_advance_106 : decode cX9_advance 106 = .ok (.getfield 51, 3) := by decide +kernel
theorem dX9_advance_109 : decode cX9_advance 109 = .ok (.iconst 2, 1) := by decide +kernel
theorem dX9_advance_110 : decode cX9_advance 110 = .ok (.if_icmp .ne 7, 3) := by decide +kernel
theorem dX9_advance_113 : decode cX9_advance 113 = .ok (.iconst 1, 1) := by decide +kernel
theorem dX9_advance_114 : decode cX9_advance 114 = .ok (.goto 4, 3) := by decide +kernel
theorem dX9_advance_117 : decode cX9_advance 117 = .ok (.iconst 0, 1) := by decide +kernel
theorem dX9_advance_118 : decode cX9_advance 118 = .ok (.istore_n 1, 1) := by decide +kernel
theorem dX9_advance_119 : decode cX9_advance 119 = .ok (.iload_n 1, 1) := by decide +kernel
theorem dX9_advance_120 : decode cX9_advance 120 = .ok (.ifCond .eq 46, 3) := by decide +kernel
theorem dX9_advance_123 : decode cX9_advance 123 = .ok (.aload_n 0, 1) := by decide +kernel
theorem dX9_advance_124 : decode cX9_advance 124 = .ok (.getfield 19, 3) := by decide +kernel
theorem dX9_advance_127 : decode cX9_advance 127 = .ok (.aload_n 0, 1) := by decide +kernel
theorem dX9_advance_128 : decode cX9_advance 128 = .ok (.getfield 15, 3) := by decide +kernel
theorem dX9_advance_131 : decode cX9_advance 131 = .ok (.if_icmp .ge 35, 3) := by decide +kernel
theorem dX9_advance_134 : decode cX9_advance 134 = .ok (.aload_n 0, 1) := by decide +kernel
theorem dX9_advance_135 : decode cX9_advance 135 = .ok (.getfield 9, 3) := by decide +kernel
theorem dX9_advance_138 : decode cX9_advance 138 = .ok (.aload_n 0, 1) := by decide +kernel
theorem dX9_advance_139 : decode cX9_advance 139 = .ok (.getfield 19, 3) := by decide +kernel
theorem dX9_advance_142 : decode cX9_advance 142 = .ok (.iaload, 1) := by decide +kernel
theorem dX9_advance_143 : decode cX9_advance 143 = .ok (.invokestatic 109, 3) := by decide +kernel
theorem dX9_advance_146 : decode cX9_advance 146 = .ok (.aload_n 0, 1) := by decide +kernel
theorem dX9_advance_147 : decode cX9_advance 147 = .ok (.getfield 51, 3) := by decide +kernel
theorem dX9_advance_150 : decode cX9_advance 150 = .ok (.if_icmp .ne 16, 3) := by decide +kernel
theorem dX9_advance_153 : decode cX9_advance 153 = .ok (.aload_n 0, 1) := by decide +kernel
theorem dX9_advance_154 : decode cX9_advance 154 = .ok (.dup, 1) := by decide +kernel
theorem dX9_advance_155 : decode cX9_advance 155 = .ok (.getfield 19, 3) := by decide +kernel
theorem dX9_advance_158 : decode cX9_advance 158 = .ok (.iconst 1, 1) := by decide +kernel
theorem dX9_advance_159 : decode cX9_advance 159 = .ok (.iadd, 1) := by decide +kernel
theorem dX9_advance_160 : decode cX9_advance 160 = .ok (.putfield 19, 3) := by decide +kernel
theorem dX9_advance_163 : decode cX9_advance 163 = .ok (.goto (-44), 3) := by decide +kernel
theorem dX9_advance_166 : decode cX9_advance 166 = .ok (.aload_n 0, 1) := by decide +kernel
theorem dX9_advance_167 : decode cX9_advance 167 = .ok (.aload_n 0, 1) := by decide +kernel
theorem dX9_advance_168 : decode cX9_advance 168 = .ok (.getfield 51, 3) := by decide +kernel
theorem dX9_advance_171 : decode cX9_advance 171 = .ok (.iconst 2, 1) := by decide +kernel
theorem dX9_advance_172 : decode cX9_advance 172 = .ok (.if_icmp .ne 10, 3) := by decide +kernel
theorem dX9_advance_175 : decode cX9_advance 175 = .ok (.aload_n 0, 1) := by decide +kernel
theorem dX9_advance_176 : decode cX9_advance 176 = .ok (.invokevirtual 113, 3) := by decide +kernel
theorem dX9_advance_179 : decode cX9_advance 179 = .ok (.goto 4, 3) := by decide +kernel
theorem dX9_advance_182 : decode cX9_advance 182 = .ok (.iconst (-1), 1) := by decide +kernel
theorem dX9_advance_183 : decode cX9_advance 183 = .ok (.putfield 38, 3) := by decide +kernel
theorem dX9_advance_186 : decode cX9_advance 186 = .ok (.return_, 1) := by decide +kernel
def P_X9_advance : Nat → Nat
  | 1 => 8
  | 2 => 46
  | 3 => 113
  | 4 => 118
  | 5 => 119
  | 6 => 166
  | _ => 0
set_option maxRecDepth 100000 in
set_option maxHeartbeats 4000000 in
theorem S_X9_advance : zSd yX9_advance cX9_advance 2 none { frames := 1, cells := 0, slots := 0, locals := 22 } T_X9_advance := by
  refine zMet (pcs := P_X9_advance) (F := F_X9_advance) (by decide) rfl ?_
  intro p l e s m args below meth c D ids ad A Q Y C hr hk hY b
  match b with
  | 0 => exact (z_aln (pc := 0) C dX9_advance_0 rfl <| z_aln (pc := 1) C dX9_advance_1 rfl <| z_gf (pc := 2) C dX9_advance_2 fl_9_19 <| z_pf (pc := 5) C dX9_advance_5 fp_9_35 <| z_jmp (hY 1))
  | 1 => exact (z_aln (pc := 8) C dX9_advance_8 rfl <| z_gf (pc := 9) C dX9_advance_9 fl_9_35 <| z_aln (pc := 12) C dX9_advance_12 rfl <| z_gf (pc := 13) C dX9_advance_13 fl_9_15 <| z_cmpge (tgt := 46) (pc := 16) C dX9_advance_16 (by decide) (z_jmp (hY 2)) <| z_aln (pc := 19) C dX9_advance_19 rfl <| z_gf (pc := 20) C dX9_advance_20 fl_9_9 <| z_aln (pc := 23) C dX9_advance_23 rfl <| z_gf (pc := 24) C dX9_advance_24 fl_9_35 <| z_ia (pc := 27) C dX9_advance_27 <| z_bi (pc := 28) C dX9_advance_28 (by decide +kernel) <| z_cmpne (tgt := 46) (pc := 30) C dX9_advance_30 (by decide) (z_jmp (hY 2)) <| z_aln (pc := 33) C dX9_advance_33 rfl <| z_dup (pc := 34) C dX9_advance_34 <| z_gf (pc := 35) C dX9_advance_35 fl_9_35 <| z_ic (pc := 38) C dX9_advance_38 (by decide +kernel) <| z_iadd (pc := 39) C dX9_advance_39 <| z_pf (pc := 40) C dX9_advance_40 fp_9_35 <| z_goto (tgt := 8) (pc := 43) C dX9_advance_43 (by decide) <| z_jmp (hY 1))
  | 2 => exact (z_aln (pc := 46) C dX9_advance_46 rfl <| z_aln (pc := 47) C dX9_advance_47 rfl <| z_gf (pc := 48) C dX9_advance_48 fl_9_35 <| z_pf (pc := 51) C dX9_advance_51 fp_9_19 <| z_aln (pc := 54) C dX9_advance_54 rfl <| z_gf (pc := 55) C dX9_advance_55 fl_9_35 <| z_aln (pc := 58) C dX9_advance_58 rfl <| z_gf (pc := 59) C dX9_advance_59 fl_9_15 <| z_cmplt (tgt := 71) (pc := 62) C dX9_advance_62 (by decide) (z_aln (pc := 71) C dX9_advance_71 rfl <| z_aln (pc := 72) C dX9_advance_72 rfl <| z_gf (pc := 73) C dX9_advance_73 fl_9_9 <| z_aln (pc := 76) C dX9_advance_76 rfl <| z_gf (pc := 77) C dX9_advance_77 fl_9_35 <| z_ia (pc := 80) C dX9_advance_80 <| z_cS (pc := 81) C dX9_advance_81 S_X9_sortOf (zl3 w_369 w_370 w_3) w_371 ds_X9_sortOf (zrm rfl rfl (by decide) (by decide)) <| z_pf (pc := 84) C dX9_advance_84 fp_9_51 <| z_aln (pc := 87) C dX9_advance_87 rfl <| z_dup (pc := 88) C dX9_advance_88 <| z_gf (pc := 89) C dX9_advance_89 fl_9_19 <| z_ic (pc := 92) C dX9_advance_92 (by decide +kernel) <| z_iadd (pc := 93) C dX9_advance_93 <| z_pf (pc := 94) C dX9_advance_94 fp_9_19 <| z_aln (pc := 97) C dX9_advance_97 rfl <| z_gf (pc := 98) C dX9_advance_98 fl_9_51 <| z_ic (pc := 101) C dX9_advance_101 (by decide +kernel) <| z_cmpeq (tgt := 113) (pc := 102) C dX9_advance_102 (by decide) (z_jmp (hY 3)) <| z_aln (pc := 105) C dX9_advance_105 rfl <| z_gf (pc := 106) C dX9_advance_106 fl_9_51 <| z_ic (pc := 109) C dX9_advance_109 (by decide +kernel) <| z_cmpne (tgt := 117) (pc := 110) C dX9_advance_110 (by decide) (z_ic (pc := 117) C dX9_advance_117 (by decide +kernel) <| z_jmp (hY 4)) <| z_jmp (hY 3)) <| z_aln (pc := 65) C dX9_advance_65 rfl <| z_ic (pc := 66) C dX9_advance_66 (by decide +kernel) <| z_pf (pc := 67) C dX9_advance_67 fp_9_51 <| z_vr C hr hk dX9_advance_70)
  | 3 => exact (z_ic (pc := 113) C dX9_advance_113 (by decide +kernel) <| z_goto (tgt := 118) (pc := 114) C dX9_advance_114 (by decide) <| z_jmp (hY 4))
  | 4 => exact (z_isn (pc := 118) C dX9_advance_118 rfl (by decide) <| z_jmp (hY 5))
  | 5 => exact (z_iln (pc := 119) C dX9_advance_119 rfl <| z_ifeq (tgt := 166) (pc := 120) C dX9_advance_120 (by decide) (z_jmp (hY 6)) <| z_aln (pc := 123) C dX9_advance_123 rfl <| z_gf (pc := 124) C dX9_advance_124 fl_9_19 <| z_aln (pc := 127) C dX9_advance_127 rfl <| z_gf (pc := 128) C dX9_advance_128 fl_9_15 <| z_cmpge (tgt := 166) (pc := 131) C dX9_advance_131 (by decide) (z_jmp (hY 6)) <| z_aln (pc := 134) C dX9_advance_134 rfl <| z_gf (pc := 135) C dX9_advance_135 fl_9_9 <| z_aln (pc := 138) C dX9_advance_138 rfl <| z_gf (pc := 139) C dX9_advance_139 fl_9_19 <| z_ia (pc := 142) C dX9_advance_142 <| z_cS (pc := 143) C dX9_advance_143 S_X9_sortOf (zl3 w_369 w_370 w_3) w_371 ds_X9_sortOf (zrm rfl rfl (by decide) (by decide)) <| z_aln (pc := 146) C dX9_advance_146 rfl <| z_gf (pc := 147) C dX9_advance_147 fl_9_51 <| z_cmpne (tgt := 166) (pc := 150) C dX9_advance_150 (by decide) (z_jmp (hY 6)) <| z_aln (pc := 153) C dX9_advance_153 rfl <| z_dup (pc := 154) C dX9_advance_154 <| z_gf (pc := 155) C dX9_advance_155 fl_9_19 <| z_ic (pc := 158) C dX9_advance_158 (by decide +kernel) <| z_iadd (pc := 159) C dX9_advance_159 <| z_pf (pc := 160) C dX9_advance_160 fp_9_19 <| z_goto (tgt := 119) (pc := 163) C dX9_advance_163 (by decide) <| z_jmp (hY 5))
  | 6 => exact (z_aln (pc := 166) C dX9_advance_166 rfl <| z_aln (pc := 167) C dX9_advance_167 rfl <| z_gf (pc := 168) C dX9_advance_168 fl_9_51 <| z_ic (pc := 171) C dX9_advance_171 (by decide +kernel) <| z_cmpne (tgt := 182) (pc := 172) C dX9_advance_172 (by decide) (z_ic (pc := 182) C dX9_advance_182 (by decide +kernel) <| z_pf (pc := 183) C dX9_advance_183 fp_9_38 <| z_vr C hr hk dX9_advance_186) <| z_aln (pc := 175) C dX9_advance_175 rfl <| z_cV (pc := 176) C dX9_advance_176 S_X9_figures rfl (zl4 w_372 w_374 wp_2 w_3) w_375 ds_X9_figures (zrm rfl rfl (by decide) (by decide)) <| z_goto (tgt := 183) (pc := 179) C dX9_advance_179 (by decide) <| z_pf (pc := 183) C dX9_advance_183 fp_9_38 <| z_vr C hr hk dX9_advance_186)
  | b + 7 => exact fun _ _ _ h => h.elim
theorem dJ0_isLatin1_aae02_0 : decode cJ0_isLatin1_aae02 0 = .ok (.getstatic 38, 3) := by decide +kernel
theorem dJ0_isLatin1_aae02_3 : decode cJ0_isLatin1_aae02 3 = .ok (.ifCond .eq 14, 3) := by decide +kernel
theorem dJ0_isLatin1_aae02_6 : decode cJ0_isLatin1_aae02 6 = .ok (.aload_n 0, 1) := by decide +kernel
theorem dJ0_isLatin1_aae02_7 : decode cJ0_isLatin1_aae02 7 = .ok (.getfield 15, 3) := by decide +kernel
theorem dJ0_isLatin1_aae02_10 : decode cJ0_isLatin1_aae02 10 = .ok (.ifCond .ne 7, 3) := by decide +kernel
theorem dJ0_isLatin1_aae02_13 : decode cJ0_isLatin1_aae02 13 = .ok (.iconst 1, 1) := by decide +kernel
theorem dJ0_isLatin1_aae02_14 : decode cJ0_isLatin1_aae02 14 = .ok (.goto 4, 3) := by decide +kernel
theorem dJ0_isLatin1_aae02_17 : decode cJ0_isLatin1_aae02 17 = .ok (.iconst 0, 1) := by decide +kernel
theorem dJ0_isLatin1_aae02_18 : decode cJ0_isLatin1_aae02 18 = .ok (.ireturn, 1) := by decide +kernel
def P_J0_isLatin1_aae02 : Nat → Nat
  | _ => 0
set_option maxRecDepth 100000 in
set_option maxHeartbeats 4000000 in
theorem S_J0_isLatin1_aae02 : zSd yJ0_isLatin1_aae02 cJ0_isLatin1_aae02 1 (some .boolean) { frames := 0, cells := 0, slots := 0, locals := 0 } T_J0_isLatin1_aae02 := by
  refine zMet (pcs := P_J0_isLatin1_aae02) (F := F_J0_isLatin1_aae02) (by decide) rfl ?_
  intro p l e s m args below meth c D ids ad A Q Y C hr hk hY b
  match b with
  | 0 => exact (z_gcs (pc := 0) C dJ0_isLatin1_aae02_0 w_389 <| z_ifeq (tgt := 17) (pc := 3) C dJ0_isLatin1_aae02_3 (by decide) (z_ic (pc := 17) C dJ0_isLatin1_aae02_17 (by decide +kernel) <| z_zr C hr hk dJ0_isLatin1_aae02_18) <| z_aln (pc := 6) C dJ0_isLatin1_aae02_6 rfl <| z_gcod (pc := 7) C dJ0_isLatin1_aae02_7 w_1254 <| z_ifne (tgt := 17) (pc := 10) C dJ0_isLatin1_aae02_10 (by decide) (z_ic (pc := 17) C dJ0_isLatin1_aae02_17 (by decide +kernel) <| z_zr C hr hk dJ0_isLatin1_aae02_18) <| z_ic (pc := 13) C dJ0_isLatin1_aae02_13 (by decide +kernel) <| z_goto (tgt := 18) (pc := 14) C dJ0_isLatin1_aae02_14 (by decide) <| z_zr C hr hk dJ0_isLatin1_aae02_18)
  | b + 1 => exact fun _ _ _ h => h.elim
theorem dJ1_charAt_3b067_0 : decode cJ1_charAt_3b067 0 = .ok (.iload_n 1, 1) := by decide +kernel
theorem dJ1_charAt_3b067_1 : decode cJ1_charAt_3b067 1 = .ok (.aload_n 0, 1) := by decide +kernel
theorem dJ1_charAt_3b067_2 : decode cJ1_charAt_3b067 2 = .ok (.arraylength, 1) := by decide +kernel
theorem dJ1_charAt_3b067_3 : decode cJ1_charAt_3b067 3 = .ok (.invokestatic 9, 3) := by decide +kernel
theorem dJ1_charAt_3b067_6 : decode cJ1_charAt_3b067 6 = .ok (.aload_n 0, 1) := by decide +kernel
theorem dJ1_charAt_3b067_7 : decode cJ1_charAt_3b067 7 = .ok (.iload_n 1, 1) := by decide +kernel
theorem dJ1_charAt_3b067_8 : decode cJ1_charAt_3b067 8 = .ok (.baload, 1) := by decide +kernel
theorem dJ1_charAt_3b067_9 : decode cJ1_charAt_3b067 9 = .ok (.sipush 255, 3) := by decide +kernel
theorem dJ1_charAt_3b067_12 : decode cJ1_charAt_3b067 12 = .ok (.iand, 1) := by decide +kernel
theorem dJ1_charAt_3b067_13 : decode cJ1_charAt_3b067 13 = .ok (.i2c, 1) := by decide +kernel
theorem dJ1_charAt_3b067_14 : decode cJ1_charAt_3b067 14 = .ok (.ireturn, 1) := by decide +kernel
def P_J1_charAt_3b067 : Nat → Nat
  | _ => 0
set_option maxRecDepth 100000 in
set_option maxHeartbeats 4000000 in
theorem S_J1_charAt_3b067 : zSd yJ1_charAt_3b067 cJ1_charAt_3b067 2 (some .char) { frames := 2, cells := 0, slots := 0, locals := 43 } T_J1_charAt_3b067 := by
  refine zMet (pcs := P_J1_charAt_3b067) (F := F_J1_charAt_3b067) (by decide) rfl ?_
  intro p l e s m args below meth c D ids ad A Q Y C hr hk hY b
  match b with
  | 0 => exact (z_iln (pc := 0) C dJ1_charAt_3b067_0 rfl <| z_aln (pc := 1) C dJ1_charAt_3b067_1 rfl <| z_blen (pc := 2) C dJ1_charAt_3b067_2 <| z_cS (pc := 3) C dJ1_charAt_3b067_3 S_J0_checkIndex_df160 (zl3 w_402 w_403 w_15) w_404 ds_J0_checkIndex_df160 (zrm rfl rfl (by decide) (by decide)) <| z_aln (pc := 6) C dJ1_charAt_3b067_6 rfl <| z_iln (pc := 7) C dJ1_charAt_3b067_7 rfl <| z_by (pc := 8) C dJ1_charAt_3b067_8 <| z_si (pc := 9) C dJ1_charAt_3b067_9 (by decide +kernel) <| z_iand (pc := 12) C dJ1_charAt_3b067_12 <| z_i2c (pc := 13) C dJ1_charAt_3b067_13 <| z_nr C (by decide) hr hk dJ1_charAt_3b067_14)
  | b + 1 => exact fun _ _ _ h => h.elim
theorem dJ0_charAt_5068e_0 : decode cJ0_charAt_5068e 0 = .ok (.aload_n 0, 1) := by decide +kernel
theorem dJ0_charAt_5068e_1 : decode cJ0_charAt_5068e 1 = .ok (.invokevirtual 492, 3) := by decide +kernel
theorem dJ0_charAt_5068e_4 : decode cJ0_charAt_5068e 4 = .ok (.ifCond .eq 12, 3) := by decide +kernel
theorem dJ0_charAt_5068e_7 : decode cJ0_charAt_5068e 7 = .ok (.aload_n 0, 1) := by decide +kernel
theorem dJ0_charAt_5068e_8 : decode cJ0_charAt_5068e 8 = .ok (.getfield 9, 3) := by decide +kernel
theorem dJ0_charAt_5068e_11 : decode cJ0_charAt_5068e 11 = .ok (.iload_n 1, 1) := by decide +kernel
theorem dJ0_charAt_5068e_12 : decode cJ0_charAt_5068e 12 = .ok (.invokestatic 495, 3) := by decide +kernel
theorem dJ0_charAt_5068e_15 : decode cJ0_charAt_5068e 15 = .ok (.ireturn, 1) := by decide +kernel
theorem dJ0_charAt_5068e_16 : decode cJ0_charAt_5068e 16 = .ok (.aload_n 0, 1) := by decide +kernel
theorem dJ0_charAt_5068e_17 : decode cJ0_charAt_5068e 17 = .ok (.getfield 9, 3) := by decide +kernel
theorem dJ0_charAt_5068e_20 : decode cJ0_charAt_5068e 20 = .ok (.iload_n 1, 1) := by decide +kernel
theorem dJ0_charAt_5068e_21 : decode cJ0_charAt_5068e 21 = .ok (.invokestatic 498, 3) := by decide +kernel
theorem dJ0_charAt_5068e_24 : decode cJ0_charAt_5068e 24 = .ok (.ireturn, 1) := by decide +kernel
def P_J0_charAt_5068e : Nat → Nat
  | _ => 0
set_option maxRecDepth 100000 in
set_option maxHeartbeats 4000000 in
theorem S_J0_charAt_5068e : zSd yJ0_charAt_5068e cJ0_charAt_5068e 2 (some .char) { frames := 3, cells := 0, slots := 0, locals := 64 } T_J0_charAt_5068e := by
  refine zMet (pcs := P_J0_charAt_5068e) (F := F_J0_charAt_5068e) (by decide) rfl ?_
  intro p l e s m args below meth c D ids ad A Q Y C hr hk hY b
  match b with
  | 0 => exact (z_aln (pc := 0) C dJ0_charAt_5068e_0 rfl <| z_cT (pc := 1) C dJ0_charAt_5068e_1 S_J0_isLatin1_aae02 rfl (zl4 w_395 w_396 w_397 w_15) w_398 ds_J0_isLatin1_aae02 (zrm rfl rfl (by decide) (by decide)) <| z_ifeq (tgt := 16) (pc := 4) C dJ0_charAt_5068e_4 (by decide) (z_no) <| z_aln (pc := 7) C dJ0_charAt_5068e_7 rfl <| z_gval (pc := 8) C dJ0_charAt_5068e_8 w_1253 <| z_iln (pc := 11) C dJ0_charAt_5068e_11 rfl <| z_cS (pc := 12) C dJ0_charAt_5068e_12 S_J1_charAt_3b067 (zl3 w_399 w_400 w_16) w_401 ds_J1_charAt_3b067 (zrm rfl rfl (by decide) (by decide)) <| z_nr C (by decide) hr hk dJ0_charAt_5068e_15)
  | b + 1 => exact fun _ _ _ h => h.elim
theorem dJ0_coder_7d493_0 : decode cJ0_coder_7d493 0 = .ok (.getstatic 38, 3) := by decide +kernel
theorem dJ0_coder_7d493_3 : decode cJ0_coder_7d493 3 = .ok (.ifCond .eq 10, 3) := by decide +kernel
theorem dJ0_coder_7d493_6 : decode cJ0_coder_7d493 6 = .ok (.aload_n 0, 1) := by decide +kernel
theorem dJ0_coder_7d493_7 : decode cJ0_coder_7d493 7 = .ok (.getfield 15, 3) := by decide +kernel
theorem dJ0_coder_7d493_10 : decode cJ0_coder_7d493 10 = .ok (.goto 4, 3) := by decide +kernel
theorem dJ0_coder_7d493_13 : decode cJ0_coder_7d493 13 = .ok (.iconst 1, 1) := by decide +kernel
theorem dJ0_coder_7d493_14 : decode cJ0_coder_7d493 14 = .ok (.ireturn, 1) := by decide +kernel
def P_J0_coder_7d493 : Nat → Nat
  | _ => 0
set_option maxRecDepth 100000 in
set_option maxHeartbeats 4000000 in
theorem S_J0_coder_7d493 : zSd yJ0_coder_7d493 cJ0_coder_7d493 1 (some .byte) { frames := 0, cells := 0, slots := 0, locals := 0 } T_J0_coder_7d493 := by
  refine zMet (pcs := P_J0_coder_7d493) (F := F_J0_coder_7d493) (by decide) rfl ?_
  intro p l e s m args below meth c D ids ad A Q Y C hr hk hY b
  match b with
  | 0 => exact (z_gcs (pc := 0) C dJ0_coder_7d493_0 w_389 <| z_ifeq (tgt := 13) (pc := 3) C dJ0_coder_7d493_3 (by decide) (z_ic (pc := 13) C dJ0_coder_7d493_13 (by decide +kernel) <| z_nr C (by decide) hr hk dJ0_coder_7d493_14) <| z_aln (pc := 6) C dJ0_coder_7d493_6 rfl <| z_gcod (pc := 7) C dJ0_coder_7d493_7 w_1254 <| z_goto (tgt := 14) (pc := 10) C dJ0_coder_7d493_10 (by decide) <| z_nr C (by decide) hr hk dJ0_coder_7d493_14)
  | b + 1 => exact fun _ _ _ h => h.elim
theorem dJ0_length_8abf5_0 : decode cJ0_length_8abf5 0 = .ok (.aload_n 0, 1) := by decide +kernel
theorem dJ0_length_8abf5_1 : decode cJ0_length_8abf5 1 = .ok (.getfield 9, 3) := by decide +kernel
theorem dJ0_length_8abf5_4 : decode cJ0_length_8abf5 4 = .ok (.arraylength, 1) := by decide +kernel
theorem dJ0_length_8abf5_5 : decode cJ0_length_8abf5 5 = .ok (.aload_n 0, 1) := by decide +kernel
theorem dJ0_length_8abf5_6 : decode cJ0_length_8abf5 6 = .ok (.invokevirtual 335, 3) := by decide +kernel
theorem dJ0_length_8abf5_9 : decode cJ0_length_8abf5 9 = .ok (.ishr, 1) := by decide +kernel
theorem dJ0_length_8abf5_10 : decode cJ0_length_8abf5 10 = .ok (.ireturn, 1) := by decide +kernel
def P_J0_length_8abf5 : Nat → Nat
  | _ => 0
set_option maxRecDepth 100000 in
set_option maxHeartbeats 4000000 in
theorem S_J0_length_8abf5 : zSd yJ0_length_8abf5 cJ0_length_8abf5 1 (some .int) { frames := 1, cells := 0, slots := 0, locals := 20 } T_J0_length_8abf5 := by
  refine zMet (pcs := P_J0_length_8abf5) (F := F_J0_length_8abf5) (by decide) rfl ?_
  intro p l e s m args below meth c D ids ad A Q Y C hr hk hY b
  match b with
  | 0 => exact (z_aln (pc := 0) C dJ0_length_8abf5_0 rfl <| z_gval (pc := 1) C dJ0_length_8abf5_1 w_1253 <| z_blen (pc := 4) C dJ0_length_8abf5_4 <| z_aln (pc := 5) C dJ0_length_8abf5_5 rfl <| z_cT (pc := 6) C dJ0_length_8abf5_6 S_J0_coder_7d493 rfl (zl4 w_385 w_386 w_387 w_15) w_388 ds_J0_coder_7d493 (zrm rfl rfl (by decide) (by decide)) <| z_ishr (pc := 9) C dJ0_length_8abf5_9 <| z_ir C hr hk dJ0_length_8abf5_10)
  | b + 1 => exact fun _ _ _ h => h.elim
theorem dX9_says_0 : decode cX9_says 0 = .ok (.aload_n 0, 1) := by decide +kernel
theorem dX9_says_1 : decode cX9_says 1 = .ok (.getfield 51, 3) := by decide +kernel
theorem dX9_says_4 : decode cX9_says 4 = .ok (.iconst 1, 1) := by decide +kernel
theorem dX9_says_5 : decode cX9_says 5 = .ok (.if_icmp .ne 19, 3) := by decide +kernel
theorem dX9_says_8 : decode cX9_says 8 = .ok (.aload_n 0, 1) := by decide +kernel
theorem dX9_says_9 : decode cX9_says 9 = .ok (.getfield 19, 3) := by decide +kernel
theorem dX9_says_12 : decode cX9_says 12 = .ok (.aload_n 0, 1) := by decide +kernel
theorem dX9_says_13 : decode cX9_says 13 = .ok (.getfield 35, 3) := by decide +kernel
theorem dX9_says_16 : decode cX9_says 16 = .ok (.isub, 1) := by decide +kernel
theorem dX9_says_17 : decode cX9_says 17 = .ok (.aload_n 1, 1) := by decide +kernel
theorem dX9_says_18 : decode cX9_says 18 = .ok (.invokevirtual 100, 3) := by decide +kernel
theorem dX9_says_21 : decode cX9_says 21 = .ok (.if_icmp .eq 5, 3) := by decide +kernel
theorem dX9_says_24 : decode cX9_says 24 = .ok (.iconst 0, 1) := by decide +kernel
theorem dX9_says_25 : decode cX9_says 25 = .ok (.ireturn, 1) := by decide +kernel
theorem dX9_says_26 : decode cX9_says 26 = .ok (.iconst 0, 1) := by decide +kernel
theorem dX9_says_27 : decode cX9_says 27 = .ok (.istore_n 2, 1) := by decide +kernel
theorem dX9_says_28 : decode cX9_says 28 = .ok (.iload_n 2, 1) := by decide +kernel
theorem dX9_says_29 : decode cX9_says 29 = .ok (.aload_n 1, 1) := by decide +kernel
theorem dX9_says_30 : decode cX9_says 30 = .ok (.invokevirtual 100, 3) := by decide +kernel
theorem dX9_says_33 : decode cX9_says 33 = .ok (.if_icmp .ge 30, 3) := by decide +kernel
theorem dX9_says_36 : decode cX9_says 36 = .ok (.aload_n 0, 1) := by decide +kernel
theorem dX9_says_37 : decode cX9_says 37 = .ok (.getfield 9, 3) := by decide +kernel
theorem dX9_says_40 : decode cX9_says 40 = .ok (.aload_n 0, 1) := by decide +kernel
theorem dX9_says_41 : decode cX9_says 41 = .ok (.getfield 35, 3) := by decide +kernel
theorem dX9_says_44 : decode cX9_says 44 = .ok (.iload_n 2, 1) := by decide +kernel
theorem dX9_says_45 : decode cX9_says 45 = .ok (.iadd, 1) := by decide +kernel
theorem dX9_says_46 : decode cX9_says 46 = .ok (.iaload, 1) := by decide +kernel
theorem dX9_says_47 : decode cX9_says 47 = .ok (.aload_n 1, 1) := by decide +kernel
theorem dX9_says_48 : decode cX9_says 48 = .ok (.iload_n 2, 1) := by decide +kernel
theorem dX9_says_49 : decode cX9_says 49 = .ok (.invokevirtual 105, 3) := by decide +kernel
theorem dX9_says_52 : decode cX9_says 52 = .ok (.if_icmp .eq 5, 3) := by decide +kernel
theorem dX9_says_55 : decode cX9_says 55 = .ok (.iconst 0, 1) := by decide +kernel
theorem dX9_says_56 : decode cX9_says 56 = .ok (.ireturn, 1) := by decide +kernel
theorem dX9_says_57 : decode cX9_says 57 = .ok (.iinc 2 1, 3) := by decide +kernel
theorem dX9_says_60 : decode cX9_says 60 = .ok (.goto (-32), 3) := by decide +kernel
theorem dX9_says_63 : decode cX9_says 63 = .ok (.iconst 1, 1) := by decide +kernel
theorem dX9_says_64 : decode cX9_says 64 = .ok (.ireturn, 1) := by decide +kernel
def P_X9_says : Nat → Nat
  | 1 => 28
  | _ => 0
set_option maxRecDepth 100000 in
set_option maxHeartbeats 4000000 in
theorem S_X9_says : zSd yX9_says cX9_says 3 (some .boolean) { frames := 4, cells := 0, slots := 0, locals := 85 } T_X9_says := by
  refine zMet (pcs := P_X9_says) (F := F_X9_says) (by decide) rfl ?_
  intro p l e s m args below meth c D ids ad A Q Y C hr hk hY b
  match b with
  | 0 => exact (z_aln (pc := 0) C dX9_says_0 rfl <| z_gf (pc := 1) C dX9_says_1 fl_9_51 <| z_ic (pc := 4) C dX9_says_4 (by decide +kernel) <| z_cmpne (tgt := 24) (pc := 5) C dX9_says_5 (by decide) (z_ic (pc := 24) C dX9_says_24 (by decide +kernel) <| z_zr C hr hk dX9_says_25) <| z_aln (pc := 8) C dX9_says_8 rfl <| z_gf (pc := 9) C dX9_says_9 fl_9_19 <| z_aln (pc := 12) C dX9_says_12 rfl <| z_gf (pc := 13) C dX9_says_13 fl_9_35 <| z_isub (pc := 16) C dX9_says_16 <| z_aln (pc := 17) C dX9_says_17 rfl <| z_cT (pc := 18) C dX9_says_18 S_J0_length_8abf5 rfl (zl4 w_381 w_382 w_383 w_15) w_384 ds_J0_length_8abf5 (zrm rfl rfl (by decide) (by decide)) <| z_cmpeq (tgt := 26) (pc := 21) C dX9_says_21 (by decide) (z_ic (pc := 26) C dX9_says_26 (by decide +kernel) <| z_isn (pc := 27) C dX9_says_27 rfl (by decide) <| z_jmp (hY 1)) <| z_ic (pc := 24) C dX9_says_24 (by decide +kernel) <| z_zr C hr hk dX9_says_25)
  | 1 => exact (z_iln (pc := 28) C dX9_says_28 rfl <| z_aln (pc := 29) C dX9_says_29 rfl <| z_cT (pc := 30) C dX9_says_30 S_J0_length_8abf5 rfl (zl4 w_381 w_382 w_383 w_15) w_384 ds_J0_length_8abf5 (zrm rfl rfl (by decide) (by decide)) <| z_cmpge (tgt := 63) (pc := 33) C dX9_says_33 (by decide) (z_ic (pc := 63) C dX9_says_63 (by decide +kernel) <| z_zr C hr hk dX9_says_64) <| z_aln (pc := 36) C dX9_says_36 rfl <| z_gf (pc := 37) C dX9_says_37 fl_9_9 <| z_aln (pc := 40) C dX9_says_40 rfl <| z_gf (pc := 41) C dX9_says_41 fl_9_35 <| z_iln (pc := 44) C dX9_says_44 rfl <| z_iadd (pc := 45) C dX9_says_45 <| z_ia (pc := 46) C dX9_says_46 <| z_aln (pc := 47) C dX9_says_47 rfl <| z_iln (pc := 48) C dX9_says_48 rfl <| z_cT (pc := 49) C dX9_says_49 S_J0_charAt_5068e rfl (zl4 w_391 w_392 w_393 w_15) w_394 ds_J0_charAt_5068e (zrm rfl rfl (by decide) (by decide)) <| z_cmpeq (tgt := 57) (pc := 52) C dX9_says_52 (by decide) (z_inc (pc := 57) C dX9_says_57 (by decide +kernel) (by decide) <| z_goto (tgt := 28) (pc := 60) C dX9_says_60 (by decide) <| z_jmp (hY 1)) <| z_ic (pc := 55) C dX9_says_55 (by decide +kernel) <| z_zr C hr hk dX9_says_56)
  | b + 2 => exact fun _ _ _ h => h.elim
theorem dX11_within_0 : decode cX11_within 0 = .ok (.iload_n 0, 1) := by decide +kernel
theorem dX11_within_1 : decode cX11_within 1 = .ok (.iload_n 1, 1) := by decide +kernel
theorem dX11_within_2 : decode cX11_within 2 = .ok (.if_icmp .lt 12, 3) := by decide +kernel
theorem dX11_within_5 : decode cX11_within 5 = .ok (.iload_n 0, 1) := by decide +kernel
theorem dX11_within_6 : decode cX11_within 6 = .ok (.iload_n 2, 1) := by decide +kernel
theorem dX11_within_7 : decode cX11_within 7 = .ok (.if_icmp .gt 7, 3) := by decide +kernel
theorem dX11_within_10 : decode cX11_within 10 = .ok (.iconst 1, 1) := by decide +kernel
theorem dX11_within_11 : decode cX11_within 11 = .ok (.goto 4, 3) := by decide +kernel
theorem dX11_within_14 : decode cX11_within 14 = .ok (.iconst 0, 1) := by decide +kernel
theorem dX11_within_15 : decode cX11_within 15 = .ok (.ireturn, 1) := by decide +kernel
def P_X11_within : Nat → Nat
  | _ => 0
set_option maxRecDepth 100000 in
set_option maxHeartbeats 4000000 in
theorem S_X11_within : zSd yX11_within cX11_within 3 (some .boolean) { frames := 0, cells := 0, slots := 0, locals := 0 } T_X11_within := by
  refine zMet (pcs := P_X11_within) (F := F_X11_within) (by decide) rfl ?_
  intro p l e s m args below meth c D ids ad A Q Y C hr hk hY b
  match b with
  | 0 => exact (z_iln (pc := 0) C dX11_within_0 rfl <| z_iln (pc := 1) C dX11_within_1 rfl <| z_cmplt (tgt := 14) (pc := 2) C dX11_within_2 (by decide) (z_ic (pc := 14) C dX11_within_14 (by decide +kernel) <| z_zr C hr hk dX11_within_15) <| z_iln (pc := 5) C dX11_within_5 rfl <| z_iln (pc := 6) C dX11_within_6 rfl <| z_cmpgt (tgt := 14) (pc := 7) C dX11_within_7 (by decide) (z_ic (pc := 14) C dX11_within_14 (by decide +kernel) <| z_zr C hr hk dX11_within_15) <| z_ic (pc := 10) C dX11_within_10 (by decide +kernel) <| z_goto (tgt := 15) (pc := 11) C dX11_within_11 (by decide) <| z_zr C hr hk dX11_within_15)
  | b + 1 => exact fun _ _ _ h => h.elim
theorem dX9_isNumber_0 : decode cX9_isNumber 0 = .ok (.aload_n 0, 1) := by decide +kernel
theorem dX9_isNumber_1 : decode cX9_isNumber 1 = .ok (.getfield 51, 3) := by decide +kernel
theorem dX9_isNumber_4 : decode cX9_isNumber 4 = .ok (.iconst 2, 1) := by decide +kernel
theorem dX9_isNumber_5 : decode cX9_isNumber 5 = .ok (.if_icmp .ne 19, 3) := by decide +kernel
theorem dX9_isNumber_8 : decode cX9_isNumber 8 = .ok (.aload_n 0, 1) := by decide +kernel
theorem dX9_isNumber_9 : decode cX9_isNumber 9 = .ok (.getfield 38, 3) := by decide +kernel
theorem dX9_isNumber_12 : decode cX9_isNumber 12 = .ok (.iload_n 1, 1) := by decide +kernel
theorem dX9_isNumber_13 : decode cX9_isNumber 13 = .ok (.iload_n 2, 1) := by decide +kernel
theorem dX9_isNumber_14 : decode cX9_isNumber 14 = .ok (.invokestatic 96, 3) := by decide +kernel
theorem dX9_isNumber_17 : decode cX9_isNumber 17 = .ok (.ifCond .eq 7, 3) := by decide +kernel
theorem dX9_isNumber_20 : decode cX9_isNumber 20 = .ok (.iconst 1, 1) := by decide +kernel
theorem dX9_isNumber_21 : decode cX9_isNumber 21 = .ok (.goto 4, 3) := by decide +kernel
theorem dX9_isNumber_24 : decode cX9_isNumber 24 = .ok (.iconst 0, 1) := by decide +kernel
theorem dX9_isNumber_25 : decode cX9_isNumber 25 = .ok (.ireturn, 1) := by decide +kernel
def P_X9_isNumber : Nat → Nat
  | _ => 0
set_option maxRecDepth 100000 in
set_option maxHeartbeats 4000000 in
theorem S_X9_isNumber : zSd yX9_isNumber cX9_isNumber 3 (some .boolean) { frames := 1, cells := 0, slots := 0, locals := 22 } T_X9_isNumber := by
  refine zMet (pcs := P_X9_isNumber) (F := F_X9_isNumber) (by decide) rfl ?_
  intro p l e s m args below meth c D ids ad A Q Y C hr hk hY b
  match b with
  | 0 => exact (z_aln (pc := 0) C dX9_isNumber_0 rfl <| z_gf (pc := 1) C dX9_isNumber_1 fl_9_51 <| z_ic (pc := 4) C dX9_isNumber_4 (by decide +kernel) <| z_cmpne (tgt := 24) (pc := 5) C dX9_isNumber_5 (by decide) (z_ic (pc := 24) C dX9_isNumber_24 (by decide +kernel) <| z_zr C hr hk dX9_isNumber_25) <| z_aln (pc := 8) C dX9_isNumber_8 rfl <| z_gf (pc := 9) C dX9_isNumber_9 fl_9_38 <| z_iln (pc := 12) C dX9_isNumber_12 rfl <| z_iln (pc := 13) C dX9_isNumber_13 rfl <| z_cSN (pc := 14) C dX9_isNumber_14 S_X11_within (host := "EveryPew") (by decide +kernel) (zl2 w_309 w_1) w_310 ds_X11_within (zrm rfl rfl (by decide) (by decide)) <| z_ifeq (tgt := 24) (pc := 17) C dX9_isNumber_17 (by decide) (z_ic (pc := 24) C dX9_isNumber_24 (by decide +kernel) <| z_zr C hr hk dX9_isNumber_25) <| z_ic (pc := 20) C dX9_isNumber_20 (by decide +kernel) <| z_goto (tgt := 25) (pc := 21) C dX9_isNumber_21 (by decide) <| z_zr C hr hk dX9_isNumber_25)
  | b + 1 => exact fun _ _ _ h => h.elim
theorem dX9_takesNumber_0 : decode cX9_takesNumber 0 = .ok (.aload_n 0, 1) := by decide +kernel
theorem dX9_takesNumber_1 : decode cX9_takesNumber 1 = .ok (.invokevirtual 22, 3) := by decide +kernel
theorem dX9_takesNumber_4 : decode cX9_takesNumber 4 = .ok (.aload_n 0, 1) := by decide +kernel
theorem dX9_takesNumber_5 : decode cX9_takesNumber 5 = .ok (.iload_n 1, 1) := by decide +kernel
theorem dX9_takesNumber_6 : decode cX9_takesNumber 6 = .ok (.iload_n 2, 1) := by decide +kernel
theorem dX9_takesNumber_7 : decode cX9_takesNumber 7 = .ok (.invokevirtual 73, 3) := by decide +kernel
theorem dX9_takesNumber_10 : decode cX9_takesNumber 10 = .ok (.ireturn, 1) := by decide +kernel
def P_X9_takesNumber : Nat → Nat
  | _ => 0
set_option maxRecDepth 100000 in
set_option maxHeartbeats 4000000 in
theorem S_X9_takesNumber : zSd yX9_takesNumber cX9_takesNumber 3 (some .boolean) { frames := 2, cells := 0, slots := 0, locals := 44 } T_X9_takesNumber := by
  refine zMet (pcs := P_X9_takesNumber) (F := F_X9_takesNumber) (by decide) rfl ?_
  intro p l e s m args below meth c D ids ad A Q Y C hr hk hY b
  match b with
  | 0 => exact (z_aln (pc := 0) C dX9_takesNumber_0 rfl <| z_cV (pc := 1) C dX9_takesNumber_1 S_X9_advance rfl (zl4 w_365 w_367 wp_1 w_3) w_368 ds_X9_advance (zrm rfl rfl (by decide) (by decide)) <| z_aln (pc := 4) C dX9_takesNumber_4 rfl <| z_iln (pc := 5) C dX9_takesNumber_5 rfl <| z_iln (pc := 6) C dX9_takesNumber_6 rfl <| z_cV (pc := 7) C dX9_takesNumber_7 S_X9_isNumber rfl (zl4 w_433 w_435 wp_5 w_3) w_436 ds_X9_isNumber (zrm rfl rfl (by decide) (by decide)) <| z_zr C hr hk dX9_takesNumber_10)
  | b + 1 => exact fun _ _ _ h => h.elim
theorem dX9_takesBook_0 : decode cX9_takesBook 0 = .ok (.aload_n 0, 1) := by decide +kernel
theorem dX9_takesBook_1 : decode cX9_takesBook 1 = .ok (.iconst 0, 1) := by decide +kernel
theorem dX9_takesBook_2 : decode cX9_takesBook 2 = .ok (.iconst 1, 1) := by decide +kernel
theorem dX9_takesBook_3 : decode cX9_takesBook 3 = .ok (.invokevirtual 31, 3) := by decide +kernel
theorem dX9_takesBook_6 : decode cX9_takesBook 6 = .ok (.ifCond .ne 5, 3) := by decide +kernel
theorem dX9_takesBook_9 : decode cX9_takesBook 9 = .ok (.iconst 0, 1) := by decide +kernel
theorem dX9_takesBook_10 : decode cX9_takesBook 10 = .ok (.ireturn, 1) := by decide +kernel
theorem dX9_takesBook_11 : decode cX9_takesBook 11 = .ok (.aload_n 0, 1) := by decide +kernel
theorem dX9_takesBook_12 : decode cX9_takesBook 12 = .ok (.getfield 38, 3) := by decide +kernel
theorem dX9_takesBook_15 : decode cX9_takesBook 15 = .ok (.istore_n 2, 1) := by decide +kernel
theorem dX9_takesBook_16 : decode cX9_takesBook 16 = .ok (.iconst 0, 1) := by decide +kernel
theorem dX9_takesBook_17 : decode cX9_takesBook 17 = .ok (.istore_n 3, 1) := by decide +kernel
theorem dX9_takesBook_18 : decode cX9_takesBook 18 = .ok (.aload_n 0, 1) := by decide +kernel
theorem dX9_takesBook_19 : decode cX9_takesBook 19 = .ok (.invokevirtual 22, 3) := by decide +kernel
theorem dX9_takesBook_22 : decode cX9_takesBook 22 = .ok (.iconst 0, 1) := by decide +kernel
theorem dX9_takesBook_23 : decode cX9_takesBook 23 = .ok (.istore 4, 2) := by decide +kernel
theorem dX9_takesBook_25 : decode cX9_takesBook 25 = .ok (.iload 4, 2) := by decide +kernel
theorem dX9_takesBook_27 : decode cX9_takesBook 27 = .ok (.sipush 150, 3) := by decide +kernel
theorem dX9_takesBook_30 : decode cX9_takesBook 30 = .ok (.if_icmp .ge 42, 3) := by decide +kernel
theorem dX9_takesBook_33 : decode cX9_takesBook 33 = .ok (.aload_n 0, 1) := by decide +kernel
theorem dX9_takesBook_34 : decode cX9_takesBook 34 = .ok (.getfield 51, 3) := by decide +kernel
theorem dX9_takesBook_37 : decode cX9_takesBook 37 = .ok (.iconst 2, 1) := by decide +kernel
theorem dX9_takesBook_38 : decode cX9_takesBook 38 = .ok (.if_icmp .ne 34, 3) := by decide +kernel
theorem dX9_takesBook_41 : decode cX9_takesBook 41 = .ok (.aload_n 0, 1) := by decide +kernel
theorem dX9_takesBook_42 : decode cX9_takesBook 42 = .ok (.iconst 0, 1) := by decide +kernel
theorem dX9_takesBook_43 : decode cX9_takesBook 43 = .ok (.bipush 15, 2) := by decide +kernel
theorem dX9_takesBook_45 : decode cX9_takesBook 45 = .ok (.invokevirtual 73, 3) := by decide +kernel
theorem dX9_takesBook_48 : decode cX9_takesBook 48 = .ok (.ifCond .ne 5, 3) := by decide +kernel
theorem dX9_takesBook_51 : decode cX9_takesBook 51 = .ok (.iconst 0, 1) := by decide +kernel
theorem dX9_takesBook_52 : decode cX9_takesBook 52 = .ok (.ireturn, 1) := by decide +kernel
theorem dX9_takesBook_53 : decode cX9_takesBook 53 = .ok (.iload_n 3, 1) := by decide +kernel
theorem dX9_takesBook_54 : decode cX9_takesBook 54 = .ok (.iconst 1, 1) := by decide +kernel
theorem dX9_takesBook_55 : decode cX9_takesBook 55 = .ok (.aload_n 0, 1) := by decide +kernel
theorem dX9_takesBook_56 : decode cX9_takesBook 56 = .ok (.getfield 38, 3) := by decide +kernel
theorem dX9_takesBook_59 : decode cX9_takesBook 59 = .ok (.ishl, 1) := by decide +kernel
theorem dX9_takesBook_60 : decode cX9_takesBook 60 = .ok (.ior, 1) := by decide +kernel
theorem dX9_takesBook_61 : decode cX9_takesBook 61 = .ok (.istore_n 3, 1) := by decide +kernel
theorem dX9_takesBook_62 : decode cX9_takesBook 62 = .ok (.aload_n 0, 1) := by decide +kernel
theorem dX9_takesBook_63 : decode cX9_takesBook 63 = .ok (.invokevirtual 22, 3) := by decide +kernel
theorem dX9_takesBook_66 : decode cX9_takesBook 66 = .ok (.iinc 4 1, 3) := by decide +kernel
theorem dX9_takesBook_69 : decode cX9_takesBook 69 = .ok (.goto (-44), 3) := by decide +kernel
theorem dX9_takesBook_72 : decode cX9_takesBook 72 = .ok (.aload_n 1, 1) := by decide +kernel
theorem dX9_takesBook_73 : decode cX9_takesBook 73 = .ok (.getfield 76, 3) := by decide +kernel
theorem dX9_takesBook_76 : decode cX9_takesBook 76 = .ok (.iload_n 2, 1) := by decide +kernel
theorem dX9_takesBook_77 : decode cX9_takesBook 77 = .ok (.iload_n 3, 1) := by decide +kernel
theorem dX9_takesBook_78 : decode cX9_takesBook 78 = .ok (.iastore, 1) := by decide +kernel
theorem dX9_takesBook_79 : decode cX9_takesBook 79 = .ok (.aload_n 0, 1) := by decide +kernel
theorem dX9_takesBook_80 : decode cX9_takesBook 80 = .ok (.getfield 51, 3) := by decide +kernel
theorem dX9_takesBook_83 : decode cX9_takesBook 83 = .ok (.iconst 3, 1) := by decide +kernel
theorem dX9_takesBook_84 : decode cX9_takesBook 84 = .ok (.if_icmp .ne 7, 3) := by decide +kernel
theorem dX9_takesBook_87 : decode cX9_takesBook 87 = .ok (.iconst 1, 1) := by decide +kernel
theorem dX9_takesBook_88 : decode cX9_takesBook 88 = .ok (.goto 4, 3) := by decide +kernel
theorem dX9_takesBook_91 : decode cX9_takesBook 91 = .ok (.iconst 0, 1) := by decide +kernel
theorem dX9_takesBook_92 : decode cX9_takesBook 92 = .ok (.ireturn, 1) := by decide +kernel
def P_X9_takesBook : Nat → Nat
  | 1 => 25
  | 2 => 72
  | _ => 0
set_option maxRecDepth 100000 in
set_option maxHeartbeats 4000000 in
theorem S_X9_takesBook : zSd yX9_takesBook cX9_takesBook 5 (some .boolean) { frames := 3, cells := 0, slots := 0, locals := 66 } T_X9_takesBook := by
  refine zMet (pcs := P_X9_takesBook) (F := F_X9_takesBook) (by decide) rfl ?_
  intro p l e s m args below meth c D ids ad A Q Y C hr hk hY b
  match b with
  | 0 => exact (z_aln (pc := 0) C dX9_takesBook_0 rfl <| z_ic (pc := 1) C dX9_takesBook_1 (by decide +kernel) <| z_ic (pc := 2) C dX9_takesBook_2 (by decide +kernel) <| z_cV (pc := 3) C dX9_takesBook_3 S_X9_takesNumber rfl (zl4 w_429 w_431 wp_4 w_3) w_432 ds_X9_takesNumber (zrm rfl rfl (by decide) (by decide)) <| z_ifne (tgt := 11) (pc := 6) C dX9_takesBook_6 (by decide) (z_aln (pc := 11) C dX9_takesBook_11 rfl <| z_gf (pc := 12) C dX9_takesBook_12 fl_9_38 <| z_isn (pc := 15) C dX9_takesBook_15 rfl (by decide) <| z_ic (pc := 16) C dX9_takesBook_16 (by decide +kernel) <| z_isn (pc := 17) C dX9_takesBook_17 rfl (by decide) <| z_aln (pc := 18) C dX9_takesBook_18 rfl <| z_cV (pc := 19) C dX9_takesBook_19 S_X9_advance rfl (zl4 w_365 w_367 wp_1 w_3) w_368 ds_X9_advance (zrm rfl rfl (by decide) (by decide)) <| z_ic (pc := 22) C dX9_takesBook_22 (by decide +kernel) <| z_is (pc := 23) C dX9_takesBook_23 (by decide) <| z_jmp (hY 1)) <| z_ic (pc := 9) C dX9_takesBook_9 (by decide +kernel) <| z_zr C hr hk dX9_takesBook_10)
  | 1 => exact (z_il (pc := 25) C dX9_takesBook_25 <| z_si (pc := 27) C dX9_takesBook_27 (by decide +kernel) <| z_cmpge (tgt := 72) (pc := 30) C dX9_takesBook_30 (by decide) (z_jmp (hY 2)) <| z_aln (pc := 33) C dX9_takesBook_33 rfl <| z_gf (pc := 34) C dX9_takesBook_34 fl_9_51 <| z_ic (pc := 37) C dX9_takesBook_37 (by decide +kernel) <| z_cmpne (tgt := 72) (pc := 38) C dX9_takesBook_38 (by decide) (z_jmp (hY 2)) <| z_aln (pc := 41) C dX9_takesBook_41 rfl <| z_ic (pc := 42) C dX9_takesBook_42 (by decide +kernel) <| z_bi (pc := 43) C dX9_takesBook_43 (by decide +kernel) <| z_cV (pc := 45) C dX9_takesBook_45 S_X9_isNumber rfl (zl4 w_433 w_435 wp_5 w_3) w_436 ds_X9_isNumber (zrm rfl rfl (by decide) (by decide)) <| z_ifne (tgt := 53) (pc := 48) C dX9_takesBook_48 (by decide) (z_iln (pc := 53) C dX9_takesBook_53 rfl <| z_ic (pc := 54) C dX9_takesBook_54 (by decide +kernel) <| z_aln (pc := 55) C dX9_takesBook_55 rfl <| z_gf (pc := 56) C dX9_takesBook_56 fl_9_38 <| z_ishl (pc := 59) C dX9_takesBook_59 <| z_ior (pc := 60) C dX9_takesBook_60 <| z_isn (pc := 61) C dX9_takesBook_61 rfl (by decide) <| z_aln (pc := 62) C dX9_takesBook_62 rfl <| z_cV (pc := 63) C dX9_takesBook_63 S_X9_advance rfl (zl4 w_365 w_367 wp_1 w_3) w_368 ds_X9_advance (zrm rfl rfl (by decide) (by decide)) <| z_inc (pc := 66) C dX9_takesBook_66 (by decide +kernel) (by decide) <| z_goto (tgt := 25) (pc := 69) C dX9_takesBook_69 (by decide) <| z_jmp (hY 1)) <| z_ic (pc := 51) C dX9_takesBook_51 (by decide +kernel) <| z_zr C hr hk dX9_takesBook_52)
  | 2 => exact (z_aln (pc := 72) C dX9_takesBook_72 rfl <| z_gf (pc := 73) C dX9_takesBook_73 fl_9_76 <| z_iln (pc := 76) C dX9_takesBook_76 rfl <| z_iln (pc := 77) C dX9_takesBook_77 rfl <| z_iast (pc := 78) C dX9_takesBook_78 <| z_aln (pc := 79) C dX9_takesBook_79 rfl <| z_gf (pc := 80) C dX9_takesBook_80 fl_9_51 <| z_ic (pc := 83) C dX9_takesBook_83 (by decide +kernel) <| z_cmpne (tgt := 91) (pc := 84) C dX9_takesBook_84 (by decide) (z_ic (pc := 91) C dX9_takesBook_91 (by decide +kernel) <| z_zr C hr hk dX9_takesBook_92) <| z_ic (pc := 87) C dX9_takesBook_87 (by decide +kernel) <| z_goto (tgt := 92) (pc := 88) C dX9_takesBook_88 (by decide) <| z_zr C hr hk dX9_takesBook_92)
  | b + 3 => exact fun _ _ _ h => h.elim
theorem dX9_takesStop_0 : decode cX9_takesStop 0 = .ok (.aload_n 0, 1) := by decide +kernel
theorem dX9_takesStop_1 : decode cX9_takesStop 1 = .ok (.invokevirtual 22, 3) := by decide +kernel
theorem dX9_takesStop_4 : decode cX9_takesStop 4 = .ok (.aload_n 0, 1) := by decide +kernel
theorem dX9_takesStop_5 : decode cX9_takesStop 5 = .ok (.getfield 51, 3) := by decide +kernel
theorem dX9_takesStop_8 : decode cX9_takesStop 8 = .ok (.iconst 3, 1) := by decide +kernel
theorem dX9_takesStop_9 : decode cX9_takesStop 9 = .ok (.if_icmp .ne 7, 3) := by decide +kernel
theorem dX9_takesStop_12 : decode cX9_takesStop 12 = .ok (.iconst 1, 1) := by decide +kernel
theorem dX9_takesStop_13 : decode cX9_takesStop 13 = .ok (.goto 4, 3) := by decide +kernel
theorem dX9_takesStop_16 : decode cX9_takesStop 16 = .ok (.iconst 0, 1) := by decide +kernel
theorem dX9_takesStop_17 : decode cX9_takesStop 17 = .ok (.ireturn, 1) := by decide +kernel
def P_X9_takesStop : Nat → Nat
  | _ => 0
set_option maxRecDepth 100000 in
set_option maxHeartbeats 4000000 in
theorem S_X9_takesStop : zSd yX9_takesStop cX9_takesStop 1 (some .boolean) { frames := 2, cells := 0, slots := 0, locals := 43 } T_X9_takesStop := by
  refine zMet (pcs := P_X9_takesStop) (F := F_X9_takesStop) (by decide) rfl ?_
  intro p l e s m args below meth c D ids ad A Q Y C hr hk hY b
  match b with
  | 0 => exact (z_aln (pc := 0) C dX9_takesStop_0 rfl <| z_cV (pc := 1) C dX9_takesStop_1 S_X9_advance rfl (zl4 w_365 w_367 wp_1 w_3) w_368 ds_X9_advance (zrm rfl rfl (by decide) (by decide)) <| z_aln (pc := 4) C dX9_takesStop_4 rfl <| z_gf (pc := 5) C dX9_takesStop_5 fl_9_51 <| z_ic (pc := 8) C dX9_takesStop_8 (by decide +kernel) <| z_cmpne (tgt := 16) (pc := 9) C dX9_takesStop_9 (by decide) (z_ic (pc := 16) C dX9_takesStop_16 (by decide +kernel) <| z_zr C hr hk dX9_takesStop_17) <| z_ic (pc := 12) C dX9_takesStop_12 (by decide +kernel) <| z_goto (tgt := 17) (pc := 13) C dX9_takesStop_13 (by decide) <| z_zr C hr hk dX9_takesStop_17)
  | b + 1 => exact fun _ _ _ h => h.elim
theorem dX9_takesCold_0 : decode cX9_takesCold 0 = .ok (.aload_n 0, 1) := by decide +kernel
theorem dX9_takesCold_1 : decode cX9_takesCold 1 = .ok (.iconst 0, 1) := by decide +kernel
theorem dX9_takesCold_2 : decode cX9_takesCold 2 = .ok (.aload_n 1, 1) := by decide +kernel
theorem dX9_takesCold_3 : decode cX9_takesCold 3 = .ok (.getfield 79, 3) := by decide +kernel
theorem dX9_takesCold_6 : decode cX9_takesCold 6 = .ok (.iconst 1, 1) := by decide +kernel
theorem dX9_takesCold_7 : decode cX9_takesCold 7 = .ok (.isub, 1) := by decide +kernel
theorem dX9_takesCold_8 : decode cX9_takesCold 8 = .ok (.invokevirtual 31, 3) := by decide +kernel
theorem dX9_takesCold_11 : decode cX9_takesCold 11 = .ok (.ifCond .ne 5, 3) := by decide +kernel
theorem dX9_takesCold_14 : decode cX9_takesCold 14 = .ok (.iconst 0, 1) := by decide +kernel
theorem dX9_takesCold_15 : decode cX9_takesCold 15 = .ok (.ireturn, 1) := by decide +kernel
theorem dX9_takesCold_16 : decode cX9_takesCold 16 = .ok (.aload_n 1, 1) := by decide +kernel
theorem dX9_takesCold_17 : decode cX9_takesCold 17 = .ok (.dup, 1) := by decide +kernel
theorem dX9_takesCold_18 : decode cX9_takesCold 18 = .ok (.getfield 93, 3) := by decide +kernel
theorem dX9_takesCold_21 : decode cX9_takesCold 21 = .ok (.iconst 1, 1) := by decide +kernel
theorem dX9_takesCold_22 : decode cX9_takesCold 22 = .ok (.aload_n 0, 1) := by decide +kernel
theorem dX9_takesCold_23 : decode cX9_takesCold 23 = .ok (.getfield 38, 3) := by decide +kernel
theorem dX9_takesCold_26 : decode cX9_takesCold 26 = .ok (.ishl, 1) := by decide +kernel
theorem dX9_takesCold_27 : decode cX9_takesCold 27 = .ok (.ior, 1) := by decide +kernel
theorem dX9_takesCold_28 : decode cX9_takesCold 28 = .ok (.putfield 93, 3) := by decide +kernel
theorem dX9_takesCold_31 : decode cX9_takesCold 31 = .ok (.aload_n 0, 1) := by decide +kernel
theorem dX9_takesCold_32 : decode cX9_takesCold 32 = .ok (.invokevirtual 47, 3) := by decide +kernel
theorem dX9_takesCold_35 : decode cX9_takesCold 35 = .ok (.ireturn, 1) := by decide +kernel
def P_X9_takesCold : Nat → Nat
  | _ => 0
set_option maxRecDepth 100000 in
set_option maxHeartbeats 4000000 in
theorem S_X9_takesCold : zSd yX9_takesCold cX9_takesCold 2 (some .boolean) { frames := 3, cells := 0, slots := 0, locals := 66 } T_X9_takesCold := by
  refine zMet (pcs := P_X9_takesCold) (F := F_X9_takesCold) (by decide) rfl ?_
  intro p l e s m args below meth c D ids ad A Q Y C hr hk hY b
  match b with
  | 0 => exact (z_aln (pc := 0) C dX9_takesCold_0 rfl <| z_ic (pc := 1) C dX9_takesCold_1 (by decide +kernel) <| z_aln (pc := 2) C dX9_takesCold_2 rfl <| z_gf (pc := 3) C dX9_takesCold_3 fl_9_79 <| z_ic (pc := 6) C dX9_takesCold_6 (by decide +kernel) <| z_isub (pc := 7) C dX9_takesCold_7 <| z_cV (pc := 8) C dX9_takesCold_8 S_X9_takesNumber rfl (zl4 w_429 w_431 wp_4 w_3) w_432 ds_X9_takesNumber (zrm rfl rfl (by decide) (by decide)) <| z_ifne (tgt := 16) (pc := 11) C dX9_takesCold_11 (by decide) (z_aln (pc := 16) C dX9_takesCold_16 rfl <| z_dup (pc := 17) C dX9_takesCold_17 <| z_gf (pc := 18) C dX9_takesCold_18 fl_9_93 <| z_ic (pc := 21) C dX9_takesCold_21 (by decide +kernel) <| z_aln (pc := 22) C dX9_takesCold_22 rfl <| z_gf (pc := 23) C dX9_takesCold_23 fl_9_38 <| z_ishl (pc := 26) C dX9_takesCold_26 <| z_ior (pc := 27) C dX9_takesCold_27 <| z_pf (pc := 28) C dX9_takesCold_28 fp_9_93 <| z_aln (pc := 31) C dX9_takesCold_31 rfl <| z_cV (pc := 32) C dX9_takesCold_32 S_X9_takesStop rfl (zl4 w_439 w_441 wp_6 w_3) w_442 ds_X9_takesStop (zrm rfl rfl (by decide) (by decide)) <| z_zr C hr hk dX9_takesCold_35) <| z_ic (pc := 14) C dX9_takesCold_14 (by decide +kernel) <| z_zr C hr hk dX9_takesCold_15)
  | b + 1 => exact fun _ _ _ h => h.elim
theorem dX11_isPewOf_0 : decode cX11_isPewOf 0 = .ok (.iload_n 0, 1) := by decide +kernel
theorem dX11_isPewOf_1 : decode cX11_isPewOf 1 = .ok (.iconst 0, 1) := by decide +kernel
theorem dX11_isPewOf_2 : decode cX11_isPewOf 2 = .ok (.bipush 9, 2) := by decide +kernel
theorem dX11_isPewOf_4 : decode cX11_isPewOf 4 = .ok (.invokestatic 66, 3) := by decide +kernel
theorem dX11_isPewOf_7 : decode cX11_isPewOf 7 = .ok (.ifCond .eq 14, 3) := by decide +kernel
theorem dX11_isPewOf_10 : decode cX11_isPewOf 10 = .ok (.iload_n 0, 1) := by decide +kernel
theorem dX11_isPewOf_11 : decode cX11_isPewOf 11 = .ok (.iconst 2, 1) := by decide +kernel
theorem dX11_isPewOf_12 : decode cX11_isPewOf 12 = .ok (.irem, 1) := by decide +kernel
theorem dX11_isPewOf_13 : decode cX11_isPewOf 13 = .ok (.iload_n 1, 1) := by decide +kernel
theorem dX11_isPewOf_14 : decode cX11_isPewOf 14 = .ok (.if_icmp .ne 7, 3) := by decide +kernel
theorem dX11_isPewOf_17 : decode cX11_isPewOf 17 = .ok (.iconst 1, 1) := by decide +kernel
theorem dX11_isPewOf_18 : decode cX11_isPewOf 18 = .ok (.goto 4, 3) := by decide +kernel
theorem dX11_isPewOf_21 : decode cX11_isPewOf 21 = .ok (.iconst 0, 1) := by decide +kernel
theorem dX11_isPewOf_22 : decode cX11_isPewOf 22 = .ok (.ireturn, 1) := by decide +kernel
def P_X11_isPewOf : Nat → Nat
  | _ => 0
set_option maxRecDepth 100000 in
set_option maxHeartbeats 4000000 in
theorem S_X11_isPewOf : zSd yX11_isPewOf cX11_isPewOf 2 (some .boolean) { frames := 1, cells := 0, slots := 0, locals := 22 } T_X11_isPewOf := by
  refine zMet (pcs := P_X11_isPewOf) (F := F_X11_isPewOf) (by decide) rfl ?_
  intro p l e s m args below meth c D ids ad A Q Y C hr hk hY b
  match b with
  | 0 => exact (z_iln (pc := 0) C dX11_isPewOf_0 rfl <| z_ic (pc := 1) C dX11_isPewOf_1 (by decide +kernel) <| z_bi (pc := 2) C dX11_isPewOf_2 (by decide +kernel) <| z_cS (pc := 4) C dX11_isPewOf_4 S_X11_within (zl3 w_308 w_309 w_1) w_310 ds_X11_within (zrm rfl rfl (by decide) (by decide)) <| z_ifeq (tgt := 21) (pc := 7) C dX11_isPewOf_7 (by decide) (z_ic (pc := 21) C dX11_isPewOf_21 (by decide +kernel) <| z_zr C hr hk dX11_isPewOf_22) <| z_iln (pc := 10) C dX11_isPewOf_10 rfl <| z_ic (pc := 11) C dX11_isPewOf_11 (by decide +kernel) <| z_irem (pc := 12) C dX11_isPewOf_12 <| z_iln (pc := 13) C dX11_isPewOf_13 rfl <| z_cmpne (tgt := 21) (pc := 14) C dX11_isPewOf_14 (by decide) (z_ic (pc := 21) C dX11_isPewOf_21 (by decide +kernel) <| z_zr C hr hk dX11_isPewOf_22) <| z_ic (pc := 17) C dX11_isPewOf_17 (by decide +kernel) <| z_goto (tgt := 22) (pc := 18) C dX11_isPewOf_18 (by decide) <| z_zr C hr hk dX11_isPewOf_22)
  | b + 1 => exact fun _ _ _ h => h.elim
theorem dX9_takesFamily_0 : decode cX9_takesFamily 0 = .ok (.aload_n 1, 1) := by decide +kernel
theorem dX9_takesFamily_1 : decode cX9_takesFamily 1 = .ok (.getfield 79, 3) := by decide +kernel
theorem dX9_takesFamily_4 : decode cX9_takesFamily 4 = .ok (.bipush 7, 2) := by decide +kernel
theorem dX9_takesFamily_6 : decode cX9_takesFamily 6 = .ok (.if_icmp .ge 12, 3) := by decide +kernel
theorem dX9_takesFamily_9 : decode cX9_takesFamily 9 = .ok (.aload_n 0, 1) := by decide +kernel
theorem dX9_takesFamily_10 : decode cX9_takesFamily 10 = .ok (.iconst 0, 1) := by decide +kernel
theorem dX9_takesFamily_11 : decode cX9_takesFamily 11 = .ok (.iconst 5, 1) := by decide +kernel
theorem dX9_takesFamily_12 : decode cX9_takesFamily 12 = .ok (.invokevirtual 31, 3) := by decide +kernel
theorem dX9_takesFamily_15 : decode cX9_takesFamily 15 = .ok (.ifCond .ne 5, 3) := by decide +kernel
theorem dX9_takesFamily_18 : decode cX9_takesFamily 18 = .ok (.iconst 0, 1) := by decide +kernel
theorem dX9_takesFamily_19 : decode cX9_takesFamily 19 = .ok (.ireturn, 1) := by decide +kernel
theorem dX9_takesFamily_20 : decode cX9_takesFamily 20 = .ok (.aload_n 0, 1) := by decide +kernel
theorem dX9_takesFamily_21 : decode cX9_takesFamily 21 = .ok (.getfield 38, 3) := by decide +kernel
theorem dX9_takesFamily_24 : decode cX9_takesFamily 24 = .ok (.istore_n 2, 1) := by decide +kernel
theorem dX9_takesFamily_25 : decode cX9_takesFamily 25 = .ok (.aload_n 0, 1) := by decide +kernel
theorem dX9_takesFamily_26 : decode cX9_takesFamily 26 = .ok (.iconst 0, 1) := by decide +kernel
theorem dX9_takesFamily_27 : decode cX9_takesFamily 27 = .ok (.iconst 1, 1) := by decide +kernel
theorem dX9_takesFamily_28 : decode cX9_takesFamily 28 = .ok (.invokevirtual 31, 3) := by decide +kernel
theorem dX9_takesFamily_31 : decode cX9_takesFamily 31 = .ok (.ifCond .ne 5, 3) := by decide +kernel
theorem dX9_takesFamily_34 : decode cX9_takesFamily 34 = .ok (.iconst 0, 1) := by decide +kernel
theorem dX9_takesFamily_35 : decode cX9_takesFamily 35 = .ok (.ireturn, 1) := by decide +kernel
theorem dX9_takesFamily_36 : decode cX9_takesFamily 36 = .ok (.aload_n 0, 1) := by decide +kernel
theorem dX9_takesFamily_37 : decode cX9_takesFamily 37 = .ok (.getfield 38, 3) := by decide +kernel
theorem dX9_takesFamily_40 : decode cX9_takesFamily 40 = .ok (.istore_n 3, 1) := by decide +kernel
theorem dX9_takesFamily_41 : decode cX9_takesFamily 41 = .ok (.aload_n 0, 1) := by decide +kernel
theorem dX9_takesFamily_42 : decode cX9_takesFamily 42 = .ok (.iconst 1, 1) := by decide +kernel
theorem dX9_takesFamily_43 : decode cX9_takesFamily 43 = .ok (.bipush 9, 2) := by decide +kernel
theorem dX9_takesFamily_45 : decode cX9_takesFamily 45 = .ok (.invokevirtual 31, 3) := by decide +kernel
theorem dX9_takesFamily_48 : decode cX9_takesFamily 48 = .ok (.ifCond .ne 5, 3) := by decide +kernel
theorem dX9_takesFamily_51 : decode cX9_takesFamily 51 = .ok (.iconst 0, 1) := by decide +kernel
theorem dX9_takesFamily_52 : decode cX9_takesFamily 52 = .ok (.ireturn, 1) := by decide +kernel
theorem dX9_takesFamily_53 : decode cX9_takesFamily 53 = .ok (.aload_n 0, 1) := by decide +kernel
theorem dX9_takesFamily_54 : decode cX9_takesFamily 54 = .ok (.getfield 38, 3) := by decide +kernel
theorem dX9_takesFamily_57 : decode cX9_takesFamily 57 = .ok (.istore 4, 2) := by decide +kernel
theorem dX9_takesFamily_59 : decode cX9_takesFamily 59 = .ok (.aload_n 0, 1) := by decide +kernel
theorem dX9_takesFamily_60 : decode cX9_takesFamily 60 = .ok (.iconst 1, 1) := by decide +kernel
theorem dX9_takesFamily_61 : decode cX9_takesFamily 61 = .ok (.bipush 20, 2) := by decide +kernel
theorem dX9_takesFamily_63 : decode cX9_takesFamily 63 = .ok (.invokevirtual 31, 3) := by decide +kernel
theorem dX9_takesFamily_66 : decode cX9_takesFamily 66 = .ok (.ifCond .ne 5, 3) := by decide +kernel
theorem dX9_takesFamily_69 : decode cX9_takesFamily 69 = .ok (.iconst 0, 1) := by decide +kernel
theorem dX9_takesFamily_70 : decode cX9_takesFamily 70 = .ok (.ireturn, 1) := by decide +kernel
theorem dX9_takesFamily_71 : decode cX9_takesFamily 71 = .ok (.aload_n 0, 1) := by decide +kernel
theorem dX9_takesFamily_72 : decode cX9_takesFamily 72 = .ok (.getfield 38, 3) := by decide +kernel
theorem dX9_takesFamily_75 : decode cX9_takesFamily 75 = .ok (.istore 5, 2) := by decide +kernel
theorem dX9_takesFamily_77 : decode cX9_takesFamily 77 = .ok (.aload_n 0, 1) := by decide +kernel
theorem dX9_takesFamily_78 : decode cX9_takesFamily 78 = .ok (.iconst 0, 1) := by decide +kernel
theorem dX9_takesFamily_79 : decode cX9_takesFamily 79 = .ok (.bipush 9, 2) := by decide +kernel
theorem dX9_takesFamily_81 : decode cX9_takesFamily 81 = .ok (.invokevirtual 31, 3) := by decide +kernel
theorem dX9_takesFamily_84 : decode cX9_takesFamily 84 = .ok (.ifCond .eq 25, 3) := by decide +kernel
theorem dX9_takesFamily_87 : decode cX9_takesFamily 87 = .ok (.aload_n 0, 1) := by decide +kernel
theorem dX9_takesFamily_88 : decode cX9_takesFamily 88 = .ok (.getfield 38, 3) := by decide +kernel
theorem dX9_takesFamily_91 : decode cX9_takesFamily 91 = .ok (.iload_n 3, 1) := by decide +kernel
theorem dX9_takesFamily_92 : decode cX9_takesFamily 92 = .ok (.invokestatic 82, 3) := by decide +kernel
theorem dX9_takesFamily_95 : decode cX9_takesFamily 95 = .ok (.ifCond .eq 14, 3) := by decide +kernel
theorem dX9_takesFamily_98 : decode cX9_takesFamily 98 = .ok (.aload_n 1, 1) := by decide +kernel
theorem dX9_takesFamily_99 : decode cX9_takesFamily 99 = .ok (.aload_n 0, 1) := by decide +kernel
theorem dX9_takesFamily_100 : decode cX9_takesFamily 100 = .ok (.getfield 38, 3) := by decide +kernel
theorem dX9_takesFamily_103 : decode cX9_takesFamily 103 = .ok (.invokevirtual 85, 3) := by decide +kernel
theorem dX9_takesFamily_106 : decode cX9_takesFamily 106 = .ok (.ifCond .eq 5, 3) := by decide +kernel
theorem dX9_takesFamily_109 : decode cX9_takesFamily 109 = .ok (.iconst 0, 1) := by decide +kernel
theorem dX9_takesFamily_110 : decode cX9_takesFamily 110 = .ok (.ireturn, 1) := by decide +kernel
theorem dX9_takesFamily_111 : decode cX9_takesFamily 111 = .ok (.aload_n 1, 1) := by decide +kernel
theorem dX9_takesFamily_112 : decode cX9_takesFamily 112 = .ok (.iload_n 2, 1) := by decide +kernel
theorem dX9_takesFamily_113 : decode cX9_takesFamily 113 = .ok (.iload_n 3, 1) := by decide +kernel
theorem dX9_takesFamily_114 : decode cX9_takesFamily 114 = .ok (.iload 4, 2) := by decide +kernel
theorem dX9_takesFamily_116 : decode cX9_takesFamily 116 = .ok (.iload 5, 2) := by decide +kernel
theorem dX9_takesFamily_118 : decode cX9_takesFamily 118 = .ok (.aload_n 0, 1) := by decide +kernel
theorem dX9_takesFamily_119 : decode cX9_takesFamily 119 = .ok (.getfield 38, 3) := by decide +kernel
theorem dX9_takesFamily_122 : decode cX9_takesFamily 122 = .ok (.invokevirtual 89, 3) := by decide +kernel
theorem dX9_takesFamily_125 : decode cX9_takesFamily 125 = .ok (.pop, 1) := by decide +kernel
theorem dX9_takesFamily_126 : decode cX9_takesFamily 126 = .ok (.aload_n 0, 1) := by decide +kernel
theorem dX9_takesFamily_127 : decode cX9_takesFamily 127 = .ok (.invokevirtual 47, 3) := by decide +kernel
theorem dX9_takesFamily_130 : decode cX9_takesFamily 130 = .ok (.ireturn, 1) := by decide +kernel
def P_X9_takesFamily : Nat → Nat
  | _ => 0
set_option maxRecDepth 100000 in
set_option maxHeartbeats 4000000 in
theorem S_X9_takesFamily : zSd yX9_takesFamily cX9_takesFamily 6 (some .boolean) { frames := 3, cells := 0, slots := 0, locals := 66 } T_X9_takesFamily := by
  refine zMet (pcs := P_X9_takesFamily) (F := F_X9_takesFamily) (by decide) rfl ?_
  intro p l e s m args below meth c D ids ad A Q Y C hr hk hY b
  match b with
  | 0 => exact (z_aln (pc := 0) C dX9_takesFamily_0 rfl <| z_gf (pc := 1) C dX9_takesFamily_1 fl_9_79 <| z_bi (pc := 4) C dX9_takesFamily_4 (by decide +kernel) <| z_cmpge (tgt := 18) (pc := 6) C dX9_takesFamily_6 (by decide) (z_ic (pc := 18) C dX9_takesFamily_18 (by decide +kernel) <| z_zr C hr hk dX9_takesFamily_19) <| z_aln (pc := 9) C dX9_takesFamily_9 rfl <| z_ic (pc := 10) C dX9_takesFamily_10 (by decide +kernel) <| z_ic (pc := 11) C dX9_takesFamily_11 (by decide +kernel) <| z_cV (pc := 12) C dX9_takesFamily_12 S_X9_takesNumber rfl (zl4 w_429 w_431 wp_4 w_3) w_432 ds_X9_takesNumber (zrm rfl rfl (by decide) (by decide)) <| z_ifne (tgt := 20) (pc := 15) C dX9_takesFamily_15 (by decide) (z_aln (pc := 20) C dX9_takesFamily_20 rfl <| z_gf (pc := 21) C dX9_takesFamily_21 fl_9_38 <| z_isn (pc := 24) C dX9_takesFamily_24 rfl (by decide) <| z_aln (pc := 25) C dX9_takesFamily_25 rfl <| z_ic (pc := 26) C dX9_takesFamily_26 (by decide +kernel) <| z_ic (pc := 27) C dX9_takesFamily_27 (by decide +kernel) <| z_cV (pc := 28) C dX9_takesFamily_28 S_X9_takesNumber rfl (zl4 w_429 w_431 wp_4 w_3) w_432 ds_X9_takesNumber (zrm rfl rfl (by decide) (by decide)) <| z_ifne (tgt := 36) (pc := 31) C dX9_takesFamily_31 (by decide) (z_aln (pc := 36) C dX9_takesFamily_36 rfl <| z_gf (pc := 37) C dX9_takesFamily_37 fl_9_38 <| z_isn (pc := 40) C dX9_takesFamily_40 rfl (by decide) <| z_aln (pc := 41) C dX9_takesFamily_41 rfl <| z_ic (pc := 42) C dX9_takesFamily_42 (by decide +kernel) <| z_bi (pc := 43) C dX9_takesFamily_43 (by decide +kernel) <| z_cV (pc := 45) C dX9_takesFamily_45 S_X9_takesNumber rfl (zl4 w_429 w_431 wp_4 w_3) w_432 ds_X9_takesNumber (zrm rfl rfl (by decide) (by decide)) <| z_ifne (tgt := 53) (pc := 48) C dX9_takesFamily_48 (by decide) (z_aln (pc := 53) C dX9_takesFamily_53 rfl <| z_gf (pc := 54) C dX9_takesFamily_54 fl_9_38 <| z_is (pc := 57) C dX9_takesFamily_57 (by decide) <| z_aln (pc := 59) C dX9_takesFamily_59 rfl <| z_ic (pc := 60) C dX9_takesFamily_60 (by decide +kernel) <| z_bi (pc := 61) C dX9_takesFamily_61 (by decide +kernel) <| z_cV (pc := 63) C dX9_takesFamily_63 S_X9_takesNumber rfl (zl4 w_429 w_431 wp_4 w_3) w_432 ds_X9_takesNumber (zrm rfl rfl (by decide) (by decide)) <| z_ifne (tgt := 71) (pc := 66) C dX9_takesFamily_66 (by decide) (z_aln (pc := 71) C dX9_takesFamily_71 rfl <| z_gf (pc := 72) C dX9_takesFamily_72 fl_9_38 <| z_is (pc := 75) C dX9_takesFamily_75 (by decide) <| z_aln (pc := 77) C dX9_takesFamily_77 rfl <| z_ic (pc := 78) C dX9_takesFamily_78 (by decide +kernel) <| z_bi (pc := 79) C dX9_takesFamily_79 (by decide +kernel) <| z_cV (pc := 81) C dX9_takesFamily_81 S_X9_takesNumber rfl (zl4 w_429 w_431 wp_4 w_3) w_432 ds_X9_takesNumber (zrm rfl rfl (by decide) (by decide)) <| z_ifeq (tgt := 109) (pc := 84) C dX9_takesFamily_84 (by decide) (z_ic (pc := 109) C dX9_takesFamily_109 (by decide +kernel) <| z_zr C hr hk dX9_takesFamily_110) <| z_aln (pc := 87) C dX9_takesFamily_87 rfl <| z_gf (pc := 88) C dX9_takesFamily_88 fl_9_38 <| z_iln (pc := 91) C dX9_takesFamily_91 rfl <| z_cSN (pc := 92) C dX9_takesFamily_92 S_X11_isPewOf (host := "EveryPew") (by decide +kernel) (zl2 w_335 w_1) w_336 ds_X11_isPewOf (zrm rfl rfl (by decide) (by decide)) <| z_ifeq (tgt := 109) (pc := 95) C dX9_takesFamily_95 (by decide) (z_ic (pc := 109) C dX9_takesFamily_109 (by decide +kernel) <| z_zr C hr hk dX9_takesFamily_110) <| z_aln (pc := 98) C dX9_takesFamily_98 rfl <| z_aln (pc := 99) C dX9_takesFamily_99 rfl <| z_gf (pc := 100) C dX9_takesFamily_100 fl_9_38 <| z_cV (pc := 103) C dX9_takesFamily_103 S_X1_isTaken rfl (zl4 w_458 w_338 w_339 w_2) w_340 ds_X1_isTaken (zrm rfl rfl (by decide) (by decide)) <| z_ifeq (tgt := 111) (pc := 106) C dX9_takesFamily_106 (by decide) (z_aln (pc := 111) C dX9_takesFamily_111 rfl <| z_iln (pc := 112) C dX9_takesFamily_112 rfl <| z_iln (pc := 113) C dX9_takesFamily_113 rfl <| z_il (pc := 114) C dX9_takesFamily_114 <| z_il (pc := 116) C dX9_takesFamily_116 <| z_aln (pc := 118) C dX9_takesFamily_118 rfl <| z_gf (pc := 119) C dX9_takesFamily_119 fl_9_38 <| z_cV (pc := 122) C dX9_takesFamily_122 S_X1_admit rfl (zl4 w_459 w_342 w_343 w_2) w_344 ds_X1_admit (zrm rfl rfl (by decide) (by decide)) <| z_pop (pc := 125) C dX9_takesFamily_125 <| z_aln (pc := 126) C dX9_takesFamily_126 rfl <| z_cV (pc := 127) C dX9_takesFamily_127 S_X9_takesStop rfl (zl4 w_439 w_441 wp_6 w_3) w_442 ds_X9_takesStop (zrm rfl rfl (by decide) (by decide)) <| z_zr C hr hk dX9_takesFamily_130) <| z_ic (pc := 109) C dX9_takesFamily_109 (by decide +kernel) <| z_zr C hr hk dX9_takesFamily_110) <| z_ic (pc := 69) C dX9_takesFamily_69 (by decide +kernel) <| z_zr C hr hk dX9_takesFamily_70) <| z_ic (pc := 51) C dX9_takesFamily_51 (by decide +kernel) <| z_zr C hr hk dX9_takesFamily_52) <| z_ic (pc := 34) C dX9_takesFamily_34 (by decide +kernel) <| z_zr C hr hk dX9_takesFamily_35) <| z_ic (pc := 18) C dX9_takesFamily_18 (by decide +kernel) <| z_zr C hr hk dX9_takesFamily_19)
  | b + 1 => exact fun _ _ _ h => h.elim
theorem dX9_takesItem_0 : decode cX9_takesItem 0 = .ok (.aload_n 0, 1) := by decide +kernel
theorem dX9_takesItem_1 : decode cX9_takesItem 1 = .ok (.ldc 58, 2) := by decide +kernel
theorem dX9_takesItem_3 : decode cX9_takesItem 3 = .ok (.invokevirtual 27, 3) := by decide +kernel
theorem dX9_takesItem_6 : decode cX9_takesItem 6 = .ok (.ifCond .eq 9, 3) := by decide +kernel
theorem dX9_takesItem_9 : decode cX9_takesItem 9 = .ok (.aload_n 0, 1) := by decide +kernel
theorem dX9_takesItem_10 : decode cX9_takesItem 10 = .ok (.aload_n 1, 1) := by decide +kernel
theorem dX9_takesItem_11 : decode cX9_takesItem 11 = .ok (.invokevirtual 60, 3) := by decide +kernel
theorem dX9_takesItem_14 : decode cX9_takesItem 14 = .ok (.ireturn, 1) := by decide +kernel
theorem dX9_takesItem_15 : decode cX9_takesItem 15 = .ok (.aload_n 0, 1) := by decide +kernel
theorem dX9_takesItem_16 : decode cX9_takesItem 16 = .ok (.ldc 63, 2) := by decide +kernel
theorem dX9_takesItem_18 : decode cX9_takesItem 18 = .ok (.invokevirtual 27, 3) := by decide +kernel
theorem dX9_takesItem_21 : decode cX9_takesItem 21 = .ok (.ifCond .eq 9, 3) := by decide +kernel
theorem dX9_takesItem_24 : decode cX9_takesItem 24 = .ok (.aload_n 0, 1) := by decide +kernel
theorem dX9_takesItem_25 : decode cX9_takesItem 25 = .ok (.aload_n 1, 1) := by decide +kernel
theorem dX9_takesItem_26 : decode cX9_takesItem 26 = .ok (.invokevirtual 65, 3) := by decide +kernel
theorem dX9_takesItem_29 : decode cX9_takesItem 29 = .ok (.ireturn, 1) := by decide +kernel
theorem dX9_takesItem_30 : decode cX9_takesItem 30 = .ok (.aload_n 0, 1) := by decide +kernel
theorem dX9_takesItem_31 : decode cX9_takesItem 31 = .ok (.ldc 68, 2) := by decide +kernel
theorem dX9_takesItem_33 : decode cX9_takesItem 33 = .ok (.invokevirtual 27, 3) := by decide +kernel
theorem dX9_takesItem_36 : decode cX9_takesItem 36 = .ok (.ifCond .eq 15, 3) := by decide +kernel
theorem dX9_takesItem_39 : decode cX9_takesItem 39 = .ok (.aload_n 0, 1) := by decide +kernel
theorem dX9_takesItem_40 : decode cX9_takesItem 40 = .ok (.aload_n 1, 1) := by decide +kernel
theorem dX9_takesItem_41 : decode cX9_takesItem 41 = .ok (.invokevirtual 70, 3) := by decide +kernel
theorem dX9_takesItem_44 : decode cX9_takesItem 44 = .ok (.ifCond .eq 7, 3) := by decide +kernel
theorem dX9_takesItem_47 : decode cX9_takesItem 47 = .ok (.iconst 1, 1) := by decide +kernel
theorem dX9_takesItem_48 : decode cX9_takesItem 48 = .ok (.goto 4, 3) := by decide +kernel
theorem dX9_takesItem_51 : decode cX9_takesItem 51 = .ok (.iconst 0, 1) := by decide +kernel
theorem dX9_takesItem_52 : decode cX9_takesItem 52 = .ok (.ireturn, 1) := by decide +kernel
def P_X9_takesItem : Nat → Nat
  | _ => 0
set_option maxRecDepth 100000 in
set_option maxHeartbeats 4000000 in
theorem S_X9_takesItem : zSd yX9_takesItem cX9_takesItem 2 (some .boolean) { frames := 5, cells := 0, slots := 0, locals := 107 } T_X9_takesItem := by
  refine zMet (pcs := P_X9_takesItem) (F := F_X9_takesItem) (by decide) rfl ?_
  intro p l e s m args below meth c D ids ad A Q Y C hr hk hY b
  match b with
  | 0 => exact (z_aln (pc := 0) C dX9_takesItem_0 rfl <| z_str (pc := 1) C dX9_takesItem_1 (by decide) rfl rfl <| z_cV (pc := 3) C dX9_takesItem_3 S_X9_says rfl (zl4 w_377 w_379 wp_3 w_3) w_380 ds_X9_says (zrm rfl rfl (by decide) (by decide)) <| z_ifeq (tgt := 15) (pc := 6) C dX9_takesItem_6 (by decide) (z_aln (pc := 15) C dX9_takesItem_15 rfl <| z_str (pc := 16) C dX9_takesItem_16 (by decide) rfl rfl <| z_cV (pc := 18) C dX9_takesItem_18 S_X9_says rfl (zl4 w_377 w_379 wp_3 w_3) w_380 ds_X9_says (zrm rfl rfl (by decide) (by decide)) <| z_ifeq (tgt := 30) (pc := 21) C dX9_takesItem_21 (by decide) (z_aln (pc := 30) C dX9_takesItem_30 rfl <| z_str (pc := 31) C dX9_takesItem_31 (by decide) rfl rfl <| z_cV (pc := 33) C dX9_takesItem_33 S_X9_says rfl (zl4 w_377 w_379 wp_3 w_3) w_380 ds_X9_says (zrm rfl rfl (by decide) (by decide)) <| z_ifeq (tgt := 51) (pc := 36) C dX9_takesItem_36 (by decide) (z_ic (pc := 51) C dX9_takesItem_51 (by decide +kernel) <| z_zr C hr hk dX9_takesItem_52) <| z_aln (pc := 39) C dX9_takesItem_39 rfl <| z_aln (pc := 40) C dX9_takesItem_40 rfl <| z_cV (pc := 41) C dX9_takesItem_41 S_X9_takesCold rfl (zl4 w_461 w_463 wp_10 w_3) w_464 ds_X9_takesCold (zrm rfl rfl (by decide) (by decide)) <| z_ifeq (tgt := 51) (pc := 44) C dX9_takesItem_44 (by decide) (z_ic (pc := 51) C dX9_takesItem_51 (by decide +kernel) <| z_zr C hr hk dX9_takesItem_52) <| z_ic (pc := 47) C dX9_takesItem_47 (by decide +kernel) <| z_goto (tgt := 52) (pc := 48) C dX9_takesItem_48 (by decide) <| z_zr C hr hk dX9_takesItem_52) <| z_aln (pc := 24) C dX9_takesItem_24 rfl <| z_aln (pc := 25) C dX9_takesItem_25 rfl <| z_cV (pc := 26) C dX9_takesItem_26 S_X9_takesFamily rfl (zl4 w_453 w_455 wp_9 w_3) w_456 ds_X9_takesFamily (zrm rfl rfl (by decide) (by decide)) <| z_zr C hr hk dX9_takesItem_29) <| z_aln (pc := 9) C dX9_takesItem_9 rfl <| z_aln (pc := 10) C dX9_takesItem_10 rfl <| z_cV (pc := 11) C dX9_takesItem_11 S_X9_takesBook rfl (zl4 w_448 w_450 wp_8 w_3) w_451 ds_X9_takesBook (zrm rfl rfl (by decide) (by decide)) <| z_zr C hr hk dX9_takesItem_14)
  | b + 1 => exact fun _ _ _ h => h.elim
theorem dX9_tell_0 : decode cX9_tell 0 = .ok (.aload_n 0, 1) := by decide +kernel
theorem dX9_tell_1 : decode cX9_tell 1 = .ok (.iconst 0, 1) := by decide +kernel
theorem dX9_tell_2 : decode cX9_tell 2 = .ok (.putfield 19, 3) := by decide +kernel
theorem dX9_tell_5 : decode cX9_tell 5 = .ok (.aload_n 0, 1) := by decide +kernel
theorem dX9_tell_6 : decode cX9_tell 6 = .ok (.invokevirtual 22, 3) := by decide +kernel
theorem dX9_tell_9 : decode cX9_tell 9 = .ok (.aload_n 0, 1) := by decide +kernel
theorem dX9_tell_10 : decode cX9_tell 10 = .ok (.ldc 25, 2) := by decide +kernel
theorem dX9_tell_12 : decode cX9_tell 12 = .ok (.invokevirtual 27, 3) := by decide +kernel
theorem dX9_tell_15 : decode cX9_tell 15 = .ok (.ifCond .eq 13, 3) := by decide +kernel
theorem dX9_tell_18 : decode cX9_tell 18 = .ok (.aload_n 0, 1) := by decide +kernel
theorem dX9_tell_19 : decode cX9_tell 19 = .ok (.iconst 0, 1) := by decide +kernel
theorem dX9_tell_20 : decode cX9_tell 20 = .ok (.bipush 30, 2) := by decide +kernel
theorem dX9_tell_22 : decode cX9_tell 22 = .ok (.invokevirtual 31, 3) := by decide +kernel
theorem dX9_tell_25 : decode cX9_tell 25 = .ok (.ifCond .ne 11, 3) := by decide +kernel
theorem dX9_tell_28 : decode cX9_tell 28 = .ok (.bipush (-10), 2) := by decide +kernel
theorem dX9_tell_30 : decode cX9_tell 30 = .ok (.aload_n 0, 1) := by decide +kernel
theorem dX9_tell_31 : decode cX9_tell 31 = .ok (.getfield 35, 3) := by decide +kernel
theorem dX9_tell_34 : decode cX9_tell 34 = .ok (.isub, 1) := by decide +kernel
theorem dX9_tell_35 : decode cX9_tell 35 = .ok (.ireturn, 1) := by decide +kernel
theorem dX9_tell_36 : decode cX9_tell 36 = .ok (.aload_n 1, 1) := by decide +kernel
theorem dX9_tell_37 : decode cX9_tell 37 = .ok (.aload_n 0, 1) := by decide +kernel
theorem dX9_tell_38 : decode cX9_tell 38 = .ok (.getfield 38, 3) := by decide +kernel
theorem dX9_tell_41 : decode cX9_tell 41 = .ok (.invokevirtual 41, 3) := by decide +kernel
theorem dX9_tell_44 : decode cX9_tell 44 = .ok (.aload_n 0, 1) := by decide +kernel
theorem dX9_tell_45 : decode cX9_tell 45 = .ok (.invokevirtual 47, 3) := by decide +kernel
theorem dX9_tell_48 : decode cX9_tell 48 = .ok (.ifCond .ne 11, 3) := by decide +kernel
theorem dX9_tell_51 : decode cX9_tell 51 = .ok (.bipush (-10), 2) := by decide +kernel
theorem dX9_tell_53 : decode cX9_tell 53 = .ok (.aload_n 0, 1) := by decide +kernel
theorem dX9_tell_54 : decode cX9_tell 54 = .ok (.getfield 35, 3) := by decide +kernel
theorem dX9_tell_57 : decode cX9_tell 57 = .ok (.isub, 1) := by decide +kernel
theorem dX9_tell_58 : decode cX9_tell 58 = .ok (.ireturn, 1) := by decide +kernel
theorem dX9_tell_59 : decode cX9_tell 59 = .ok (.iconst 1, 1) := by decide +kernel
theorem dX9_tell_60 : decode cX9_tell 60 = .ok (.istore_n 2, 1) := by decide +kernel
theorem dX9_tell_61 : decode cX9_tell 61 = .ok (.aload_n 0, 1) := by decide +kernel
theorem dX9_tell_62 : decode cX9_tell 62 = .ok (.invokevirtual 22, 3) := by decide +kernel
theorem dX9_tell_65 : decode cX9_tell 65 = .ok (.aload_n 0, 1) := by decide +kernel
theorem dX9_tell_66 : decode cX9_tell 66 = .ok (.getfield 51, 3) := by decide +kernel
theorem dX9_tell_69 : decode cX9_tell 69 = .ok (.ifCond .eq 36, 3) := by decide +kernel
theorem dX9_tell_72 : decode cX9_tell 72 = .ok (.iload_n 2, 1) := by decide +kernel
theorem dX9_tell_73 : decode cX9_tell 73 = .ok (.sipush 150, 3) := by decide +kernel
theorem dX9_tell_76 : decode cX9_tell 76 = .ok (.if_icmp .gt 29, 3) := by decide +kernel
theorem dX9_tell_79 : decode cX9_tell 79 = .ok (.aload_n 0, 1) := by decide +kernel
theorem dX9_tell_80 : decode cX9_tell 80 = .ok (.aload_n 1, 1) := by decide +kernel
theorem dX9_tell_81 : decode cX9_tell 81 = .ok (.invokevirtual 54, 3) := by decide +kernel
theorem dX9_tell_84 : decode cX9_tell 84 = .ok (.ifCond .ne 11, 3) := by decide +kernel
theorem dX9_tell_87 : decode cX9_tell 87 = .ok (.bipush (-10), 2) := by decide +kernel
theorem dX9_tell_89 : decode cX9_tell 89 = .ok (.aload_n 0, 1) := by decide +kernel
theorem dX9_tell_90 : decode cX9_tell 90 = .ok (.getfield 35, 3) := by decide +kernel
theorem dX9_tell_93 : decode cX9_tell 93 = .ok (.isub, 1) := by decide +kernel
theorem dX9_tell_94 : decode cX9_tell 94 = .ok (.ireturn, 1) := by decide +kernel
theorem dX9_tell_95 : decode cX9_tell 95 = .ok (.iinc 2 1, 3) := by decide +kernel
theorem dX9_tell_98 : decode cX9_tell 98 = .ok (.aload_n 0, 1) := by decide +kernel
theorem dX9_tell_99 : decode cX9_tell 99 = .ok (.invokevirtual 22, 3) := by decide +kernel
theorem dX9_tell_102 : decode cX9_tell 102 = .ok (.goto (-37), 3) := by decide +kernel
theorem dX9_tell_105 : decode cX9_tell 105 = .ok (.iload_n 2, 1) := by decide +kernel
theorem dX9_tell_106 : decode cX9_tell 106 = .ok (.ireturn, 1) := by decide +kernel
def P_X9_tell : Nat → Nat
  | 1 => 28
  | 2 => 65
  | _ => 0
set_option maxRecDepth 100000 in
set_option maxHeartbeats 4000000 in
theorem S_X9_tell : zSd yX9_tell cX9_tell 3 (some .int) { frames := 6, cells := 0, slots := 0, locals := 128 } T_X9_tell := by
  refine zMet (pcs := P_X9_tell) (F := F_X9_tell) (by decide) rfl ?_
  intro p l e s m args below meth c D ids ad A Q Y C hr hk hY b
  match b with
  | 0 => exact (z_aln (pc := 0) C dX9_tell_0 rfl <| z_ic (pc := 1) C dX9_tell_1 (by decide +kernel) <| z_pf (pc := 2) C dX9_tell_2 fp_9_19 <| z_aln (pc := 5) C dX9_tell_5 rfl <| z_cV (pc := 6) C dX9_tell_6 S_X9_advance rfl (zl4 w_365 w_367 wp_1 w_3) w_368 ds_X9_advance (zrm rfl rfl (by decide) (by decide)) <| z_aln (pc := 9) C dX9_tell_9 rfl <| z_str (pc := 10) C dX9_tell_10 (by decide) rfl rfl <| z_cV (pc := 12) C dX9_tell_12 S_X9_says rfl (zl4 w_377 w_379 wp_3 w_3) w_380 ds_X9_says (zrm rfl rfl (by decide) (by decide)) <| z_ifeq (tgt := 28) (pc := 15) C dX9_tell_15 (by decide) (z_jmp (hY 1)) <| z_aln (pc := 18) C dX9_tell_18 rfl <| z_ic (pc := 19) C dX9_tell_19 (by decide +kernel) <| z_bi (pc := 20) C dX9_tell_20 (by decide +kernel) <| z_cV (pc := 22) C dX9_tell_22 S_X9_takesNumber rfl (zl4 w_429 w_431 wp_4 w_3) w_432 ds_X9_takesNumber (zrm rfl rfl (by decide) (by decide)) <| z_ifne (tgt := 36) (pc := 25) C dX9_tell_25 (by decide) (z_aln (pc := 36) C dX9_tell_36 rfl <| z_aln (pc := 37) C dX9_tell_37 rfl <| z_gf (pc := 38) C dX9_tell_38 fl_9_38 <| z_cV (pc := 41) C dX9_tell_41 S_X1_begin rfl (zl4 w_438 w_316 w_317 w_2) w_318 ds_X1_begin (zrm rfl rfl (by decide) (by decide)) <| z_aln (pc := 44) C dX9_tell_44 rfl <| z_cV (pc := 45) C dX9_tell_45 S_X9_takesStop rfl (zl4 w_439 w_441 wp_6 w_3) w_442 ds_X9_takesStop (zrm rfl rfl (by decide) (by decide)) <| z_ifne (tgt := 59) (pc := 48) C dX9_tell_48 (by decide) (z_ic (pc := 59) C dX9_tell_59 (by decide +kernel) <| z_isn (pc := 60) C dX9_tell_60 rfl (by decide) <| z_aln (pc := 61) C dX9_tell_61 rfl <| z_cV (pc := 62) C dX9_tell_62 S_X9_advance rfl (zl4 w_365 w_367 wp_1 w_3) w_368 ds_X9_advance (zrm rfl rfl (by decide) (by decide)) <| z_jmp (hY 2)) <| z_bi (pc := 51) C dX9_tell_51 (by decide +kernel) <| z_aln (pc := 53) C dX9_tell_53 rfl <| z_gf (pc := 54) C dX9_tell_54 fl_9_35 <| z_isub (pc := 57) C dX9_tell_57 <| z_ir C hr hk dX9_tell_58) <| z_jmp (hY 1))
  | 1 => exact (z_bi (pc := 28) C dX9_tell_28 (by decide +kernel) <| z_aln (pc := 30) C dX9_tell_30 rfl <| z_gf (pc := 31) C dX9_tell_31 fl_9_35 <| z_isub (pc := 34) C dX9_tell_34 <| z_ir C hr hk dX9_tell_35)
  | 2 => exact (z_aln (pc := 65) C dX9_tell_65 rfl <| z_gf (pc := 66) C dX9_tell_66 fl_9_51 <| z_ifeq (tgt := 105) (pc := 69) C dX9_tell_69 (by decide) (z_iln (pc := 105) C dX9_tell_105 rfl <| z_ir C hr hk dX9_tell_106) <| z_iln (pc := 72) C dX9_tell_72 rfl <| z_si (pc := 73) C dX9_tell_73 (by decide +kernel) <| z_cmpgt (tgt := 105) (pc := 76) C dX9_tell_76 (by decide) (z_iln (pc := 105) C dX9_tell_105 rfl <| z_ir C hr hk dX9_tell_106) <| z_aln (pc := 79) C dX9_tell_79 rfl <| z_aln (pc := 80) C dX9_tell_80 rfl <| z_cV (pc := 81) C dX9_tell_81 S_X9_takesItem rfl (zl4 w_443 w_445 wp_7 w_3) w_446 ds_X9_takesItem (zrm rfl rfl (by decide) (by decide)) <| z_ifne (tgt := 95) (pc := 84) C dX9_tell_84 (by decide) (z_inc (pc := 95) C dX9_tell_95 (by decide +kernel) (by decide) <| z_aln (pc := 98) C dX9_tell_98 rfl <| z_cV (pc := 99) C dX9_tell_99 S_X9_advance rfl (zl4 w_365 w_367 wp_1 w_3) w_368 ds_X9_advance (zrm rfl rfl (by decide) (by decide)) <| z_goto (tgt := 65) (pc := 102) C dX9_tell_102 (by decide) <| z_jmp (hY 2)) <| z_bi (pc := 87) C dX9_tell_87 (by decide +kernel) <| z_aln (pc := 89) C dX9_tell_89 rfl <| z_gf (pc := 90) C dX9_tell_90 fl_9_35 <| z_isub (pc := 93) C dX9_tell_93 <| z_ir C hr hk dX9_tell_94)
  | b + 3 => exact fun _ _ _ h => h.elim
theorem dX11_refuse_0 : decode cX11_refuse 0 = .ok (.aload_n 0, 1) := by decide +kernel
theorem dX11_refuse_1 : decode cX11_refuse 1 = .ok (.getfield 55, 3) := by decide +kernel
theorem dX11_refuse_4 : decode cX11_refuse 4 = .ok (.bipush (-2), 2) := by decide +kernel
theorem dX11_refuse_6 : decode cX11_refuse 6 = .ok (.iload_n 1, 1) := by decide +kernel
theorem dX11_refuse_7 : decode cX11_refuse 7 = .ok (.isub, 1) := by decide +kernel
theorem dX11_refuse_8 : decode cX11_refuse 8 = .ok (.dup2, 1) := by decide +kernel
theorem dX11_refuse_9 : decode cX11_refuse 9 = .ok (.iaload, 1) := by decide +kernel
theorem dX11_refuse_10 : decode cX11_refuse 10 = .ok (.iconst 1, 1) := by decide +kernel
theorem dX11_refuse_11 : decode cX11_refuse 11 = .ok (.iadd, 1) := by decide +kernel
theorem dX11_refuse_12 : decode cX11_refuse 12 = .ok (.iastore, 1) := by decide +kernel
theorem dX11_refuse_13 : decode cX11_refuse 13 = .ok (.iload_n 1, 1) := by decide +kernel
theorem dX11_refuse_14 : decode cX11_refuse 14 = .ok (.ireturn, 1) := by decide +kernel
def P_X11_refuse : Nat → Nat
  | _ => 0
set_option maxRecDepth 100000 in
set_option maxHeartbeats 4000000 in
theorem S_X11_refuse : zSd yX11_refuse cX11_refuse 2 (some .int) { frames := 0, cells := 0, slots := 0, locals := 0 } T_X11_refuse := by
  refine zMet (pcs := P_X11_refuse) (F := F_X11_refuse) (by decide) rfl ?_
  intro p l e s m args below meth c D ids ad A Q Y C hr hk hY b
  match b with
  | 0 => exact (z_aln (pc := 0) C dX11_refuse_0 rfl <| z_gf (pc := 1) C dX11_refuse_1 fl_11_55 <| z_bi (pc := 4) C dX11_refuse_4 (by decide +kernel) <| z_iln (pc := 6) C dX11_refuse_6 rfl <| z_isub (pc := 7) C dX11_refuse_7 <| z_dup2 (pc := 8) C dX11_refuse_8 <| z_ia (pc := 9) C dX11_refuse_9 <| z_ic (pc := 10) C dX11_refuse_10 (by decide +kernel) <| z_iadd (pc := 11) C dX11_refuse_11 <| z_iast (pc := 12) C dX11_refuse_12 <| z_iln (pc := 13) C dX11_refuse_13 rfl <| z_ir C hr hk dX11_refuse_14)
  | b + 1 => exact fun _ _ _ h => h.elim
theorem dX11_church_0 : decode cX11_church 0 = .ok (.iload_n 1, 1) := by decide +kernel
theorem dX11_church_1 : decode cX11_church 1 = .ok (.iconst 0, 1) := by decide +kernel
theorem dX11_church_2 : decode cX11_church 2 = .ok (.bipush 30, 2) := by decide +kernel
theorem dX11_church_4 : decode cX11_church 4 = .ok (.invokestatic 66, 3) := by decide +kernel
theorem dX11_church_7 : decode cX11_church 7 = .ok (.ifCond .ne 10, 3) := by decide +kernel
theorem dX11_church_10 : decode cX11_church 10 = .ok (.aload_n 0, 1) := by decide +kernel
theorem dX11_church_11 : decode cX11_church 11 = .ok (.bipush (-2), 2) := by decide +kernel
theorem dX11_church_13 : decode cX11_church 13 = .ok (.invokevirtual 70, 3) := by decide +kernel
theorem dX11_church_16 : decode cX11_church 16 = .ok (.ireturn, 1) := by decide +kernel
theorem dX11_church_17 : decode cX11_church 17 = .ok (.aload_n 0, 1) := by decide +kernel
theorem dX11_church_18 : decode cX11_church 18 = .ok (.getfield 12, 3) := by decide +kernel
theorem dX11_church_21 : decode cX11_church 21 = .ok (.getfield 74, 3) := by decide +kernel
theorem dX11_church_24 : decode cX11_church 24 = .ok (.istore_n 2, 1) := by decide +kernel
theorem dX11_church_25 : decode cX11_church 25 = .ok (.aload_n 0, 1) := by decide +kernel
theorem dX11_church_26 : decode cX11_church 26 = .ok (.getfield 12, 3) := by decide +kernel
theorem dX11_church_29 : decode cX11_church 29 = .ok (.iload_n 1, 1) := by decide +kernel
theorem dX11_church_30 : decode cX11_church 30 = .ok (.invokevirtual 78, 3) := by decide +kernel
theorem dX11_church_33 : decode cX11_church 33 = .ok (.iload_n 2, 1) := by decide +kernel
theorem dX11_church_34 : decode cX11_church 34 = .ok (.ireturn, 1) := by decide +kernel
def P_X11_church : Nat → Nat
  | _ => 0
set_option maxRecDepth 100000 in
set_option maxHeartbeats 4000000 in
theorem S_X11_church : zSd yX11_church cX11_church 3 (some .int) { frames := 2, cells := 0, slots := 0, locals := 44 } T_X11_church := by
  refine zMet (pcs := P_X11_church) (F := F_X11_church) (by decide) rfl ?_
  intro p l e s m args below meth c D ids ad A Q Y C hr hk hY b
  match b with
  | 0 => exact (z_iln (pc := 0) C dX11_church_0 rfl <| z_ic (pc := 1) C dX11_church_1 (by decide +kernel) <| z_bi (pc := 2) C dX11_church_2 (by decide +kernel) <| z_cS (pc := 4) C dX11_church_4 S_X11_within (zl3 w_308 w_309 w_1) w_310 ds_X11_within (zrm rfl rfl (by decide) (by decide)) <| z_ifne (tgt := 17) (pc := 7) C dX11_church_7 (by decide) (z_aln (pc := 17) C dX11_church_17 rfl <| z_gf (pc := 18) C dX11_church_18 fl_11_12 <| z_gf (pc := 21) C dX11_church_21 fl_11_74 <| z_isn (pc := 24) C dX11_church_24 rfl (by decide) <| z_aln (pc := 25) C dX11_church_25 rfl <| z_gf (pc := 26) C dX11_church_26 fl_11_12 <| z_iln (pc := 29) C dX11_church_29 rfl <| z_cV (pc := 30) C dX11_church_30 S_X1_begin rfl (zl4 w_315 w_316 w_317 w_2) w_318 ds_X1_begin (zrm rfl rfl (by decide) (by decide)) <| z_iln (pc := 33) C dX11_church_33 rfl <| z_ir C hr hk dX11_church_34) <| z_aln (pc := 10) C dX11_church_10 rfl <| z_bi (pc := 11) C dX11_church_11 (by decide +kernel) <| z_cV (pc := 13) C dX11_church_13 S_X11_refuse rfl (zl4 w_311 w_313 wp_0 w_1) w_314 ds_X11_refuse (zrm rfl rfl (by decide) (by decide)) <| z_ir C hr hk dX11_church_16)
  | b + 1 => exact fun _ _ _ h => h.elim
theorem dX11_isBook_0 : decode cX11_isBook 0 = .ok (.iload_n 0, 1) := by decide +kernel
theorem dX11_isBook_1 : decode cX11_isBook 1 = .ok (.iconst 0, 1) := by decide +kernel
theorem dX11_isBook_2 : decode cX11_isBook 2 = .ok (.iconst 1, 1) := by decide +kernel
theorem dX11_isBook_3 : decode cX11_isBook 3 = .ok (.invokestatic 66, 3) := by decide +kernel
theorem dX11_isBook_6 : decode cX11_isBook 6 = .ok (.ireturn, 1) := by decide +kernel
def P_X11_isBook : Nat → Nat
  | _ => 0
set_option maxRecDepth 100000 in
set_option maxHeartbeats 4000000 in
theorem S_X11_isBook : zSd yX11_isBook cX11_isBook 1 (some .boolean) { frames := 1, cells := 0, slots := 0, locals := 22 } T_X11_isBook := by
  refine zMet (pcs := P_X11_isBook) (F := F_X11_isBook) (by decide) rfl ?_
  intro p l e s m args below meth c D ids ad A Q Y C hr hk hY b
  match b with
  | 0 => exact (z_iln (pc := 0) C dX11_isBook_0 rfl <| z_ic (pc := 1) C dX11_isBook_1 (by decide +kernel) <| z_ic (pc := 2) C dX11_isBook_2 (by decide +kernel) <| z_cS (pc := 3) C dX11_isBook_3 S_X11_within (zl3 w_308 w_309 w_1) w_310 ds_X11_within (zrm rfl rfl (by decide) (by decide)) <| z_zr C hr hk dX11_isBook_6)
  | b + 1 => exact fun _ _ _ h => h.elim
theorem dX11_book_0 : decode cX11_book 0 = .ok (.iload_n 1, 1) := by decide +kernel
theorem dX11_book_1 : decode cX11_book 1 = .ok (.invokestatic 82, 3) := by decide +kernel
theorem dX11_book_4 : decode cX11_book 4 = .ok (.ifCond .eq 13, 3) := by decide +kernel
theorem dX11_book_7 : decode cX11_book 7 = .ok (.iload_n 2, 1) := by decide +kernel
theorem dX11_book_8 : decode cX11_book 8 = .ok (.iconst 0, 1) := by decide +kernel
theorem dX11_book_9 : decode cX11_book 9 = .ok (.ldc 86, 2) := by decide +kernel
theorem dX11_book_11 : decode cX11_book 11 = .ok (.invokestatic 66, 3) := by decide +kernel
theorem dX11_book_14 : decode cX11_book 14 = .ok (.ifCond .ne 10, 3) := by decide +kernel
theorem dX11_book_17 : decode cX11_book 17 = .ok (.aload_n 0, 1) := by decide +kernel
theorem dX11_book_18 : decode cX11_book 18 = .ok (.bipush (-2), 2) := by decide +kernel
theorem dX11_book_20 : decode cX11_book 20 = .ok (.invokevirtual 70, 3) := by decide +kernel
theorem dX11_book_23 : decode cX11_book 23 = .ok (.ireturn, 1) := by decide +kernel
theorem dX11_book_24 : decode cX11_book 24 = .ok (.aload_n 0, 1) := by decide +kernel
theorem dX11_book_25 : decode cX11_book 25 = .ok (.getfield 12, 3) := by decide +kernel
theorem dX11_book_28 : decode cX11_book 28 = .ok (.getfield 87, 3) := by decide +kernel
theorem dX11_book_31 : decode cX11_book 31 = .ok (.iload_n 1, 1) := by decide +kernel
theorem dX11_book_32 : decode cX11_book 32 = .ok (.iaload, 1) := by decide +kernel
theorem dX11_book_33 : decode cX11_book 33 = .ok (.istore_n 3, 1) := by decide +kernel
theorem dX11_book_34 : decode cX11_book 34 = .ok (.aload_n 0, 1) := by decide +kernel
theorem dX11_book_35 : decode cX11_book 35 = .ok (.getfield 12, 3) := by decide +kernel
theorem dX11_book_38 : decode cX11_book 38 = .ok (.getfield 87, 3) := by decide +kernel
theorem dX11_book_41 : decode cX11_book 41 = .ok (.iload_n 1, 1) := by decide +kernel
theorem dX11_book_42 : decode cX11_book 42 = .ok (.iload_n 2, 1) := by decide +kernel
theorem dX11_book_43 : decode cX11_book 43 = .ok (.iastore, 1) := by decide +kernel
theorem dX11_book_44 : decode cX11_book 44 = .ok (.iload_n 3, 1) := by decide +kernel
theorem dX11_book_45 : decode cX11_book 45 = .ok (.ireturn, 1) := by decide +kernel
def P_X11_book : Nat → Nat
  | 1 => 17
  | _ => 0
set_option maxRecDepth 100000 in
set_option maxHeartbeats 4000000 in
theorem S_X11_book : zSd yX11_book cX11_book 4 (some .int) { frames := 2, cells := 0, slots := 0, locals := 42 } T_X11_book := by
  refine zMet (pcs := P_X11_book) (F := F_X11_book) (by decide) rfl ?_
  intro p l e s m args below meth c D ids ad A Q Y C hr hk hY b
  match b with
  | 0 => exact (z_iln (pc := 0) C dX11_book_0 rfl <| z_cS (pc := 1) C dX11_book_1 S_X11_isBook (zl3 w_326 w_327 w_1) w_328 ds_X11_isBook (zrm rfl rfl (by decide) (by decide)) <| z_ifeq (tgt := 17) (pc := 4) C dX11_book_4 (by decide) (z_jmp (hY 1)) <| z_iln (pc := 7) C dX11_book_7 rfl <| z_ic (pc := 8) C dX11_book_8 (by decide +kernel) <| z_ldc (pc := 9) C dX11_book_9 w_329 <| z_cS (pc := 11) C dX11_book_11 S_X11_within (zl3 w_308 w_309 w_1) w_310 ds_X11_within (zrm rfl rfl (by decide) (by decide)) <| z_ifne (tgt := 24) (pc := 14) C dX11_book_14 (by decide) (z_aln (pc := 24) C dX11_book_24 rfl <| z_gf (pc := 25) C dX11_book_25 fl_11_12 <| z_gf (pc := 28) C dX11_book_28 fl_11_87 <| z_iln (pc := 31) C dX11_book_31 rfl <| z_ia (pc := 32) C dX11_book_32 <| z_isn (pc := 33) C dX11_book_33 rfl (by decide) <| z_aln (pc := 34) C dX11_book_34 rfl <| z_gf (pc := 35) C dX11_book_35 fl_11_12 <| z_gf (pc := 38) C dX11_book_38 fl_11_87 <| z_iln (pc := 41) C dX11_book_41 rfl <| z_iln (pc := 42) C dX11_book_42 rfl <| z_iast (pc := 43) C dX11_book_43 <| z_iln (pc := 44) C dX11_book_44 rfl <| z_ir C hr hk dX11_book_45) <| z_jmp (hY 1))
  | 1 => exact (z_aln (pc := 17) C dX11_book_17 rfl <| z_bi (pc := 18) C dX11_book_18 (by decide +kernel) <| z_cV (pc := 20) C dX11_book_20 S_X11_refuse rfl (zl4 w_311 w_313 wp_0 w_1) w_314 ds_X11_refuse (zrm rfl rfl (by decide) (by decide)) <| z_ir C hr hk dX11_book_23)
  | b + 2 => exact fun _ _ _ h => h.elim
theorem dX11_family_0 : decode cX11_family 0 = .ok (.iload_n 1, 1) := by decide +kernel
theorem dX11_family_1 : decode cX11_family 1 = .ok (.iconst 0, 1) := by decide +kernel
theorem dX11_family_2 : decode cX11_family 2 = .ok (.iconst 5, 1) := by decide +kernel
theorem dX11_family_3 : decode cX11_family 3 = .ok (.invokestatic 66, 3) := by decide +kernel
theorem dX11_family_6 : decode cX11_family 6 = .ok (.ifCond .eq 40, 3) := by decide +kernel
theorem dX11_family_9 : decode cX11_family 9 = .ok (.iload_n 2, 1) := by decide +kernel
theorem dX11_family_10 : decode cX11_family 10 = .ok (.invokestatic 82, 3) := by decide +kernel
theorem dX11_family_13 : decode cX11_family 13 = .ok (.ifCond .eq 33, 3) := by decide +kernel
theorem dX11_family_16 : decode cX11_family 16 = .ok (.iload_n 3, 1) := by decide +kernel
theorem dX11_family_17 : decode cX11_family 17 = .ok (.iconst 1, 1) := by decide +kernel
theorem dX11_family_18 : decode cX11_family 18 = .ok (.bipush 9, 2) := by decide +kernel
theorem dX11_family_20 : decode cX11_family 20 = .ok (.invokestatic 66, 3) := by decide +kernel
theorem dX11_family_23 : decode cX11_family 23 = .ok (.ifCond .eq 23, 3) := by decide +kernel
theorem dX11_family_26 : decode cX11_family 26 = .ok (.iload 4, 2) := by decide +kernel
theorem dX11_family_28 : decode cX11_family 28 = .ok (.iconst 1, 1) := by decide +kernel
theorem dX11_family_29 : decode cX11_family 29 = .ok (.bipush 20, 2) := by decide +kernel
theorem dX11_family_31 : decode cX11_family 31 = .ok (.invokestatic 66, 3) := by decide +kernel
theorem dX11_family_34 : decode cX11_family 34 = .ok (.ifCond .eq 12, 3) := by decide +kernel
theorem dX11_family_37 : decode cX11_family 37 = .ok (.iload 5, 2) := by decide +kernel
theorem dX11_family_39 : decode cX11_family 39 = .ok (.iload_n 2, 1) := by decide +kernel
theorem dX11_family_40 : decode cX11_family 40 = .ok (.invokestatic 90, 3) := by decide +kernel
theorem dX11_family_43 : decode cX11_family 43 = .ok (.ifCond .ne 10, 3) := by decide +kernel
theorem dX11_family_46 : decode cX11_family 46 = .ok (.aload_n 0, 1) := by decide +kernel
theorem dX11_family_47 : decode cX11_family 47 = .ok (.bipush (-2), 2) := by decide +kernel
theorem dX11_family_49 : decode cX11_family 49 = .ok (.invokevirtual 70, 3) := by decide +kernel
theorem dX11_family_52 : decode cX11_family 52 = .ok (.ireturn, 1) := by decide +kernel
theorem dX11_family_53 : decode cX11_family 53 = .ok (.aload_n 0, 1) := by decide +kernel
theorem dX11_family_54 : decode cX11_family 54 = .ok (.getfield 12, 3) := by decide +kernel
theorem dX11_family_57 : decode cX11_family 57 = .ok (.iload 5, 2) := by decide +kernel
theorem dX11_family_59 : decode cX11_family 59 = .ok (.invokevirtual 94, 3) := by decide +kernel
theorem dX11_family_62 : decode cX11_family 62 = .ok (.ifCond .eq 10, 3) := by decide +kernel
theorem dX11_family_65 : decode cX11_family 65 = .ok (.aload_n 0, 1) := by decide +kernel
theorem dX11_family_66 : decode cX11_family 66 = .ok (.bipush (-3), 2) := by decide +kernel
theorem dX11_family_68 : decode cX11_family 68 = .ok (.invokevirtual 70, 3) := by decide +kernel
theorem dX11_family_71 : decode cX11_family 71 = .ok (.ireturn, 1) := by decide +kernel
theorem dX11_family_72 : decode cX11_family 72 = .ok (.aload_n 0, 1) := by decide +kernel
theorem dX11_family_73 : decode cX11_family 73 = .ok (.getfield 12, 3) := by decide +kernel
theorem dX11_family_76 : decode cX11_family 76 = .ok (.getfield 74, 3) := by decide +kernel
theorem dX11_family_79 : decode cX11_family 79 = .ok (.bipush 7, 2) := by decide +kernel
theorem dX11_family_81 : decode cX11_family 81 = .ok (.if_icmp .lt 10, 3) := by decide +kernel
theorem dX11_family_84 : decode cX11_family 84 = .ok (.aload_n 0, 1) := by decide +kernel
theorem dX11_family_85 : decode cX11_family 85 = .ok (.bipush (-4), 2) := by decide +kernel
theorem dX11_family_87 : decode cX11_family 87 = .ok (.invokevirtual 70, 3) := by decide +kernel
theorem dX11_family_90 : decode cX11_family 90 = .ok (.ireturn, 1) := by decide +kernel
theorem dX11_family_91 : decode cX11_family 91 = .ok (.aload_n 0, 1) := by decide +kernel
theorem dX11_family_92 : decode cX11_family 92 = .ok (.getfield 12, 3) := by decide +kernel
theorem dX11_family_95 : decode cX11_family 95 = .ok (.iload_n 1, 1) := by decide +kernel
theorem dX11_family_96 : decode cX11_family 96 = .ok (.iload_n 2, 1) := by decide +kernel
theorem dX11_family_97 : decode cX11_family 97 = .ok (.iload_n 3, 1) := by decide +kernel
theorem dX11_family_98 : decode cX11_family 98 = .ok (.iload 4, 2) := by decide +kernel
theorem dX11_family_100 : decode cX11_family 100 = .ok (.iload 5, 2) := by decide +kernel
theorem dX11_family_102 : decode cX11_family 102 = .ok (.invokevirtual 97, 3) := by decide +kernel
theorem dX11_family_105 : decode cX11_family 105 = .ok (.ireturn, 1) := by decide +kernel
def P_X11_family : Nat → Nat
  | 1 => 46
  | _ => 0
set_option maxRecDepth 100000 in
set_option maxHeartbeats 4000000 in
theorem S_X11_family : zSd yX11_family cX11_family 6 (some .int) { frames := 2, cells := 0, slots := 0, locals := 43 } T_X11_family := by
  refine zMet (pcs := P_X11_family) (F := F_X11_family) (by decide) rfl ?_
  intro p l e s m args below meth c D ids ad A Q Y C hr hk hY b
  match b with
  | 0 => exact (z_iln (pc := 0) C dX11_family_0 rfl <| z_ic (pc := 1) C dX11_family_1 (by decide +kernel) <| z_ic (pc := 2) C dX11_family_2 (by decide +kernel) <| z_cS (pc := 3) C dX11_family_3 S_X11_within (zl3 w_308 w_309 w_1) w_310 ds_X11_within (zrm rfl rfl (by decide) (by decide)) <| z_ifeq (tgt := 46) (pc := 6) C dX11_family_6 (by decide) (z_jmp (hY 1)) <| z_iln (pc := 9) C dX11_family_9 rfl <| z_cS (pc := 10) C dX11_family_10 S_X11_isBook (zl3 w_326 w_327 w_1) w_328 ds_X11_isBook (zrm rfl rfl (by decide) (by decide)) <| z_ifeq (tgt := 46) (pc := 13) C dX11_family_13 (by decide) (z_jmp (hY 1)) <| z_iln (pc := 16) C dX11_family_16 rfl <| z_ic (pc := 17) C dX11_family_17 (by decide +kernel) <| z_bi (pc := 18) C dX11_family_18 (by decide +kernel) <| z_cS (pc := 20) C dX11_family_20 S_X11_within (zl3 w_308 w_309 w_1) w_310 ds_X11_within (zrm rfl rfl (by decide) (by decide)) <| z_ifeq (tgt := 46) (pc := 23) C dX11_family_23 (by decide) (z_jmp (hY 1)) <| z_il (pc := 26) C dX11_family_26 <| z_ic (pc := 28) C dX11_family_28 (by decide +kernel) <| z_bi (pc := 29) C dX11_family_29 (by decide +kernel) <| z_cS (pc := 31) C dX11_family_31 S_X11_within (zl3 w_308 w_309 w_1) w_310 ds_X11_within (zrm rfl rfl (by decide) (by decide)) <| z_ifeq (tgt := 46) (pc := 34) C dX11_family_34 (by decide) (z_jmp (hY 1)) <| z_il (pc := 37) C dX11_family_37 <| z_iln (pc := 39) C dX11_family_39 rfl <| z_cS (pc := 40) C dX11_family_40 S_X11_isPewOf (zl3 w_334 w_335 w_1) w_336 ds_X11_isPewOf (zrm rfl rfl (by decide) (by decide)) <| z_ifne (tgt := 53) (pc := 43) C dX11_family_43 (by decide) (z_aln (pc := 53) C dX11_family_53 rfl <| z_gf (pc := 54) C dX11_family_54 fl_11_12 <| z_il (pc := 57) C dX11_family_57 <| z_cV (pc := 59) C dX11_family_59 S_X1_isTaken rfl (zl4 w_337 w_338 w_339 w_2) w_340 ds_X1_isTaken (zrm rfl rfl (by decide) (by decide)) <| z_ifeq (tgt := 72) (pc := 62) C dX11_family_62 (by decide) (z_aln (pc := 72) C dX11_family_72 rfl <| z_gf (pc := 73) C dX11_family_73 fl_11_12 <| z_gf (pc := 76) C dX11_family_76 fl_11_74 <| z_bi (pc := 79) C dX11_family_79 (by decide +kernel) <| z_cmplt (tgt := 91) (pc := 81) C dX11_family_81 (by decide) (z_aln (pc := 91) C dX11_family_91 rfl <| z_gf (pc := 92) C dX11_family_92 fl_11_12 <| z_iln (pc := 95) C dX11_family_95 rfl <| z_iln (pc := 96) C dX11_family_96 rfl <| z_iln (pc := 97) C dX11_family_97 rfl <| z_il (pc := 98) C dX11_family_98 <| z_il (pc := 100) C dX11_family_100 <| z_cV (pc := 102) C dX11_family_102 S_X1_admit rfl (zl4 w_341 w_342 w_343 w_2) w_344 ds_X1_admit (zrm rfl rfl (by decide) (by decide)) <| z_ir C hr hk dX11_family_105) <| z_aln (pc := 84) C dX11_family_84 rfl <| z_bi (pc := 85) C dX11_family_85 (by decide +kernel) <| z_cV (pc := 87) C dX11_family_87 S_X11_refuse rfl (zl4 w_311 w_313 wp_0 w_1) w_314 ds_X11_refuse (zrm rfl rfl (by decide) (by decide)) <| z_ir C hr hk dX11_family_90) <| z_aln (pc := 65) C dX11_family_65 rfl <| z_bi (pc := 66) C dX11_family_66 (by decide +kernel) <| z_cV (pc := 68) C dX11_family_68 S_X11_refuse rfl (zl4 w_311 w_313 wp_0 w_1) w_314 ds_X11_refuse (zrm rfl rfl (by decide) (by decide)) <| z_ir C hr hk dX11_family_71) <| z_jmp (hY 1))
  | 1 => exact (z_aln (pc := 46) C dX11_family_46 rfl <| z_bi (pc := 47) C dX11_family_47 (by decide +kernel) <| z_cV (pc := 49) C dX11_family_49 S_X11_refuse rfl (zl4 w_311 w_313 wp_0 w_1) w_314 ds_X11_refuse (zrm rfl rfl (by decide) (by decide)) <| z_ir C hr hk dX11_family_52)
  | b + 2 => exact fun _ _ _ h => h.elim
