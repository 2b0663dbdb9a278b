/-! Soundness of methods: by program. -/
theorem dX11_count_0 : decode cX11_count 0 = .ok (.iload_n 1, 1) := by decide +kernel
theorem dX11_count_1 : decode cX11_count 1 = .ok (.iconst 0, 1) := by decide +kernel
theorem dX11_count_2 : decode cX11_count 2 = .ok (.bipush 6, 2) := by decide +kernel
theorem dX11_count_4 : decode cX11_count 4 = .ok (.invokestatic 66, 3) := by decide +kernel
theorem dX11_count_7 : decode cX11_count 7 = .ok (.ifCond .ne 10, 3) := by decide +kernel
theorem dX11_count_10 : decode cX11_count 10 = .ok (.aload_n 0, 1) := by decide +kernel
theorem dX11_count_11 : decode cX11_count 11 = .ok (.bipush (-2), 2) := by decide +kernel
theorem dX11_count_13 : decode cX11_count 13 = .ok (.invokevirtual 70, 3) := by decide +kernel
theorem dX11_count_16 : decode cX11_count 16 = .ok (.ireturn, 1) := by decide +kernel
theorem dX11_count_17 : decode cX11_count 17 = .ok (.aload_n 0, 1) := by decide +kernel
theorem dX11_count_18 : decode cX11_count 18 = .ok (.iload_n 1, 1) := by decide +kernel
theorem dX11_count_19 : decode cX11_count 19 = .ok (.invokevirtual 256, 3) := by decide +kernel
theorem dX11_count_22 : decode cX11_count 22 = .ok (.ireturn, 1) := by decide +kernel
def P_X11_count : Nat → Nat
  | _ => 0
set_option maxRecDepth 100000 in
set_option maxHeartbeats 4000000 in
theorem S_X11_count : zSd yX11_count cX11_count 2 (some .int) { frames := 5, cells := 0, slots := 0, locals := 114 } T_X11_count := by
  refine zMet (pcs := P_X11_count) (F := F_X11_count) (by decide) rfl ?_
  intro p l e s m args below meth c D ids ad A Q Y C hr hk hY b
  match b with
  | 0 => exact (z_iln (pc := 0) C dX11_count_0 rfl <| z_ic (pc := 1) C dX11_count_1 (by decide +kernel) <| z_bi (pc := 2) C dX11_count_2 (by decide +kernel) <| z_cS (pc := 4) C dX11_count_4 S_X11_within (zl3 w_308 w_309 w_1) w_310 ds_X11_within (zrm rfl rfl (by decide) (by decide)) <| z_ifne (tgt := 17) (pc := 7) C dX11_count_7 (by decide) (z_aln (pc := 17) C dX11_count_17 rfl <| z_iln (pc := 18) C dX11_count_18 rfl <| z_cV (pc := 19) C dX11_count_19 S_X11_howMany rfl (zl4 w_822 w_824 wp_19 w_1) w_825 ds_X11_howMany (zrm rfl rfl (by decide) (by decide)) <| z_ir C hr hk dX11_count_22) <| z_aln (pc := 10) C dX11_count_10 rfl <| z_bi (pc := 11) C dX11_count_11 (by decide +kernel) <| z_cV (pc := 13) C dX11_count_13 S_X11_refuse rfl (zl4 w_311 w_313 wp_0 w_1) w_314 ds_X11_refuse (zrm rfl rfl (by decide) (by decide)) <| z_ir C hr hk dX11_count_16)
  | b + 1 => exact fun _ _ _ h => h.elim
theorem dX11_digest_0 : decode cX11_digest 0 = .ok (.ldc2_w 259, 3) := by decide +kernel
theorem dX11_digest_3 : decode cX11_digest 3 = .ok (.lstore_n 1, 1) := by decide +kernel
theorem dX11_digest_4 : decode cX11_digest 4 = .ok (.iconst 0, 1) := by decide +kernel
theorem dX11_digest_5 : decode cX11_digest 5 = .ok (.istore_n 3, 1) := by decide +kernel
theorem dX11_digest_6 : decode cX11_digest 6 = .ok (.iload_n 3, 1) := by decide +kernel
theorem dX11_digest_7 : decode cX11_digest 7 = .ok (.bipush 6, 2) := by decide +kernel
theorem dX11_digest_9 : decode cX11_digest 9 = .ok (.if_icmp .gt 22, 3) := by decide +kernel
theorem dX11_digest_12 : decode cX11_digest 12 = .ok (.ldc2_w 261, 3) := by decide +kernel
theorem dX11_digest_15 : decode cX11_digest 15 = .ok (.lload_n 1, 1) := by decide +kernel
theorem dX11_digest_16 : decode cX11_digest 16 = .ok (.lmul, 1) := by decide +kernel
theorem dX11_digest_17 : decode cX11_digest 17 = .ok (.aload_n 0, 1) := by decide +kernel
theorem dX11_digest_18 : decode cX11_digest 18 = .ok (.iload_n 3, 1) := by decide +kernel
theorem dX11_digest_19 : decode cX11_digest 19 = .ok (.invokevirtual 256, 3) := by decide +kernel
theorem dX11_digest_22 : decode cX11_digest 22 = .ok (.i2l, 1) := by decide +kernel
theorem dX11_digest_23 : decode cX11_digest 23 = .ok (.ladd, 1) := by decide +kernel
theorem dX11_digest_24 : decode cX11_digest 24 = .ok (.lstore_n 1, 1) := by decide +kernel
theorem dX11_digest_25 : decode cX11_digest 25 = .ok (.iinc 3 1, 3) := by decide +kernel
theorem dX11_digest_28 : decode cX11_digest 28 = .ok (.goto (-22), 3) := by decide +kernel
theorem dX11_digest_31 : decode cX11_digest 31 = .ok (.iconst 0, 1) := by decide +kernel
theorem dX11_digest_32 : decode cX11_digest 32 = .ok (.istore_n 3, 1) := by decide +kernel
theorem dX11_digest_33 : decode cX11_digest 33 = .ok (.iload_n 3, 1) := by decide +kernel
theorem dX11_digest_34 : decode cX11_digest 34 = .ok (.iconst 2, 1) := by decide +kernel
theorem dX11_digest_35 : decode cX11_digest 35 = .ok (.if_icmp .ge 26, 3) := by decide +kernel
theorem dX11_digest_38 : decode cX11_digest 38 = .ok (.ldc2_w 261, 3) := by decide +kernel
theorem dX11_digest_41 : decode cX11_digest 41 = .ok (.lload_n 1, 1) := by decide +kernel
theorem dX11_digest_42 : decode cX11_digest 42 = .ok (.lmul, 1) := by decide +kernel
theorem dX11_digest_43 : decode cX11_digest 43 = .ok (.aload_n 0, 1) := by decide +kernel
theorem dX11_digest_44 : decode cX11_digest 44 = .ok (.getfield 12, 3) := by decide +kernel
theorem dX11_digest_47 : decode cX11_digest 47 = .ok (.getfield 87, 3) := by decide +kernel
theorem dX11_digest_50 : decode cX11_digest 50 = .ok (.iload_n 3, 1) := by decide +kernel
theorem dX11_digest_51 : decode cX11_digest 51 = .ok (.iaload, 1) := by decide +kernel
theorem dX11_digest_52 : decode cX11_digest 52 = .ok (.i2l, 1) := by decide +kernel
theorem dX11_digest_53 : decode cX11_digest 53 = .ok (.ladd, 1) := by decide +kernel
theorem dX11_digest_54 : decode cX11_digest 54 = .ok (.lstore_n 1, 1) := by decide +kernel
theorem dX11_digest_55 : decode cX11_digest 55 = .ok (.iinc 3 1, 3) := by decide +kernel
theorem dX11_digest_58 : decode cX11_digest 58 = .ok (.goto (-25), 3) := by decide +kernel
theorem dX11_digest_61 : decode cX11_digest 61 = .ok (.iconst 0, 1) := by decide +kernel
theorem dX11_digest_62 : decode cX11_digest 62 = .ok (.istore_n 3, 1) := by decide +kernel
theorem dX11_digest_63 : decode cX11_digest 63 = .ok (.iload_n 3, 1) := by decide +kernel
theorem dX11_digest_64 : decode cX11_digest 64 = .ok (.aload_n 0, 1) := by decide +kernel
theorem dX11_digest_65 : decode cX11_digest 65 = .ok (.getfield 12, 3) := by decide +kernel
theorem dX11_digest_68 : decode cX11_digest 68 = .ok (.getfield 74, 3) := by decide +kernel
theorem dX11_digest_71 : decode cX11_digest 71 = .ok (.if_icmp .ge 42, 3) := by decide +kernel
theorem dX11_digest_74 : decode cX11_digest 74 = .ok (.iconst 0, 1) := by decide +kernel
theorem dX11_digest_75 : decode cX11_digest 75 = .ok (.istore 4, 2) := by decide +kernel
theorem dX11_digest_77 : decode cX11_digest 77 = .ok (.iload 4, 2) := by decide +kernel
theorem dX11_digest_79 : decode cX11_digest 79 = .ok (.iconst 5, 1) := by decide +kernel
theorem dX11_digest_80 : decode cX11_digest 80 = .ok (.if_icmp .gt 27, 3) := by decide +kernel
theorem dX11_digest_83 : decode cX11_digest 83 = .ok (.ldc2_w 261, 3) := by decide +kernel
theorem dX11_digest_86 : decode cX11_digest 86 = .ok (.lload_n 1, 1) := by decide +kernel
theorem dX11_digest_87 : decode cX11_digest 87 = .ok (.lmul, 1) := by decide +kernel
theorem dX11_digest_88 : decode cX11_digest 88 = .ok (.aload_n 0, 1) := by decide +kernel
theorem dX11_digest_89 : decode cX11_digest 89 = .ok (.getfield 12, 3) := by decide +kernel
theorem dX11_digest_92 : decode cX11_digest 92 = .ok (.iload_n 3, 1) := by decide +kernel
theorem dX11_digest_93 : decode cX11_digest 93 = .ok (.iload 4, 2) := by decide +kernel
theorem dX11_digest_95 : decode cX11_digest 95 = .ok (.invokevirtual 145, 3) := by decide +kernel
theorem dX11_digest_98 : decode cX11_digest 98 = .ok (.i2l, 1) := by decide +kernel
theorem dX11_digest_99 : decode cX11_digest 99 = .ok (.ladd, 1) := by decide +kernel
theorem dX11_digest_100 : decode cX11_digest 100 = .ok (.lstore_n 1, 1) := by decide +kernel
theorem dX11_digest_101 : decode cX11_digest 101 = .ok (.iinc 4 1, 3) := by decide +kernel
theorem dX11_digest_104 : decode cX11_digest 104 = .ok (.goto (-27), 3) := by decide +kernel
theorem dX11_digest_107 : decode cX11_digest 107 = .ok (.iinc 3 1, 3) := by decide +kernel
theorem dX11_digest_110 : decode cX11_digest 110 = .ok (.goto (-47), 3) := by decide +kernel
theorem dX11_digest_113 : decode cX11_digest 113 = .ok (.iconst 0, 1) := by decide +kernel
theorem dX11_digest_114 : decode cX11_digest 114 = .ok (.istore_n 3, 1) := by decide +kernel
theorem dX11_digest_115 : decode cX11_digest 115 = .ok (.iload_n 3, 1) := by decide +kernel
theorem dX11_digest_116 : decode cX11_digest 116 = .ok (.aload_n 0, 1) := by decide +kernel
theorem dX11_digest_117 : decode cX11_digest 117 = .ok (.getfield 12, 3) := by decide +kernel
theorem dX11_digest_120 : decode cX11_digest 120 = .ok (.getfield 200, 3) := by decide +kernel
theorem dX11_digest_123 : decode cX11_digest 123 = .ok (.if_icmp .ge 60, 3) := by decide +kernel
theorem dX11_digest_126 : decode cX11_digest 126 = .ok (.ldc2_w 261, 3) := by decide +kernel
theorem dX11_digest_129 : decode cX11_digest 129 = .ok (.lload_n 1, 1) := by decide +kernel
theorem dX11_digest_130 : decode cX11_digest 130 = .ok (.lmul, 1) := by decide +kernel
theorem dX11_digest_131 : decode cX11_digest 131 = .ok (.aload_n 0, 1) := by decide +kernel
theorem dX11_digest_132 : decode cX11_digest 132 = .ok (.getfield 12, 3) := by decide +kernel
theorem dX11_digest_135 : decode cX11_digest 135 = .ok (.getfield 263, 3) := by decide +kernel
theorem dX11_digest_138 : decode cX11_digest 138 = .ok (.iload_n 3, 1) := by decide +kernel
theorem dX11_digest_139 : decode cX11_digest 139 = .ok (.iaload, 1) := by decide +kernel
theorem dX11_digest_140 : decode cX11_digest 140 = .ok (.i2l, 1) := by decide +kernel
theorem dX11_digest_141 : decode cX11_digest 141 = .ok (.ladd, 1) := by decide +kernel
theorem dX11_digest_142 : decode cX11_digest 142 = .ok (.lstore_n 1, 1) := by decide +kernel
theorem dX11_digest_143 : decode cX11_digest 143 = .ok (.ldc2_w 261, 3) := by decide +kernel
theorem dX11_digest_146 : decode cX11_digest 146 = .ok (.lload_n 1, 1) := by decide +kernel
theorem dX11_digest_147 : decode cX11_digest 147 = .ok (.lmul, 1) := by decide +kernel
theorem dX11_digest_148 : decode cX11_digest 148 = .ok (.aload_n 0, 1) := by decide +kernel
theorem dX11_digest_149 : decode cX11_digest 149 = .ok (.getfield 12, 3) := by decide +kernel
theorem dX11_digest_152 : decode cX11_digest 152 = .ok (.getfield 266, 3) := by decide +kernel
theorem dX11_digest_155 : decode cX11_digest 155 = .ok (.iload_n 3, 1) := by decide +kernel
theorem dX11_digest_156 : decode cX11_digest 156 = .ok (.iaload, 1) := by decide +kernel
theorem dX11_digest_157 : decode cX11_digest 157 = .ok (.i2l, 1) := by decide +kernel
theorem dX11_digest_158 : decode cX11_digest 158 = .ok (.ladd, 1) := by decide +kernel
theorem dX11_digest_159 : decode cX11_digest 159 = .ok (.lstore_n 1, 1) := by decide +kernel
theorem dX11_digest_160 : decode cX11_digest 160 = .ok (.ldc2_w 261, 3) := by decide +kernel
theorem dX11_digest_163 : decode cX11_digest 163 = .ok (.lload_n 1, 1) := by decide +kernel
theorem dX11_digest_164 : decode cX11_digest 164 = .ok (.lmul, 1) := by decide +kernel
theorem dX11_digest_165 : decode cX11_digest 165 = .ok (.aload_n 0, 1) := by decide +kernel
theorem dX11_digest_166 : decode cX11_digest 166 = .ok (.getfield 12, 3) := by decide +kernel
theorem dX11_digest_169 : decode cX11_digest 169 = .ok (.getfield 269, 3) := by decide +kernel
theorem dX11_digest_172 : decode cX11_digest 172 = .ok (.iload_n 3, 1) := by decide +kernel
theorem dX11_digest_173 : decode cX11_digest 173 = .ok (.iaload, 1) := by decide +kernel
theorem dX11_digest_174 : decode cX11_digest 174 = .ok (.i2l, 1) := by decide +kernel
theorem dX11_digest_175 : decode cX11_digest 175 = .ok (.ladd, 1) := by decide +kernel
theorem dX11_digest_176 : decode cX11_digest 176 = .ok (.lstore_n 1, 1) := by decide +kernel
theorem dX11_digest_177 : decode cX11_digest 177 = .ok (.iinc 3 1, 3) := by decide +kernel
theorem dX11_digest_180 : decode cX11_digest 180 = .ok (.goto (-65), 3) := by decide +kernel
theorem dX11_digest_183 : decode cX11_digest 183 = .ok (.ldc2_w 261, 3) := by decide +kernel
theorem dX11_digest_186 : decode cX11_digest 186 = .ok (.lload_n 1, 1) := by decide +kernel
theorem dX11_digest_187 : decode cX11_digest 187 = .ok (.lmul, 1) := by decide +kernel
theorem dX11_digest_188 : decode cX11_digest 188 = .ok (.aload_n 0, 1) := by decide +kernel
theorem dX11_digest_189 : decode cX11_digest 189 = .ok (.getfield 59, 3) := by decide +kernel
theorem dX11_digest_192 : decode cX11_digest 192 = .ok (.ladd, 1) := by decide +kernel
theorem dX11_digest_193 : decode cX11_digest 193 = .ok (.lstore_n 1, 1) := by decide +kernel
theorem dX11_digest_194 : decode cX11_digest 194 = .ok (.ldc2_w 261, 3) := by decide +kernel
theorem dX11_digest_197 : decode cX11_digest 197 = .ok (.lload_n 1, 1) := by decide +kernel
theorem dX11_digest_198 : decode cX11_digest 198 = .ok (.lmul, 1) := by decide +kernel
theorem dX11_digest_199 : decode cX11_digest 199 = .ok (.aload_n 0, 1) := by decide +kernel
theorem dX11_digest_200 : decode cX11_digest 200 = .ok (.getfield 63, 3) := by decide +kernel
theorem dX11_digest_203 : decode cX11_digest 203 = .ok (.ladd, 1) := by decide +kernel
theorem dX11_digest_204 : decode cX11_digest 204 = .ok (.lreturn, 1) := by decide +kernel
def P_X11_digest : Nat → Nat
  | 1 => 6
  | 2 => 33
  | 3 => 63
  | 4 => 77
  | 5 => 115
  | _ => 0
set_option maxRecDepth 100000 in
set_option maxHeartbeats 4000000 in
theorem S_X11_digest : zSd yX11_digest cX11_digest 5 (some .long) { frames := 5, cells := 0, slots := 0, locals := 114 } T_X11_digest := by
  refine zMet (pcs := P_X11_digest) (F := F_X11_digest) (by decide) rfl ?_
  intro p l e s m args below meth c D ids ad A Q Y C hr hk hY b
  match b with
  | 0 => exact (z_ldc2 (pc := 0) C dX11_digest_0 w_830 <| z_lstn (pc := 3) C dX11_digest_3 rfl (by decide) <| z_ic (pc := 4) C dX11_digest_4 (by decide +kernel) <| z_isn (pc := 5) C dX11_digest_5 rfl (by decide) <| z_jmp (hY 1))
  | 1 => exact (z_iln (pc := 6) C dX11_digest_6 rfl <| z_bi (pc := 7) C dX11_digest_7 (by decide +kernel) <| z_cmpgt (tgt := 31) (pc := 9) C dX11_digest_9 (by decide) (z_ic (pc := 31) C dX11_digest_31 (by decide +kernel) <| z_isn (pc := 32) C dX11_digest_32 rfl (by decide) <| z_jmp (hY 2)) <| z_ldc2 (pc := 12) C dX11_digest_12 w_831 <| z_lln (pc := 15) C dX11_digest_15 rfl <| z_lmul (pc := 16) C dX11_digest_16 <| z_aln (pc := 17) C dX11_digest_17 rfl <| z_iln (pc := 18) C dX11_digest_18 rfl <| z_cV (pc := 19) C dX11_digest_19 S_X11_howMany rfl (zl4 w_822 w_824 wp_19 w_1) w_825 ds_X11_howMany (zrm rfl rfl (by decide) (by decide)) <| z_i2l (pc := 22) C dX11_digest_22 <| z_ladd (pc := 23) C dX11_digest_23 <| z_lstn (pc := 24) C dX11_digest_24 rfl (by decide) <| z_inc (pc := 25) C dX11_digest_25 (by decide +kernel) (by decide) <| z_goto (tgt := 6) (pc := 28) C dX11_digest_28 (by decide) <| z_jmp (hY 1))
  | 2 => exact (z_iln (pc := 33) C dX11_digest_33 rfl <| z_ic (pc := 34) C dX11_digest_34 (by decide +kernel) <| z_cmpge (tgt := 61) (pc := 35) C dX11_digest_35 (by decide) (z_ic (pc := 61) C dX11_digest_61 (by decide +kernel) <| z_isn (pc := 62) C dX11_digest_62 rfl (by decide) <| z_jmp (hY 3)) <| z_ldc2 (pc := 38) C dX11_digest_38 w_831 <| z_lln (pc := 41) C dX11_digest_41 rfl <| z_lmul (pc := 42) C dX11_digest_42 <| z_aln (pc := 43) C dX11_digest_43 rfl <| z_gf (pc := 44) C dX11_digest_44 fl_11_12 <| z_gf (pc := 47) C dX11_digest_47 fl_11_87 <| z_iln (pc := 50) C dX11_digest_50 rfl <| z_ia (pc := 51) C dX11_digest_51 <| z_i2l (pc := 52) C dX11_digest_52 <| z_ladd (pc := 53) C dX11_digest_53 <| z_lstn (pc := 54) C dX11_digest_54 rfl (by decide) <| z_inc (pc := 55) C dX11_digest_55 (by decide +kernel) (by decide) <| z_goto (tgt := 33) (pc := 58) C dX11_digest_58 (by decide) <| z_jmp (hY 2))
  | 3 => exact (z_iln (pc := 63) C dX11_digest_63 rfl <| z_aln (pc := 64) C dX11_digest_64 rfl <| z_gf (pc := 65) C dX11_digest_65 fl_11_12 <| z_gf (pc := 68) C dX11_digest_68 fl_11_74 <| z_cmpge (tgt := 113) (pc := 71) C dX11_digest_71 (by decide) (z_ic (pc := 113) C dX11_digest_113 (by decide +kernel) <| z_isn (pc := 114) C dX11_digest_114 rfl (by decide) <| z_jmp (hY 5)) <| z_ic (pc := 74) C dX11_digest_74 (by decide +kernel) <| z_is (pc := 75) C dX11_digest_75 (by decide) <| z_jmp (hY 4))
  | 4 => exact (z_il (pc := 77) C dX11_digest_77 <| z_ic (pc := 79) C dX11_digest_79 (by decide +kernel) <| z_cmpgt (tgt := 107) (pc := 80) C dX11_digest_80 (by decide) (z_inc (pc := 107) C dX11_digest_107 (by decide +kernel) (by decide) <| z_goto (tgt := 63) (pc := 110) C dX11_digest_110 (by decide) <| z_jmp (hY 3)) <| z_ldc2 (pc := 83) C dX11_digest_83 w_831 <| z_lln (pc := 86) C dX11_digest_86 rfl <| z_lmul (pc := 87) C dX11_digest_87 <| z_aln (pc := 88) C dX11_digest_88 rfl <| z_gf (pc := 89) C dX11_digest_89 fl_11_12 <| z_iln (pc := 92) C dX11_digest_92 rfl <| z_il (pc := 93) C dX11_digest_93 <| z_cV (pc := 95) C dX11_digest_95 S_X1_trait rfl (zl4 w_516 w_517 w_518 w_2) w_519 ds_X1_trait (zrm rfl rfl (by decide) (by decide)) <| z_i2l (pc := 98) C dX11_digest_98 <| z_ladd (pc := 99) C dX11_digest_99 <| z_lstn (pc := 100) C dX11_digest_100 rfl (by decide) <| z_inc (pc := 101) C dX11_digest_101 (by decide +kernel) (by decide) <| z_goto (tgt := 77) (pc := 104) C dX11_digest_104 (by decide) <| z_jmp (hY 4))
  | 5 => exact (z_iln (pc := 115) C dX11_digest_115 rfl <| z_aln (pc := 116) C dX11_digest_116 rfl <| z_gf (pc := 117) C dX11_digest_117 fl_11_12 <| z_gf (pc := 120) C dX11_digest_120 fl_11_200 <| z_cmpge (tgt := 183) (pc := 123) C dX11_digest_123 (by decide) (z_ldc2 (pc := 183) C dX11_digest_183 w_831 <| z_lln (pc := 186) C dX11_digest_186 rfl <| z_lmul (pc := 187) C dX11_digest_187 <| z_aln (pc := 188) C dX11_digest_188 rfl <| z_gf (pc := 189) C dX11_digest_189 fl_11_59 <| z_ladd (pc := 192) C dX11_digest_192 <| z_lstn (pc := 193) C dX11_digest_193 rfl (by decide) <| z_ldc2 (pc := 194) C dX11_digest_194 w_831 <| z_lln (pc := 197) C dX11_digest_197 rfl <| z_lmul (pc := 198) C dX11_digest_198 <| z_aln (pc := 199) C dX11_digest_199 rfl <| z_gf (pc := 200) C dX11_digest_200 fl_11_63 <| z_ladd (pc := 203) C dX11_digest_203 <| z_lr C hr hk dX11_digest_204) <| z_ldc2 (pc := 126) C dX11_digest_126 w_831 <| z_lln (pc := 129) C dX11_digest_129 rfl <| z_lmul (pc := 130) C dX11_digest_130 <| z_aln (pc := 131) C dX11_digest_131 rfl <| z_gf (pc := 132) C dX11_digest_132 fl_11_12 <| z_gf (pc := 135) C dX11_digest_135 fl_11_263 <| z_iln (pc := 138) C dX11_digest_138 rfl <| z_ia (pc := 139) C dX11_digest_139 <| z_i2l (pc := 140) C dX11_digest_140 <| z_ladd (pc := 141) C dX11_digest_141 <| z_lstn (pc := 142) C dX11_digest_142 rfl (by decide) <| z_ldc2 (pc := 143) C dX11_digest_143 w_831 <| z_lln (pc := 146) C dX11_digest_146 rfl <| z_lmul (pc := 147) C dX11_digest_147 <| z_aln (pc := 148) C dX11_digest_148 rfl <| z_gf (pc := 149) C dX11_digest_149 fl_11_12 <| z_gf (pc := 152) C dX11_digest_152 fl_11_266 <| z_iln (pc := 155) C dX11_digest_155 rfl <| z_ia (pc := 156) C dX11_digest_156 <| z_i2l (pc := 157) C dX11_digest_157 <| z_ladd (pc := 158) C dX11_digest_158 <| z_lstn (pc := 159) C dX11_digest_159 rfl (by decide) <| z_ldc2 (pc := 160) C dX11_digest_160 w_831 <| z_lln (pc := 163) C dX11_digest_163 rfl <| z_lmul (pc := 164) C dX11_digest_164 <| z_aln (pc := 165) C dX11_digest_165 rfl <| z_gf (pc := 166) C dX11_digest_166 fl_11_12 <| z_gf (pc := 169) C dX11_digest_169 fl_11_269 <| z_iln (pc := 172) C dX11_digest_172 rfl <| z_ia (pc := 173) C dX11_digest_173 <| z_i2l (pc := 174) C dX11_digest_174 <| z_ladd (pc := 175) C dX11_digest_175 <| z_lstn (pc := 176) C dX11_digest_176 rfl (by decide) <| z_inc (pc := 177) C dX11_digest_177 (by decide +kernel) (by decide) <| z_goto (tgt := 115) (pc := 180) C dX11_digest_180 (by decide) <| z_jmp (hY 5))
  | b + 6 => exact fun _ _ _ h => h.elim
theorem dX12_in_0 : decode cX12_in 0 = .ok (.lload_n 0, 1) := by decide +kernel
theorem dX12_in_1 : decode cX12_in 1 = .ok (.lload_n 2, 1) := by decide +kernel
theorem dX12_in_2 : decode cX12_in 2 = .ok (.lcmp, 1) := by decide +kernel
theorem dX12_in_3 : decode cX12_in 3 = .ok (.ifCond .lt 14, 3) := by decide +kernel
theorem dX12_in_6 : decode cX12_in 6 = .ok (.lload_n 0, 1) := by decide +kernel
theorem dX12_in_7 : decode cX12_in 7 = .ok (.lload 4, 2) := by decide +kernel
theorem dX12_in_9 : decode cX12_in 9 = .ok (.lcmp, 1) := by decide +kernel
theorem dX12_in_10 : decode cX12_in 10 = .ok (.ifCond .gt 7, 3) := by decide +kernel
theorem dX12_in_13 : decode cX12_in 13 = .ok (.iconst 1, 1) := by decide +kernel
theorem dX12_in_14 : decode cX12_in 14 = .ok (.goto 4, 3) := by decide +kernel
theorem dX12_in_17 : decode cX12_in 17 = .ok (.iconst 0, 1) := by decide +kernel
theorem dX12_in_18 : decode cX12_in 18 = .ok (.ireturn, 1) := by decide +kernel
def P_X12_in : Nat → Nat
  | _ => 0
set_option maxRecDepth 100000 in
set_option maxHeartbeats 4000000 in
theorem S_X12_in : zSd yX12_in cX12_in 6 (some .boolean) { frames := 0, cells := 0, slots := 0, locals := 0 } T_X12_in := by
  refine zMet (pcs := P_X12_in) (F := F_X12_in) (by decide) rfl ?_
  intro p l e s m args below meth c D ids ad A Q Y C hr hk hY b
  match b with
  | 0 => exact (z_lln (pc := 0) C dX12_in_0 rfl <| z_lln (pc := 1) C dX12_in_1 rfl <| z_lcmp (pc := 2) C dX12_in_2 <| z_iflt (tgt := 17) (pc := 3) C dX12_in_3 (by decide) (z_ic (pc := 17) C dX12_in_17 (by decide +kernel) <| z_zr C hr hk dX12_in_18) <| z_lln (pc := 6) C dX12_in_6 rfl <| z_ll (pc := 7) C dX12_in_7 <| z_lcmp (pc := 9) C dX12_in_9 <| z_ifgt (tgt := 17) (pc := 10) C dX12_in_10 (by decide) (z_ic (pc := 17) C dX12_in_17 (by decide +kernel) <| z_zr C hr hk dX12_in_18) <| z_ic (pc := 13) C dX12_in_13 (by decide +kernel) <| z_goto (tgt := 18) (pc := 14) C dX12_in_14 (by decide) <| z_zr C hr hk dX12_in_18)
  | b + 1 => exact fun _ _ _ h => h.elim
theorem dX12_bad_0 : decode cX12_bad 0 = .ok (.aload_n 0, 1) := by decide +kernel
theorem dX12_bad_1 : decode cX12_bad 1 = .ok (.getfield 20, 3) := by decide +kernel
theorem dX12_bad_4 : decode cX12_bad 4 = .ok (.iconst 0, 1) := by decide +kernel
theorem dX12_bad_5 : decode cX12_bad 5 = .ok (.dup2, 1) := by decide +kernel
theorem dX12_bad_6 : decode cX12_bad 6 = .ok (.iaload, 1) := by decide +kernel
theorem dX12_bad_7 : decode cX12_bad 7 = .ok (.iconst 1, 1) := by decide +kernel
theorem dX12_bad_8 : decode cX12_bad 8 = .ok (.iadd, 1) := by decide +kernel
theorem dX12_bad_9 : decode cX12_bad 9 = .ok (.iastore, 1) := by decide +kernel
theorem dX12_bad_10 : decode cX12_bad 10 = .ok (.iload_n 1, 1) := by decide +kernel
theorem dX12_bad_11 : decode cX12_bad 11 = .ok (.ireturn, 1) := by decide +kernel
def P_X12_bad : Nat → Nat
  | _ => 0
set_option maxRecDepth 100000 in
set_option maxHeartbeats 4000000 in
theorem S_X12_bad : zSd yX12_bad cX12_bad 2 (some .int) { frames := 0, cells := 0, slots := 0, locals := 0 } T_X12_bad := by
  refine zMet (pcs := P_X12_bad) (F := F_X12_bad) (by decide) rfl ?_
  intro p l e s m args below meth c D ids ad A Q Y C hr hk hY b
  match b with
  | 0 => exact (z_aln (pc := 0) C dX12_bad_0 rfl <| z_gf (pc := 1) C dX12_bad_1 fl_12_20 <| z_ic (pc := 4) C dX12_bad_4 (by decide +kernel) <| z_dup2 (pc := 5) C dX12_bad_5 <| z_ia (pc := 6) C dX12_bad_6 <| z_ic (pc := 7) C dX12_bad_7 (by decide +kernel) <| z_iadd (pc := 8) C dX12_bad_8 <| z_iast (pc := 9) C dX12_bad_9 <| z_iln (pc := 10) C dX12_bad_10 rfl <| z_ir C hr hk dX12_bad_11)
  | b + 1 => exact fun _ _ _ h => h.elim
theorem dX12_no_0 : decode cX12_no 0 = .ok (.aload_n 0, 1) := by decide +kernel
theorem dX12_no_1 : decode cX12_no 1 = .ok (.getfield 20, 3) := by decide +kernel
theorem dX12_no_4 : decode cX12_no 4 = .ok (.iconst 1, 1) := by decide +kernel
theorem dX12_no_5 : decode cX12_no 5 = .ok (.dup2, 1) := by decide +kernel
theorem dX12_no_6 : decode cX12_no 6 = .ok (.iaload, 1) := by decide +kernel
theorem dX12_no_7 : decode cX12_no 7 = .ok (.iconst 1, 1) := by decide +kernel
theorem dX12_no_8 : decode cX12_no 8 = .ok (.iadd, 1) := by decide +kernel
theorem dX12_no_9 : decode cX12_no 9 = .ok (.iastore, 1) := by decide +kernel
theorem dX12_no_10 : decode cX12_no 10 = .ok (.bipush (-3), 2) := by decide +kernel
theorem dX12_no_12 : decode cX12_no 12 = .ok (.ireturn, 1) := by decide +kernel
def P_X12_no : Nat → Nat
  | _ => 0
set_option maxRecDepth 100000 in
set_option maxHeartbeats 4000000 in
theorem S_X12_no : zSd yX12_no cX12_no 1 (some .int) { frames := 0, cells := 0, slots := 0, locals := 0 } T_X12_no := by
  refine zMet (pcs := P_X12_no) (F := F_X12_no) (by decide) rfl ?_
  intro p l e s m args below meth c D ids ad A Q Y C hr hk hY b
  match b with
  | 0 => exact (z_aln (pc := 0) C dX12_no_0 rfl <| z_gf (pc := 1) C dX12_no_1 fl_12_20 <| z_ic (pc := 4) C dX12_no_4 (by decide +kernel) <| z_dup2 (pc := 5) C dX12_no_5 <| z_ia (pc := 6) C dX12_no_6 <| z_ic (pc := 7) C dX12_no_7 (by decide +kernel) <| z_iadd (pc := 8) C dX12_no_8 <| z_iast (pc := 9) C dX12_no_9 <| z_bi (pc := 10) C dX12_no_10 (by decide +kernel) <| z_ir C hr hk dX12_no_12)
  | b + 1 => exact fun _ _ _ h => h.elim
theorem dX12_full_0 : decode cX12_full 0 = .ok (.aload_n 0, 1) := by decide +kernel
theorem dX12_full_1 : decode cX12_full 1 = .ok (.getfield 20, 3) := by decide +kernel
theorem dX12_full_4 : decode cX12_full 4 = .ok (.iconst 2, 1) := by decide +kernel
theorem dX12_full_5 : decode cX12_full 5 = .ok (.dup2, 1) := by decide +kernel
theorem dX12_full_6 : decode cX12_full 6 = .ok (.iaload, 1) := by decide +kernel
theorem dX12_full_7 : decode cX12_full 7 = .ok (.iconst 1, 1) := by decide +kernel
theorem dX12_full_8 : decode cX12_full 8 = .ok (.iadd, 1) := by decide +kernel
theorem dX12_full_9 : decode cX12_full 9 = .ok (.iastore, 1) := by decide +kernel
theorem dX12_full_10 : decode cX12_full 10 = .ok (.bipush (-4), 2) := by decide +kernel
theorem dX12_full_12 : decode cX12_full 12 = .ok (.ireturn, 1) := by decide +kernel
def P_X12_full : Nat → Nat
  | _ => 0
set_option maxRecDepth 100000 in
set_option maxHeartbeats 4000000 in
theorem S_X12_full : zSd yX12_full cX12_full 1 (some .int) { frames := 0, cells := 0, slots := 0, locals := 0 } T_X12_full := by
  refine zMet (pcs := P_X12_full) (F := F_X12_full) (by decide) rfl ?_
  intro p l e s m args below meth c D ids ad A Q Y C hr hk hY b
  match b with
  | 0 => exact (z_aln (pc := 0) C dX12_full_0 rfl <| z_gf (pc := 1) C dX12_full_1 fl_12_20 <| z_ic (pc := 4) C dX12_full_4 (by decide +kernel) <| z_dup2 (pc := 5) C dX12_full_5 <| z_ia (pc := 6) C dX12_full_6 <| z_ic (pc := 7) C dX12_full_7 (by decide +kernel) <| z_iadd (pc := 8) C dX12_full_8 <| z_iast (pc := 9) C dX12_full_9 <| z_bi (pc := 10) C dX12_full_10 (by decide +kernel) <| z_ir C hr hk dX12_full_12)
  | b + 1 => exact fun _ _ _ h => h.elim
theorem dX12_bits_0 : decode cX12_bits 0 = .ok (.iconst 0, 1) := by decide +kernel
theorem dX12_bits_1 : decode cX12_bits 1 = .ok (.istore_n 1, 1) := by decide +kernel
theorem dX12_bits_2 : decode cX12_bits 2 = .ok (.iload_n 0, 1) := by decide +kernel
theorem dX12_bits_3 : decode cX12_bits 3 = .ok (.istore_n 2, 1) := by decide +kernel
theorem dX12_bits_4 : decode cX12_bits 4 = .ok (.iload_n 2, 1) := by decide +kernel
theorem dX12_bits_5 : decode cX12_bits 5 = .ok (.ifCond .le 16, 3) := by decide +kernel
theorem dX12_bits_8 : decode cX12_bits 8 = .ok (.iload_n 1, 1) := by decide +kernel
theorem dX12_bits_9 : decode cX12_bits 9 = .ok (.iload_n 2, 1) := by decide +kernel
theorem dX12_bits_10 : decode cX12_bits 10 = .ok (.iconst 1, 1) := by decide +kernel
theorem dX12_bits_11 : decode cX12_bits 11 = .ok (.iand, 1) := by decide +kernel
theorem dX12_bits_12 : decode cX12_bits 12 = .ok (.iadd, 1) := by decide +kernel
theorem dX12_bits_13 : decode cX12_bits 13 = .ok (.istore_n 1, 1) := by decide +kernel
theorem dX12_bits_14 : decode cX12_bits 14 = .ok (.iload_n 2, 1) := by decide +kernel
theorem dX12_bits_15 : decode cX12_bits 15 = .ok (.iconst 1, 1) := by decide +kernel
theorem dX12_bits_16 : decode cX12_bits 16 = .ok (.ishr, 1) := by decide +kernel
theorem dX12_bits_17 : decode cX12_bits 17 = .ok (.istore_n 2, 1) := by decide +kernel
theorem dX12_bits_18 : decode cX12_bits 18 = .ok (.goto (-14), 3) := by decide +kernel
theorem dX12_bits_21 : decode cX12_bits 21 = .ok (.iload_n 1, 1) := by decide +kernel
theorem dX12_bits_22 : decode cX12_bits 22 = .ok (.ireturn, 1) := by decide +kernel
def P_X12_bits : Nat → Nat
  | 1 => 4
  | _ => 0
set_option maxRecDepth 100000 in
set_option maxHeartbeats 4000000 in
theorem S_X12_bits : zSd yX12_bits cX12_bits 3 (some .int) { frames := 0, cells := 0, slots := 0, locals := 0 } T_X12_bits := by
  refine zMet (pcs := P_X12_bits) (F := F_X12_bits) (by decide) rfl ?_
  intro p l e s m args below meth c D ids ad A Q Y C hr hk hY b
  match b with
  | 0 => exact (z_ic (pc := 0) C dX12_bits_0 (by decide +kernel) <| z_isn (pc := 1) C dX12_bits_1 rfl (by decide) <| z_iln (pc := 2) C dX12_bits_2 rfl <| z_isn (pc := 3) C dX12_bits_3 rfl (by decide) <| z_jmp (hY 1))
  | 1 => exact (z_iln (pc := 4) C dX12_bits_4 rfl <| z_ifle (tgt := 21) (pc := 5) C dX12_bits_5 (by decide) (z_iln (pc := 21) C dX12_bits_21 rfl <| z_ir C hr hk dX12_bits_22) <| z_iln (pc := 8) C dX12_bits_8 rfl <| z_iln (pc := 9) C dX12_bits_9 rfl <| z_ic (pc := 10) C dX12_bits_10 (by decide +kernel) <| z_iand (pc := 11) C dX12_bits_11 <| z_iadd (pc := 12) C dX12_bits_12 <| z_isn (pc := 13) C dX12_bits_13 rfl (by decide) <| z_iln (pc := 14) C dX12_bits_14 rfl <| z_ic (pc := 15) C dX12_bits_15 (by decide +kernel) <| z_ishr (pc := 16) C dX12_bits_16 <| z_isn (pc := 17) C dX12_bits_17 rfl (by decide) <| z_goto (tgt := 4) (pc := 18) C dX12_bits_18 (by decide) <| z_jmp (hY 1))
  | b + 2 => exact fun _ _ _ h => h.elim
theorem dX12_has_0 : decode cX12_has 0 = .ok (.iload_n 0, 1) := by decide +kernel
theorem dX12_has_1 : decode cX12_has 1 = .ok (.iload_n 1, 1) := by decide +kernel
theorem dX12_has_2 : decode cX12_has 2 = .ok (.ishr, 1) := by decide +kernel
theorem dX12_has_3 : decode cX12_has 3 = .ok (.iconst 1, 1) := by decide +kernel
theorem dX12_has_4 : decode cX12_has 4 = .ok (.iand, 1) := by decide +kernel
theorem dX12_has_5 : decode cX12_has 5 = .ok (.iconst 1, 1) := by decide +kernel
theorem dX12_has_6 : decode cX12_has 6 = .ok (.if_icmp .ne 7, 3) := by decide +kernel
theorem dX12_has_9 : decode cX12_has 9 = .ok (.iconst 1, 1) := by decide +kernel
theorem dX12_has_10 : decode cX12_has 10 = .ok (.goto 4, 3) := by decide +kernel
theorem dX12_has_13 : decode cX12_has 13 = .ok (.iconst 0, 1) := by decide +kernel
theorem dX12_has_14 : decode cX12_has 14 = .ok (.ireturn, 1) := by decide +kernel
def P_X12_has : Nat → Nat
  | _ => 0
set_option maxRecDepth 100000 in
set_option maxHeartbeats 4000000 in
theorem S_X12_has : zSd yX12_has cX12_has 2 (some .boolean) { frames := 0, cells := 0, slots := 0, locals := 0 } T_X12_has := by
  refine zMet (pcs := P_X12_has) (F := F_X12_has) (by decide) rfl ?_
  intro p l e s m args below meth c D ids ad A Q Y C hr hk hY b
  match b with
  | 0 => exact (z_iln (pc := 0) C dX12_has_0 rfl <| z_iln (pc := 1) C dX12_has_1 rfl <| z_ishr (pc := 2) C dX12_has_2 <| z_ic (pc := 3) C dX12_has_3 (by decide +kernel) <| z_iand (pc := 4) C dX12_has_4 <| z_ic (pc := 5) C dX12_has_5 (by decide +kernel) <| z_cmpne (tgt := 13) (pc := 6) C dX12_has_6 (by decide) (z_ic (pc := 13) C dX12_has_13 (by decide +kernel) <| z_zr C hr hk dX12_has_14) <| z_ic (pc := 9) C dX12_has_9 (by decide +kernel) <| z_goto (tgt := 14) (pc := 10) C dX12_has_10 (by decide) <| z_zr C hr hk dX12_has_14)
  | b + 1 => exact fun _ _ _ h => h.elim
theorem dX12_begin_0 : decode cX12_begin 0 = .ok (.iconst 0, 1) := by decide +kernel
theorem dX12_begin_1 : decode cX12_begin 1 = .ok (.istore_n 2, 1) := by decide +kernel
theorem dX12_begin_2 : decode cX12_begin 2 = .ok (.iload_n 2, 1) := by decide +kernel
theorem dX12_begin_3 : decode cX12_begin 3 = .ok (.bipush 66, 2) := by decide +kernel
theorem dX12_begin_5 : decode cX12_begin 5 = .ok (.if_icmp .ge 13, 3) := by decide +kernel
theorem dX12_begin_8 : decode cX12_begin 8 = .ok (.aload_n 0, 1) := by decide +kernel
theorem dX12_begin_9 : decode cX12_begin 9 = .ok (.iload_n 2, 1) := by decide +kernel
theorem dX12_begin_10 : decode cX12_begin 10 = .ok (.iconst 0, 1) := by decide +kernel
theorem dX12_begin_11 : decode cX12_begin 11 = .ok (.iastore, 1) := by decide +kernel
theorem dX12_begin_12 : decode cX12_begin 12 = .ok (.iinc 2 1, 3) := by decide +kernel
theorem dX12_begin_15 : decode cX12_begin 15 = .ok (.goto (-13), 3) := by decide +kernel
theorem dX12_begin_18 : decode cX12_begin 18 = .ok (.aload_n 0, 1) := by decide +kernel
theorem dX12_begin_19 : decode cX12_begin 19 = .ok (.iconst 1, 1) := by decide +kernel
theorem dX12_begin_20 : decode cX12_begin 20 = .ok (.iload_n 1, 1) := by decide +kernel
theorem dX12_begin_21 : decode cX12_begin 21 = .ok (.iastore, 1) := by decide +kernel
theorem dX12_begin_22 : decode cX12_begin 22 = .ok (.return_, 1) := by decide +kernel
def P_X12_begin : Nat → Nat
  | 1 => 2
  | _ => 0
set_option maxRecDepth 100000 in
set_option maxHeartbeats 4000000 in
theorem S_X12_begin : zSd yX12_begin cX12_begin 3 none { frames := 0, cells := 0, slots := 0, locals := 0 } T_X12_begin := by
  refine zMet (pcs := P_X12_begin) (F := F_X12_begin) (by decide) rfl ?_
  intro p l e s m args below meth c D ids ad A Q Y C hr hk hY b
  match b with
  | 0 => exact (z_ic (pc := 0) C dX12_begin_0 (by decide +kernel) <| z_isn (pc := 1) C dX12_begin_1 rfl (by decide) <| z_jmp (hY 1))
  | 1 => exact (z_iln (pc := 2) C dX12_begin_2 rfl <| z_bi (pc := 3) C dX12_begin_3 (by decide +kernel) <| z_cmpge (tgt := 18) (pc := 5) C dX12_begin_5 (by decide) (z_aln (pc := 18) C dX12_begin_18 rfl <| z_ic (pc := 19) C dX12_begin_19 (by decide +kernel) <| z_iln (pc := 20) C dX12_begin_20 rfl <| z_iast (pc := 21) C dX12_begin_21 <| z_vr C hr hk dX12_begin_22) <| z_aln (pc := 8) C dX12_begin_8 rfl <| z_iln (pc := 9) C dX12_begin_9 rfl <| z_ic (pc := 10) C dX12_begin_10 (by decide +kernel) <| z_iast (pc := 11) C dX12_begin_11 <| z_inc (pc := 12) C dX12_begin_12 (by decide +kernel) (by decide) <| z_goto (tgt := 2) (pc := 15) C dX12_begin_15 (by decide) <| z_jmp (hY 1))
  | b + 2 => exact fun _ _ _ h => h.elim
theorem dX12_many_0 : decode cX12_many 0 = .ok (.aload_n 0, 1) := by decide +kernel
theorem dX12_many_1 : decode cX12_many 1 = .ok (.getfield 7, 3) := by decide +kernel
theorem dX12_many_4 : decode cX12_many 4 = .ok (.iconst 0, 1) := by decide +kernel
theorem dX12_many_5 : decode cX12_many 5 = .ok (.iaload, 1) := by decide +kernel
theorem dX12_many_6 : decode cX12_many 6 = .ok (.ireturn, 1) := by decide +kernel
def P_X12_many : Nat → Nat
  | _ => 0
set_option maxRecDepth 100000 in
set_option maxHeartbeats 4000000 in
theorem S_X12_many : zSd yX12_many cX12_many 1 (some .int) { frames := 0, cells := 0, slots := 0, locals := 0 } T_X12_many := by
  refine zMet (pcs := P_X12_many) (F := F_X12_many) (by decide) rfl ?_
  intro p l e s m args below meth c D ids ad A Q Y C hr hk hY b
  match b with
  | 0 => exact (z_aln (pc := 0) C dX12_many_0 rfl <| z_gf (pc := 1) C dX12_many_1 fl_12_7 <| z_ic (pc := 4) C dX12_many_4 (by decide +kernel) <| z_ia (pc := 5) C dX12_many_5 <| z_ir C hr hk dX12_many_6)
  | b + 1 => exact fun _ _ _ h => h.elim
theorem dX12_isFamily_0 : decode cX12_isFamily 0 = .ok (.iload_n 1, 1) := by decide +kernel
theorem dX12_isFamily_1 : decode cX12_isFamily 1 = .ok (.i2l, 1) := by decide +kernel
theorem dX12_isFamily_2 : decode cX12_isFamily 2 = .ok (.lconst 0, 1) := by decide +kernel
theorem dX12_isFamily_3 : decode cX12_isFamily 3 = .ok (.aload_n 0, 1) := by decide +kernel
theorem dX12_isFamily_4 : decode cX12_isFamily 4 = .ok (.invokevirtual 64, 3) := by decide +kernel
theorem dX12_isFamily_7 : decode cX12_isFamily 7 = .ok (.iconst 1, 1) := by decide +kernel
theorem dX12_isFamily_8 : decode cX12_isFamily 8 = .ok (.isub, 1) := by decide +kernel
theorem dX12_isFamily_9 : decode cX12_isFamily 9 = .ok (.i2l, 1) := by decide +kernel
theorem dX12_isFamily_10 : decode cX12_isFamily 10 = .ok (.invokestatic 68, 3) := by decide +kernel
theorem dX12_isFamily_13 : decode cX12_isFamily 13 = .ok (.ireturn, 1) := by decide +kernel
def P_X12_isFamily : Nat → Nat
  | _ => 0
set_option maxRecDepth 100000 in
set_option maxHeartbeats 4000000 in
theorem S_X12_isFamily : zSd yX12_isFamily cX12_isFamily 2 (some .boolean) { frames := 1, cells := 0, slots := 0, locals := 25 } T_X12_isFamily := by
  refine zMet (pcs := P_X12_isFamily) (F := F_X12_isFamily) (by decide) rfl ?_
  intro p l e s m args below meth c D ids ad A Q Y C hr hk hY b
  match b with
  | 0 => exact (z_iln (pc := 0) C dX12_isFamily_0 rfl <| z_i2l (pc := 1) C dX12_isFamily_1 <| z_lc (pc := 2) C dX12_isFamily_2 (by decide +kernel) <| z_aln (pc := 3) C dX12_isFamily_3 rfl <| z_cV (pc := 4) C dX12_isFamily_4 S_X12_many rfl (zl4 w_929 w_931 wp_21 w_13) w_932 ds_X12_many (zrm rfl rfl (by decide) (by decide)) <| z_ic (pc := 7) C dX12_isFamily_7 (by decide +kernel) <| z_isub (pc := 8) C dX12_isFamily_8 <| z_i2l (pc := 9) C dX12_isFamily_9 <| z_cS (pc := 10) C dX12_isFamily_10 S_X12_in (zl3 w_922 w_923 w_13) w_924 ds_X12_in (zrm rfl rfl (by decide) (by decide)) <| z_zr C hr hk dX12_isFamily_13)
  | b + 1 => exact fun _ _ _ h => h.elim
theorem dX12_isWord_0 : decode cX12_isWord 0 = .ok (.iload_n 0, 1) := by decide +kernel
theorem dX12_isWord_1 : decode cX12_isWord 1 = .ok (.i2l, 1) := by decide +kernel
theorem dX12_isWord_2 : decode cX12_isWord 2 = .ok (.lconst 0, 1) := by decide +kernel
theorem dX12_isWord_3 : decode cX12_isWord 3 = .ok (.ldc2_w 72, 3) := by decide +kernel
theorem dX12_isWord_6 : decode cX12_isWord 6 = .ok (.invokestatic 68, 3) := by decide +kernel
theorem dX12_isWord_9 : decode cX12_isWord 9 = .ok (.ireturn, 1) := by decide +kernel
def P_X12_isWord : Nat → Nat
  | _ => 0
set_option maxRecDepth 100000 in
set_option maxHeartbeats 4000000 in
theorem S_X12_isWord : zSd yX12_isWord cX12_isWord 1 (some .boolean) { frames := 1, cells := 0, slots := 0, locals := 25 } T_X12_isWord := by
  refine zMet (pcs := P_X12_isWord) (F := F_X12_isWord) (by decide) rfl ?_
  intro p l e s m args below meth c D ids ad A Q Y C hr hk hY b
  match b with
  | 0 => exact (z_iln (pc := 0) C dX12_isWord_0 rfl <| z_i2l (pc := 1) C dX12_isWord_1 <| z_lc (pc := 2) C dX12_isWord_2 (by decide +kernel) <| z_ldc2 (pc := 3) C dX12_isWord_3 w_1004 <| z_cS (pc := 6) C dX12_isWord_6 S_X12_in (zl3 w_922 w_923 w_13) w_924 ds_X12_in (zrm rfl rfl (by decide) (by decide)) <| z_zr C hr hk dX12_isWord_9)
  | b + 1 => exact fun _ _ _ h => h.elim
theorem dX12_isBook_0 : decode cX12_isBook 0 = .ok (.iload_n 0, 1) := by decide +kernel
theorem dX12_isBook_1 : decode cX12_isBook 1 = .ok (.i2l, 1) := by decide +kernel
theorem dX12_isBook_2 : decode cX12_isBook 2 = .ok (.lconst 0, 1) := by decide +kernel
theorem dX12_isBook_3 : decode cX12_isBook 3 = .ok (.lconst 1, 1) := by decide +kernel
theorem dX12_isBook_4 : decode cX12_isBook 4 = .ok (.invokestatic 68, 3) := by decide +kernel
theorem dX12_isBook_7 : decode cX12_isBook 7 = .ok (.ireturn, 1) := by decide +kernel
def P_X12_isBook : Nat → Nat
  | _ => 0
set_option maxRecDepth 100000 in
set_option maxHeartbeats 4000000 in
theorem S_X12_isBook : zSd yX12_isBook cX12_isBook 1 (some .boolean) { frames := 1, cells := 0, slots := 0, locals := 25 } T_X12_isBook := by
  refine zMet (pcs := P_X12_isBook) (F := F_X12_isBook) (by decide) rfl ?_
  intro p l e s m args below meth c D ids ad A Q Y C hr hk hY b
  match b with
  | 0 => exact (z_iln (pc := 0) C dX12_isBook_0 rfl <| z_i2l (pc := 1) C dX12_isBook_1 <| z_lc (pc := 2) C dX12_isBook_2 (by decide +kernel) <| z_lc (pc := 3) C dX12_isBook_3 (by decide +kernel) <| z_cS (pc := 4) C dX12_isBook_4 S_X12_in (zl3 w_922 w_923 w_13) w_924 ds_X12_in (zrm rfl rfl (by decide) (by decide)) <| z_zr C hr hk dX12_isBook_7)
  | b + 1 => exact fun _ _ _ h => h.elim
theorem dX12_isPewOf_0 : decode cX12_isPewOf 0 = .ok (.iload_n 0, 1) := by decide +kernel
theorem dX12_isPewOf_1 : decode cX12_isPewOf 1 = .ok (.i2l, 1) := by decide +kernel
theorem dX12_isPewOf_2 : decode cX12_isPewOf 2 = .ok (.lconst 0, 1) := by decide +kernel
theorem dX12_isPewOf_3 : decode cX12_isPewOf 3 = .ok (.ldc2_w 74, 3) := by decide +kernel
theorem dX12_isPewOf_6 : decode cX12_isPewOf 6 = .ok (.invokestatic 68, 3) := by decide +kernel
theorem dX12_isPewOf_9 : decode cX12_isPewOf 9 = .ok (.ifCond .eq 14, 3) := by decide +kernel
theorem dX12_isPewOf_12 : decode cX12_isPewOf 12 = .ok (.iload_n 0, 1) := by decide +kernel
theorem dX12_isPewOf_13 : decode cX12_isPewOf 13 = .ok (.iconst 2, 1) := by decide +kernel
theorem dX12_isPewOf_14 : decode cX12_isPewOf 14 = .ok (.irem, 1) := by decide +kernel
theorem dX12_isPewOf_15 : decode cX12_isPewOf 15 = .ok (.iload_n 1, 1) := by decide +kernel
theorem dX12_isPewOf_16 : decode cX12_isPewOf 16 = .ok (.if_icmp .ne 7, 3) := by decide +kernel
theorem dX12_isPewOf_19 : decode cX12_isPewOf 19 = .ok (.iconst 1, 1) := by decide +kernel
theorem dX12_isPewOf_20 : decode cX12_isPewOf 20 = .ok (.goto 4, 3) := by decide +kernel
theorem dX12_isPewOf_23 : decode cX12_isPewOf 23 = .ok (.iconst 0, 1) := by decide +kernel
theorem dX12_isPewOf_24 : decode cX12_isPewOf 24 = .ok (.ireturn, 1) := by decide +kernel
def P_X12_isPewOf : Nat → Nat
  | _ => 0
set_option maxRecDepth 100000 in
set_option maxHeartbeats 4000000 in
theorem S_X12_isPewOf : zSd yX12_isPewOf cX12_isPewOf 2 (some .boolean) { frames := 1, cells := 0, slots := 0, locals := 25 } T_X12_isPewOf := by
  refine zMet (pcs := P_X12_isPewOf) (F := F_X12_isPewOf) (by decide) rfl ?_
  intro p l e s m args below meth c D ids ad A Q Y C hr hk hY b
  match b with
  | 0 => exact (z_iln (pc := 0) C dX12_isPewOf_0 rfl <| z_i2l (pc := 1) C dX12_isPewOf_1 <| z_lc (pc := 2) C dX12_isPewOf_2 (by decide +kernel) <| z_ldc2 (pc := 3) C dX12_isPewOf_3 w_946 <| z_cS (pc := 6) C dX12_isPewOf_6 S_X12_in (zl3 w_922 w_923 w_13) w_924 ds_X12_in (zrm rfl rfl (by decide) (by decide)) <| z_ifeq (tgt := 23) (pc := 9) C dX12_isPewOf_9 (by decide) (z_ic (pc := 23) C dX12_isPewOf_23 (by decide +kernel) <| z_zr C hr hk dX12_isPewOf_24) <| z_iln (pc := 12) C dX12_isPewOf_12 rfl <| z_ic (pc := 13) C dX12_isPewOf_13 (by decide +kernel) <| z_irem (pc := 14) C dX12_isPewOf_14 <| z_iln (pc := 15) C dX12_isPewOf_15 rfl <| z_cmpne (tgt := 23) (pc := 16) C dX12_isPewOf_16 (by decide) (z_ic (pc := 23) C dX12_isPewOf_23 (by decide +kernel) <| z_zr C hr hk dX12_isPewOf_24) <| z_ic (pc := 19) C dX12_isPewOf_19 (by decide +kernel) <| z_goto (tgt := 24) (pc := 20) C dX12_isPewOf_20 (by decide) <| z_zr C hr hk dX12_isPewOf_24)
  | b + 1 => exact fun _ _ _ h => h.elim
theorem dX12_get_0 : decode cX12_get 0 = .ok (.aload_n 0, 1) := by decide +kernel
theorem dX12_get_1 : decode cX12_get 1 = .ok (.getfield 7, 3) := by decide +kernel
theorem dX12_get_4 : decode cX12_get 4 = .ok (.bipush 6, 2) := by decide +kernel
theorem dX12_get_6 : decode cX12_get 6 = .ok (.bipush 6, 2) := by decide +kernel
theorem dX12_get_8 : decode cX12_get 8 = .ok (.iload_n 1, 1) := by decide +kernel
theorem dX12_get_9 : decode cX12_get 9 = .ok (.imul, 1) := by decide +kernel
theorem dX12_get_10 : decode cX12_get 10 = .ok (.iadd, 1) := by decide +kernel
theorem dX12_get_11 : decode cX12_get 11 = .ok (.iload_n 2, 1) := by decide +kernel
theorem dX12_get_12 : decode cX12_get 12 = .ok (.iadd, 1) := by decide +kernel
theorem dX12_get_13 : decode cX12_get 13 = .ok (.iaload, 1) := by decide +kernel
theorem dX12_get_14 : decode cX12_get 14 = .ok (.ireturn, 1) := by decide +kernel
def P_X12_get : Nat → Nat
  | _ => 0
set_option maxRecDepth 100000 in
set_option maxHeartbeats 4000000 in
theorem S_X12_get : zSd yX12_get cX12_get 3 (some .int) { frames := 0, cells := 0, slots := 0, locals := 0 } T_X12_get := by
  refine zMet (pcs := P_X12_get) (F := F_X12_get) (by decide) rfl ?_
  intro p l e s m args below meth c D ids ad A Q Y C hr hk hY b
  match b with
  | 0 => exact (z_aln (pc := 0) C dX12_get_0 rfl <| z_gf (pc := 1) C dX12_get_1 fl_12_7 <| z_bi (pc := 4) C dX12_get_4 (by decide +kernel) <| z_bi (pc := 6) C dX12_get_6 (by decide +kernel) <| z_iln (pc := 8) C dX12_get_8 rfl <| z_imul (pc := 9) C dX12_get_9 <| z_iadd (pc := 10) C dX12_get_10 <| z_iln (pc := 11) C dX12_get_11 rfl <| z_iadd (pc := 12) C dX12_get_12 <| z_ia (pc := 13) C dX12_get_13 <| z_ir C hr hk dX12_get_14)
  | b + 1 => exact fun _ _ _ h => h.elim
theorem dX12_isTaken_0 : decode cX12_isTaken 0 = .ok (.iconst 0, 1) := by decide +kernel
theorem dX12_isTaken_1 : decode cX12_isTaken 1 = .ok (.istore_n 2, 1) := by decide +kernel
theorem dX12_isTaken_2 : decode cX12_isTaken 2 = .ok (.iconst 0, 1) := by decide +kernel
theorem dX12_isTaken_3 : decode cX12_isTaken 3 = .ok (.istore_n 3, 1) := by decide +kernel
theorem dX12_isTaken_4 : decode cX12_isTaken 4 = .ok (.iload_n 3, 1) := by decide +kernel
theorem dX12_isTaken_5 : decode cX12_isTaken 5 = .ok (.aload_n 0, 1) := by decide +kernel
theorem dX12_isTaken_6 : decode cX12_isTaken 6 = .ok (.iconst 0, 1) := by decide +kernel
theorem dX12_isTaken_7 : decode cX12_isTaken 7 = .ok (.iaload, 1) := by decide +kernel
theorem dX12_isTaken_8 : decode cX12_isTaken 8 = .ok (.if_icmp .ge 34, 3) := by decide +kernel
theorem dX12_isTaken_11 : decode cX12_isTaken 11 = .ok (.iload_n 2, 1) := by decide +kernel
theorem dX12_isTaken_12 : decode cX12_isTaken 12 = .ok (.ifCond .ne 18, 3) := by decide +kernel
theorem dX12_isTaken_15 : decode cX12_isTaken 15 = .ok (.aload_n 0, 1) := by decide +kernel
theorem dX12_isTaken_16 : decode cX12_isTaken 16 = .ok (.bipush 6, 2) := by decide +kernel
theorem dX12_isTaken_18 : decode cX12_isTaken 18 = .ok (.bipush 6, 2) := by decide +kernel
theorem dX12_isTaken_20 : decode cX12_isTaken 20 = .ok (.iload_n 3, 1) := by decide +kernel
theorem dX12_isTaken_21 : decode cX12_isTaken 21 = .ok (.imul, 1) := by decide +kernel
theorem dX12_isTaken_22 : decode cX12_isTaken 22 = .ok (.iadd, 1) := by decide +kernel
theorem dX12_isTaken_23 : decode cX12_isTaken 23 = .ok (.iconst 4, 1) := by decide +kernel
theorem dX12_isTaken_24 : decode cX12_isTaken 24 = .ok (.iadd, 1) := by decide +kernel
theorem dX12_isTaken_25 : decode cX12_isTaken 25 = .ok (.iaload, 1) := by decide +kernel
theorem dX12_isTaken_26 : decode cX12_isTaken 26 = .ok (.iload_n 1, 1) := by decide +kernel
theorem dX12_isTaken_27 : decode cX12_isTaken 27 = .ok (.if_icmp .ne 7, 3) := by decide +kernel
theorem dX12_isTaken_30 : decode cX12_isTaken 30 = .ok (.iconst 1, 1) := by decide +kernel
theorem dX12_isTaken_31 : decode cX12_isTaken 31 = .ok (.goto 4, 3) := by decide +kernel
theorem dX12_isTaken_34 : decode cX12_isTaken 34 = .ok (.iconst 0, 1) := by decide +kernel
theorem dX12_isTaken_35 : decode cX12_isTaken 35 = .ok (.istore_n 2, 1) := by decide +kernel
theorem dX12_isTaken_36 : decode cX12_isTaken 36 = .ok (.iinc 3 1, 3) := by decide +kernel
theorem dX12_isTaken_39 : decode cX12_isTaken 39 = .ok (.goto (-35), 3) := by decide +kernel
theorem dX12_isTaken_42 : decode cX12_isTaken 42 = .ok (.iload_n 2, 1) := by decide +kernel
theorem dX12_isTaken_43 : decode cX12_isTaken 43 = .ok (.ireturn, 1) := by decide +kernel
def P_X12_isTaken : Nat → Nat
  | 1 => 4
  | 2 => 30
  | 3 => 35
  | _ => 0
set_option maxRecDepth 100000 in
set_option maxHeartbeats 4000000 in
theorem S_X12_isTaken : zSd yX12_isTaken cX12_isTaken 4 (some .boolean) { frames := 0, cells := 0, slots := 0, locals := 0 } T_X12_isTaken := by
  refine zMet (pcs := P_X12_isTaken) (F := F_X12_isTaken) (by decide) rfl ?_
  intro p l e s m args below meth c D ids ad A Q Y C hr hk hY b
  match b with
  | 0 => exact (z_ic (pc := 0) C dX12_isTaken_0 (by decide +kernel) <| z_isn (pc := 1) C dX12_isTaken_1 rfl (by decide) <| z_ic (pc := 2) C dX12_isTaken_2 (by decide +kernel) <| z_isn (pc := 3) C dX12_isTaken_3 rfl (by decide) <| z_jmp (hY 1))
  | 1 => exact (z_iln (pc := 4) C dX12_isTaken_4 rfl <| z_aln (pc := 5) C dX12_isTaken_5 rfl <| z_ic (pc := 6) C dX12_isTaken_6 (by decide +kernel) <| z_ia (pc := 7) C dX12_isTaken_7 <| z_cmpge (tgt := 42) (pc := 8) C dX12_isTaken_8 (by decide) (z_iln (pc := 42) C dX12_isTaken_42 rfl <| z_zr C hr hk dX12_isTaken_43) <| z_iln (pc := 11) C dX12_isTaken_11 rfl <| z_ifne (tgt := 30) (pc := 12) C dX12_isTaken_12 (by decide) (z_jmp (hY 2)) <| z_aln (pc := 15) C dX12_isTaken_15 rfl <| z_bi (pc := 16) C dX12_isTaken_16 (by decide +kernel) <| z_bi (pc := 18) C dX12_isTaken_18 (by decide +kernel) <| z_iln (pc := 20) C dX12_isTaken_20 rfl <| z_imul (pc := 21) C dX12_isTaken_21 <| z_iadd (pc := 22) C dX12_isTaken_22 <| z_ic (pc := 23) C dX12_isTaken_23 (by decide +kernel) <| z_iadd (pc := 24) C dX12_isTaken_24 <| z_ia (pc := 25) C dX12_isTaken_25 <| z_iln (pc := 26) C dX12_isTaken_26 rfl <| z_cmpne (tgt := 34) (pc := 27) C dX12_isTaken_27 (by decide) (z_ic (pc := 34) C dX12_isTaken_34 (by decide +kernel) <| z_jmp (hY 3)) <| z_jmp (hY 2))
  | 2 => exact (z_ic (pc := 30) C dX12_isTaken_30 (by decide +kernel) <| z_goto (tgt := 35) (pc := 31) C dX12_isTaken_31 (by decide) <| z_jmp (hY 3))
  | 3 => exact (z_isn (pc := 35) C dX12_isTaken_35 rfl (by decide) <| z_inc (pc := 36) C dX12_isTaken_36 (by decide +kernel) (by decide) <| z_goto (tgt := 4) (pc := 39) C dX12_isTaken_39 (by decide) <| z_jmp (hY 1))
  | b + 4 => exact fun _ _ _ h => h.elim
theorem dX12_church_0 : decode cX12_church 0 = .ok (.iload_n 1, 1) := by decide +kernel
theorem dX12_church_1 : decode cX12_church 1 = .ok (.i2l, 1) := by decide +kernel
theorem dX12_church_2 : decode cX12_church 2 = .ok (.lconst 0, 1) := by decide +kernel
theorem dX12_church_3 : decode cX12_church 3 = .ok (.ldc2_w 76, 3) := by decide +kernel
theorem dX12_church_6 : decode cX12_church 6 = .ok (.invokestatic 68, 3) := by decide +kernel
theorem dX12_church_9 : decode cX12_church 9 = .ok (.ifCond .ne 10, 3) := by decide +kernel
theorem dX12_church_12 : decode cX12_church 12 = .ok (.aload_n 0, 1) := by decide +kernel
theorem dX12_church_13 : decode cX12_church 13 = .ok (.bipush (-2), 2) := by decide +kernel
theorem dX12_church_15 : decode cX12_church 15 = .ok (.invokevirtual 78, 3) := by decide +kernel
theorem dX12_church_18 : decode cX12_church 18 = .ok (.ireturn, 1) := by decide +kernel
theorem dX12_church_19 : decode cX12_church 19 = .ok (.aload_n 0, 1) := by decide +kernel
theorem dX12_church_20 : decode cX12_church 20 = .ok (.invokevirtual 64, 3) := by decide +kernel
theorem dX12_church_23 : decode cX12_church 23 = .ok (.istore_n 2, 1) := by decide +kernel
theorem dX12_church_24 : decode cX12_church 24 = .ok (.aload_n 0, 1) := by decide +kernel
theorem dX12_church_25 : decode cX12_church 25 = .ok (.getfield 7, 3) := by decide +kernel
theorem dX12_church_28 : decode cX12_church 28 = .ok (.iload_n 1, 1) := by decide +kernel
theorem dX12_church_29 : decode cX12_church 29 = .ok (.invokestatic 60, 3) := by decide +kernel
theorem dX12_church_32 : decode cX12_church 32 = .ok (.iload_n 2, 1) := by decide +kernel
theorem dX12_church_33 : decode cX12_church 33 = .ok (.ireturn, 1) := by decide +kernel
def P_X12_church : Nat → Nat
  | _ => 0
set_option maxRecDepth 100000 in
set_option maxHeartbeats 4000000 in
theorem S_X12_church : zSd yX12_church cX12_church 3 (some .int) { frames := 1, cells := 0, slots := 0, locals := 25 } T_X12_church := by
  refine zMet (pcs := P_X12_church) (F := F_X12_church) (by decide) rfl ?_
  intro p l e s m args below meth c D ids ad A Q Y C hr hk hY b
  match b with
  | 0 => exact (z_iln (pc := 0) C dX12_church_0 rfl <| z_i2l (pc := 1) C dX12_church_1 <| z_lc (pc := 2) C dX12_church_2 (by decide +kernel) <| z_ldc2 (pc := 3) C dX12_church_3 w_921 <| z_cS (pc := 6) C dX12_church_6 S_X12_in (zl3 w_922 w_923 w_13) w_924 ds_X12_in (zrm rfl rfl (by decide) (by decide)) <| z_ifne (tgt := 19) (pc := 9) C dX12_church_9 (by decide) (z_aln (pc := 19) C dX12_church_19 rfl <| z_cV (pc := 20) C dX12_church_20 S_X12_many rfl (zl4 w_929 w_931 wp_21 w_13) w_932 ds_X12_many (zrm rfl rfl (by decide) (by decide)) <| z_isn (pc := 23) C dX12_church_23 rfl (by decide) <| z_aln (pc := 24) C dX12_church_24 rfl <| z_gf (pc := 25) C dX12_church_25 fl_12_7 <| z_iln (pc := 28) C dX12_church_28 rfl <| z_cS (pc := 29) C dX12_church_29 S_X12_begin (zl3 w_838 w_839 w_13) w_840 ds_X12_begin (zrm rfl rfl (by decide) (by decide)) <| z_iln (pc := 32) C dX12_church_32 rfl <| z_ir C hr hk dX12_church_33) <| z_aln (pc := 12) C dX12_church_12 rfl <| z_bi (pc := 13) C dX12_church_13 (by decide +kernel) <| z_cV (pc := 15) C dX12_church_15 S_X12_bad rfl (zl4 w_925 w_927 wp_20 w_13) w_928 ds_X12_bad (zrm rfl rfl (by decide) (by decide)) <| z_ir C hr hk dX12_church_18)
  | b + 1 => exact fun _ _ _ h => h.elim
theorem dX12_book_0 : decode cX12_book 0 = .ok (.iload_n 1, 1) := by decide +kernel
theorem dX12_book_1 : decode cX12_book 1 = .ok (.invokestatic 82, 3) := by decide +kernel
theorem dX12_book_4 : decode cX12_book 4 = .ok (.ifCond .eq 15, 3) := by decide +kernel
theorem dX12_book_7 : decode cX12_book 7 = .ok (.iload_n 2, 1) := by decide +kernel
theorem dX12_book_8 : decode cX12_book 8 = .ok (.i2l, 1) := by decide +kernel
theorem dX12_book_9 : decode cX12_book 9 = .ok (.lconst 0, 1) := by decide +kernel
theorem dX12_book_10 : decode cX12_book 10 = .ok (.ldc2_w 86, 3) := by decide +kernel
theorem dX12_book_13 : decode cX12_book 13 = .ok (.invokestatic 68, 3) := by decide +kernel
theorem dX12_book_16 : decode cX12_book 16 = .ok (.ifCond .ne 10, 3) := by decide +kernel
theorem dX12_book_19 : decode cX12_book 19 = .ok (.aload_n 0, 1) := by decide +kernel
theorem dX12_book_20 : decode cX12_book 20 = .ok (.bipush (-2), 2) := by decide +kernel
theorem dX12_book_22 : decode cX12_book 22 = .ok (.invokevirtual 78, 3) := by decide +kernel
theorem dX12_book_25 : decode cX12_book 25 = .ok (.ireturn, 1) := by decide +kernel
theorem dX12_book_26 : decode cX12_book 26 = .ok (.aload_n 0, 1) := by decide +kernel
theorem dX12_book_27 : decode cX12_book 27 = .ok (.getfield 7, 3) := by decide +kernel
theorem dX12_book_30 : decode cX12_book 30 = .ok (.iconst 2, 1) := by decide +kernel
theorem dX12_book_31 : decode cX12_book 31 = .ok (.iload_n 1, 1) := by decide +kernel
theorem dX12_book_32 : decode cX12_book 32 = .ok (.iadd, 1) := by decide +kernel
theorem dX12_book_33 : decode cX12_book 33 = .ok (.iaload, 1) := by decide +kernel
theorem dX12_book_34 : decode cX12_book 34 = .ok (.istore_n 3, 1) := by decide +kernel
theorem dX12_book_35 : decode cX12_book 35 = .ok (.aload_n 0, 1) := by decide +kernel
theorem dX12_book_36 : decode cX12_book 36 = .ok (.getfield 7, 3) := by decide +kernel
theorem dX12_book_39 : decode cX12_book 39 = .ok (.iconst 2, 1) := by decide +kernel
theorem dX12_book_40 : decode cX12_book 40 = .ok (.iload_n 1, 1) := by decide +kernel
theorem dX12_book_41 : decode cX12_book 41 = .ok (.iadd, 1) := by decide +kernel
theorem dX12_book_42 : decode cX12_book 42 = .ok (.iload_n 2, 1) := by decide +kernel
theorem dX12_book_43 : decode cX12_book 43 = .ok (.iastore, 1) := by decide +kernel
theorem dX12_book_44 : decode cX12_book 44 = .ok (.iload_n 3, 1) := by decide +kernel
theorem dX12_book_45 : decode cX12_book 45 = .ok (.ireturn, 1) := by decide +kernel
def P_X12_book : Nat → Nat
  | 1 => 19
  | _ => 0
set_option maxRecDepth 100000 in
set_option maxHeartbeats 4000000 in
theorem S_X12_book : zSd yX12_book cX12_book 4 (some .int) { frames := 2, cells := 0, slots := 0, locals := 45 } T_X12_book := by
  refine zMet (pcs := P_X12_book) (F := F_X12_book) (by decide) rfl ?_
  intro p l e s m args below meth c D ids ad A Q Y C hr hk hY b
  match b with
  | 0 => exact (z_iln (pc := 0) C dX12_book_0 rfl <| z_cS (pc := 1) C dX12_book_1 S_X12_isBook (zl3 w_937 w_938 w_13) w_939 ds_X12_isBook (zrm rfl rfl (by decide) (by decide)) <| z_ifeq (tgt := 19) (pc := 4) C dX12_book_4 (by decide) (z_jmp (hY 1)) <| z_iln (pc := 7) C dX12_book_7 rfl <| z_i2l (pc := 8) C dX12_book_8 <| z_lc (pc := 9) C dX12_book_9 (by decide +kernel) <| z_ldc2 (pc := 10) C dX12_book_10 w_940 <| z_cS (pc := 13) C dX12_book_13 S_X12_in (zl3 w_922 w_923 w_13) w_924 ds_X12_in (zrm rfl rfl (by decide) (by decide)) <| z_ifne (tgt := 26) (pc := 16) C dX12_book_16 (by decide) (z_aln (pc := 26) C dX12_book_26 rfl <| z_gf (pc := 27) C dX12_book_27 fl_12_7 <| z_ic (pc := 30) C dX12_book_30 (by decide +kernel) <| z_iln (pc := 31) C dX12_book_31 rfl <| z_iadd (pc := 32) C dX12_book_32 <| z_ia (pc := 33) C dX12_book_33 <| z_isn (pc := 34) C dX12_book_34 rfl (by decide) <| z_aln (pc := 35) C dX12_book_35 rfl <| z_gf (pc := 36) C dX12_book_36 fl_12_7 <| z_ic (pc := 39) C dX12_book_39 (by decide +kernel) <| z_iln (pc := 40) C dX12_book_40 rfl <| z_iadd (pc := 41) C dX12_book_41 <| z_iln (pc := 42) C dX12_book_42 rfl <| z_iast (pc := 43) C dX12_book_43 <| z_iln (pc := 44) C dX12_book_44 rfl <| z_ir C hr hk dX12_book_45) <| z_jmp (hY 1))
  | 1 => exact (z_aln (pc := 19) C dX12_book_19 rfl <| z_bi (pc := 20) C dX12_book_20 (by decide +kernel) <| z_cV (pc := 22) C dX12_book_22 S_X12_bad rfl (zl4 w_925 w_927 wp_20 w_13) w_928 ds_X12_bad (zrm rfl rfl (by decide) (by decide)) <| z_ir C hr hk dX12_book_25)
  | b + 2 => exact fun _ _ _ h => h.elim
theorem dX12_layFamily_0 : decode cX12_layFamily 0 = .ok (.bipush 6, 2) := by decide +kernel
theorem dX12_layFamily_2 : decode cX12_layFamily 2 = .ok (.bipush 6, 2) := by decide +kernel
theorem dX12_layFamily_4 : decode cX12_layFamily 4 = .ok (.aload_n 0, 1) := by decide +kernel
theorem dX12_layFamily_5 : decode cX12_layFamily 5 = .ok (.iconst 0, 1) := by decide +kernel
theorem dX12_layFamily_6 : decode cX12_layFamily 6 = .ok (.iaload, 1) := by decide +kernel
theorem dX12_layFamily_7 : decode cX12_layFamily 7 = .ok (.imul, 1) := by decide +kernel
theorem dX12_layFamily_8 : decode cX12_layFamily 8 = .ok (.iadd, 1) := by decide +kernel
theorem dX12_layFamily_9 : decode cX12_layFamily 9 = .ok (.istore 6, 2) := by decide +kernel
theorem dX12_layFamily_11 : decode cX12_layFamily 11 = .ok (.aload_n 0, 1) := by decide +kernel
theorem dX12_layFamily_12 : decode cX12_layFamily 12 = .ok (.iload 6, 2) := by decide +kernel
theorem dX12_layFamily_14 : decode cX12_layFamily 14 = .ok (.iconst 0, 1) := by decide +kernel
theorem dX12_layFamily_15 : decode cX12_layFamily 15 = .ok (.iadd, 1) := by decide +kernel
theorem dX12_layFamily_16 : decode cX12_layFamily 16 = .ok (.iload_n 1, 1) := by decide +kernel
theorem dX12_layFamily_17 : decode cX12_layFamily 17 = .ok (.iastore, 1) := by decide +kernel
theorem dX12_layFamily_18 : decode cX12_layFamily 18 = .ok (.aload_n 0, 1) := by decide +kernel
theorem dX12_layFamily_19 : decode cX12_layFamily 19 = .ok (.iload 6, 2) := by decide +kernel
theorem dX12_layFamily_21 : decode cX12_layFamily 21 = .ok (.iconst 1, 1) := by decide +kernel
theorem dX12_layFamily_22 : decode cX12_layFamily 22 = .ok (.iadd, 1) := by decide +kernel
theorem dX12_layFamily_23 : decode cX12_layFamily 23 = .ok (.iload_n 2, 1) := by decide +kernel
theorem dX12_layFamily_24 : decode cX12_layFamily 24 = .ok (.iastore, 1) := by decide +kernel
theorem dX12_layFamily_25 : decode cX12_layFamily 25 = .ok (.aload_n 0, 1) := by decide +kernel
theorem dX12_layFamily_26 : decode cX12_layFamily 26 = .ok (.iload 6, 2) := by decide +kernel
theorem dX12_layFamily_28 : decode cX12_layFamily 28 = .ok (.iconst 2, 1) := by decide +kernel
theorem dX12_layFamily_29 : decode cX12_layFamily 29 = .ok (.iadd, 1) := by decide +kernel
theorem dX12_layFamily_30 : decode cX12_layFamily 30 = .ok (.iload_n 3, 1) := by decide +kernel
theorem dX12_layFamily_31 : decode cX12_layFamily 31 = .ok (.iastore, 1) := by decide +kernel
theorem dX12_layFamily_32 : decode cX12_layFamily 32 = .ok (.aload_n 0, 1) := by decide +kernel
theorem dX12_layFamily_33 : decode cX12_layFamily 33 = .ok (.iload 6, 2) := by decide +kernel
theorem dX12_layFamily_35 : decode cX12_layFamily 35 = .ok (.iconst 3, 1) := by decide +kernel
theorem dX12_layFamily_36 : decode cX12_layFamily 36 = .ok (.iadd, 1) := by decide +kernel
theorem dX12_layFamily_37 : decode cX12_layFamily 37 = .ok (.iload 4, 2) := by decide +kernel
theorem dX12_layFamily_39 : decode cX12_layFamily 39 = .ok (.iastore, 1) := by decide +kernel
theorem dX12_layFamily_40 : decode cX12_layFamily 40 = .ok (.aload_n 0, 1) := by decide +kernel
theorem dX12_layFamily_41 : decode cX12_layFamily 41 = .ok (.iload 6, 2) := by decide +kernel
theorem dX12_layFamily_43 : decode cX12_layFamily 43 = .ok (.iconst 4, 1) := by decide +kernel
theorem dX12_layFamily_44 : decode cX12_layFamily 44 = .ok (.iadd, 1) := by decide +kernel
theorem dX12_layFamily_45 : decode cX12_layFamily 45 = .ok (.iload 5, 2) := by decide +kernel
theorem dX12_layFamily_47 : decode cX12_layFamily 47 = .ok (.iastore, 1) := by decide +kernel
theorem dX12_layFamily_48 : decode cX12_layFamily 48 = .ok (.aload_n 0, 1) := by decide +kernel
theorem dX12_layFamily_49 : decode cX12_layFamily 49 = .ok (.iload 6, 2) := by decide +kernel
theorem dX12_layFamily_51 : decode cX12_layFamily 51 = .ok (.iconst 5, 1) := by decide +kernel
theorem dX12_layFamily_52 : decode cX12_layFamily 52 = .ok (.iadd, 1) := by decide +kernel
theorem dX12_layFamily_53 : decode cX12_layFamily 53 = .ok (.iconst 0, 1) := by decide +kernel
theorem dX12_layFamily_54 : decode cX12_layFamily 54 = .ok (.iastore, 1) := by decide +kernel
theorem dX12_layFamily_55 : decode cX12_layFamily 55 = .ok (.aload_n 0, 1) := by decide +kernel
theorem dX12_layFamily_56 : decode cX12_layFamily 56 = .ok (.iconst 0, 1) := by decide +kernel
theorem dX12_layFamily_57 : decode cX12_layFamily 57 = .ok (.dup2, 1) := by decide +kernel
theorem dX12_layFamily_58 : decode cX12_layFamily 58 = .ok (.iaload, 1) := by decide +kernel
theorem dX12_layFamily_59 : decode cX12_layFamily 59 = .ok (.iconst 1, 1) := by decide +kernel
theorem dX12_layFamily_60 : decode cX12_layFamily 60 = .ok (.iadd, 1) := by decide +kernel
theorem dX12_layFamily_61 : decode cX12_layFamily 61 = .ok (.iastore, 1) := by decide +kernel
theorem dX12_layFamily_62 : decode cX12_layFamily 62 = .ok (.return_, 1) := by decide +kernel
def P_X12_layFamily : Nat → Nat
  | _ => 0
set_option maxRecDepth 100000 in
set_option maxHeartbeats 4000000 in
theorem S_X12_layFamily : zSd yX12_layFamily cX12_layFamily 7 none { frames := 0, cells := 0, slots := 0, locals := 0 } T_X12_layFamily := by
  refine zMet (pcs := P_X12_layFamily) (F := F_X12_layFamily) (by decide) rfl ?_
  intro p l e s m args below meth c D ids ad A Q Y C hr hk hY b
  match b with
  | 0 => exact (z_bi (pc := 0) C dX12_layFamily_0 (by decide +kernel) <| z_bi (pc := 2) C dX12_layFamily_2 (by decide +kernel) <| z_aln (pc := 4) C dX12_layFamily_4 rfl <| z_ic (pc := 5) C dX12_layFamily_5 (by decide +kernel) <| z_ia (pc := 6) C dX12_layFamily_6 <| z_imul (pc := 7) C dX12_layFamily_7 <| z_iadd (pc := 8) C dX12_layFamily_8 <| z_is (pc := 9) C dX12_layFamily_9 (by decide) <| z_aln (pc := 11) C dX12_layFamily_11 rfl <| z_il (pc := 12) C dX12_layFamily_12 <| z_ic (pc := 14) C dX12_layFamily_14 (by decide +kernel) <| z_iadd (pc := 15) C dX12_layFamily_15 <| z_iln (pc := 16) C dX12_layFamily_16 rfl <| z_iast (pc := 17) C dX12_layFamily_17 <| z_aln (pc := 18) C dX12_layFamily_18 rfl <| z_il (pc := 19) C dX12_layFamily_19 <| z_ic (pc := 21) C dX12_layFamily_21 (by decide +kernel) <| z_iadd (pc := 22) C dX12_layFamily_22 <| z_iln (pc := 23) C dX12_layFamily_23 rfl <| z_iast (pc := 24) C dX12_layFamily_24 <| z_aln (pc := 25) C dX12_layFamily_25 rfl <| z_il (pc := 26) C dX12_layFamily_26 <| z_ic (pc := 28) C dX12_layFamily_28 (by decide +kernel) <| z_iadd (pc := 29) C dX12_layFamily_29 <| z_iln (pc := 30) C dX12_layFamily_30 rfl <| z_iast (pc := 31) C dX12_layFamily_31 <| z_aln (pc := 32) C dX12_layFamily_32 rfl <| z_il (pc := 33) C dX12_layFamily_33 <| z_ic (pc := 35) C dX12_layFamily_35 (by decide +kernel) <| z_iadd (pc := 36) C dX12_layFamily_36 <| z_il (pc := 37) C dX12_layFamily_37 <| z_iast (pc := 39) C dX12_layFamily_39 <| z_aln (pc := 40) C dX12_layFamily_40 rfl <| z_il (pc := 41) C dX12_layFamily_41 <| z_ic (pc := 43) C dX12_layFamily_43 (by decide +kernel) <| z_iadd (pc := 44) C dX12_layFamily_44 <| z_il (pc := 45) C dX12_layFamily_45 <| z_iast (pc := 47) C dX12_layFamily_47 <| z_aln (pc := 48) C dX12_layFamily_48 rfl <| z_il (pc := 49) C dX12_layFamily_49 <| z_ic (pc := 51) C dX12_layFamily_51 (by decide +kernel) <| z_iadd (pc := 52) C dX12_layFamily_52 <| z_ic (pc := 53) C dX12_layFamily_53 (by decide +kernel) <| z_iast (pc := 54) C dX12_layFamily_54 <| z_aln (pc := 55) C dX12_layFamily_55 rfl <| z_ic (pc := 56) C dX12_layFamily_56 (by decide +kernel) <| z_dup2 (pc := 57) C dX12_layFamily_57 <| z_ia (pc := 58) C dX12_layFamily_58 <| z_ic (pc := 59) C dX12_layFamily_59 (by decide +kernel) <| z_iadd (pc := 60) C dX12_layFamily_60 <| z_iast (pc := 61) C dX12_layFamily_61 <| z_vr C hr hk dX12_layFamily_62)
  | b + 1 => exact fun _ _ _ h => h.elim
theorem dX12_family_0 : decode cX12_family 0 = .ok (.iload_n 1, 1) := by decide +kernel
theorem dX12_family_1 : decode cX12_family 1 = .ok (.i2l, 1) := by decide +kernel
theorem dX12_family_2 : decode cX12_family 2 = .ok (.lconst 0, 1) := by decide +kernel
theorem dX12_family_3 : decode cX12_family 3 = .ok (.ldc2_w 88, 3) := by decide +kernel
theorem dX12_family_6 : decode cX12_family 6 = .ok (.invokestatic 68, 3) := by decide +kernel
theorem dX12_family_9 : decode cX12_family 9 = .ok (.ifCond .eq 44, 3) := by decide +kernel
theorem dX12_family_12 : decode cX12_family 12 = .ok (.iload_n 2, 1) := by decide +kernel
theorem dX12_family_13 : decode cX12_family 13 = .ok (.invokestatic 82, 3) := by decide +kernel
theorem dX12_family_16 : decode cX12_family 16 = .ok (.ifCond .eq 37, 3) := by decide +kernel
theorem dX12_family_19 : decode cX12_family 19 = .ok (.iload_n 3, 1) := by decide +kernel
theorem dX12_family_20 : decode cX12_family 20 = .ok (.i2l, 1) := by decide +kernel
theorem dX12_family_21 : decode cX12_family 21 = .ok (.lconst 1, 1) := by decide +kernel
theorem dX12_family_22 : decode cX12_family 22 = .ok (.ldc2_w 74, 3) := by decide +kernel
theorem dX12_family_25 : decode cX12_family 25 = .ok (.invokestatic 68, 3) := by decide +kernel
theorem dX12_family_28 : decode cX12_family 28 = .ok (.ifCond .eq 25, 3) := by decide +kernel
theorem dX12_family_31 : decode cX12_family 31 = .ok (.iload 4, 2) := by decide +kernel
theorem dX12_family_33 : decode cX12_family 33 = .ok (.i2l, 1) := by decide +kernel
theorem dX12_family_34 : decode cX12_family 34 = .ok (.lconst 1, 1) := by decide +kernel
theorem dX12_family_35 : decode cX12_family 35 = .ok (.ldc2_w 90, 3) := by decide +kernel
theorem dX12_family_38 : decode cX12_family 38 = .ok (.invokestatic 68, 3) := by decide +kernel
theorem dX12_family_41 : decode cX12_family 41 = .ok (.ifCond .eq 12, 3) := by decide +kernel
theorem dX12_family_44 : decode cX12_family 44 = .ok (.iload 5, 2) := by decide +kernel
theorem dX12_family_46 : decode cX12_family 46 = .ok (.iload_n 2, 1) := by decide +kernel
theorem dX12_family_47 : decode cX12_family 47 = .ok (.invokestatic 92, 3) := by decide +kernel
theorem dX12_family_50 : decode cX12_family 50 = .ok (.ifCond .ne 10, 3) := by decide +kernel
theorem dX12_family_53 : decode cX12_family 53 = .ok (.aload_n 0, 1) := by decide +kernel
theorem dX12_family_54 : decode cX12_family 54 = .ok (.bipush (-2), 2) := by decide +kernel
theorem dX12_family_56 : decode cX12_family 56 = .ok (.invokevirtual 78, 3) := by decide +kernel
theorem dX12_family_59 : decode cX12_family 59 = .ok (.ireturn, 1) := by decide +kernel
theorem dX12_family_60 : decode cX12_family 60 = .ok (.aload_n 0, 1) := by decide +kernel
theorem dX12_family_61 : decode cX12_family 61 = .ok (.getfield 7, 3) := by decide +kernel
theorem dX12_family_64 : decode cX12_family 64 = .ok (.iload 5, 2) := by decide +kernel
theorem dX12_family_66 : decode cX12_family 66 = .ok (.invokestatic 96, 3) := by decide +kernel
theorem dX12_family_69 : decode cX12_family 69 = .ok (.ifCond .eq 8, 3) := by decide +kernel
theorem dX12_family_72 : decode cX12_family 72 = .ok (.aload_n 0, 1) := by decide +kernel
theorem dX12_family_73 : decode cX12_family 73 = .ok (.invokevirtual 100, 3) := by decide +kernel
theorem dX12_family_76 : decode cX12_family 76 = .ok (.ireturn, 1) := by decide +kernel
theorem dX12_family_77 : decode cX12_family 77 = .ok (.aload_n 0, 1) := by decide +kernel
theorem dX12_family_78 : decode cX12_family 78 = .ok (.invokevirtual 64, 3) := by decide +kernel
theorem dX12_family_81 : decode cX12_family 81 = .ok (.bipush 7, 2) := by decide +kernel
theorem dX12_family_83 : decode cX12_family 83 = .ok (.if_icmp .ne 8, 3) := by decide +kernel
theorem dX12_family_86 : decode cX12_family 86 = .ok (.aload_n 0, 1) := by decide +kernel
theorem dX12_family_87 : decode cX12_family 87 = .ok (.invokevirtual 103, 3) := by decide +kernel
theorem dX12_family_90 : decode cX12_family 90 = .ok (.ireturn, 1) := by decide +kernel
theorem dX12_family_91 : decode cX12_family 91 = .ok (.aload_n 0, 1) := by decide +kernel
theorem dX12_family_92 : decode cX12_family 92 = .ok (.getfield 7, 3) := by decide +kernel
theorem dX12_family_95 : decode cX12_family 95 = .ok (.iload_n 1, 1) := by decide +kernel
theorem dX12_family_96 : decode cX12_family 96 = .ok (.iload_n 2, 1) := by decide +kernel
theorem dX12_family_97 : decode cX12_family 97 = .ok (.iload_n 3, 1) := by decide +kernel
theorem dX12_family_98 : decode cX12_family 98 = .ok (.iload 4, 2) := by decide +kernel
theorem dX12_family_100 : decode cX12_family 100 = .ok (.iload 5, 2) := by decide +kernel
theorem dX12_family_102 : decode cX12_family 102 = .ok (.invokestatic 106, 3) := by decide +kernel
theorem dX12_family_105 : decode cX12_family 105 = .ok (.aload_n 0, 1) := by decide +kernel
theorem dX12_family_106 : decode cX12_family 106 = .ok (.getfield 7, 3) := by decide +kernel
theorem dX12_family_109 : decode cX12_family 109 = .ok (.iconst 5, 1) := by decide +kernel
theorem dX12_family_110 : decode cX12_family 110 = .ok (.iconst 0, 1) := by decide +kernel
theorem dX12_family_111 : decode cX12_family 111 = .ok (.iastore, 1) := by decide +kernel
theorem dX12_family_112 : decode cX12_family 112 = .ok (.aload_n 0, 1) := by decide +kernel
theorem dX12_family_113 : decode cX12_family 113 = .ok (.invokevirtual 64, 3) := by decide +kernel
theorem dX12_family_116 : decode cX12_family 116 = .ok (.iconst 1, 1) := by decide +kernel
theorem dX12_family_117 : decode cX12_family 117 = .ok (.isub, 1) := by decide +kernel
theorem dX12_family_118 : decode cX12_family 118 = .ok (.ireturn, 1) := by decide +kernel
def P_X12_family : Nat → Nat
  | 1 => 53
  | _ => 0
set_option maxRecDepth 100000 in
set_option maxHeartbeats 4000000 in
theorem S_X12_family : zSd yX12_family cX12_family 6 (some .int) { frames := 2, cells := 0, slots := 0, locals := 46 } T_X12_family := by
  refine zMet (pcs := P_X12_family) (F := F_X12_family) (by decide) rfl ?_
  intro p l e s m args below meth c D ids ad A Q Y C hr hk hY b
  match b with
  | 0 => exact (z_iln (pc := 0) C dX12_family_0 rfl <| z_i2l (pc := 1) C dX12_family_1 <| z_lc (pc := 2) C dX12_family_2 (by decide +kernel) <| z_ldc2 (pc := 3) C dX12_family_3 w_945 <| z_cS (pc := 6) C dX12_family_6 S_X12_in (zl3 w_922 w_923 w_13) w_924 ds_X12_in (zrm rfl rfl (by decide) (by decide)) <| z_ifeq (tgt := 53) (pc := 9) C dX12_family_9 (by decide) (z_jmp (hY 1)) <| z_iln (pc := 12) C dX12_family_12 rfl <| z_cS (pc := 13) C dX12_family_13 S_X12_isBook (zl3 w_937 w_938 w_13) w_939 ds_X12_isBook (zrm rfl rfl (by decide) (by decide)) <| z_ifeq (tgt := 53) (pc := 16) C dX12_family_16 (by decide) (z_jmp (hY 1)) <| z_iln (pc := 19) C dX12_family_19 rfl <| z_i2l (pc := 20) C dX12_family_20 <| z_lc (pc := 21) C dX12_family_21 (by decide +kernel) <| z_ldc2 (pc := 22) C dX12_family_22 w_946 <| z_cS (pc := 25) C dX12_family_25 S_X12_in (zl3 w_922 w_923 w_13) w_924 ds_X12_in (zrm rfl rfl (by decide) (by decide)) <| z_ifeq (tgt := 53) (pc := 28) C dX12_family_28 (by decide) (z_jmp (hY 1)) <| z_il (pc := 31) C dX12_family_31 <| z_i2l (pc := 33) C dX12_family_33 <| z_lc (pc := 34) C dX12_family_34 (by decide +kernel) <| z_ldc2 (pc := 35) C dX12_family_35 w_947 <| z_cS (pc := 38) C dX12_family_38 S_X12_in (zl3 w_922 w_923 w_13) w_924 ds_X12_in (zrm rfl rfl (by decide) (by decide)) <| z_ifeq (tgt := 53) (pc := 41) C dX12_family_41 (by decide) (z_jmp (hY 1)) <| z_il (pc := 44) C dX12_family_44 <| z_iln (pc := 46) C dX12_family_46 rfl <| z_cS (pc := 47) C dX12_family_47 S_X12_isPewOf (zl3 w_948 w_949 w_13) w_950 ds_X12_isPewOf (zrm rfl rfl (by decide) (by decide)) <| z_ifne (tgt := 60) (pc := 50) C dX12_family_50 (by decide) (z_aln (pc := 60) C dX12_family_60 rfl <| z_gf (pc := 61) C dX12_family_61 fl_12_7 <| z_il (pc := 64) C dX12_family_64 <| z_cS (pc := 66) C dX12_family_66 S_X12_isTaken (zl3 w_951 w_952 w_13) w_953 ds_X12_isTaken (zrm rfl rfl (by decide) (by decide)) <| z_ifeq (tgt := 77) (pc := 69) C dX12_family_69 (by decide) (z_aln (pc := 77) C dX12_family_77 rfl <| z_cV (pc := 78) C dX12_family_78 S_X12_many rfl (zl4 w_929 w_931 wp_21 w_13) w_932 ds_X12_many (zrm rfl rfl (by decide) (by decide)) <| z_bi (pc := 81) C dX12_family_81 (by decide +kernel) <| z_cmpne (tgt := 91) (pc := 83) C dX12_family_83 (by decide) (z_aln (pc := 91) C dX12_family_91 rfl <| z_gf (pc := 92) C dX12_family_92 fl_12_7 <| z_iln (pc := 95) C dX12_family_95 rfl <| z_iln (pc := 96) C dX12_family_96 rfl <| z_iln (pc := 97) C dX12_family_97 rfl <| z_il (pc := 98) C dX12_family_98 <| z_il (pc := 100) C dX12_family_100 <| z_cS (pc := 102) C dX12_family_102 S_X12_layFamily (zl3 w_962 w_963 w_13) w_964 ds_X12_layFamily (zrm rfl rfl (by decide) (by decide)) <| z_aln (pc := 105) C dX12_family_105 rfl <| z_gf (pc := 106) C dX12_family_106 fl_12_7 <| z_ic (pc := 109) C dX12_family_109 (by decide +kernel) <| z_ic (pc := 110) C dX12_family_110 (by decide +kernel) <| z_iast (pc := 111) C dX12_family_111 <| z_aln (pc := 112) C dX12_family_112 rfl <| z_cV (pc := 113) C dX12_family_113 S_X12_many rfl (zl4 w_929 w_931 wp_21 w_13) w_932 ds_X12_many (zrm rfl rfl (by decide) (by decide)) <| z_ic (pc := 116) C dX12_family_116 (by decide +kernel) <| z_isub (pc := 117) C dX12_family_117 <| z_ir C hr hk dX12_family_118) <| z_aln (pc := 86) C dX12_family_86 rfl <| z_cV (pc := 87) C dX12_family_87 S_X12_full rfl (zl4 w_958 w_960 wp_23 w_13) w_961 ds_X12_full (zrm rfl rfl (by decide) (by decide)) <| z_ir C hr hk dX12_family_90) <| z_aln (pc := 72) C dX12_family_72 rfl <| z_cV (pc := 73) C dX12_family_73 S_X12_no rfl (zl4 w_954 w_956 wp_22 w_13) w_957 ds_X12_no (zrm rfl rfl (by decide) (by decide)) <| z_ir C hr hk dX12_family_76) <| z_jmp (hY 1))
  | 1 => exact (z_aln (pc := 53) C dX12_family_53 rfl <| z_bi (pc := 54) C dX12_family_54 (by decide +kernel) <| z_cV (pc := 56) C dX12_family_56 S_X12_bad rfl (zl4 w_925 w_927 wp_20 w_13) w_928 ds_X12_bad (zrm rfl rfl (by decide) (by decide)) <| z_ir C hr hk dX12_family_59)
  | b + 2 => exact fun _ _ _ h => h.elim
theorem dX12_layHand_0 : decode cX12_layHand 0 = .ok (.aload_n 0, 1) := by decide +kernel
theorem dX12_layHand_1 : decode cX12_layHand 1 = .ok (.iconst 0, 1) := by decide +kernel
theorem dX12_layHand_2 : decode cX12_layHand 2 = .ok (.putfield 110, 3) := by decide +kernel
theorem dX12_layHand_5 : decode cX12_layHand 5 = .ok (.iconst 0, 1) := by decide +kernel
theorem dX12_layHand_6 : decode cX12_layHand 6 = .ok (.istore_n 1, 1) := by decide +kernel
theorem dX12_layHand_7 : decode cX12_layHand 7 = .ok (.iload_n 1, 1) := by decide +kernel
theorem dX12_layHand_8 : decode cX12_layHand 8 = .ok (.aload_n 0, 1) := by decide +kernel
theorem dX12_layHand_9 : decode cX12_layHand 9 = .ok (.invokevirtual 64, 3) := by decide +kernel
theorem dX12_layHand_12 : decode cX12_layHand 12 = .ok (.if_icmp .ge 62, 3) := by decide +kernel
theorem dX12_layHand_15 : decode cX12_layHand 15 = .ok (.aload_n 0, 1) := by decide +kernel
theorem dX12_layHand_16 : decode cX12_layHand 16 = .ok (.getfield 27, 3) := by decide +kernel
theorem dX12_layHand_19 : decode cX12_layHand 19 = .ok (.iload_n 1, 1) := by decide +kernel
theorem dX12_layHand_20 : decode cX12_layHand 20 = .ok (.aload_n 0, 1) := by decide +kernel
theorem dX12_layHand_21 : decode cX12_layHand 21 = .ok (.iload_n 1, 1) := by decide +kernel
theorem dX12_layHand_22 : decode cX12_layHand 22 = .ok (.iconst 0, 1) := by decide +kernel
theorem dX12_layHand_23 : decode cX12_layHand 23 = .ok (.invokevirtual 114, 3) := by decide +kernel
theorem dX12_layHand_26 : decode cX12_layHand 26 = .ok (.iastore, 1) := by decide +kernel
theorem dX12_layHand_27 : decode cX12_layHand 27 = .ok (.aload_n 0, 1) := by decide +kernel
theorem dX12_layHand_28 : decode cX12_layHand 28 = .ok (.getfield 30, 3) := by decide +kernel
theorem dX12_layHand_31 : decode cX12_layHand 31 = .ok (.iload_n 1, 1) := by decide +kernel
theorem dX12_layHand_32 : decode cX12_layHand 32 = .ok (.aload_n 0, 1) := by decide +kernel
theorem dX12_layHand_33 : decode cX12_layHand 33 = .ok (.iload_n 1, 1) := by decide +kernel
theorem dX12_layHand_34 : decode cX12_layHand 34 = .ok (.iconst 1, 1) := by decide +kernel
theorem dX12_layHand_35 : decode cX12_layHand 35 = .ok (.invokevirtual 114, 3) := by decide +kernel
theorem dX12_layHand_38 : decode cX12_layHand 38 = .ok (.iastore, 1) := by decide +kernel
theorem dX12_layHand_39 : decode cX12_layHand 39 = .ok (.aload_n 0, 1) := by decide +kernel
theorem dX12_layHand_40 : decode cX12_layHand 40 = .ok (.getfield 33, 3) := by decide +kernel
theorem dX12_layHand_43 : decode cX12_layHand 43 = .ok (.iload_n 1, 1) := by decide +kernel
theorem dX12_layHand_44 : decode cX12_layHand 44 = .ok (.aload_n 0, 1) := by decide +kernel
theorem dX12_layHand_45 : decode cX12_layHand 45 = .ok (.iload_n 1, 1) := by decide +kernel
theorem dX12_layHand_46 : decode cX12_layHand 46 = .ok (.iconst 4, 1) := by decide +kernel
theorem dX12_layHand_47 : decode cX12_layHand 47 = .ok (.invokevirtual 114, 3) := by decide +kernel
theorem dX12_layHand_50 : decode cX12_layHand 50 = .ok (.iastore, 1) := by decide +kernel
theorem dX12_layHand_51 : decode cX12_layHand 51 = .ok (.aload_n 0, 1) := by decide +kernel
theorem dX12_layHand_52 : decode cX12_layHand 52 = .ok (.dup, 1) := by decide +kernel
theorem dX12_layHand_53 : decode cX12_layHand 53 = .ok (.getfield 110, 3) := by decide +kernel
theorem dX12_layHand_56 : decode cX12_layHand 56 = .ok (.aload_n 0, 1) := by decide +kernel
theorem dX12_layHand_57 : decode cX12_layHand 57 = .ok (.iload_n 1, 1) := by decide +kernel
theorem dX12_layHand_58 : decode cX12_layHand 58 = .ok (.iconst 5, 1) := by decide +kernel
theorem dX12_layHand_59 : decode cX12_layHand 59 = .ok (.invokevirtual 114, 3) := by decide +kernel
theorem dX12_layHand_62 : decode cX12_layHand 62 = .ok (.iload_n 1, 1) := by decide +kernel
theorem dX12_layHand_63 : decode cX12_layHand 63 = .ok (.ishl, 1) := by decide +kernel
theorem dX12_layHand_64 : decode cX12_layHand 64 = .ok (.ior, 1) := by decide +kernel
theorem dX12_layHand_65 : decode cX12_layHand 65 = .ok (.putfield 110, 3) := by decide +kernel
theorem dX12_layHand_68 : decode cX12_layHand 68 = .ok (.iinc 1 1, 3) := by decide +kernel
theorem dX12_layHand_71 : decode cX12_layHand 71 = .ok (.goto (-64), 3) := by decide +kernel
theorem dX12_layHand_74 : decode cX12_layHand 74 = .ok (.return_, 1) := by decide +kernel
def P_X12_layHand : Nat → Nat
  | 1 => 7
  | _ => 0
set_option maxRecDepth 100000 in
set_option maxHeartbeats 4000000 in
theorem S_X12_layHand : zSd yX12_layHand cX12_layHand 2 none { frames := 1, cells := 0, slots := 0, locals := 22 } T_X12_layHand := by
  refine zMet (pcs := P_X12_layHand) (F := F_X12_layHand) (by decide) rfl ?_
  intro p l e s m args below meth c D ids ad A Q Y C hr hk hY b
  match b with
  | 0 => exact (z_aln (pc := 0) C dX12_layHand_0 rfl <| z_ic (pc := 1) C dX12_layHand_1 (by decide +kernel) <| z_pf (pc := 2) C dX12_layHand_2 fp_12_110 <| z_ic (pc := 5) C dX12_layHand_5 (by decide +kernel) <| z_isn (pc := 6) C dX12_layHand_6 rfl (by decide) <| z_jmp (hY 1))
  | 1 => exact (z_iln (pc := 7) C dX12_layHand_7 rfl <| z_aln (pc := 8) C dX12_layHand_8 rfl <| z_cV (pc := 9) C dX12_layHand_9 S_X12_many rfl (zl4 w_929 w_931 wp_21 w_13) w_932 ds_X12_many (zrm rfl rfl (by decide) (by decide)) <| z_cmpge (tgt := 74) (pc := 12) C dX12_layHand_12 (by decide) (z_vr C hr hk dX12_layHand_74) <| z_aln (pc := 15) C dX12_layHand_15 rfl <| z_gf (pc := 16) C dX12_layHand_16 fl_12_27 <| z_iln (pc := 19) C dX12_layHand_19 rfl <| z_aln (pc := 20) C dX12_layHand_20 rfl <| z_iln (pc := 21) C dX12_layHand_21 rfl <| z_ic (pc := 22) C dX12_layHand_22 (by decide +kernel) <| z_cV (pc := 23) C dX12_layHand_23 S_X12_get rfl (zl4 w_973 w_975 wp_25 w_13) w_976 ds_X12_get (zrm rfl rfl (by decide) (by decide)) <| z_iast (pc := 26) C dX12_layHand_26 <| z_aln (pc := 27) C dX12_layHand_27 rfl <| z_gf (pc := 28) C dX12_layHand_28 fl_12_30 <| z_iln (pc := 31) C dX12_layHand_31 rfl <| z_aln (pc := 32) C dX12_layHand_32 rfl <| z_iln (pc := 33) C dX12_layHand_33 rfl <| z_ic (pc := 34) C dX12_layHand_34 (by decide +kernel) <| z_cV (pc := 35) C dX12_layHand_35 S_X12_get rfl (zl4 w_973 w_975 wp_25 w_13) w_976 ds_X12_get (zrm rfl rfl (by decide) (by decide)) <| z_iast (pc := 38) C dX12_layHand_38 <| z_aln (pc := 39) C dX12_layHand_39 rfl <| z_gf (pc := 40) C dX12_layHand_40 fl_12_33 <| z_iln (pc := 43) C dX12_layHand_43 rfl <| z_aln (pc := 44) C dX12_layHand_44 rfl <| z_iln (pc := 45) C dX12_layHand_45 rfl <| z_ic (pc := 46) C dX12_layHand_46 (by decide +kernel) <| z_cV (pc := 47) C dX12_layHand_47 S_X12_get rfl (zl4 w_973 w_975 wp_25 w_13) w_976 ds_X12_get (zrm rfl rfl (by decide) (by decide)) <| z_iast (pc := 50) C dX12_layHand_50 <| z_aln (pc := 51) C dX12_layHand_51 rfl <| z_dup (pc := 52) C dX12_layHand_52 <| z_gf (pc := 53) C dX12_layHand_53 fl_12_110 <| z_aln (pc := 56) C dX12_layHand_56 rfl <| z_iln (pc := 57) C dX12_layHand_57 rfl <| z_ic (pc := 58) C dX12_layHand_58 (by decide +kernel) <| z_cV (pc := 59) C dX12_layHand_59 S_X12_get rfl (zl4 w_973 w_975 wp_25 w_13) w_976 ds_X12_get (zrm rfl rfl (by decide) (by decide)) <| z_iln (pc := 62) C dX12_layHand_62 rfl <| z_ishl (pc := 63) C dX12_layHand_63 <| z_ior (pc := 64) C dX12_layHand_64 <| z_pf (pc := 65) C dX12_layHand_65 fp_12_110 <| z_inc (pc := 68) C dX12_layHand_68 (by decide +kernel) (by decide) <| z_goto (tgt := 7) (pc := 71) C dX12_layHand_71 (by decide) <| z_jmp (hY 1))
  | b + 2 => exact fun _ _ _ h => h.elim
theorem dX12_kneels_0 : decode cX12_kneels 0 = .ok (.aload_n 0, 1) := by decide +kernel
theorem dX12_kneels_1 : decode cX12_kneels 1 = .ok (.getfield 7, 3) := by decide +kernel
theorem dX12_kneels_4 : decode cX12_kneels 4 = .ok (.iconst 2, 1) := by decide +kernel
theorem dX12_kneels_5 : decode cX12_kneels 5 = .ok (.aload_n 0, 1) := by decide +kernel
theorem dX12_kneels_6 : decode cX12_kneels 6 = .ok (.getfield 30, 3) := by decide +kernel
theorem dX12_kneels_9 : decode cX12_kneels 9 = .ok (.iload_n 1, 1) := by decide +kernel
theorem dX12_kneels_10 : decode cX12_kneels 10 = .ok (.iaload, 1) := by decide +kernel
theorem dX12_kneels_11 : decode cX12_kneels 11 = .ok (.iadd, 1) := by decide +kernel
theorem dX12_kneels_12 : decode cX12_kneels 12 = .ok (.iaload, 1) := by decide +kernel
theorem dX12_kneels_13 : decode cX12_kneels 13 = .ok (.iload_n 2, 1) := by decide +kernel
theorem dX12_kneels_14 : decode cX12_kneels 14 = .ok (.invokestatic 118, 3) := by decide +kernel
theorem dX12_kneels_17 : decode cX12_kneels 17 = .ok (.istore_n 3, 1) := by decide +kernel
theorem dX12_kneels_18 : decode cX12_kneels 18 = .ok (.aload_n 0, 1) := by decide +kernel
theorem dX12_kneels_19 : decode cX12_kneels 19 = .ok (.getfield 7, 3) := by decide +kernel
theorem dX12_kneels_22 : decode cX12_kneels 22 = .ok (.iconst 3, 1) := by decide +kernel
theorem dX12_kneels_23 : decode cX12_kneels 23 = .ok (.aload_n 0, 1) := by decide +kernel
theorem dX12_kneels_24 : decode cX12_kneels 24 = .ok (.getfield 30, 3) := by decide +kernel
theorem dX12_kneels_27 : decode cX12_kneels 27 = .ok (.iload_n 1, 1) := by decide +kernel
theorem dX12_kneels_28 : decode cX12_kneels 28 = .ok (.iaload, 1) := by decide +kernel
theorem dX12_kneels_29 : decode cX12_kneels 29 = .ok (.isub, 1) := by decide +kernel
theorem dX12_kneels_30 : decode cX12_kneels 30 = .ok (.iaload, 1) := by decide +kernel
theorem dX12_kneels_31 : decode cX12_kneels 31 = .ok (.iload_n 2, 1) := by decide +kernel
theorem dX12_kneels_32 : decode cX12_kneels 32 = .ok (.invokestatic 118, 3) := by decide +kernel
theorem dX12_kneels_35 : decode cX12_kneels 35 = .ok (.istore 4, 2) := by decide +kernel
theorem dX12_kneels_37 : decode cX12_kneels 37 = .ok (.aload_n 0, 1) := by decide +kernel
theorem dX12_kneels_38 : decode cX12_kneels 38 = .ok (.getfield 27, 3) := by decide +kernel
theorem dX12_kneels_41 : decode cX12_kneels 41 = .ok (.iload_n 1, 1) := by decide +kernel
theorem dX12_kneels_42 : decode cX12_kneels 42 = .ok (.iaload, 1) := by decide +kernel
theorem dX12_kneels_43 : decode cX12_kneels 43 = .ok (.iconst 2, 1) := by decide +kernel
theorem dX12_kneels_44 : decode cX12_kneels 44 = .ok (.if_icmp .ne 20, 3) := by decide +kernel
theorem dX12_kneels_47 : decode cX12_kneels 47 = .ok (.iload_n 3, 1) := by decide +kernel
theorem dX12_kneels_48 : decode cX12_kneels 48 = .ok (.ifCond .ne 8, 3) := by decide +kernel
theorem dX12_kneels_51 : decode cX12_kneels 51 = .ok (.iload 4, 2) := by decide +kernel
theorem dX12_kneels_53 : decode cX12_kneels 53 = .ok (.ifCond .eq 7, 3) := by decide +kernel
theorem dX12_kneels_56 : decode cX12_kneels 56 = .ok (.iconst 1, 1) := by decide +kernel
theorem dX12_kneels_57 : decode cX12_kneels 57 = .ok (.goto 53, 3) := by decide +kernel
theorem dX12_kneels_60 : decode cX12_kneels 60 = .ok (.iconst 0, 1) := by decide +kernel
theorem dX12_kneels_61 : decode cX12_kneels 61 = .ok (.goto 49, 3) := by decide +kernel
theorem dX12_kneels_64 : decode cX12_kneels 64 = .ok (.aload_n 0, 1) := by decide +kernel
theorem dX12_kneels_65 : decode cX12_kneels 65 = .ok (.getfield 27, 3) := by decide +kernel
theorem dX12_kneels_68 : decode cX12_kneels 68 = .ok (.iload_n 1, 1) := by decide +kernel
theorem dX12_kneels_69 : decode cX12_kneels 69 = .ok (.iaload, 1) := by decide +kernel
theorem dX12_kneels_70 : decode cX12_kneels 70 = .ok (.iconst 5, 1) := by decide +kernel
theorem dX12_kneels_71 : decode cX12_kneels 71 = .ok (.if_icmp .ne 20, 3) := by decide +kernel
theorem dX12_kneels_74 : decode cX12_kneels 74 = .ok (.iload_n 3, 1) := by decide +kernel
theorem dX12_kneels_75 : decode cX12_kneels 75 = .ok (.ifCond .eq 12, 3) := by decide +kernel
theorem dX12_kneels_78 : decode cX12_kneels 78 = .ok (.iload 4, 2) := by decide +kernel
theorem dX12_kneels_80 : decode cX12_kneels 80 = .ok (.ifCond .eq 7, 3) := by decide +kernel
theorem dX12_kneels_83 : decode cX12_kneels 83 = .ok (.iconst 1, 1) := by decide +kernel
theorem dX12_kneels_84 : decode cX12_kneels 84 = .ok (.goto 26, 3) := by decide +kernel
theorem dX12_kneels_87 : decode cX12_kneels 87 = .ok (.iconst 0, 1) := by decide +kernel
theorem dX12_kneels_88 : decode cX12_kneels 88 = .ok (.goto 22, 3) := by decide +kernel
theorem dX12_kneels_91 : decode cX12_kneels 91 = .ok (.aload_n 0, 1) := by decide +kernel
theorem dX12_kneels_92 : decode cX12_kneels 92 = .ok (.getfield 27, 3) := by decide +kernel
theorem dX12_kneels_95 : decode cX12_kneels 95 = .ok (.iload_n 1, 1) := by decide +kernel
theorem dX12_kneels_96 : decode cX12_kneels 96 = .ok (.iaload, 1) := by decide +kernel
theorem dX12_kneels_97 : decode cX12_kneels 97 = .ok (.iconst 3, 1) := by decide +kernel
theorem dX12_kneels_98 : decode cX12_kneels 98 = .ok (.if_icmp .eq 11, 3) := by decide +kernel
theorem dX12_kneels_101 : decode cX12_kneels 101 = .ok (.iload_n 3, 1) := by decide +kernel
theorem dX12_kneels_102 : decode cX12_kneels 102 = .ok (.ifCond .eq 7, 3) := by decide +kernel
theorem dX12_kneels_105 : decode cX12_kneels 105 = .ok (.iconst 1, 1) := by decide +kernel
theorem dX12_kneels_106 : decode cX12_kneels 106 = .ok (.goto 4, 3) := by decide +kernel
theorem dX12_kneels_109 : decode cX12_kneels 109 = .ok (.iconst 0, 1) := by decide +kernel
theorem dX12_kneels_110 : decode cX12_kneels 110 = .ok (.ireturn, 1) := by decide +kernel
def P_X12_kneels : Nat → Nat
  | 1 => 56
  | 2 => 87
  | _ => 0
set_option maxRecDepth 100000 in
set_option maxHeartbeats 4000000 in
theorem S_X12_kneels : zSd yX12_kneels cX12_kneels 5 (some .boolean) { frames := 1, cells := 0, slots := 0, locals := 21 } T_X12_kneels := by
  refine zMet (pcs := P_X12_kneels) (F := F_X12_kneels) (by decide) rfl ?_
  intro p l e s m args below meth c D ids ad A Q Y C hr hk hY b
  match b with
  | 0 => exact (z_aln (pc := 0) C dX12_kneels_0 rfl <| z_gf (pc := 1) C dX12_kneels_1 fl_12_7 <| z_ic (pc := 4) C dX12_kneels_4 (by decide +kernel) <| z_aln (pc := 5) C dX12_kneels_5 rfl <| z_gf (pc := 6) C dX12_kneels_6 fl_12_30 <| z_iln (pc := 9) C dX12_kneels_9 rfl <| z_ia (pc := 10) C dX12_kneels_10 <| z_iadd (pc := 11) C dX12_kneels_11 <| z_ia (pc := 12) C dX12_kneels_12 <| z_iln (pc := 13) C dX12_kneels_13 rfl <| z_cS (pc := 14) C dX12_kneels_14 S_X12_has (zl3 w_1014 w_1015 w_13) w_1016 ds_X12_has (zrm rfl rfl (by decide) (by decide)) <| z_isn (pc := 17) C dX12_kneels_17 rfl (by decide) <| z_aln (pc := 18) C dX12_kneels_18 rfl <| z_gf (pc := 19) C dX12_kneels_19 fl_12_7 <| z_ic (pc := 22) C dX12_kneels_22 (by decide +kernel) <| z_aln (pc := 23) C dX12_kneels_23 rfl <| z_gf (pc := 24) C dX12_kneels_24 fl_12_30 <| z_iln (pc := 27) C dX12_kneels_27 rfl <| z_ia (pc := 28) C dX12_kneels_28 <| z_isub (pc := 29) C dX12_kneels_29 <| z_ia (pc := 30) C dX12_kneels_30 <| z_iln (pc := 31) C dX12_kneels_31 rfl <| z_cS (pc := 32) C dX12_kneels_32 S_X12_has (zl3 w_1014 w_1015 w_13) w_1016 ds_X12_has (zrm rfl rfl (by decide) (by decide)) <| z_is (pc := 35) C dX12_kneels_35 (by decide) <| z_aln (pc := 37) C dX12_kneels_37 rfl <| z_gf (pc := 38) C dX12_kneels_38 fl_12_27 <| z_iln (pc := 41) C dX12_kneels_41 rfl <| z_ia (pc := 42) C dX12_kneels_42 <| z_ic (pc := 43) C dX12_kneels_43 (by decide +kernel) <| z_cmpne (tgt := 64) (pc := 44) C dX12_kneels_44 (by decide) (z_aln (pc := 64) C dX12_kneels_64 rfl <| z_gf (pc := 65) C dX12_kneels_65 fl_12_27 <| z_iln (pc := 68) C dX12_kneels_68 rfl <| z_ia (pc := 69) C dX12_kneels_69 <| z_ic (pc := 70) C dX12_kneels_70 (by decide +kernel) <| z_cmpne (tgt := 91) (pc := 71) C dX12_kneels_71 (by decide) (z_aln (pc := 91) C dX12_kneels_91 rfl <| z_gf (pc := 92) C dX12_kneels_92 fl_12_27 <| z_iln (pc := 95) C dX12_kneels_95 rfl <| z_ia (pc := 96) C dX12_kneels_96 <| z_ic (pc := 97) C dX12_kneels_97 (by decide +kernel) <| z_cmpeq (tgt := 109) (pc := 98) C dX12_kneels_98 (by decide) (z_ic (pc := 109) C dX12_kneels_109 (by decide +kernel) <| z_zr C hr hk dX12_kneels_110) <| z_iln (pc := 101) C dX12_kneels_101 rfl <| z_ifeq (tgt := 109) (pc := 102) C dX12_kneels_102 (by decide) (z_ic (pc := 109) C dX12_kneels_109 (by decide +kernel) <| z_zr C hr hk dX12_kneels_110) <| z_ic (pc := 105) C dX12_kneels_105 (by decide +kernel) <| z_goto (tgt := 110) (pc := 106) C dX12_kneels_106 (by decide) <| z_zr C hr hk dX12_kneels_110) <| z_iln (pc := 74) C dX12_kneels_74 rfl <| z_ifeq (tgt := 87) (pc := 75) C dX12_kneels_75 (by decide) (z_jmp (hY 2)) <| z_il (pc := 78) C dX12_kneels_78 <| z_ifeq (tgt := 87) (pc := 80) C dX12_kneels_80 (by decide) (z_jmp (hY 2)) <| z_ic (pc := 83) C dX12_kneels_83 (by decide +kernel) <| z_goto (tgt := 110) (pc := 84) C dX12_kneels_84 (by decide) <| z_zr C hr hk dX12_kneels_110) <| z_iln (pc := 47) C dX12_kneels_47 rfl <| z_ifne (tgt := 56) (pc := 48) C dX12_kneels_48 (by decide) (z_jmp (hY 1)) <| z_il (pc := 51) C dX12_kneels_51 <| z_ifeq (tgt := 60) (pc := 53) C dX12_kneels_53 (by decide) (z_ic (pc := 60) C dX12_kneels_60 (by decide +kernel) <| z_goto (tgt := 110) (pc := 61) C dX12_kneels_61 (by decide) <| z_zr C hr hk dX12_kneels_110) <| z_jmp (hY 1))
  | 1 => exact (z_ic (pc := 56) C dX12_kneels_56 (by decide +kernel) <| z_goto (tgt := 110) (pc := 57) C dX12_kneels_57 (by decide) <| z_zr C hr hk dX12_kneels_110)
  | 2 => exact (z_ic (pc := 87) C dX12_kneels_87 (by decide +kernel) <| z_goto (tgt := 110) (pc := 88) C dX12_kneels_88 (by decide) <| z_zr C hr hk dX12_kneels_110)
  | b + 3 => exact fun _ _ _ h => h.elim
theorem dX12_high_0 : decode cX12_high 0 = .ok (.aload_n 0, 1) := by decide +kernel
theorem dX12_high_1 : decode cX12_high 1 = .ok (.iload_n 1, 1) := by decide +kernel
theorem dX12_high_2 : decode cX12_high 2 = .ok (.iload_n 2, 1) := by decide +kernel
theorem dX12_high_3 : decode cX12_high 3 = .ok (.invokevirtual 121, 3) := by decide +kernel
theorem dX12_high_6 : decode cX12_high 6 = .ok (.ifCond .eq 14, 3) := by decide +kernel
theorem dX12_high_9 : decode cX12_high 9 = .ok (.aload_n 0, 1) := by decide +kernel
theorem dX12_high_10 : decode cX12_high 10 = .ok (.iload_n 1, 1) := by decide +kernel
theorem dX12_high_11 : decode cX12_high 11 = .ok (.iconst 2, 1) := by decide +kernel
theorem dX12_high_12 : decode cX12_high 12 = .ok (.invokevirtual 114, 3) := by decide +kernel
theorem dX12_high_15 : decode cX12_high 15 = .ok (.iconst 2, 1) := by decide +kernel
theorem dX12_high_16 : decode cX12_high 16 = .ok (.idiv, 1) := by decide +kernel
theorem dX12_high_17 : decode cX12_high 17 = .ok (.goto 9, 3) := by decide +kernel
theorem dX12_high_20 : decode cX12_high 20 = .ok (.aload_n 0, 1) := by decide +kernel
theorem dX12_high_21 : decode cX12_high 21 = .ok (.iload_n 1, 1) := by decide +kernel
theorem dX12_high_22 : decode cX12_high 22 = .ok (.iconst 2, 1) := by decide +kernel
theorem dX12_high_23 : decode cX12_high 23 = .ok (.invokevirtual 114, 3) := by decide +kernel
theorem dX12_high_26 : decode cX12_high 26 = .ok (.istore_n 3, 1) := by decide +kernel
theorem dX12_high_27 : decode cX12_high 27 = .ok (.iload_n 3, 1) := by decide +kernel
theorem dX12_high_28 : decode cX12_high 28 = .ok (.iconst 2, 1) := by decide +kernel
theorem dX12_high_29 : decode cX12_high 29 = .ok (.if_icmp .le 9, 3) := by decide +kernel
theorem dX12_high_32 : decode cX12_high 32 = .ok (.iload_n 3, 1) := by decide +kernel
theorem dX12_high_33 : decode cX12_high 33 = .ok (.iconst 2, 1) := by decide +kernel
theorem dX12_high_34 : decode cX12_high 34 = .ok (.isub, 1) := by decide +kernel
theorem dX12_high_35 : decode cX12_high 35 = .ok (.goto 4, 3) := by decide +kernel
theorem dX12_high_38 : decode cX12_high 38 = .ok (.iconst 0, 1) := by decide +kernel
theorem dX12_high_39 : decode cX12_high 39 = .ok (.istore 4, 2) := by decide +kernel
theorem dX12_high_41 : decode cX12_high 41 = .ok (.aload_n 0, 1) := by decide +kernel
theorem dX12_high_42 : decode cX12_high 42 = .ok (.getfield 27, 3) := by decide +kernel
theorem dX12_high_45 : decode cX12_high 45 = .ok (.iload_n 1, 1) := by decide +kernel
theorem dX12_high_46 : decode cX12_high 46 = .ok (.iaload, 1) := by decide +kernel
theorem dX12_high_47 : decode cX12_high 47 = .ok (.iconst 3, 1) := by decide +kernel
theorem dX12_high_48 : decode cX12_high 48 = .ok (.if_icmp .ne 9, 3) := by decide +kernel
theorem dX12_high_51 : decode cX12_high 51 = .ok (.iload_n 3, 1) := by decide +kernel
theorem dX12_high_52 : decode cX12_high 52 = .ok (.iconst 1, 1) := by decide +kernel
theorem dX12_high_53 : decode cX12_high 53 = .ok (.iadd, 1) := by decide +kernel
theorem dX12_high_54 : decode cX12_high 54 = .ok (.goto 19, 3) := by decide +kernel
theorem dX12_high_57 : decode cX12_high 57 = .ok (.aload_n 0, 1) := by decide +kernel
theorem dX12_high_58 : decode cX12_high 58 = .ok (.getfield 27, 3) := by decide +kernel
theorem dX12_high_61 : decode cX12_high 61 = .ok (.iload_n 1, 1) := by decide +kernel
theorem dX12_high_62 : decode cX12_high 62 = .ok (.iaload, 1) := by decide +kernel
theorem dX12_high_63 : decode cX12_high 63 = .ok (.iconst 4, 1) := by decide +kernel
theorem dX12_high_64 : decode cX12_high 64 = .ok (.if_icmp .ne 8, 3) := by decide +kernel
theorem dX12_high_67 : decode cX12_high 67 = .ok (.iload 4, 2) := by decide +kernel
theorem dX12_high_69 : decode cX12_high 69 = .ok (.goto 4, 3) := by decide +kernel
theorem dX12_high_72 : decode cX12_high 72 = .ok (.iload_n 3, 1) := by decide +kernel
theorem dX12_high_73 : decode cX12_high 73 = .ok (.ireturn, 1) := by decide +kernel
def P_X12_high : Nat → Nat
  | 1 => 26
  | 2 => 39
  | _ => 0
set_option maxRecDepth 100000 in
set_option maxHeartbeats 4000000 in
theorem S_X12_high : zSd yX12_high cX12_high 5 (some .int) { frames := 2, cells := 0, slots := 0, locals := 45 } T_X12_high := by
  refine zMet (pcs := P_X12_high) (F := F_X12_high) (by decide) rfl ?_
  intro p l e s m args below meth c D ids ad A Q Y C hr hk hY b
  match b with
  | 0 => exact (z_aln (pc := 0) C dX12_high_0 rfl <| z_iln (pc := 1) C dX12_high_1 rfl <| z_iln (pc := 2) C dX12_high_2 rfl <| z_cV (pc := 3) C dX12_high_3 S_X12_kneels rfl (zl4 w_1010 w_1012 wp_29 w_13) w_1013 ds_X12_kneels (zrm rfl rfl (by decide) (by decide)) <| z_ifeq (tgt := 20) (pc := 6) C dX12_high_6 (by decide) (z_aln (pc := 20) C dX12_high_20 rfl <| z_iln (pc := 21) C dX12_high_21 rfl <| z_ic (pc := 22) C dX12_high_22 (by decide +kernel) <| z_cV (pc := 23) C dX12_high_23 S_X12_get rfl (zl4 w_973 w_975 wp_25 w_13) w_976 ds_X12_get (zrm rfl rfl (by decide) (by decide)) <| z_jmp (hY 1)) <| z_aln (pc := 9) C dX12_high_9 rfl <| z_iln (pc := 10) C dX12_high_10 rfl <| z_ic (pc := 11) C dX12_high_11 (by decide +kernel) <| z_cV (pc := 12) C dX12_high_12 S_X12_get rfl (zl4 w_973 w_975 wp_25 w_13) w_976 ds_X12_get (zrm rfl rfl (by decide) (by decide)) <| z_ic (pc := 15) C dX12_high_15 (by decide +kernel) <| z_idiv (pc := 16) C dX12_high_16 <| z_goto (tgt := 26) (pc := 17) C dX12_high_17 (by decide) <| z_jmp (hY 1))
  | 1 => exact (z_isn (pc := 26) C dX12_high_26 rfl (by decide) <| z_iln (pc := 27) C dX12_high_27 rfl <| z_ic (pc := 28) C dX12_high_28 (by decide +kernel) <| z_cmple (tgt := 38) (pc := 29) C dX12_high_29 (by decide) (z_ic (pc := 38) C dX12_high_38 (by decide +kernel) <| z_jmp (hY 2)) <| z_iln (pc := 32) C dX12_high_32 rfl <| z_ic (pc := 33) C dX12_high_33 (by decide +kernel) <| z_isub (pc := 34) C dX12_high_34 <| z_goto (tgt := 39) (pc := 35) C dX12_high_35 (by decide) <| z_jmp (hY 2))
  | 2 => exact (z_is (pc := 39) C dX12_high_39 (by decide) <| z_aln (pc := 41) C dX12_high_41 rfl <| z_gf (pc := 42) C dX12_high_42 fl_12_27 <| z_iln (pc := 45) C dX12_high_45 rfl <| z_ia (pc := 46) C dX12_high_46 <| z_ic (pc := 47) C dX12_high_47 (by decide +kernel) <| z_cmpne (tgt := 57) (pc := 48) C dX12_high_48 (by decide) (z_aln (pc := 57) C dX12_high_57 rfl <| z_gf (pc := 58) C dX12_high_58 fl_12_27 <| z_iln (pc := 61) C dX12_high_61 rfl <| z_ia (pc := 62) C dX12_high_62 <| z_ic (pc := 63) C dX12_high_63 (by decide +kernel) <| z_cmpne (tgt := 72) (pc := 64) C dX12_high_64 (by decide) (z_iln (pc := 72) C dX12_high_72 rfl <| z_ir C hr hk dX12_high_73) <| z_il (pc := 67) C dX12_high_67 <| z_goto (tgt := 73) (pc := 69) C dX12_high_69 (by decide) <| z_ir C hr hk dX12_high_73) <| z_iln (pc := 51) C dX12_high_51 rfl <| z_ic (pc := 52) C dX12_high_52 (by decide +kernel) <| z_iadd (pc := 53) C dX12_high_53 <| z_goto (tgt := 73) (pc := 54) C dX12_high_54 (by decide) <| z_ir C hr hk dX12_high_73)
  | b + 3 => exact fun _ _ _ h => h.elim
