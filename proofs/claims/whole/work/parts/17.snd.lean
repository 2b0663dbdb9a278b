/-! Soundness of methods: by program. -/
theorem dX12_seeing_0 : decode cX12_seeing 0 = .ok (.iconst 0, 1) := by decide +kernel
theorem dX12_seeing_1 : decode cX12_seeing 1 = .ok (.istore_n 1, 1) := by decide +kernel
theorem dX12_seeing_2 : decode cX12_seeing 2 = .ok (.iconst 0, 1) := by decide +kernel
theorem dX12_seeing_3 : decode cX12_seeing 3 = .ok (.istore_n 2, 1) := by decide +kernel
theorem dX12_seeing_4 : decode cX12_seeing 4 = .ok (.iload_n 2, 1) := by decide +kernel
theorem dX12_seeing_5 : decode cX12_seeing 5 = .ok (.aload_n 0, 1) := by decide +kernel
theorem dX12_seeing_6 : decode cX12_seeing 6 = .ok (.invokevirtual 64, 3) := by decide +kernel
theorem dX12_seeing_9 : decode cX12_seeing 9 = .ok (.if_icmp .ge 111, 3) := by decide +kernel
theorem dX12_seeing_12 : decode cX12_seeing 12 = .ok (.iconst 0, 1) := by decide +kernel
theorem dX12_seeing_13 : decode cX12_seeing 13 = .ok (.istore_n 3, 1) := by decide +kernel
theorem dX12_seeing_14 : decode cX12_seeing 14 = .ok (.iload_n 3, 1) := by decide +kernel
theorem dX12_seeing_15 : decode cX12_seeing 15 = .ok (.bipush 16, 2) := by decide +kernel
theorem dX12_seeing_17 : decode cX12_seeing 17 = .ok (.if_icmp .ge 97, 3) := by decide +kernel
theorem dX12_seeing_20 : decode cX12_seeing 20 = .ok (.iconst 1, 1) := by decide +kernel
theorem dX12_seeing_21 : decode cX12_seeing 21 = .ok (.istore 4, 2) := by decide +kernel
theorem dX12_seeing_23 : decode cX12_seeing 23 = .ok (.iconst 0, 1) := by decide +kernel
theorem dX12_seeing_24 : decode cX12_seeing 24 = .ok (.istore 5, 2) := by decide +kernel
theorem dX12_seeing_26 : decode cX12_seeing 26 = .ok (.iload 5, 2) := by decide +kernel
theorem dX12_seeing_28 : decode cX12_seeing 28 = .ok (.aload_n 0, 1) := by decide +kernel
theorem dX12_seeing_29 : decode cX12_seeing 29 = .ok (.invokevirtual 64, 3) := by decide +kernel
theorem dX12_seeing_32 : decode cX12_seeing 32 = .ok (.if_icmp .ge 63, 3) := by decide +kernel
theorem dX12_seeing_35 : decode cX12_seeing 35 = .ok (.iload 4, 2) := by decide +kernel
theorem dX12_seeing_37 : decode cX12_seeing 37 = .ok (.ifCond .eq 58, 3) := by decide +kernel
theorem dX12_seeing_40 : decode cX12_seeing 40 = .ok (.aload_n 0, 1) := by decide +kernel
theorem dX12_seeing_41 : decode cX12_seeing 41 = .ok (.getfield 33, 3) := by decide +kernel
theorem dX12_seeing_44 : decode cX12_seeing 44 = .ok (.iload 5, 2) := by decide +kernel
theorem dX12_seeing_46 : decode cX12_seeing 46 = .ok (.iaload, 1) := by decide +kernel
theorem dX12_seeing_47 : decode cX12_seeing 47 = .ok (.aload_n 0, 1) := by decide +kernel
theorem dX12_seeing_48 : decode cX12_seeing 48 = .ok (.getfield 33, 3) := by decide +kernel
theorem dX12_seeing_51 : decode cX12_seeing 51 = .ok (.iload_n 2, 1) := by decide +kernel
theorem dX12_seeing_52 : decode cX12_seeing 52 = .ok (.iaload, 1) := by decide +kernel
theorem dX12_seeing_53 : decode cX12_seeing 53 = .ok (.if_icmp .ge 29, 3) := by decide +kernel
theorem dX12_seeing_56 : decode cX12_seeing 56 = .ok (.aload_n 0, 1) := by decide +kernel
theorem dX12_seeing_57 : decode cX12_seeing 57 = .ok (.getfield 36, 3) := by decide +kernel
theorem dX12_seeing_60 : decode cX12_seeing 60 = .ok (.bipush 16, 2) := by decide +kernel
theorem dX12_seeing_62 : decode cX12_seeing 62 = .ok (.iload 5, 2) := by decide +kernel
theorem dX12_seeing_64 : decode cX12_seeing 64 = .ok (.imul, 1) := by decide +kernel
theorem dX12_seeing_65 : decode cX12_seeing 65 = .ok (.iload_n 3, 1) := by decide +kernel
theorem dX12_seeing_66 : decode cX12_seeing 66 = .ok (.iadd, 1) := by decide +kernel
theorem dX12_seeing_67 : decode cX12_seeing 67 = .ok (.iaload, 1) := by decide +kernel
theorem dX12_seeing_68 : decode cX12_seeing 68 = .ok (.aload_n 0, 1) := by decide +kernel
theorem dX12_seeing_69 : decode cX12_seeing 69 = .ok (.getfield 36, 3) := by decide +kernel
theorem dX12_seeing_72 : decode cX12_seeing 72 = .ok (.bipush 16, 2) := by decide +kernel
theorem dX12_seeing_74 : decode cX12_seeing 74 = .ok (.iload_n 2, 1) := by decide +kernel
theorem dX12_seeing_75 : decode cX12_seeing 75 = .ok (.imul, 1) := by decide +kernel
theorem dX12_seeing_76 : decode cX12_seeing 76 = .ok (.iload_n 3, 1) := by decide +kernel
theorem dX12_seeing_77 : decode cX12_seeing 77 = .ok (.iadd, 1) := by decide +kernel
theorem dX12_seeing_78 : decode cX12_seeing 78 = .ok (.iaload, 1) := by decide +kernel
theorem dX12_seeing_79 : decode cX12_seeing 79 = .ok (.if_icmp .ge 7, 3) := by decide +kernel
theorem dX12_seeing_82 : decode cX12_seeing 82 = .ok (.iconst 1, 1) := by decide +kernel
theorem dX12_seeing_83 : decode cX12_seeing 83 = .ok (.goto 4, 3) := by decide +kernel
theorem dX12_seeing_86 : decode cX12_seeing 86 = .ok (.iconst 0, 1) := by decide +kernel
theorem dX12_seeing_87 : decode cX12_seeing 87 = .ok (.istore 4, 2) := by decide +kernel
theorem dX12_seeing_89 : decode cX12_seeing 89 = .ok (.iinc 5 1, 3) := by decide +kernel
theorem dX12_seeing_92 : decode cX12_seeing 92 = .ok (.goto (-66), 3) := by decide +kernel
theorem dX12_seeing_95 : decode cX12_seeing 95 = .ok (.iload_n 1, 1) := by decide +kernel
theorem dX12_seeing_96 : decode cX12_seeing 96 = .ok (.iload 4, 2) := by decide +kernel
theorem dX12_seeing_98 : decode cX12_seeing 98 = .ok (.ifCond .eq 7, 3) := by decide +kernel
theorem dX12_seeing_101 : decode cX12_seeing 101 = .ok (.iconst 1, 1) := by decide +kernel
theorem dX12_seeing_102 : decode cX12_seeing 102 = .ok (.goto 4, 3) := by decide +kernel
theorem dX12_seeing_105 : decode cX12_seeing 105 = .ok (.iconst 0, 1) := by decide +kernel
theorem dX12_seeing_106 : decode cX12_seeing 106 = .ok (.iadd, 1) := by decide +kernel
theorem dX12_seeing_107 : decode cX12_seeing 107 = .ok (.istore_n 1, 1) := by decide +kernel
theorem dX12_seeing_108 : decode cX12_seeing 108 = .ok (.iinc 3 1, 3) := by decide +kernel
theorem dX12_seeing_111 : decode cX12_seeing 111 = .ok (.goto (-97), 3) := by decide +kernel
theorem dX12_seeing_114 : decode cX12_seeing 114 = .ok (.iinc 2 1, 3) := by decide +kernel
theorem dX12_seeing_117 : decode cX12_seeing 117 = .ok (.goto (-113), 3) := by decide +kernel
theorem dX12_seeing_120 : decode cX12_seeing 120 = .ok (.iload_n 1, 1) := by decide +kernel
theorem dX12_seeing_121 : decode cX12_seeing 121 = .ok (.ireturn, 1) := by decide +kernel
def P_X12_seeing : Nat → Nat
  | 1 => 4
  | 2 => 14
  | 3 => 26
  | 4 => 82
  | 5 => 87
  | 6 => 95
  | 7 => 106
  | _ => 0
set_option maxRecDepth 100000 in
set_option maxHeartbeats 4000000 in
theorem S_X12_seeing : zSd yX12_seeing cX12_seeing 6 (some .int) { frames := 1, cells := 0, slots := 0, locals := 20 } T_X12_seeing := by
  refine zMet (pcs := P_X12_seeing) (F := F_X12_seeing) (by decide) rfl ?_
  intro p l e s m args below meth c D ids ad A Q Y C hr hk hY b
  match b with
  | 0 => exact (z_ic (pc := 0) C dX12_seeing_0 (by decide +kernel) <| z_isn (pc := 1) C dX12_seeing_1 rfl (by decide) <| z_ic (pc := 2) C dX12_seeing_2 (by decide +kernel) <| z_isn (pc := 3) C dX12_seeing_3 rfl (by decide) <| z_jmp (hY 1))
  | 1 => exact (z_iln (pc := 4) C dX12_seeing_4 rfl <| z_aln (pc := 5) C dX12_seeing_5 rfl <| z_cV (pc := 6) C dX12_seeing_6 S_X12_many rfl (zl4 w_929 w_931 wp_21 w_13) w_932 ds_X12_many (zrm rfl rfl (by decide) (by decide)) <| z_cmpge (tgt := 120) (pc := 9) C dX12_seeing_9 (by decide) (z_iln (pc := 120) C dX12_seeing_120 rfl <| z_ir C hr hk dX12_seeing_121) <| z_ic (pc := 12) C dX12_seeing_12 (by decide +kernel) <| z_isn (pc := 13) C dX12_seeing_13 rfl (by decide) <| z_jmp (hY 2))
  | 2 => exact (z_iln (pc := 14) C dX12_seeing_14 rfl <| z_bi (pc := 15) C dX12_seeing_15 (by decide +kernel) <| z_cmpge (tgt := 114) (pc := 17) C dX12_seeing_17 (by decide) (z_inc (pc := 114) C dX12_seeing_114 (by decide +kernel) (by decide) <| z_goto (tgt := 4) (pc := 117) C dX12_seeing_117 (by decide) <| z_jmp (hY 1)) <| z_ic (pc := 20) C dX12_seeing_20 (by decide +kernel) <| z_is (pc := 21) C dX12_seeing_21 (by decide) <| z_ic (pc := 23) C dX12_seeing_23 (by decide +kernel) <| z_is (pc := 24) C dX12_seeing_24 (by decide) <| z_jmp (hY 3))
  | 3 => exact (z_il (pc := 26) C dX12_seeing_26 <| z_aln (pc := 28) C dX12_seeing_28 rfl <| z_cV (pc := 29) C dX12_seeing_29 S_X12_many rfl (zl4 w_929 w_931 wp_21 w_13) w_932 ds_X12_many (zrm rfl rfl (by decide) (by decide)) <| z_cmpge (tgt := 95) (pc := 32) C dX12_seeing_32 (by decide) (z_jmp (hY 6)) <| z_il (pc := 35) C dX12_seeing_35 <| z_ifeq (tgt := 95) (pc := 37) C dX12_seeing_37 (by decide) (z_jmp (hY 6)) <| z_aln (pc := 40) C dX12_seeing_40 rfl <| z_gf (pc := 41) C dX12_seeing_41 fl_12_33 <| z_il (pc := 44) C dX12_seeing_44 <| z_ia (pc := 46) C dX12_seeing_46 <| z_aln (pc := 47) C dX12_seeing_47 rfl <| z_gf (pc := 48) C dX12_seeing_48 fl_12_33 <| z_iln (pc := 51) C dX12_seeing_51 rfl <| z_ia (pc := 52) C dX12_seeing_52 <| z_cmpge (tgt := 82) (pc := 53) C dX12_seeing_53 (by decide) (z_jmp (hY 4)) <| z_aln (pc := 56) C dX12_seeing_56 rfl <| z_gf (pc := 57) C dX12_seeing_57 fl_12_36 <| z_bi (pc := 60) C dX12_seeing_60 (by decide +kernel) <| z_il (pc := 62) C dX12_seeing_62 <| z_imul (pc := 64) C dX12_seeing_64 <| z_iln (pc := 65) C dX12_seeing_65 rfl <| z_iadd (pc := 66) C dX12_seeing_66 <| z_ia (pc := 67) C dX12_seeing_67 <| z_aln (pc := 68) C dX12_seeing_68 rfl <| z_gf (pc := 69) C dX12_seeing_69 fl_12_36 <| z_bi (pc := 72) C dX12_seeing_72 (by decide +kernel) <| z_iln (pc := 74) C dX12_seeing_74 rfl <| z_imul (pc := 75) C dX12_seeing_75 <| z_iln (pc := 76) C dX12_seeing_76 rfl <| z_iadd (pc := 77) C dX12_seeing_77 <| z_ia (pc := 78) C dX12_seeing_78 <| z_cmpge (tgt := 86) (pc := 79) C dX12_seeing_79 (by decide) (z_ic (pc := 86) C dX12_seeing_86 (by decide +kernel) <| z_jmp (hY 5)) <| z_jmp (hY 4))
  | 4 => exact (z_ic (pc := 82) C dX12_seeing_82 (by decide +kernel) <| z_goto (tgt := 87) (pc := 83) C dX12_seeing_83 (by decide) <| z_jmp (hY 5))
  | 5 => exact (z_is (pc := 87) C dX12_seeing_87 (by decide) <| z_inc (pc := 89) C dX12_seeing_89 (by decide +kernel) (by decide) <| z_goto (tgt := 26) (pc := 92) C dX12_seeing_92 (by decide) <| z_jmp (hY 3))
  | 6 => exact (z_iln (pc := 95) C dX12_seeing_95 rfl <| z_il (pc := 96) C dX12_seeing_96 <| z_ifeq (tgt := 105) (pc := 98) C dX12_seeing_98 (by decide) (z_ic (pc := 105) C dX12_seeing_105 (by decide +kernel) <| z_jmp (hY 7)) <| z_ic (pc := 101) C dX12_seeing_101 (by decide +kernel) <| z_goto (tgt := 106) (pc := 102) C dX12_seeing_102 (by decide) <| z_jmp (hY 7))
  | 7 => exact (z_iadd (pc := 106) C dX12_seeing_106 <| z_isn (pc := 107) C dX12_seeing_107 rfl (by decide) <| z_inc (pc := 108) C dX12_seeing_108 (by decide +kernel) (by decide) <| z_goto (tgt := 14) (pc := 111) C dX12_seeing_111 (by decide) <| z_jmp (hY 2))
  | b + 8 => exact fun _ _ _ h => h.elim
theorem dX12_laySeating_0 : decode cX12_laySeating 0 = .ok (.iconst 1, 1) := by decide +kernel
theorem dX12_laySeating_1 : decode cX12_laySeating 1 = .ok (.istore_n 1, 1) := by decide +kernel
theorem dX12_laySeating_2 : decode cX12_laySeating 2 = .ok (.aload_n 0, 1) := by decide +kernel
theorem dX12_laySeating_3 : decode cX12_laySeating 3 = .ok (.iconst (-1), 1) := by decide +kernel
theorem dX12_laySeating_4 : decode cX12_laySeating 4 = .ok (.putfield 156, 3) := by decide +kernel
theorem dX12_laySeating_7 : decode cX12_laySeating 7 = .ok (.aload_n 0, 1) := by decide +kernel
theorem dX12_laySeating_8 : decode cX12_laySeating 8 = .ok (.invokevirtual 150, 3) := by decide +kernel
theorem dX12_laySeating_11 : decode cX12_laySeating 11 = .ok (.iconst 0, 1) := by decide +kernel
theorem dX12_laySeating_12 : decode cX12_laySeating 12 = .ok (.istore_n 2, 1) := by decide +kernel
theorem dX12_laySeating_13 : decode cX12_laySeating 13 = .ok (.iload_n 2, 1) := by decide +kernel
theorem dX12_laySeating_14 : decode cX12_laySeating 14 = .ok (.aload_n 0, 1) := by decide +kernel
theorem dX12_laySeating_15 : decode cX12_laySeating 15 = .ok (.invokevirtual 64, 3) := by decide +kernel
theorem dX12_laySeating_18 : decode cX12_laySeating 18 = .ok (.if_icmp .ge 44, 3) := by decide +kernel
theorem dX12_laySeating_21 : decode cX12_laySeating 21 = .ok (.iload_n 1, 1) := by decide +kernel
theorem dX12_laySeating_22 : decode cX12_laySeating 22 = .ok (.iconst 5, 1) := by decide +kernel
theorem dX12_laySeating_23 : decode cX12_laySeating 23 = .ok (.imul, 1) := by decide +kernel
theorem dX12_laySeating_24 : decode cX12_laySeating 24 = .ok (.istore_n 1, 1) := by decide +kernel
theorem dX12_laySeating_25 : decode cX12_laySeating 25 = .ok (.iconst 0, 1) := by decide +kernel
theorem dX12_laySeating_26 : decode cX12_laySeating 26 = .ok (.istore_n 3, 1) := by decide +kernel
theorem dX12_laySeating_27 : decode cX12_laySeating 27 = .ok (.iload_n 3, 1) := by decide +kernel
theorem dX12_laySeating_28 : decode cX12_laySeating 28 = .ok (.bipush 16, 2) := by decide +kernel
theorem dX12_laySeating_30 : decode cX12_laySeating 30 = .ok (.if_icmp .ge 26, 3) := by decide +kernel
theorem dX12_laySeating_33 : decode cX12_laySeating 33 = .ok (.aload_n 0, 1) := by decide +kernel
theorem dX12_laySeating_34 : decode cX12_laySeating 34 = .ok (.getfield 36, 3) := by decide +kernel
theorem dX12_laySeating_37 : decode cX12_laySeating 37 = .ok (.bipush 16, 2) := by decide +kernel
theorem dX12_laySeating_39 : decode cX12_laySeating 39 = .ok (.iload_n 2, 1) := by decide +kernel
theorem dX12_laySeating_40 : decode cX12_laySeating 40 = .ok (.imul, 1) := by decide +kernel
theorem dX12_laySeating_41 : decode cX12_laySeating 41 = .ok (.iload_n 3, 1) := by decide +kernel
theorem dX12_laySeating_42 : decode cX12_laySeating 42 = .ok (.iadd, 1) := by decide +kernel
theorem dX12_laySeating_43 : decode cX12_laySeating 43 = .ok (.aload_n 0, 1) := by decide +kernel
theorem dX12_laySeating_44 : decode cX12_laySeating 44 = .ok (.iload_n 2, 1) := by decide +kernel
theorem dX12_laySeating_45 : decode cX12_laySeating 45 = .ok (.iload_n 3, 1) := by decide +kernel
theorem dX12_laySeating_46 : decode cX12_laySeating 46 = .ok (.invokevirtual 124, 3) := by decide +kernel
theorem dX12_laySeating_49 : decode cX12_laySeating 49 = .ok (.iastore, 1) := by decide +kernel
theorem dX12_laySeating_50 : decode cX12_laySeating 50 = .ok (.iinc 3 1, 3) := by decide +kernel
theorem dX12_laySeating_53 : decode cX12_laySeating 53 = .ok (.goto (-26), 3) := by decide +kernel
theorem dX12_laySeating_56 : decode cX12_laySeating 56 = .ok (.iinc 2 1, 3) := by decide +kernel
theorem dX12_laySeating_59 : decode cX12_laySeating 59 = .ok (.goto (-46), 3) := by decide +kernel
theorem dX12_laySeating_62 : decode cX12_laySeating 62 = .ok (.iconst 0, 1) := by decide +kernel
theorem dX12_laySeating_63 : decode cX12_laySeating 63 = .ok (.istore_n 2, 1) := by decide +kernel
theorem dX12_laySeating_64 : decode cX12_laySeating 64 = .ok (.iload_n 2, 1) := by decide +kernel
theorem dX12_laySeating_65 : decode cX12_laySeating 65 = .ok (.iload_n 1, 1) := by decide +kernel
theorem dX12_laySeating_66 : decode cX12_laySeating 66 = .ok (.if_icmp .ge 86, 3) := by decide +kernel
theorem dX12_laySeating_69 : decode cX12_laySeating 69 = .ok (.aload_n 0, 1) := by decide +kernel
theorem dX12_laySeating_70 : decode cX12_laySeating 70 = .ok (.iload_n 2, 1) := by decide +kernel
theorem dX12_laySeating_71 : decode cX12_laySeating 71 = .ok (.invokevirtual 159, 3) := by decide +kernel
theorem dX12_laySeating_74 : decode cX12_laySeating 74 = .ok (.ifCond .eq 10, 3) := by decide +kernel
theorem dX12_laySeating_77 : decode cX12_laySeating 77 = .ok (.aload_n 0, 1) := by decide +kernel
theorem dX12_laySeating_78 : decode cX12_laySeating 78 = .ok (.invokevirtual 162, 3) := by decide +kernel
theorem dX12_laySeating_81 : decode cX12_laySeating 81 = .ok (.goto 4, 3) := by decide +kernel
theorem dX12_laySeating_84 : decode cX12_laySeating 84 = .ok (.iconst (-1), 1) := by decide +kernel
theorem dX12_laySeating_85 : decode cX12_laySeating 85 = .ok (.istore_n 3, 1) := by decide +kernel
theorem dX12_laySeating_86 : decode cX12_laySeating 86 = .ok (.iconst 0, 1) := by decide +kernel
theorem dX12_laySeating_87 : decode cX12_laySeating 87 = .ok (.istore 4, 2) := by decide +kernel
theorem dX12_laySeating_89 : decode cX12_laySeating 89 = .ok (.iload 4, 2) := by decide +kernel
theorem dX12_laySeating_91 : decode cX12_laySeating 91 = .ok (.aload_n 0, 1) := by decide +kernel
theorem dX12_laySeating_92 : decode cX12_laySeating 92 = .ok (.invokevirtual 64, 3) := by decide +kernel
theorem dX12_laySeating_95 : decode cX12_laySeating 95 = .ok (.if_icmp .ge 31, 3) := by decide +kernel
theorem dX12_laySeating_98 : decode cX12_laySeating 98 = .ok (.iload_n 3, 1) := by decide +kernel
theorem dX12_laySeating_99 : decode cX12_laySeating 99 = .ok (.aload_n 0, 1) := by decide +kernel
theorem dX12_laySeating_100 : decode cX12_laySeating 100 = .ok (.getfield 156, 3) := by decide +kernel
theorem dX12_laySeating_103 : decode cX12_laySeating 103 = .ok (.if_icmp .le 23, 3) := by decide +kernel
theorem dX12_laySeating_106 : decode cX12_laySeating 106 = .ok (.aload_n 0, 1) := by decide +kernel
theorem dX12_laySeating_107 : decode cX12_laySeating 107 = .ok (.getfield 39, 3) := by decide +kernel
theorem dX12_laySeating_110 : decode cX12_laySeating 110 = .ok (.iload 4, 2) := by decide +kernel
theorem dX12_laySeating_112 : decode cX12_laySeating 112 = .ok (.aload_n 0, 1) := by decide +kernel
theorem dX12_laySeating_113 : decode cX12_laySeating 113 = .ok (.getfield 33, 3) := by decide +kernel
theorem dX12_laySeating_116 : decode cX12_laySeating 116 = .ok (.iload 4, 2) := by decide +kernel
theorem dX12_laySeating_118 : decode cX12_laySeating 118 = .ok (.iaload, 1) := by decide +kernel
theorem dX12_laySeating_119 : decode cX12_laySeating 119 = .ok (.iastore, 1) := by decide +kernel
theorem dX12_laySeating_120 : decode cX12_laySeating 120 = .ok (.iinc 4 1, 3) := by decide +kernel
theorem dX12_laySeating_123 : decode cX12_laySeating 123 = .ok (.goto (-34), 3) := by decide +kernel
theorem dX12_laySeating_126 : decode cX12_laySeating 126 = .ok (.aload_n 0, 1) := by decide +kernel
theorem dX12_laySeating_127 : decode cX12_laySeating 127 = .ok (.iload_n 3, 1) := by decide +kernel
theorem dX12_laySeating_128 : decode cX12_laySeating 128 = .ok (.aload_n 0, 1) := by decide +kernel
theorem dX12_laySeating_129 : decode cX12_laySeating 129 = .ok (.getfield 156, 3) := by decide +kernel
theorem dX12_laySeating_132 : decode cX12_laySeating 132 = .ok (.if_icmp .le 7, 3) := by decide +kernel
theorem dX12_laySeating_135 : decode cX12_laySeating 135 = .ok (.iload_n 3, 1) := by decide +kernel
theorem dX12_laySeating_136 : decode cX12_laySeating 136 = .ok (.goto 7, 3) := by decide +kernel
theorem dX12_laySeating_139 : decode cX12_laySeating 139 = .ok (.aload_n 0, 1) := by decide +kernel
theorem dX12_laySeating_140 : decode cX12_laySeating 140 = .ok (.getfield 156, 3) := by decide +kernel
theorem dX12_laySeating_143 : decode cX12_laySeating 143 = .ok (.putfield 156, 3) := by decide +kernel
theorem dX12_laySeating_146 : decode cX12_laySeating 146 = .ok (.iinc 2 1, 3) := by decide +kernel
theorem dX12_laySeating_149 : decode cX12_laySeating 149 = .ok (.goto (-85), 3) := by decide +kernel
theorem dX12_laySeating_152 : decode cX12_laySeating 152 = .ok (.return_, 1) := by decide +kernel
def P_X12_laySeating : Nat → Nat
  | 1 => 13
  | 2 => 27
  | 3 => 64
  | 4 => 85
  | 5 => 89
  | 6 => 126
  | 7 => 143
  | _ => 0
set_option maxRecDepth 100000 in
set_option maxHeartbeats 4000000 in
theorem S_X12_laySeating : zSd yX12_laySeating cX12_laySeating 5 none { frames := 3, cells := 0, slots := 0, locals := 69 } T_X12_laySeating := by
  refine zMet (pcs := P_X12_laySeating) (F := F_X12_laySeating) (by decide) rfl ?_
  intro p l e s m args below meth c D ids ad A Q Y C hr hk hY b
  match b with
  | 0 => exact (z_ic (pc := 0) C dX12_laySeating_0 (by decide +kernel) <| z_isn (pc := 1) C dX12_laySeating_1 rfl (by decide) <| z_aln (pc := 2) C dX12_laySeating_2 rfl <| z_ic (pc := 3) C dX12_laySeating_3 (by decide +kernel) <| z_pf (pc := 4) C dX12_laySeating_4 fp_12_156 <| z_aln (pc := 7) C dX12_laySeating_7 rfl <| z_cV (pc := 8) C dX12_laySeating_8 S_X12_layHand rfl (zl4 w_1006 w_1008 wp_28 w_13) w_1009 ds_X12_layHand (zrm rfl rfl (by decide) (by decide)) <| z_ic (pc := 11) C dX12_laySeating_11 (by decide +kernel) <| z_isn (pc := 12) C dX12_laySeating_12 rfl (by decide) <| z_jmp (hY 1))
  | 1 => exact (z_iln (pc := 13) C dX12_laySeating_13 rfl <| z_aln (pc := 14) C dX12_laySeating_14 rfl <| z_cV (pc := 15) C dX12_laySeating_15 S_X12_many rfl (zl4 w_929 w_931 wp_21 w_13) w_932 ds_X12_many (zrm rfl rfl (by decide) (by decide)) <| z_cmpge (tgt := 62) (pc := 18) C dX12_laySeating_18 (by decide) (z_ic (pc := 62) C dX12_laySeating_62 (by decide +kernel) <| z_isn (pc := 63) C dX12_laySeating_63 rfl (by decide) <| z_jmp (hY 3)) <| z_iln (pc := 21) C dX12_laySeating_21 rfl <| z_ic (pc := 22) C dX12_laySeating_22 (by decide +kernel) <| z_imul (pc := 23) C dX12_laySeating_23 <| z_isn (pc := 24) C dX12_laySeating_24 rfl (by decide) <| z_ic (pc := 25) C dX12_laySeating_25 (by decide +kernel) <| z_isn (pc := 26) C dX12_laySeating_26 rfl (by decide) <| z_jmp (hY 2))
  | 2 => exact (z_iln (pc := 27) C dX12_laySeating_27 rfl <| z_bi (pc := 28) C dX12_laySeating_28 (by decide +kernel) <| z_cmpge (tgt := 56) (pc := 30) C dX12_laySeating_30 (by decide) (z_inc (pc := 56) C dX12_laySeating_56 (by decide +kernel) (by decide) <| z_goto (tgt := 13) (pc := 59) C dX12_laySeating_59 (by decide) <| z_jmp (hY 1)) <| z_aln (pc := 33) C dX12_laySeating_33 rfl <| z_gf (pc := 34) C dX12_laySeating_34 fl_12_36 <| z_bi (pc := 37) C dX12_laySeating_37 (by decide +kernel) <| z_iln (pc := 39) C dX12_laySeating_39 rfl <| z_imul (pc := 40) C dX12_laySeating_40 <| z_iln (pc := 41) C dX12_laySeating_41 rfl <| z_iadd (pc := 42) C dX12_laySeating_42 <| z_aln (pc := 43) C dX12_laySeating_43 rfl <| z_iln (pc := 44) C dX12_laySeating_44 rfl <| z_iln (pc := 45) C dX12_laySeating_45 rfl <| z_cV (pc := 46) C dX12_laySeating_46 S_X12_high rfl (zl4 w_1017 w_1019 wp_30 w_13) w_1020 ds_X12_high (zrm rfl rfl (by decide) (by decide)) <| z_iast (pc := 49) C dX12_laySeating_49 <| z_inc (pc := 50) C dX12_laySeating_50 (by decide +kernel) (by decide) <| z_goto (tgt := 27) (pc := 53) C dX12_laySeating_53 (by decide) <| z_jmp (hY 2))
  | 3 => exact (z_iln (pc := 64) C dX12_laySeating_64 rfl <| z_iln (pc := 65) C dX12_laySeating_65 rfl <| z_cmpge (tgt := 152) (pc := 66) C dX12_laySeating_66 (by decide) (z_vr C hr hk dX12_laySeating_152) <| z_aln (pc := 69) C dX12_laySeating_69 rfl <| z_iln (pc := 70) C dX12_laySeating_70 rfl <| z_cV (pc := 71) C dX12_laySeating_71 S_X12_laySeats rfl (zl4 w_1066 w_1068 wp_36 w_13) w_1069 ds_X12_laySeats (zrm rfl rfl (by decide) (by decide)) <| z_ifeq (tgt := 84) (pc := 74) C dX12_laySeating_74 (by decide) (z_ic (pc := 84) C dX12_laySeating_84 (by decide +kernel) <| z_jmp (hY 4)) <| z_aln (pc := 77) C dX12_laySeating_77 rfl <| z_cV (pc := 78) C dX12_laySeating_78 S_X12_seeing rfl (zl4 w_1070 w_1072 wp_37 w_13) w_1073 ds_X12_seeing (zrm rfl rfl (by decide) (by decide)) <| z_goto (tgt := 85) (pc := 81) C dX12_laySeating_81 (by decide) <| z_jmp (hY 4))
  | 4 => exact (z_isn (pc := 85) C dX12_laySeating_85 rfl (by decide) <| z_ic (pc := 86) C dX12_laySeating_86 (by decide +kernel) <| z_is (pc := 87) C dX12_laySeating_87 (by decide) <| z_jmp (hY 5))
  | 5 => exact (z_il (pc := 89) C dX12_laySeating_89 <| z_aln (pc := 91) C dX12_laySeating_91 rfl <| z_cV (pc := 92) C dX12_laySeating_92 S_X12_many rfl (zl4 w_929 w_931 wp_21 w_13) w_932 ds_X12_many (zrm rfl rfl (by decide) (by decide)) <| z_cmpge (tgt := 126) (pc := 95) C dX12_laySeating_95 (by decide) (z_jmp (hY 6)) <| z_iln (pc := 98) C dX12_laySeating_98 rfl <| z_aln (pc := 99) C dX12_laySeating_99 rfl <| z_gf (pc := 100) C dX12_laySeating_100 fl_12_156 <| z_cmple (tgt := 126) (pc := 103) C dX12_laySeating_103 (by decide) (z_jmp (hY 6)) <| z_aln (pc := 106) C dX12_laySeating_106 rfl <| z_gf (pc := 107) C dX12_laySeating_107 fl_12_39 <| z_il (pc := 110) C dX12_laySeating_110 <| z_aln (pc := 112) C dX12_laySeating_112 rfl <| z_gf (pc := 113) C dX12_laySeating_113 fl_12_33 <| z_il (pc := 116) C dX12_laySeating_116 <| z_ia (pc := 118) C dX12_laySeating_118 <| z_iast (pc := 119) C dX12_laySeating_119 <| z_inc (pc := 120) C dX12_laySeating_120 (by decide +kernel) (by decide) <| z_goto (tgt := 89) (pc := 123) C dX12_laySeating_123 (by decide) <| z_jmp (hY 5))
  | 6 => exact (z_aln (pc := 126) C dX12_laySeating_126 rfl <| z_iln (pc := 127) C dX12_laySeating_127 rfl <| z_aln (pc := 128) C dX12_laySeating_128 rfl <| z_gf (pc := 129) C dX12_laySeating_129 fl_12_156 <| z_cmple (tgt := 139) (pc := 132) C dX12_laySeating_132 (by decide) (z_aln (pc := 139) C dX12_laySeating_139 rfl <| z_gf (pc := 140) C dX12_laySeating_140 fl_12_156 <| z_jmp (hY 7)) <| z_iln (pc := 135) C dX12_laySeating_135 rfl <| z_goto (tgt := 143) (pc := 136) C dX12_laySeating_136 (by decide) <| z_jmp (hY 7))
  | 7 => exact (z_pf (pc := 143) C dX12_laySeating_143 fp_12_156 <| z_inc (pc := 146) C dX12_laySeating_146 (by decide +kernel) (by decide) <| z_goto (tgt := 64) (pc := 149) C dX12_laySeating_149 (by decide) <| z_jmp (hY 3))
  | b + 8 => exact fun _ _ _ h => h.elim
theorem dX12_seats_0 : decode cX12_seats 0 = .ok (.iload_n 1, 1) := by decide +kernel
theorem dX12_seats_1 : decode cX12_seats 1 = .ok (.i2l, 1) := by decide +kernel
theorem dX12_seats_2 : decode cX12_seats 2 = .ok (.ldc2_w 165, 3) := by decide +kernel
theorem dX12_seats_5 : decode cX12_seats 5 = .ok (.aload_n 0, 1) := by decide +kernel
theorem dX12_seats_6 : decode cX12_seats 6 = .ok (.invokevirtual 64, 3) := by decide +kernel
theorem dX12_seats_9 : decode cX12_seats 9 = .ok (.iconst 1, 1) := by decide +kernel
theorem dX12_seats_10 : decode cX12_seats 10 = .ok (.isub, 1) := by decide +kernel
theorem dX12_seats_11 : decode cX12_seats 11 = .ok (.i2l, 1) := by decide +kernel
theorem dX12_seats_12 : decode cX12_seats 12 = .ok (.invokestatic 68, 3) := by decide +kernel
theorem dX12_seats_15 : decode cX12_seats 15 = .ok (.ifCond .ne 10, 3) := by decide +kernel
theorem dX12_seats_18 : decode cX12_seats 18 = .ok (.aload_n 0, 1) := by decide +kernel
theorem dX12_seats_19 : decode cX12_seats 19 = .ok (.bipush (-10), 2) := by decide +kernel
theorem dX12_seats_21 : decode cX12_seats 21 = .ok (.invokevirtual 78, 3) := by decide +kernel
theorem dX12_seats_24 : decode cX12_seats 24 = .ok (.ireturn, 1) := by decide +kernel
theorem dX12_seats_25 : decode cX12_seats 25 = .ok (.aload_n 0, 1) := by decide +kernel
theorem dX12_seats_26 : decode cX12_seats 26 = .ok (.invokevirtual 167, 3) := by decide +kernel
theorem dX12_seats_29 : decode cX12_seats 29 = .ok (.iload_n 1, 1) := by decide +kernel
theorem dX12_seats_30 : decode cX12_seats 30 = .ok (.iconst (-1), 1) := by decide +kernel
theorem dX12_seats_31 : decode cX12_seats 31 = .ok (.if_icmp .ne 10, 3) := by decide +kernel
theorem dX12_seats_34 : decode cX12_seats 34 = .ok (.aload_n 0, 1) := by decide +kernel
theorem dX12_seats_35 : decode cX12_seats 35 = .ok (.getfield 156, 3) := by decide +kernel
theorem dX12_seats_38 : decode cX12_seats 38 = .ok (.goto 9, 3) := by decide +kernel
theorem dX12_seats_41 : decode cX12_seats 41 = .ok (.aload_n 0, 1) := by decide +kernel
theorem dX12_seats_42 : decode cX12_seats 42 = .ok (.getfield 39, 3) := by decide +kernel
theorem dX12_seats_45 : decode cX12_seats 45 = .ok (.iload_n 1, 1) := by decide +kernel
theorem dX12_seats_46 : decode cX12_seats 46 = .ok (.iaload, 1) := by decide +kernel
theorem dX12_seats_47 : decode cX12_seats 47 = .ok (.ireturn, 1) := by decide +kernel
def P_X12_seats : Nat → Nat
  | _ => 0
set_option maxRecDepth 100000 in
set_option maxHeartbeats 4000000 in
theorem S_X12_seats : zSd yX12_seats cX12_seats 2 (some .int) { frames := 4, cells := 0, slots := 0, locals := 93 } T_X12_seats := by
  refine zMet (pcs := P_X12_seats) (F := F_X12_seats) (by decide) rfl ?_
  intro p l e s m args below meth c D ids ad A Q Y C hr hk hY b
  match b with
  | 0 => exact (z_iln (pc := 0) C dX12_seats_0 rfl <| z_i2l (pc := 1) C dX12_seats_1 <| z_ldc2 (pc := 2) C dX12_seats_2 w_1061 <| z_aln (pc := 5) C dX12_seats_5 rfl <| z_cV (pc := 6) C dX12_seats_6 S_X12_many rfl (zl4 w_929 w_931 wp_21 w_13) w_932 ds_X12_many (zrm rfl rfl (by decide) (by decide)) <| z_ic (pc := 9) C dX12_seats_9 (by decide +kernel) <| z_isub (pc := 10) C dX12_seats_10 <| z_i2l (pc := 11) C dX12_seats_11 <| z_cS (pc := 12) C dX12_seats_12 S_X12_in (zl3 w_922 w_923 w_13) w_924 ds_X12_in (zrm rfl rfl (by decide) (by decide)) <| z_ifne (tgt := 25) (pc := 15) C dX12_seats_15 (by decide) (z_aln (pc := 25) C dX12_seats_25 rfl <| z_cV (pc := 26) C dX12_seats_26 S_X12_laySeating rfl (zl4 w_1062 w_1064 wp_35 w_13) w_1065 ds_X12_laySeating (zrm rfl rfl (by decide) (by decide)) <| z_iln (pc := 29) C dX12_seats_29 rfl <| z_ic (pc := 30) C dX12_seats_30 (by decide +kernel) <| z_cmpne (tgt := 41) (pc := 31) C dX12_seats_31 (by decide) (z_aln (pc := 41) C dX12_seats_41 rfl <| z_gf (pc := 42) C dX12_seats_42 fl_12_39 <| z_iln (pc := 45) C dX12_seats_45 rfl <| z_ia (pc := 46) C dX12_seats_46 <| z_ir C hr hk dX12_seats_47) <| z_aln (pc := 34) C dX12_seats_34 rfl <| z_gf (pc := 35) C dX12_seats_35 fl_12_156 <| z_goto (tgt := 47) (pc := 38) C dX12_seats_38 (by decide) <| z_ir C hr hk dX12_seats_47) <| z_aln (pc := 18) C dX12_seats_18 rfl <| z_bi (pc := 19) C dX12_seats_19 (by decide +kernel) <| z_cV (pc := 21) C dX12_seats_21 S_X12_bad rfl (zl4 w_925 w_927 wp_20 w_13) w_928 ds_X12_bad (zrm rfl rfl (by decide) (by decide)) <| z_ir C hr hk dX12_seats_24)
  | b + 1 => exact fun _ _ _ h => h.elim
theorem dX12_change_0 : decode cX12_change 0 = .ok (.iload_n 1, 1) := by decide +kernel
theorem dX12_change_1 : decode cX12_change 1 = .ok (.i2l, 1) := by decide +kernel
theorem dX12_change_2 : decode cX12_change 2 = .ok (.lconst 0, 1) := by decide +kernel
theorem dX12_change_3 : decode cX12_change 3 = .ok (.lconst 1, 1) := by decide +kernel
theorem dX12_change_4 : decode cX12_change 4 = .ok (.invokestatic 68, 3) := by decide +kernel
theorem dX12_change_7 : decode cX12_change 7 = .ok (.ifCond .ne 10, 3) := by decide +kernel
theorem dX12_change_10 : decode cX12_change 10 = .ok (.aload_n 0, 1) := by decide +kernel
theorem dX12_change_11 : decode cX12_change 11 = .ok (.bipush (-2), 2) := by decide +kernel
theorem dX12_change_13 : decode cX12_change 13 = .ok (.invokevirtual 78, 3) := by decide +kernel
theorem dX12_change_16 : decode cX12_change 16 = .ok (.ireturn, 1) := by decide +kernel
theorem dX12_change_17 : decode cX12_change 17 = .ok (.aload_n 0, 1) := by decide +kernel
theorem dX12_change_18 : decode cX12_change 18 = .ok (.invokevirtual 150, 3) := by decide +kernel
theorem dX12_change_21 : decode cX12_change 21 = .ok (.bipush 7, 2) := by decide +kernel
theorem dX12_change_23 : decode cX12_change 23 = .ok (.istore_n 2, 1) := by decide +kernel
theorem dX12_change_24 : decode cX12_change 24 = .ok (.aload_n 0, 1) := by decide +kernel
theorem dX12_change_25 : decode cX12_change 25 = .ok (.invokevirtual 170, 3) := by decide +kernel
theorem dX12_change_28 : decode cX12_change 28 = .ok (.istore_n 3, 1) := by decide +kernel
theorem dX12_change_29 : decode cX12_change 29 = .ok (.iconst 0, 1) := by decide +kernel
theorem dX12_change_30 : decode cX12_change 30 = .ok (.istore 4, 2) := by decide +kernel
theorem dX12_change_32 : decode cX12_change 32 = .ok (.iload 4, 2) := by decide +kernel
theorem dX12_change_34 : decode cX12_change 34 = .ok (.aload_n 0, 1) := by decide +kernel
theorem dX12_change_35 : decode cX12_change 35 = .ok (.invokevirtual 64, 3) := by decide +kernel
theorem dX12_change_38 : decode cX12_change 38 = .ok (.if_icmp .ge 73, 3) := by decide +kernel
theorem dX12_change_41 : decode cX12_change 41 = .ok (.aload_n 0, 1) := by decide +kernel
theorem dX12_change_42 : decode cX12_change 42 = .ok (.getfield 30, 3) := by decide +kernel
theorem dX12_change_45 : decode cX12_change 45 = .ok (.iload 4, 2) := by decide +kernel
theorem dX12_change_47 : decode cX12_change 47 = .ok (.iconst 1, 1) := by decide +kernel
theorem dX12_change_48 : decode cX12_change 48 = .ok (.aload_n 0, 1) := by decide +kernel
theorem dX12_change_49 : decode cX12_change 49 = .ok (.getfield 30, 3) := by decide +kernel
theorem dX12_change_52 : decode cX12_change 52 = .ok (.iload 4, 2) := by decide +kernel
theorem dX12_change_54 : decode cX12_change 54 = .ok (.iaload, 1) := by decide +kernel
theorem dX12_change_55 : decode cX12_change 55 = .ok (.isub, 1) := by decide +kernel
theorem dX12_change_56 : decode cX12_change 56 = .ok (.iastore, 1) := by decide +kernel
theorem dX12_change_57 : decode cX12_change 57 = .ok (.aload_n 0, 1) := by decide +kernel
theorem dX12_change_58 : decode cX12_change 58 = .ok (.invokevirtual 170, 3) := by decide +kernel
theorem dX12_change_61 : decode cX12_change 61 = .ok (.istore 5, 2) := by decide +kernel
theorem dX12_change_63 : decode cX12_change 63 = .ok (.aload_n 0, 1) := by decide +kernel
theorem dX12_change_64 : decode cX12_change 64 = .ok (.getfield 30, 3) := by decide +kernel
theorem dX12_change_67 : decode cX12_change 67 = .ok (.iload 4, 2) := by decide +kernel
theorem dX12_change_69 : decode cX12_change 69 = .ok (.iconst 1, 1) := by decide +kernel
theorem dX12_change_70 : decode cX12_change 70 = .ok (.aload_n 0, 1) := by decide +kernel
theorem dX12_change_71 : decode cX12_change 71 = .ok (.getfield 30, 3) := by decide +kernel
theorem dX12_change_74 : decode cX12_change 74 = .ok (.iload 4, 2) := by decide +kernel
theorem dX12_change_76 : decode cX12_change 76 = .ok (.iaload, 1) := by decide +kernel
theorem dX12_change_77 : decode cX12_change 77 = .ok (.isub, 1) := by decide +kernel
theorem dX12_change_78 : decode cX12_change 78 = .ok (.iastore, 1) := by decide +kernel
theorem dX12_change_79 : decode cX12_change 79 = .ok (.iload 5, 2) := by decide +kernel
theorem dX12_change_81 : decode cX12_change 81 = .ok (.iload_n 3, 1) := by decide +kernel
theorem dX12_change_82 : decode cX12_change 82 = .ok (.if_icmp .le 8, 3) := by decide +kernel
theorem dX12_change_85 : decode cX12_change 85 = .ok (.iload 4, 2) := by decide +kernel
theorem dX12_change_87 : decode cX12_change 87 = .ok (.goto 4, 3) := by decide +kernel
theorem dX12_change_90 : decode cX12_change 90 = .ok (.iload_n 2, 1) := by decide +kernel
theorem dX12_change_91 : decode cX12_change 91 = .ok (.istore_n 2, 1) := by decide +kernel
theorem dX12_change_92 : decode cX12_change 92 = .ok (.iload 5, 2) := by decide +kernel
theorem dX12_change_94 : decode cX12_change 94 = .ok (.iload_n 3, 1) := by decide +kernel
theorem dX12_change_95 : decode cX12_change 95 = .ok (.if_icmp .le 8, 3) := by decide +kernel
theorem dX12_change_98 : decode cX12_change 98 = .ok (.iload 5, 2) := by decide +kernel
theorem dX12_change_100 : decode cX12_change 100 = .ok (.goto 4, 3) := by decide +kernel
theorem dX12_change_103 : decode cX12_change 103 = .ok (.iload_n 3, 1) := by decide +kernel
theorem dX12_change_104 : decode cX12_change 104 = .ok (.istore_n 3, 1) := by decide +kernel
theorem dX12_change_105 : decode cX12_change 105 = .ok (.iinc 4 1, 3) := by decide +kernel
theorem dX12_change_108 : decode cX12_change 108 = .ok (.goto (-76), 3) := by decide +kernel
theorem dX12_change_111 : decode cX12_change 111 = .ok (.iload_n 1, 1) := by decide +kernel
theorem dX12_change_112 : decode cX12_change 112 = .ok (.ifCond .ne 7, 3) := by decide +kernel
theorem dX12_change_115 : decode cX12_change 115 = .ok (.iload_n 2, 1) := by decide +kernel
theorem dX12_change_116 : decode cX12_change 116 = .ok (.goto 4, 3) := by decide +kernel
theorem dX12_change_119 : decode cX12_change 119 = .ok (.iload_n 3, 1) := by decide +kernel
theorem dX12_change_120 : decode cX12_change 120 = .ok (.ireturn, 1) := by decide +kernel
def P_X12_change : Nat → Nat
  | 1 => 32
  | 2 => 91
  | 3 => 104
  | _ => 0
set_option maxRecDepth 100000 in
set_option maxHeartbeats 4000000 in
theorem S_X12_change : zSd yX12_change cX12_change 6 (some .int) { frames := 6, cells := 0, slots := 0, locals := 137 } T_X12_change := by
  refine zMet (pcs := P_X12_change) (F := F_X12_change) (by decide) rfl ?_
  intro p l e s m args below meth c D ids ad A Q Y C hr hk hY b
  match b with
  | 0 => exact (z_iln (pc := 0) C dX12_change_0 rfl <| z_i2l (pc := 1) C dX12_change_1 <| z_lc (pc := 2) C dX12_change_2 (by decide +kernel) <| z_lc (pc := 3) C dX12_change_3 (by decide +kernel) <| z_cS (pc := 4) C dX12_change_4 S_X12_in (zl3 w_922 w_923 w_13) w_924 ds_X12_in (zrm rfl rfl (by decide) (by decide)) <| z_ifne (tgt := 17) (pc := 7) C dX12_change_7 (by decide) (z_aln (pc := 17) C dX12_change_17 rfl <| z_cV (pc := 18) C dX12_change_18 S_X12_layHand rfl (zl4 w_1006 w_1008 wp_28 w_13) w_1009 ds_X12_layHand (zrm rfl rfl (by decide) (by decide)) <| z_bi (pc := 21) C dX12_change_21 (by decide +kernel) <| z_isn (pc := 23) C dX12_change_23 rfl (by decide) <| z_aln (pc := 24) C dX12_change_24 rfl <| z_cV (pc := 25) C dX12_change_25 S_X12_peaces rfl (zl4 w_1078 w_1080 wp_38 w_13) w_1081 ds_X12_peaces (zrm rfl rfl (by decide) (by decide)) <| z_isn (pc := 28) C dX12_change_28 rfl (by decide) <| z_ic (pc := 29) C dX12_change_29 (by decide +kernel) <| z_is (pc := 30) C dX12_change_30 (by decide) <| z_jmp (hY 1)) <| z_aln (pc := 10) C dX12_change_10 rfl <| z_bi (pc := 11) C dX12_change_11 (by decide +kernel) <| z_cV (pc := 13) C dX12_change_13 S_X12_bad rfl (zl4 w_925 w_927 wp_20 w_13) w_928 ds_X12_bad (zrm rfl rfl (by decide) (by decide)) <| z_ir C hr hk dX12_change_16)
  | 1 => exact (z_il (pc := 32) C dX12_change_32 <| z_aln (pc := 34) C dX12_change_34 rfl <| z_cV (pc := 35) C dX12_change_35 S_X12_many rfl (zl4 w_929 w_931 wp_21 w_13) w_932 ds_X12_many (zrm rfl rfl (by decide) (by decide)) <| z_cmpge (tgt := 111) (pc := 38) C dX12_change_38 (by decide) (z_iln (pc := 111) C dX12_change_111 rfl <| z_ifne (tgt := 119) (pc := 112) C dX12_change_112 (by decide) (z_iln (pc := 119) C dX12_change_119 rfl <| z_ir C hr hk dX12_change_120) <| z_iln (pc := 115) C dX12_change_115 rfl <| z_goto (tgt := 120) (pc := 116) C dX12_change_116 (by decide) <| z_ir C hr hk dX12_change_120) <| z_aln (pc := 41) C dX12_change_41 rfl <| z_gf (pc := 42) C dX12_change_42 fl_12_30 <| z_il (pc := 45) C dX12_change_45 <| z_ic (pc := 47) C dX12_change_47 (by decide +kernel) <| z_aln (pc := 48) C dX12_change_48 rfl <| z_gf (pc := 49) C dX12_change_49 fl_12_30 <| z_il (pc := 52) C dX12_change_52 <| z_ia (pc := 54) C dX12_change_54 <| z_isub (pc := 55) C dX12_change_55 <| z_iast (pc := 56) C dX12_change_56 <| z_aln (pc := 57) C dX12_change_57 rfl <| z_cV (pc := 58) C dX12_change_58 S_X12_peaces rfl (zl4 w_1078 w_1080 wp_38 w_13) w_1081 ds_X12_peaces (zrm rfl rfl (by decide) (by decide)) <| z_is (pc := 61) C dX12_change_61 (by decide) <| z_aln (pc := 63) C dX12_change_63 rfl <| z_gf (pc := 64) C dX12_change_64 fl_12_30 <| z_il (pc := 67) C dX12_change_67 <| z_ic (pc := 69) C dX12_change_69 (by decide +kernel) <| z_aln (pc := 70) C dX12_change_70 rfl <| z_gf (pc := 71) C dX12_change_71 fl_12_30 <| z_il (pc := 74) C dX12_change_74 <| z_ia (pc := 76) C dX12_change_76 <| z_isub (pc := 77) C dX12_change_77 <| z_iast (pc := 78) C dX12_change_78 <| z_il (pc := 79) C dX12_change_79 <| z_iln (pc := 81) C dX12_change_81 rfl <| z_cmple (tgt := 90) (pc := 82) C dX12_change_82 (by decide) (z_iln (pc := 90) C dX12_change_90 rfl <| z_jmp (hY 2)) <| z_il (pc := 85) C dX12_change_85 <| z_goto (tgt := 91) (pc := 87) C dX12_change_87 (by decide) <| z_jmp (hY 2))
  | 2 => exact (z_isn (pc := 91) C dX12_change_91 rfl (by decide) <| z_il (pc := 92) C dX12_change_92 <| z_iln (pc := 94) C dX12_change_94 rfl <| z_cmple (tgt := 103) (pc := 95) C dX12_change_95 (by decide) (z_iln (pc := 103) C dX12_change_103 rfl <| z_jmp (hY 3)) <| z_il (pc := 98) C dX12_change_98 <| z_goto (tgt := 104) (pc := 100) C dX12_change_100 (by decide) <| z_jmp (hY 3))
  | 3 => exact (z_isn (pc := 104) C dX12_change_104 rfl (by decide) <| z_inc (pc := 105) C dX12_change_105 (by decide +kernel) (by decide) <| z_goto (tgt := 32) (pc := 108) C dX12_change_108 (by decide) <| z_jmp (hY 1))
  | b + 4 => exact fun _ _ _ h => h.elim
theorem dX12_still_0 : decode cX12_still 0 = .ok (.iconst (-1), 1) := by decide +kernel
theorem dX12_still_1 : decode cX12_still 1 = .ok (.istore_n 1, 1) := by decide +kernel
theorem dX12_still_2 : decode cX12_still 2 = .ok (.aload_n 0, 1) := by decide +kernel
theorem dX12_still_3 : decode cX12_still 3 = .ok (.invokevirtual 150, 3) := by decide +kernel
theorem dX12_still_6 : decode cX12_still 6 = .ok (.aload_n 0, 1) := by decide +kernel
theorem dX12_still_7 : decode cX12_still 7 = .ok (.getfield 110, 3) := by decide +kernel
theorem dX12_still_10 : decode cX12_still 10 = .ok (.istore_n 2, 1) := by decide +kernel
theorem dX12_still_11 : decode cX12_still 11 = .ok (.iconst 0, 1) := by decide +kernel
theorem dX12_still_12 : decode cX12_still 12 = .ok (.istore_n 3, 1) := by decide +kernel
theorem dX12_still_13 : decode cX12_still 13 = .ok (.iload_n 3, 1) := by decide +kernel
theorem dX12_still_14 : decode cX12_still 14 = .ok (.iconst 1, 1) := by decide +kernel
theorem dX12_still_15 : decode cX12_still 15 = .ok (.aload_n 0, 1) := by decide +kernel
theorem dX12_still_16 : decode cX12_still 16 = .ok (.invokevirtual 64, 3) := by decide +kernel
theorem dX12_still_19 : decode cX12_still 19 = .ok (.ishl, 1) := by decide +kernel
theorem dX12_still_20 : decode cX12_still 20 = .ok (.if_icmp .ge 65, 3) := by decide +kernel
theorem dX12_still_23 : decode cX12_still 23 = .ok (.aload_n 0, 1) := by decide +kernel
theorem dX12_still_24 : decode cX12_still 24 = .ok (.iload_n 2, 1) := by decide +kernel
theorem dX12_still_25 : decode cX12_still 25 = .ok (.iload_n 3, 1) := by decide +kernel
theorem dX12_still_26 : decode cX12_still 26 = .ok (.ior, 1) := by decide +kernel
theorem dX12_still_27 : decode cX12_still 27 = .ok (.putfield 110, 3) := by decide +kernel
theorem dX12_still_30 : decode cX12_still 30 = .ok (.iload_n 3, 1) := by decide +kernel
theorem dX12_still_31 : decode cX12_still 31 = .ok (.iload_n 2, 1) := by decide +kernel
theorem dX12_still_32 : decode cX12_still 32 = .ok (.iand, 1) := by decide +kernel
theorem dX12_still_33 : decode cX12_still 33 = .ok (.ifCond .ne 23, 3) := by decide +kernel
theorem dX12_still_36 : decode cX12_still 36 = .ok (.iload_n 1, 1) := by decide +kernel
theorem dX12_still_37 : decode cX12_still 37 = .ok (.iconst (-1), 1) := by decide +kernel
theorem dX12_still_38 : decode cX12_still 38 = .ok (.if_icmp .eq 14, 3) := by decide +kernel
theorem dX12_still_41 : decode cX12_still 41 = .ok (.iload_n 3, 1) := by decide +kernel
theorem dX12_still_42 : decode cX12_still 42 = .ok (.invokestatic 173, 3) := by decide +kernel
theorem dX12_still_45 : decode cX12_still 45 = .ok (.iload_n 1, 1) := by decide +kernel
theorem dX12_still_46 : decode cX12_still 46 = .ok (.invokestatic 173, 3) := by decide +kernel
theorem dX12_still_49 : decode cX12_still 49 = .ok (.if_icmp .ge 7, 3) := by decide +kernel
theorem dX12_still_52 : decode cX12_still 52 = .ok (.iconst 1, 1) := by decide +kernel
theorem dX12_still_53 : decode cX12_still 53 = .ok (.goto 4, 3) := by decide +kernel
theorem dX12_still_56 : decode cX12_still 56 = .ok (.iconst 0, 1) := by decide +kernel
theorem dX12_still_57 : decode cX12_still 57 = .ok (.istore 4, 2) := by decide +kernel
theorem dX12_still_59 : decode cX12_still 59 = .ok (.iload 4, 2) := by decide +kernel
theorem dX12_still_61 : decode cX12_still 61 = .ok (.ifCond .eq 16, 3) := by decide +kernel
theorem dX12_still_64 : decode cX12_still 64 = .ok (.aload_n 0, 1) := by decide +kernel
theorem dX12_still_65 : decode cX12_still 65 = .ok (.invokevirtual 170, 3) := by decide +kernel
theorem dX12_still_68 : decode cX12_still 68 = .ok (.bipush 16, 2) := by decide +kernel
theorem dX12_still_70 : decode cX12_still 70 = .ok (.if_icmp .ne 7, 3) := by decide +kernel
theorem dX12_still_73 : decode cX12_still 73 = .ok (.iload_n 3, 1) := by decide +kernel
theorem dX12_still_74 : decode cX12_still 74 = .ok (.goto 4, 3) := by decide +kernel
theorem dX12_still_77 : decode cX12_still 77 = .ok (.iload_n 1, 1) := by decide +kernel
theorem dX12_still_78 : decode cX12_still 78 = .ok (.istore_n 1, 1) := by decide +kernel
theorem dX12_still_79 : decode cX12_still 79 = .ok (.iinc 3 1, 3) := by decide +kernel
theorem dX12_still_82 : decode cX12_still 82 = .ok (.goto (-69), 3) := by decide +kernel
theorem dX12_still_85 : decode cX12_still 85 = .ok (.iload_n 1, 1) := by decide +kernel
theorem dX12_still_86 : decode cX12_still 86 = .ok (.ireturn, 1) := by decide +kernel
def P_X12_still : Nat → Nat
  | 1 => 13
  | 2 => 52
  | 3 => 56
  | 4 => 57
  | 5 => 77
  | 6 => 78
  | _ => 0
set_option maxRecDepth 100000 in
set_option maxHeartbeats 4000000 in
theorem S_X12_still : zSd yX12_still cX12_still 5 (some .int) { frames := 6, cells := 0, slots := 0, locals := 137 } T_X12_still := by
  refine zMet (pcs := P_X12_still) (F := F_X12_still) (by decide) rfl ?_
  intro p l e s m args below meth c D ids ad A Q Y C hr hk hY b
  match b with
  | 0 => exact (z_ic (pc := 0) C dX12_still_0 (by decide +kernel) <| z_isn (pc := 1) C dX12_still_1 rfl (by decide) <| z_aln (pc := 2) C dX12_still_2 rfl <| z_cV (pc := 3) C dX12_still_3 S_X12_layHand rfl (zl4 w_1006 w_1008 wp_28 w_13) w_1009 ds_X12_layHand (zrm rfl rfl (by decide) (by decide)) <| z_aln (pc := 6) C dX12_still_6 rfl <| z_gf (pc := 7) C dX12_still_7 fl_12_110 <| z_isn (pc := 10) C dX12_still_10 rfl (by decide) <| z_ic (pc := 11) C dX12_still_11 (by decide +kernel) <| z_isn (pc := 12) C dX12_still_12 rfl (by decide) <| z_jmp (hY 1))
  | 1 => exact (z_iln (pc := 13) C dX12_still_13 rfl <| z_ic (pc := 14) C dX12_still_14 (by decide +kernel) <| z_aln (pc := 15) C dX12_still_15 rfl <| z_cV (pc := 16) C dX12_still_16 S_X12_many rfl (zl4 w_929 w_931 wp_21 w_13) w_932 ds_X12_many (zrm rfl rfl (by decide) (by decide)) <| z_ishl (pc := 19) C dX12_still_19 <| z_cmpge (tgt := 85) (pc := 20) C dX12_still_20 (by decide) (z_iln (pc := 85) C dX12_still_85 rfl <| z_ir C hr hk dX12_still_86) <| z_aln (pc := 23) C dX12_still_23 rfl <| z_iln (pc := 24) C dX12_still_24 rfl <| z_iln (pc := 25) C dX12_still_25 rfl <| z_ior (pc := 26) C dX12_still_26 <| z_pf (pc := 27) C dX12_still_27 fp_12_110 <| z_iln (pc := 30) C dX12_still_30 rfl <| z_iln (pc := 31) C dX12_still_31 rfl <| z_iand (pc := 32) C dX12_still_32 <| z_ifne (tgt := 56) (pc := 33) C dX12_still_33 (by decide) (z_jmp (hY 3)) <| z_iln (pc := 36) C dX12_still_36 rfl <| z_ic (pc := 37) C dX12_still_37 (by decide +kernel) <| z_cmpeq (tgt := 52) (pc := 38) C dX12_still_38 (by decide) (z_jmp (hY 2)) <| z_iln (pc := 41) C dX12_still_41 rfl <| z_cS (pc := 42) C dX12_still_42 S_X12_bits (zl3 w_1086 w_1087 w_13) w_1088 ds_X12_bits (zrm rfl rfl (by decide) (by decide)) <| z_iln (pc := 45) C dX12_still_45 rfl <| z_cS (pc := 46) C dX12_still_46 S_X12_bits (zl3 w_1086 w_1087 w_13) w_1088 ds_X12_bits (zrm rfl rfl (by decide) (by decide)) <| z_cmpge (tgt := 56) (pc := 49) C dX12_still_49 (by decide) (z_jmp (hY 3)) <| z_jmp (hY 2))
  | 2 => exact (z_ic (pc := 52) C dX12_still_52 (by decide +kernel) <| z_goto (tgt := 57) (pc := 53) C dX12_still_53 (by decide) <| z_jmp (hY 4))
  | 3 => exact (z_ic (pc := 56) C dX12_still_56 (by decide +kernel) <| z_jmp (hY 4))
  | 4 => exact (z_is (pc := 57) C dX12_still_57 (by decide) <| z_il (pc := 59) C dX12_still_59 <| z_ifeq (tgt := 77) (pc := 61) C dX12_still_61 (by decide) (z_jmp (hY 5)) <| z_aln (pc := 64) C dX12_still_64 rfl <| z_cV (pc := 65) C dX12_still_65 S_X12_peaces rfl (zl4 w_1078 w_1080 wp_38 w_13) w_1081 ds_X12_peaces (zrm rfl rfl (by decide) (by decide)) <| z_bi (pc := 68) C dX12_still_68 (by decide +kernel) <| z_cmpne (tgt := 77) (pc := 70) C dX12_still_70 (by decide) (z_jmp (hY 5)) <| z_iln (pc := 73) C dX12_still_73 rfl <| z_goto (tgt := 78) (pc := 74) C dX12_still_74 (by decide) <| z_jmp (hY 6))
  | 5 => exact (z_iln (pc := 77) C dX12_still_77 rfl <| z_jmp (hY 6))
  | 6 => exact (z_isn (pc := 78) C dX12_still_78 rfl (by decide) <| z_inc (pc := 79) C dX12_still_79 (by decide +kernel) (by decide) <| z_goto (tgt := 13) (pc := 82) C dX12_still_82 (by decide) <| z_jmp (hY 1))
  | b + 7 => exact fun _ _ _ h => h.elim
theorem dX12_heard_0 : decode cX12_heard 0 = .ok (.iload_n 1, 1) := by decide +kernel
theorem dX12_heard_1 : decode cX12_heard 1 = .ok (.invokestatic 145, 3) := by decide +kernel
theorem dX12_heard_4 : decode cX12_heard 4 = .ok (.ifCond .eq 22, 3) := by decide +kernel
theorem dX12_heard_7 : decode cX12_heard 7 = .ok (.iload_n 2, 1) := by decide +kernel
theorem dX12_heard_8 : decode cX12_heard 8 = .ok (.invokestatic 82, 3) := by decide +kernel
theorem dX12_heard_11 : decode cX12_heard 11 = .ok (.ifCond .eq 15, 3) := by decide +kernel
theorem dX12_heard_14 : decode cX12_heard 14 = .ok (.iload_n 3, 1) := by decide +kernel
theorem dX12_heard_15 : decode cX12_heard 15 = .ok (.i2l, 1) := by decide +kernel
theorem dX12_heard_16 : decode cX12_heard 16 = .ok (.lconst 0, 1) := by decide +kernel
theorem dX12_heard_17 : decode cX12_heard 17 = .ok (.ldc2_w 176, 3) := by decide +kernel
theorem dX12_heard_20 : decode cX12_heard 20 = .ok (.invokestatic 68, 3) := by decide +kernel
theorem dX12_heard_23 : decode cX12_heard 23 = .ok (.ifCond .ne 10, 3) := by decide +kernel
theorem dX12_heard_26 : decode cX12_heard 26 = .ok (.aload_n 0, 1) := by decide +kernel
theorem dX12_heard_27 : decode cX12_heard 27 = .ok (.bipush (-2), 2) := by decide +kernel
theorem dX12_heard_29 : decode cX12_heard 29 = .ok (.invokevirtual 78, 3) := by decide +kernel
theorem dX12_heard_32 : decode cX12_heard 32 = .ok (.ireturn, 1) := by decide +kernel
theorem dX12_heard_33 : decode cX12_heard 33 = .ok (.aload_n 0, 1) := by decide +kernel
theorem dX12_heard_34 : decode cX12_heard 34 = .ok (.getfield 7, 3) := by decide +kernel
theorem dX12_heard_37 : decode cX12_heard 37 = .ok (.iconst 4, 1) := by decide +kernel
theorem dX12_heard_38 : decode cX12_heard 38 = .ok (.iaload, 1) := by decide +kernel
theorem dX12_heard_39 : decode cX12_heard 39 = .ok (.bipush 6, 2) := by decide +kernel
theorem dX12_heard_41 : decode cX12_heard 41 = .ok (.if_icmp .ne 8, 3) := by decide +kernel
theorem dX12_heard_44 : decode cX12_heard 44 = .ok (.aload_n 0, 1) := by decide +kernel
theorem dX12_heard_45 : decode cX12_heard 45 = .ok (.invokevirtual 103, 3) := by decide +kernel
theorem dX12_heard_48 : decode cX12_heard 48 = .ok (.ireturn, 1) := by decide +kernel
theorem dX12_heard_49 : decode cX12_heard 49 = .ok (.bipush 48, 2) := by decide +kernel
theorem dX12_heard_51 : decode cX12_heard 51 = .ok (.iconst 3, 1) := by decide +kernel
theorem dX12_heard_52 : decode cX12_heard 52 = .ok (.aload_n 0, 1) := by decide +kernel
theorem dX12_heard_53 : decode cX12_heard 53 = .ok (.getfield 7, 3) := by decide +kernel
theorem dX12_heard_56 : decode cX12_heard 56 = .ok (.iconst 4, 1) := by decide +kernel
theorem dX12_heard_57 : decode cX12_heard 57 = .ok (.iaload, 1) := by decide +kernel
theorem dX12_heard_58 : decode cX12_heard 58 = .ok (.imul, 1) := by decide +kernel
theorem dX12_heard_59 : decode cX12_heard 59 = .ok (.iadd, 1) := by decide +kernel
theorem dX12_heard_60 : decode cX12_heard 60 = .ok (.istore 4, 2) := by decide +kernel
theorem dX12_heard_62 : decode cX12_heard 62 = .ok (.aload_n 0, 1) := by decide +kernel
theorem dX12_heard_63 : decode cX12_heard 63 = .ok (.getfield 7, 3) := by decide +kernel
theorem dX12_heard_66 : decode cX12_heard 66 = .ok (.iload 4, 2) := by decide +kernel
theorem dX12_heard_68 : decode cX12_heard 68 = .ok (.iload_n 1, 1) := by decide +kernel
theorem dX12_heard_69 : decode cX12_heard 69 = .ok (.iastore, 1) := by decide +kernel
theorem dX12_heard_70 : decode cX12_heard 70 = .ok (.aload_n 0, 1) := by decide +kernel
theorem dX12_heard_71 : decode cX12_heard 71 = .ok (.getfield 7, 3) := by decide +kernel
theorem dX12_heard_74 : decode cX12_heard 74 = .ok (.iload 4, 2) := by decide +kernel
theorem dX12_heard_76 : decode cX12_heard 76 = .ok (.iconst 1, 1) := by decide +kernel
theorem dX12_heard_77 : decode cX12_heard 77 = .ok (.iadd, 1) := by decide +kernel
theorem dX12_heard_78 : decode cX12_heard 78 = .ok (.iload_n 2, 1) := by decide +kernel
theorem dX12_heard_79 : decode cX12_heard 79 = .ok (.iastore, 1) := by decide +kernel
theorem dX12_heard_80 : decode cX12_heard 80 = .ok (.aload_n 0, 1) := by decide +kernel
theorem dX12_heard_81 : decode cX12_heard 81 = .ok (.getfield 7, 3) := by decide +kernel
theorem dX12_heard_84 : decode cX12_heard 84 = .ok (.iload 4, 2) := by decide +kernel
theorem dX12_heard_86 : decode cX12_heard 86 = .ok (.iconst 2, 1) := by decide +kernel
theorem dX12_heard_87 : decode cX12_heard 87 = .ok (.iadd, 1) := by decide +kernel
theorem dX12_heard_88 : decode cX12_heard 88 = .ok (.iload_n 3, 1) := by decide +kernel
theorem dX12_heard_89 : decode cX12_heard 89 = .ok (.iastore, 1) := by decide +kernel
theorem dX12_heard_90 : decode cX12_heard 90 = .ok (.aload_n 0, 1) := by decide +kernel
theorem dX12_heard_91 : decode cX12_heard 91 = .ok (.getfield 7, 3) := by decide +kernel
theorem dX12_heard_94 : decode cX12_heard 94 = .ok (.iconst 4, 1) := by decide +kernel
theorem dX12_heard_95 : decode cX12_heard 95 = .ok (.dup2, 1) := by decide +kernel
theorem dX12_heard_96 : decode cX12_heard 96 = .ok (.iaload, 1) := by decide +kernel
theorem dX12_heard_97 : decode cX12_heard 97 = .ok (.iconst 1, 1) := by decide +kernel
theorem dX12_heard_98 : decode cX12_heard 98 = .ok (.iadd, 1) := by decide +kernel
theorem dX12_heard_99 : decode cX12_heard 99 = .ok (.iastore, 1) := by decide +kernel
theorem dX12_heard_100 : decode cX12_heard 100 = .ok (.aload_n 0, 1) := by decide +kernel
theorem dX12_heard_101 : decode cX12_heard 101 = .ok (.getfield 7, 3) := by decide +kernel
theorem dX12_heard_104 : decode cX12_heard 104 = .ok (.iconst 4, 1) := by decide +kernel
theorem dX12_heard_105 : decode cX12_heard 105 = .ok (.iaload, 1) := by decide +kernel
theorem dX12_heard_106 : decode cX12_heard 106 = .ok (.ireturn, 1) := by decide +kernel
def P_X12_heard : Nat → Nat
  | 1 => 26
  | _ => 0
set_option maxRecDepth 100000 in
set_option maxHeartbeats 4000000 in
theorem S_X12_heard : zSd yX12_heard cX12_heard 5 (some .int) { frames := 2, cells := 0, slots := 0, locals := 45 } T_X12_heard := by
  refine zMet (pcs := P_X12_heard) (F := F_X12_heard) (by decide) rfl ?_
  intro p l e s m args below meth c D ids ad A Q Y C hr hk hY b
  match b with
  | 0 => exact (z_iln (pc := 0) C dX12_heard_0 rfl <| z_cS (pc := 1) C dX12_heard_1 S_X12_isWord (zl3 w_1001 w_1002 w_13) w_1003 ds_X12_isWord (zrm rfl rfl (by decide) (by decide)) <| z_ifeq (tgt := 26) (pc := 4) C dX12_heard_4 (by decide) (z_jmp (hY 1)) <| z_iln (pc := 7) C dX12_heard_7 rfl <| z_cS (pc := 8) C dX12_heard_8 S_X12_isBook (zl3 w_937 w_938 w_13) w_939 ds_X12_isBook (zrm rfl rfl (by decide) (by decide)) <| z_ifeq (tgt := 26) (pc := 11) C dX12_heard_11 (by decide) (z_jmp (hY 1)) <| z_iln (pc := 14) C dX12_heard_14 rfl <| z_i2l (pc := 15) C dX12_heard_15 <| z_lc (pc := 16) C dX12_heard_16 (by decide +kernel) <| z_ldc2 (pc := 17) C dX12_heard_17 w_1093 <| z_cS (pc := 20) C dX12_heard_20 S_X12_in (zl3 w_922 w_923 w_13) w_924 ds_X12_in (zrm rfl rfl (by decide) (by decide)) <| z_ifne (tgt := 33) (pc := 23) C dX12_heard_23 (by decide) (z_aln (pc := 33) C dX12_heard_33 rfl <| z_gf (pc := 34) C dX12_heard_34 fl_12_7 <| z_ic (pc := 37) C dX12_heard_37 (by decide +kernel) <| z_ia (pc := 38) C dX12_heard_38 <| z_bi (pc := 39) C dX12_heard_39 (by decide +kernel) <| z_cmpne (tgt := 49) (pc := 41) C dX12_heard_41 (by decide) (z_bi (pc := 49) C dX12_heard_49 (by decide +kernel) <| z_ic (pc := 51) C dX12_heard_51 (by decide +kernel) <| z_aln (pc := 52) C dX12_heard_52 rfl <| z_gf (pc := 53) C dX12_heard_53 fl_12_7 <| z_ic (pc := 56) C dX12_heard_56 (by decide +kernel) <| z_ia (pc := 57) C dX12_heard_57 <| z_imul (pc := 58) C dX12_heard_58 <| z_iadd (pc := 59) C dX12_heard_59 <| z_is (pc := 60) C dX12_heard_60 (by decide) <| z_aln (pc := 62) C dX12_heard_62 rfl <| z_gf (pc := 63) C dX12_heard_63 fl_12_7 <| z_il (pc := 66) C dX12_heard_66 <| z_iln (pc := 68) C dX12_heard_68 rfl <| z_iast (pc := 69) C dX12_heard_69 <| z_aln (pc := 70) C dX12_heard_70 rfl <| z_gf (pc := 71) C dX12_heard_71 fl_12_7 <| z_il (pc := 74) C dX12_heard_74 <| z_ic (pc := 76) C dX12_heard_76 (by decide +kernel) <| z_iadd (pc := 77) C dX12_heard_77 <| z_iln (pc := 78) C dX12_heard_78 rfl <| z_iast (pc := 79) C dX12_heard_79 <| z_aln (pc := 80) C dX12_heard_80 rfl <| z_gf (pc := 81) C dX12_heard_81 fl_12_7 <| z_il (pc := 84) C dX12_heard_84 <| z_ic (pc := 86) C dX12_heard_86 (by decide +kernel) <| z_iadd (pc := 87) C dX12_heard_87 <| z_iln (pc := 88) C dX12_heard_88 rfl <| z_iast (pc := 89) C dX12_heard_89 <| z_aln (pc := 90) C dX12_heard_90 rfl <| z_gf (pc := 91) C dX12_heard_91 fl_12_7 <| z_ic (pc := 94) C dX12_heard_94 (by decide +kernel) <| z_dup2 (pc := 95) C dX12_heard_95 <| z_ia (pc := 96) C dX12_heard_96 <| z_ic (pc := 97) C dX12_heard_97 (by decide +kernel) <| z_iadd (pc := 98) C dX12_heard_98 <| z_iast (pc := 99) C dX12_heard_99 <| z_aln (pc := 100) C dX12_heard_100 rfl <| z_gf (pc := 101) C dX12_heard_101 fl_12_7 <| z_ic (pc := 104) C dX12_heard_104 (by decide +kernel) <| z_ia (pc := 105) C dX12_heard_105 <| z_ir C hr hk dX12_heard_106) <| z_aln (pc := 44) C dX12_heard_44 rfl <| z_cV (pc := 45) C dX12_heard_45 S_X12_full rfl (zl4 w_958 w_960 wp_23 w_13) w_961 ds_X12_full (zrm rfl rfl (by decide) (by decide)) <| z_ir C hr hk dX12_heard_48) <| z_jmp (hY 1))
  | 1 => exact (z_aln (pc := 26) C dX12_heard_26 rfl <| z_bi (pc := 27) C dX12_heard_27 (by decide +kernel) <| z_cV (pc := 29) C dX12_heard_29 S_X12_bad rfl (zl4 w_925 w_927 wp_20 w_13) w_928 ds_X12_bad (zrm rfl rfl (by decide) (by decide)) <| z_ir C hr hk dX12_heard_32)
  | b + 2 => exact fun _ _ _ h => h.elim
theorem dX12_forget_0 : decode cX12_forget 0 = .ok (.aload_n 0, 1) := by decide +kernel
theorem dX12_forget_1 : decode cX12_forget 1 = .ok (.getfield 7, 3) := by decide +kernel
theorem dX12_forget_4 : decode cX12_forget 4 = .ok (.iconst 4, 1) := by decide +kernel
theorem dX12_forget_5 : decode cX12_forget 5 = .ok (.iaload, 1) := by decide +kernel
theorem dX12_forget_6 : decode cX12_forget 6 = .ok (.istore_n 1, 1) := by decide +kernel
theorem dX12_forget_7 : decode cX12_forget 7 = .ok (.aload_n 0, 1) := by decide +kernel
theorem dX12_forget_8 : decode cX12_forget 8 = .ok (.getfield 7, 3) := by decide +kernel
theorem dX12_forget_11 : decode cX12_forget 11 = .ok (.iconst 4, 1) := by decide +kernel
theorem dX12_forget_12 : decode cX12_forget 12 = .ok (.iconst 0, 1) := by decide +kernel
theorem dX12_forget_13 : decode cX12_forget 13 = .ok (.iastore, 1) := by decide +kernel
theorem dX12_forget_14 : decode cX12_forget 14 = .ok (.iload_n 1, 1) := by decide +kernel
theorem dX12_forget_15 : decode cX12_forget 15 = .ok (.ireturn, 1) := by decide +kernel
def P_X12_forget : Nat → Nat
  | _ => 0
set_option maxRecDepth 100000 in
set_option maxHeartbeats 4000000 in
theorem S_X12_forget : zSd yX12_forget cX12_forget 2 (some .int) { frames := 0, cells := 0, slots := 0, locals := 0 } T_X12_forget := by
  refine zMet (pcs := P_X12_forget) (F := F_X12_forget) (by decide) rfl ?_
  intro p l e s m args below meth c D ids ad A Q Y C hr hk hY b
  match b with
  | 0 => exact (z_aln (pc := 0) C dX12_forget_0 rfl <| z_gf (pc := 1) C dX12_forget_1 fl_12_7 <| z_ic (pc := 4) C dX12_forget_4 (by decide +kernel) <| z_ia (pc := 5) C dX12_forget_5 <| z_isn (pc := 6) C dX12_forget_6 rfl (by decide) <| z_aln (pc := 7) C dX12_forget_7 rfl <| z_gf (pc := 8) C dX12_forget_8 fl_12_7 <| z_ic (pc := 11) C dX12_forget_11 (by decide +kernel) <| z_ic (pc := 12) C dX12_forget_12 (by decide +kernel) <| z_iast (pc := 13) C dX12_forget_13 <| z_iln (pc := 14) C dX12_forget_14 rfl <| z_ir C hr hk dX12_forget_15)
  | b + 1 => exact fun _ _ _ h => h.elim
theorem dX12_isHeardSo_0 : decode cX12_isHeardSo 0 = .ok (.iconst 1, 1) := by decide +kernel
theorem dX12_isHeardSo_1 : decode cX12_isHeardSo 1 = .ok (.istore_n 1, 1) := by decide +kernel
theorem dX12_isHeardSo_2 : decode cX12_isHeardSo 2 = .ok (.iconst 0, 1) := by decide +kernel
theorem dX12_isHeardSo_3 : decode cX12_isHeardSo 3 = .ok (.istore_n 2, 1) := by decide +kernel
theorem dX12_isHeardSo_4 : decode cX12_isHeardSo 4 = .ok (.iload_n 2, 1) := by decide +kernel
theorem dX12_isHeardSo_5 : decode cX12_isHeardSo 5 = .ok (.aload_n 0, 1) := by decide +kernel
theorem dX12_isHeardSo_6 : decode cX12_isHeardSo 6 = .ok (.getfield 7, 3) := by decide +kernel
theorem dX12_isHeardSo_9 : decode cX12_isHeardSo 9 = .ok (.iconst 4, 1) := by decide +kernel
theorem dX12_isHeardSo_10 : decode cX12_isHeardSo 10 = .ok (.iaload, 1) := by decide +kernel
theorem dX12_isHeardSo_11 : decode cX12_isHeardSo 11 = .ok (.if_icmp .ge 55, 3) := by decide +kernel
theorem dX12_isHeardSo_14 : decode cX12_isHeardSo 14 = .ok (.iload_n 1, 1) := by decide +kernel
theorem dX12_isHeardSo_15 : decode cX12_isHeardSo 15 = .ok (.ifCond .eq 51, 3) := by decide +kernel
theorem dX12_isHeardSo_18 : decode cX12_isHeardSo 18 = .ok (.bipush 48, 2) := by decide +kernel
theorem dX12_isHeardSo_20 : decode cX12_isHeardSo 20 = .ok (.iconst 3, 1) := by decide +kernel
theorem dX12_isHeardSo_21 : decode cX12_isHeardSo 21 = .ok (.iload_n 2, 1) := by decide +kernel
theorem dX12_isHeardSo_22 : decode cX12_isHeardSo 22 = .ok (.imul, 1) := by decide +kernel
theorem dX12_isHeardSo_23 : decode cX12_isHeardSo 23 = .ok (.iadd, 1) := by decide +kernel
theorem dX12_isHeardSo_24 : decode cX12_isHeardSo 24 = .ok (.istore_n 3, 1) := by decide +kernel
theorem dX12_isHeardSo_25 : decode cX12_isHeardSo 25 = .ok (.aload_n 0, 1) := by decide +kernel
theorem dX12_isHeardSo_26 : decode cX12_isHeardSo 26 = .ok (.aload_n 0, 1) := by decide +kernel
theorem dX12_isHeardSo_27 : decode cX12_isHeardSo 27 = .ok (.getfield 7, 3) := by decide +kernel
theorem dX12_isHeardSo_30 : decode cX12_isHeardSo 30 = .ok (.iload_n 3, 1) := by decide +kernel
theorem dX12_isHeardSo_31 : decode cX12_isHeardSo 31 = .ok (.iaload, 1) := by decide +kernel
theorem dX12_isHeardSo_32 : decode cX12_isHeardSo 32 = .ok (.aload_n 0, 1) := by decide +kernel
theorem dX12_isHeardSo_33 : decode cX12_isHeardSo 33 = .ok (.getfield 7, 3) := by decide +kernel
theorem dX12_isHeardSo_36 : decode cX12_isHeardSo 36 = .ok (.iload_n 3, 1) := by decide +kernel
theorem dX12_isHeardSo_37 : decode cX12_isHeardSo 37 = .ok (.iconst 1, 1) := by decide +kernel
theorem dX12_isHeardSo_38 : decode cX12_isHeardSo 38 = .ok (.iadd, 1) := by decide +kernel
theorem dX12_isHeardSo_39 : decode cX12_isHeardSo 39 = .ok (.iaload, 1) := by decide +kernel
theorem dX12_isHeardSo_40 : decode cX12_isHeardSo 40 = .ok (.invokevirtual 130, 3) := by decide +kernel
theorem dX12_isHeardSo_43 : decode cX12_isHeardSo 43 = .ok (.aload_n 0, 1) := by decide +kernel
theorem dX12_isHeardSo_44 : decode cX12_isHeardSo 44 = .ok (.getfield 7, 3) := by decide +kernel
theorem dX12_isHeardSo_47 : decode cX12_isHeardSo 47 = .ok (.iload_n 3, 1) := by decide +kernel
theorem dX12_isHeardSo_48 : decode cX12_isHeardSo 48 = .ok (.iconst 2, 1) := by decide +kernel
theorem dX12_isHeardSo_49 : decode cX12_isHeardSo 49 = .ok (.iadd, 1) := by decide +kernel
theorem dX12_isHeardSo_50 : decode cX12_isHeardSo 50 = .ok (.iaload, 1) := by decide +kernel
theorem dX12_isHeardSo_51 : decode cX12_isHeardSo 51 = .ok (.if_icmp .ne 7, 3) := by decide +kernel
theorem dX12_isHeardSo_54 : decode cX12_isHeardSo 54 = .ok (.iconst 1, 1) := by decide +kernel
theorem dX12_isHeardSo_55 : decode cX12_isHeardSo 55 = .ok (.goto 4, 3) := by decide +kernel
theorem dX12_isHeardSo_58 : decode cX12_isHeardSo 58 = .ok (.iconst 0, 1) := by decide +kernel
theorem dX12_isHeardSo_59 : decode cX12_isHeardSo 59 = .ok (.istore_n 1, 1) := by decide +kernel
theorem dX12_isHeardSo_60 : decode cX12_isHeardSo 60 = .ok (.iinc 2 1, 3) := by decide +kernel
theorem dX12_isHeardSo_63 : decode cX12_isHeardSo 63 = .ok (.goto (-59), 3) := by decide +kernel
theorem dX12_isHeardSo_66 : decode cX12_isHeardSo 66 = .ok (.iload_n 1, 1) := by decide +kernel
theorem dX12_isHeardSo_67 : decode cX12_isHeardSo 67 = .ok (.ireturn, 1) := by decide +kernel
def P_X12_isHeardSo : Nat → Nat
  | 1 => 4
  | 2 => 59
  | _ => 0
set_option maxRecDepth 100000 in
set_option maxHeartbeats 4000000 in
theorem S_X12_isHeardSo : zSd yX12_isHeardSo cX12_isHeardSo 4 (some .boolean) { frames := 4, cells := 0, slots := 0, locals := 93 } T_X12_isHeardSo := by
  refine zMet (pcs := P_X12_isHeardSo) (F := F_X12_isHeardSo) (by decide) rfl ?_
  intro p l e s m args below meth c D ids ad A Q Y C hr hk hY b
  match b with
  | 0 => exact (z_ic (pc := 0) C dX12_isHeardSo_0 (by decide +kernel) <| z_isn (pc := 1) C dX12_isHeardSo_1 rfl (by decide) <| z_ic (pc := 2) C dX12_isHeardSo_2 (by decide +kernel) <| z_isn (pc := 3) C dX12_isHeardSo_3 rfl (by decide) <| z_jmp (hY 1))
  | 1 => exact (z_iln (pc := 4) C dX12_isHeardSo_4 rfl <| z_aln (pc := 5) C dX12_isHeardSo_5 rfl <| z_gf (pc := 6) C dX12_isHeardSo_6 fl_12_7 <| z_ic (pc := 9) C dX12_isHeardSo_9 (by decide +kernel) <| z_ia (pc := 10) C dX12_isHeardSo_10 <| z_cmpge (tgt := 66) (pc := 11) C dX12_isHeardSo_11 (by decide) (z_iln (pc := 66) C dX12_isHeardSo_66 rfl <| z_zr C hr hk dX12_isHeardSo_67) <| z_iln (pc := 14) C dX12_isHeardSo_14 rfl <| z_ifeq (tgt := 66) (pc := 15) C dX12_isHeardSo_15 (by decide) (z_iln (pc := 66) C dX12_isHeardSo_66 rfl <| z_zr C hr hk dX12_isHeardSo_67) <| z_bi (pc := 18) C dX12_isHeardSo_18 (by decide +kernel) <| z_ic (pc := 20) C dX12_isHeardSo_20 (by decide +kernel) <| z_iln (pc := 21) C dX12_isHeardSo_21 rfl <| z_imul (pc := 22) C dX12_isHeardSo_22 <| z_iadd (pc := 23) C dX12_isHeardSo_23 <| z_isn (pc := 24) C dX12_isHeardSo_24 rfl (by decide) <| z_aln (pc := 25) C dX12_isHeardSo_25 rfl <| z_aln (pc := 26) C dX12_isHeardSo_26 rfl <| z_gf (pc := 27) C dX12_isHeardSo_27 fl_12_7 <| z_iln (pc := 30) C dX12_isHeardSo_30 rfl <| z_ia (pc := 31) C dX12_isHeardSo_31 <| z_aln (pc := 32) C dX12_isHeardSo_32 rfl <| z_gf (pc := 33) C dX12_isHeardSo_33 fl_12_7 <| z_iln (pc := 36) C dX12_isHeardSo_36 rfl <| z_ic (pc := 37) C dX12_isHeardSo_37 (by decide +kernel) <| z_iadd (pc := 38) C dX12_isHeardSo_38 <| z_ia (pc := 39) C dX12_isHeardSo_39 <| z_cV (pc := 40) C dX12_isHeardSo_40 S_X12_loudOf rfl (zl4 w_1041 w_1043 wp_33 w_13) w_1044 ds_X12_loudOf (zrm rfl rfl (by decide) (by decide)) <| z_aln (pc := 43) C dX12_isHeardSo_43 rfl <| z_gf (pc := 44) C dX12_isHeardSo_44 fl_12_7 <| z_iln (pc := 47) C dX12_isHeardSo_47 rfl <| z_ic (pc := 48) C dX12_isHeardSo_48 (by decide +kernel) <| z_iadd (pc := 49) C dX12_isHeardSo_49 <| z_ia (pc := 50) C dX12_isHeardSo_50 <| z_cmpne (tgt := 58) (pc := 51) C dX12_isHeardSo_51 (by decide) (z_ic (pc := 58) C dX12_isHeardSo_58 (by decide +kernel) <| z_jmp (hY 2)) <| z_ic (pc := 54) C dX12_isHeardSo_54 (by decide +kernel) <| z_goto (tgt := 59) (pc := 55) C dX12_isHeardSo_55 (by decide) <| z_jmp (hY 2))
  | 2 => exact (z_isn (pc := 59) C dX12_isHeardSo_59 rfl (by decide) <| z_inc (pc := 60) C dX12_isHeardSo_60 (by decide +kernel) (by decide) <| z_goto (tgt := 4) (pc := 63) C dX12_isHeardSo_63 (by decide) <| z_jmp (hY 1))
  | b + 3 => exact fun _ _ _ h => h.elim
theorem dX12_layMay_0 : decode cX12_layMay 0 = .ok (.aload_n 0, 1) := by decide +kernel
theorem dX12_layMay_1 : decode cX12_layMay 1 = .ok (.iconst 0, 1) := by decide +kernel
theorem dX12_layMay_2 : decode cX12_layMay 2 = .ok (.putfield 178, 3) := by decide +kernel
theorem dX12_layMay_5 : decode cX12_layMay 5 = .ok (.aload_n 0, 1) := by decide +kernel
theorem dX12_layMay_6 : decode cX12_layMay 6 = .ok (.invokevirtual 150, 3) := by decide +kernel
theorem dX12_layMay_9 : decode cX12_layMay 9 = .ok (.iconst 0, 1) := by decide +kernel
theorem dX12_layMay_10 : decode cX12_layMay 10 = .ok (.istore_n 1, 1) := by decide +kernel
theorem dX12_layMay_11 : decode cX12_layMay 11 = .ok (.iload_n 1, 1) := by decide +kernel
theorem dX12_layMay_12 : decode cX12_layMay 12 = .ok (.sipush 128, 3) := by decide +kernel
theorem dX12_layMay_15 : decode cX12_layMay 15 = .ok (.if_icmp .ge 65, 3) := by decide +kernel
theorem dX12_layMay_18 : decode cX12_layMay 18 = .ok (.aload_n 0, 1) := by decide +kernel
theorem dX12_layMay_19 : decode cX12_layMay 19 = .ok (.iload_n 1, 1) := by decide +kernel
theorem dX12_layMay_20 : decode cX12_layMay 20 = .ok (.putfield 110, 3) := by decide +kernel
theorem dX12_layMay_23 : decode cX12_layMay 23 = .ok (.aload_n 0, 1) := by decide +kernel
theorem dX12_layMay_24 : decode cX12_layMay 24 = .ok (.getfield 42, 3) := by decide +kernel
theorem dX12_layMay_27 : decode cX12_layMay 27 = .ok (.iload_n 1, 1) := by decide +kernel
theorem dX12_layMay_28 : decode cX12_layMay 28 = .ok (.iload_n 1, 1) := by decide +kernel
theorem dX12_layMay_29 : decode cX12_layMay 29 = .ok (.iconst 1, 1) := by decide +kernel
theorem dX12_layMay_30 : decode cX12_layMay 30 = .ok (.aload_n 0, 1) := by decide +kernel
theorem dX12_layMay_31 : decode cX12_layMay 31 = .ok (.invokevirtual 64, 3) := by decide +kernel
theorem dX12_layMay_34 : decode cX12_layMay 34 = .ok (.ishl, 1) := by decide +kernel
theorem dX12_layMay_35 : decode cX12_layMay 35 = .ok (.if_icmp .ge 14, 3) := by decide +kernel
theorem dX12_layMay_38 : decode cX12_layMay 38 = .ok (.aload_n 0, 1) := by decide +kernel
theorem dX12_layMay_39 : decode cX12_layMay 39 = .ok (.invokevirtual 181, 3) := by decide +kernel
theorem dX12_layMay_42 : decode cX12_layMay 42 = .ok (.ifCond .eq 7, 3) := by decide +kernel
theorem dX12_layMay_45 : decode cX12_layMay 45 = .ok (.iconst 1, 1) := by decide +kernel
theorem dX12_layMay_46 : decode cX12_layMay 46 = .ok (.goto 4, 3) := by decide +kernel
theorem dX12_layMay_49 : decode cX12_layMay 49 = .ok (.iconst 0, 1) := by decide +kernel
theorem dX12_layMay_50 : decode cX12_layMay 50 = .ok (.bastore, 1) := by decide +kernel
theorem dX12_layMay_51 : decode cX12_layMay 51 = .ok (.aload_n 0, 1) := by decide +kernel
theorem dX12_layMay_52 : decode cX12_layMay 52 = .ok (.dup, 1) := by decide +kernel
theorem dX12_layMay_53 : decode cX12_layMay 53 = .ok (.getfield 178, 3) := by decide +kernel
theorem dX12_layMay_56 : decode cX12_layMay 56 = .ok (.aload_n 0, 1) := by decide +kernel
theorem dX12_layMay_57 : decode cX12_layMay 57 = .ok (.getfield 42, 3) := by decide +kernel
theorem dX12_layMay_60 : decode cX12_layMay 60 = .ok (.iload_n 1, 1) := by decide +kernel
theorem dX12_layMay_61 : decode cX12_layMay 61 = .ok (.baload, 1) := by decide +kernel
theorem dX12_layMay_62 : decode cX12_layMay 62 = .ok (.ifCond .eq 7, 3) := by decide +kernel
theorem dX12_layMay_65 : decode cX12_layMay 65 = .ok (.iconst 1, 1) := by decide +kernel
theorem dX12_layMay_66 : decode cX12_layMay 66 = .ok (.goto 4, 3) := by decide +kernel
theorem dX12_layMay_69 : decode cX12_layMay 69 = .ok (.iconst 0, 1) := by decide +kernel
theorem dX12_layMay_70 : decode cX12_layMay 70 = .ok (.iadd, 1) := by decide +kernel
theorem dX12_layMay_71 : decode cX12_layMay 71 = .ok (.putfield 178, 3) := by decide +kernel
theorem dX12_layMay_74 : decode cX12_layMay 74 = .ok (.iinc 1 1, 3) := by decide +kernel
theorem dX12_layMay_77 : decode cX12_layMay 77 = .ok (.goto (-66), 3) := by decide +kernel
theorem dX12_layMay_80 : decode cX12_layMay 80 = .ok (.return_, 1) := by decide +kernel
def P_X12_layMay : Nat → Nat
  | 1 => 11
  | 2 => 49
  | 3 => 50
  | 4 => 70
  | _ => 0
set_option maxRecDepth 100000 in
set_option maxHeartbeats 4000000 in
theorem S_X12_layMay : zSd yX12_layMay cX12_layMay 2 none { frames := 5, cells := 0, slots := 0, locals := 116 } T_X12_layMay := by
  refine zMet (pcs := P_X12_layMay) (F := F_X12_layMay) (by decide) rfl ?_
  intro p l e s m args below meth c D ids ad A Q Y C hr hk hY b
  match b with
  | 0 => exact (z_aln (pc := 0) C dX12_layMay_0 rfl <| z_ic (pc := 1) C dX12_layMay_1 (by decide +kernel) <| z_pf (pc := 2) C dX12_layMay_2 fp_12_178 <| z_aln (pc := 5) C dX12_layMay_5 rfl <| z_cV (pc := 6) C dX12_layMay_6 S_X12_layHand rfl (zl4 w_1006 w_1008 wp_28 w_13) w_1009 ds_X12_layHand (zrm rfl rfl (by decide) (by decide)) <| z_ic (pc := 9) C dX12_layMay_9 (by decide +kernel) <| z_isn (pc := 10) C dX12_layMay_10 rfl (by decide) <| z_jmp (hY 1))
  | 1 => exact (z_iln (pc := 11) C dX12_layMay_11 rfl <| z_si (pc := 12) C dX12_layMay_12 (by decide +kernel) <| z_cmpge (tgt := 80) (pc := 15) C dX12_layMay_15 (by decide) (z_vr C hr hk dX12_layMay_80) <| z_aln (pc := 18) C dX12_layMay_18 rfl <| z_iln (pc := 19) C dX12_layMay_19 rfl <| z_pf (pc := 20) C dX12_layMay_20 fp_12_110 <| z_aln (pc := 23) C dX12_layMay_23 rfl <| z_gf (pc := 24) C dX12_layMay_24 fl_12_42 <| z_iln (pc := 27) C dX12_layMay_27 rfl <| z_iln (pc := 28) C dX12_layMay_28 rfl <| z_ic (pc := 29) C dX12_layMay_29 (by decide +kernel) <| z_aln (pc := 30) C dX12_layMay_30 rfl <| z_cV (pc := 31) C dX12_layMay_31 S_X12_many rfl (zl4 w_929 w_931 wp_21 w_13) w_932 ds_X12_many (zrm rfl rfl (by decide) (by decide)) <| z_ishl (pc := 34) C dX12_layMay_34 <| z_cmpge (tgt := 49) (pc := 35) C dX12_layMay_35 (by decide) (z_jmp (hY 2)) <| z_aln (pc := 38) C dX12_layMay_38 rfl <| z_cV (pc := 39) C dX12_layMay_39 S_X12_isHeardSo rfl (zl4 w_1107 w_1109 wp_40 w_13) w_1110 ds_X12_isHeardSo (zrm rfl rfl (by decide) (by decide)) <| z_ifeq (tgt := 49) (pc := 42) C dX12_layMay_42 (by decide) (z_jmp (hY 2)) <| z_ic (pc := 45) C dX12_layMay_45 (by decide +kernel) <| z_goto (tgt := 50) (pc := 46) C dX12_layMay_46 (by decide) <| z_jmp (hY 3))
  | 2 => exact (z_ic (pc := 49) C dX12_layMay_49 (by decide +kernel) <| z_jmp (hY 3))
  | 3 => exact (z_bast (pc := 50) C dX12_layMay_50 <| z_aln (pc := 51) C dX12_layMay_51 rfl <| z_dup (pc := 52) C dX12_layMay_52 <| z_gf (pc := 53) C dX12_layMay_53 fl_12_178 <| z_aln (pc := 56) C dX12_layMay_56 rfl <| z_gf (pc := 57) C dX12_layMay_57 fl_12_42 <| z_iln (pc := 60) C dX12_layMay_60 rfl <| z_ba (pc := 61) C dX12_layMay_61 <| z_ifeq (tgt := 69) (pc := 62) C dX12_layMay_62 (by decide) (z_ic (pc := 69) C dX12_layMay_69 (by decide +kernel) <| z_jmp (hY 4)) <| z_ic (pc := 65) C dX12_layMay_65 (by decide +kernel) <| z_goto (tgt := 70) (pc := 66) C dX12_layMay_66 (by decide) <| z_jmp (hY 4))
  | 4 => exact (z_iadd (pc := 70) C dX12_layMay_70 <| z_pf (pc := 71) C dX12_layMay_71 fp_12_178 <| z_inc (pc := 74) C dX12_layMay_74 (by decide +kernel) (by decide) <| z_goto (tgt := 11) (pc := 77) C dX12_layMay_77 (by decide) <| z_jmp (hY 1))
  | b + 5 => exact fun _ _ _ h => h.elim
theorem dX12_coughed_0 : decode cX12_coughed 0 = .ok (.iload_n 1, 1) := by decide +kernel
theorem dX12_coughed_1 : decode cX12_coughed 1 = .ok (.i2l, 1) := by decide +kernel
theorem dX12_coughed_2 : decode cX12_coughed 2 = .ok (.lconst 0, 1) := by decide +kernel
theorem dX12_coughed_3 : decode cX12_coughed 3 = .ok (.ldc2_w 185, 3) := by decide +kernel
theorem dX12_coughed_6 : decode cX12_coughed 6 = .ok (.invokestatic 68, 3) := by decide +kernel
theorem dX12_coughed_9 : decode cX12_coughed 9 = .ok (.ifCond .ne 10, 3) := by decide +kernel
theorem dX12_coughed_12 : decode cX12_coughed 12 = .ok (.aload_n 0, 1) := by decide +kernel
theorem dX12_coughed_13 : decode cX12_coughed 13 = .ok (.bipush (-2), 2) := by decide +kernel
theorem dX12_coughed_15 : decode cX12_coughed 15 = .ok (.invokevirtual 78, 3) := by decide +kernel
theorem dX12_coughed_18 : decode cX12_coughed 18 = .ok (.ireturn, 1) := by decide +kernel
theorem dX12_coughed_19 : decode cX12_coughed 19 = .ok (.aload_n 0, 1) := by decide +kernel
theorem dX12_coughed_20 : decode cX12_coughed 20 = .ok (.invokevirtual 187, 3) := by decide +kernel
theorem dX12_coughed_23 : decode cX12_coughed 23 = .ok (.iconst (-1), 1) := by decide +kernel
theorem dX12_coughed_24 : decode cX12_coughed 24 = .ok (.istore_n 2, 1) := by decide +kernel
theorem dX12_coughed_25 : decode cX12_coughed 25 = .ok (.iconst 0, 1) := by decide +kernel
theorem dX12_coughed_26 : decode cX12_coughed 26 = .ok (.istore_n 3, 1) := by decide +kernel
theorem dX12_coughed_27 : decode cX12_coughed 27 = .ok (.iconst 0, 1) := by decide +kernel
theorem dX12_coughed_28 : decode cX12_coughed 28 = .ok (.istore 4, 2) := by decide +kernel
theorem dX12_coughed_30 : decode cX12_coughed 30 = .ok (.iload 4, 2) := by decide +kernel
theorem dX12_coughed_32 : decode cX12_coughed 32 = .ok (.sipush 128, 3) := by decide +kernel
theorem dX12_coughed_35 : decode cX12_coughed 35 = .ok (.if_icmp .ge 47, 3) := by decide +kernel
theorem dX12_coughed_38 : decode cX12_coughed 38 = .ok (.iload_n 2, 1) := by decide +kernel
theorem dX12_coughed_39 : decode cX12_coughed 39 = .ok (.aload_n 0, 1) := by decide +kernel
theorem dX12_coughed_40 : decode cX12_coughed 40 = .ok (.getfield 42, 3) := by decide +kernel
theorem dX12_coughed_43 : decode cX12_coughed 43 = .ok (.iload 4, 2) := by decide +kernel
theorem dX12_coughed_45 : decode cX12_coughed 45 = .ok (.baload, 1) := by decide +kernel
theorem dX12_coughed_46 : decode cX12_coughed 46 = .ok (.ifCond .eq 8, 3) := by decide +kernel
theorem dX12_coughed_49 : decode cX12_coughed 49 = .ok (.iload 4, 2) := by decide +kernel
theorem dX12_coughed_51 : decode cX12_coughed 51 = .ok (.goto 4, 3) := by decide +kernel
theorem dX12_coughed_54 : decode cX12_coughed 54 = .ok (.iconst (-1), 1) := by decide +kernel
theorem dX12_coughed_55 : decode cX12_coughed 55 = .ok (.iand, 1) := by decide +kernel
theorem dX12_coughed_56 : decode cX12_coughed 56 = .ok (.istore_n 2, 1) := by decide +kernel
theorem dX12_coughed_57 : decode cX12_coughed 57 = .ok (.iload_n 3, 1) := by decide +kernel
theorem dX12_coughed_58 : decode cX12_coughed 58 = .ok (.aload_n 0, 1) := by decide +kernel
theorem dX12_coughed_59 : decode cX12_coughed 59 = .ok (.getfield 42, 3) := by decide +kernel
theorem dX12_coughed_62 : decode cX12_coughed 62 = .ok (.iload 4, 2) := by decide +kernel
theorem dX12_coughed_64 : decode cX12_coughed 64 = .ok (.baload, 1) := by decide +kernel
theorem dX12_coughed_65 : decode cX12_coughed 65 = .ok (.ifCond .eq 8, 3) := by decide +kernel
theorem dX12_coughed_68 : decode cX12_coughed 68 = .ok (.iload 4, 2) := by decide +kernel
theorem dX12_coughed_70 : decode cX12_coughed 70 = .ok (.goto 4, 3) := by decide +kernel
theorem dX12_coughed_73 : decode cX12_coughed 73 = .ok (.iconst 0, 1) := by decide +kernel
theorem dX12_coughed_74 : decode cX12_coughed 74 = .ok (.ior, 1) := by decide +kernel
theorem dX12_coughed_75 : decode cX12_coughed 75 = .ok (.istore_n 3, 1) := by decide +kernel
theorem dX12_coughed_76 : decode cX12_coughed 76 = .ok (.iinc 4 1, 3) := by decide +kernel
theorem dX12_coughed_79 : decode cX12_coughed 79 = .ok (.goto (-49), 3) := by decide +kernel
theorem dX12_coughed_82 : decode cX12_coughed 82 = .ok (.iload_n 1, 1) := by decide +kernel
theorem dX12_coughed_83 : decode cX12_coughed 83 = .ok (.ifCond .ne 10, 3) := by decide +kernel
theorem dX12_coughed_86 : decode cX12_coughed 86 = .ok (.aload_n 0, 1) := by decide +kernel
theorem dX12_coughed_87 : decode cX12_coughed 87 = .ok (.getfield 178, 3) := by decide +kernel
theorem dX12_coughed_90 : decode cX12_coughed 90 = .ok (.goto 24, 3) := by decide +kernel
theorem dX12_coughed_93 : decode cX12_coughed 93 = .ok (.iload_n 1, 1) := by decide +kernel
theorem dX12_coughed_94 : decode cX12_coughed 94 = .ok (.iconst 2, 1) := by decide +kernel
theorem dX12_coughed_95 : decode cX12_coughed 95 = .ok (.if_icmp .ne 7, 3) := by decide +kernel
theorem dX12_coughed_98 : decode cX12_coughed 98 = .ok (.iload_n 3, 1) := by decide +kernel
theorem dX12_coughed_99 : decode cX12_coughed 99 = .ok (.goto 15, 3) := by decide +kernel
theorem dX12_coughed_102 : decode cX12_coughed 102 = .ok (.aload_n 0, 1) := by decide +kernel
theorem dX12_coughed_103 : decode cX12_coughed 103 = .ok (.getfield 178, 3) := by decide +kernel
theorem dX12_coughed_106 : decode cX12_coughed 106 = .ok (.ifCond .ne 7, 3) := by decide +kernel
theorem dX12_coughed_109 : decode cX12_coughed 109 = .ok (.iconst (-1), 1) := by decide +kernel
theorem dX12_coughed_110 : decode cX12_coughed 110 = .ok (.goto 4, 3) := by decide +kernel
theorem dX12_coughed_113 : decode cX12_coughed 113 = .ok (.iload_n 2, 1) := by decide +kernel
theorem dX12_coughed_114 : decode cX12_coughed 114 = .ok (.ireturn, 1) := by decide +kernel
def P_X12_coughed : Nat → Nat
  | 1 => 30
  | 2 => 55
  | 3 => 74
  | _ => 0
set_option maxRecDepth 100000 in
set_option maxHeartbeats 4000000 in
theorem S_X12_coughed : zSd yX12_coughed cX12_coughed 5 (some .int) { frames := 6, cells := 0, slots := 0, locals := 137 } T_X12_coughed := by
  refine zMet (pcs := P_X12_coughed) (F := F_X12_coughed) (by decide) rfl ?_
  intro p l e s m args below meth c D ids ad A Q Y C hr hk hY b
  match b with
  | 0 => exact (z_iln (pc := 0) C dX12_coughed_0 rfl <| z_i2l (pc := 1) C dX12_coughed_1 <| z_lc (pc := 2) C dX12_coughed_2 (by decide +kernel) <| z_ldc2 (pc := 3) C dX12_coughed_3 w_1102 <| z_cS (pc := 6) C dX12_coughed_6 S_X12_in (zl3 w_922 w_923 w_13) w_924 ds_X12_in (zrm rfl rfl (by decide) (by decide)) <| z_ifne (tgt := 19) (pc := 9) C dX12_coughed_9 (by decide) (z_aln (pc := 19) C dX12_coughed_19 rfl <| z_cV (pc := 20) C dX12_coughed_20 S_X12_layMay rfl (zl4 w_1103 w_1105 wp_39 w_13) w_1106 ds_X12_layMay (zrm rfl rfl (by decide) (by decide)) <| z_ic (pc := 23) C dX12_coughed_23 (by decide +kernel) <| z_isn (pc := 24) C dX12_coughed_24 rfl (by decide) <| z_ic (pc := 25) C dX12_coughed_25 (by decide +kernel) <| z_isn (pc := 26) C dX12_coughed_26 rfl (by decide) <| z_ic (pc := 27) C dX12_coughed_27 (by decide +kernel) <| z_is (pc := 28) C dX12_coughed_28 (by decide) <| z_jmp (hY 1)) <| z_aln (pc := 12) C dX12_coughed_12 rfl <| z_bi (pc := 13) C dX12_coughed_13 (by decide +kernel) <| z_cV (pc := 15) C dX12_coughed_15 S_X12_bad rfl (zl4 w_925 w_927 wp_20 w_13) w_928 ds_X12_bad (zrm rfl rfl (by decide) (by decide)) <| z_ir C hr hk dX12_coughed_18)
  | 1 => exact (z_il (pc := 30) C dX12_coughed_30 <| z_si (pc := 32) C dX12_coughed_32 (by decide +kernel) <| z_cmpge (tgt := 82) (pc := 35) C dX12_coughed_35 (by decide) (z_iln (pc := 82) C dX12_coughed_82 rfl <| z_ifne (tgt := 93) (pc := 83) C dX12_coughed_83 (by decide) (z_iln (pc := 93) C dX12_coughed_93 rfl <| z_ic (pc := 94) C dX12_coughed_94 (by decide +kernel) <| z_cmpne (tgt := 102) (pc := 95) C dX12_coughed_95 (by decide) (z_aln (pc := 102) C dX12_coughed_102 rfl <| z_gf (pc := 103) C dX12_coughed_103 fl_12_178 <| z_ifne (tgt := 113) (pc := 106) C dX12_coughed_106 (by decide) (z_iln (pc := 113) C dX12_coughed_113 rfl <| z_ir C hr hk dX12_coughed_114) <| z_ic (pc := 109) C dX12_coughed_109 (by decide +kernel) <| z_goto (tgt := 114) (pc := 110) C dX12_coughed_110 (by decide) <| z_ir C hr hk dX12_coughed_114) <| z_iln (pc := 98) C dX12_coughed_98 rfl <| z_goto (tgt := 114) (pc := 99) C dX12_coughed_99 (by decide) <| z_ir C hr hk dX12_coughed_114) <| z_aln (pc := 86) C dX12_coughed_86 rfl <| z_gf (pc := 87) C dX12_coughed_87 fl_12_178 <| z_goto (tgt := 114) (pc := 90) C dX12_coughed_90 (by decide) <| z_ir C hr hk dX12_coughed_114) <| z_iln (pc := 38) C dX12_coughed_38 rfl <| z_aln (pc := 39) C dX12_coughed_39 rfl <| z_gf (pc := 40) C dX12_coughed_40 fl_12_42 <| z_il (pc := 43) C dX12_coughed_43 <| z_ba (pc := 45) C dX12_coughed_45 <| z_ifeq (tgt := 54) (pc := 46) C dX12_coughed_46 (by decide) (z_ic (pc := 54) C dX12_coughed_54 (by decide +kernel) <| z_jmp (hY 2)) <| z_il (pc := 49) C dX12_coughed_49 <| z_goto (tgt := 55) (pc := 51) C dX12_coughed_51 (by decide) <| z_jmp (hY 2))
  | 2 => exact (z_iand (pc := 55) C dX12_coughed_55 <| z_isn (pc := 56) C dX12_coughed_56 rfl (by decide) <| z_iln (pc := 57) C dX12_coughed_57 rfl <| z_aln (pc := 58) C dX12_coughed_58 rfl <| z_gf (pc := 59) C dX12_coughed_59 fl_12_42 <| z_il (pc := 62) C dX12_coughed_62 <| z_ba (pc := 64) C dX12_coughed_64 <| z_ifeq (tgt := 73) (pc := 65) C dX12_coughed_65 (by decide) (z_ic (pc := 73) C dX12_coughed_73 (by decide +kernel) <| z_jmp (hY 3)) <| z_il (pc := 68) C dX12_coughed_68 <| z_goto (tgt := 74) (pc := 70) C dX12_coughed_70 (by decide) <| z_jmp (hY 3))
  | 3 => exact (z_ior (pc := 74) C dX12_coughed_74 <| z_isn (pc := 75) C dX12_coughed_75 rfl (by decide) <| z_inc (pc := 76) C dX12_coughed_76 (by decide +kernel) (by decide) <| z_goto (tgt := 30) (pc := 79) C dX12_coughed_79 (by decide) <| z_jmp (hY 1))
  | b + 4 => exact fun _ _ _ h => h.elim
theorem dX12_next_0 : decode cX12_next 0 = .ok (.aload_n 0, 1) := by decide +kernel
theorem dX12_next_1 : decode cX12_next 1 = .ok (.invokevirtual 187, 3) := by decide +kernel
theorem dX12_next_4 : decode cX12_next 4 = .ok (.iconst (-1), 1) := by decide +kernel
theorem dX12_next_5 : decode cX12_next 5 = .ok (.istore_n 1, 1) := by decide +kernel
theorem dX12_next_6 : decode cX12_next 6 = .ok (.ldc 190, 2) := by decide +kernel
theorem dX12_next_8 : decode cX12_next 8 = .ok (.istore_n 2, 1) := by decide +kernel
theorem dX12_next_9 : decode cX12_next 9 = .ok (.iconst 0, 1) := by decide +kernel
theorem dX12_next_10 : decode cX12_next 10 = .ok (.istore_n 3, 1) := by decide +kernel
theorem dX12_next_11 : decode cX12_next 11 = .ok (.iload_n 3, 1) := by decide +kernel
theorem dX12_next_12 : decode cX12_next 12 = .ok (.bipush 16, 2) := by decide +kernel
theorem dX12_next_14 : decode cX12_next 14 = .ok (.if_icmp .ge 147, 3) := by decide +kernel
theorem dX12_next_17 : decode cX12_next 17 = .ok (.aload_n 0, 1) := by decide +kernel
theorem dX12_next_18 : decode cX12_next 18 = .ok (.getfield 178, 3) := by decide +kernel
theorem dX12_next_21 : decode cX12_next 21 = .ok (.ifCond .le 140, 3) := by decide +kernel
theorem dX12_next_24 : decode cX12_next 24 = .ok (.iconst 0, 1) := by decide +kernel
theorem dX12_next_25 : decode cX12_next 25 = .ok (.istore 4, 2) := by decide +kernel
theorem dX12_next_27 : decode cX12_next 27 = .ok (.iconst 0, 1) := by decide +kernel
theorem dX12_next_28 : decode cX12_next 28 = .ok (.istore 5, 2) := by decide +kernel
theorem dX12_next_30 : decode cX12_next 30 = .ok (.iload 5, 2) := by decide +kernel
theorem dX12_next_32 : decode cX12_next 32 = .ok (.sipush 140, 3) := by decide +kernel
theorem dX12_next_35 : decode cX12_next 35 = .ok (.if_icmp .gt 17, 3) := by decide +kernel
theorem dX12_next_38 : decode cX12_next 38 = .ok (.aload_n 0, 1) := by decide +kernel
theorem dX12_next_39 : decode cX12_next 39 = .ok (.getfield 45, 3) := by decide +kernel
theorem dX12_next_42 : decode cX12_next 42 = .ok (.iload 5, 2) := by decide +kernel
theorem dX12_next_44 : decode cX12_next 44 = .ok (.iconst 0, 1) := by decide +kernel
theorem dX12_next_45 : decode cX12_next 45 = .ok (.iastore, 1) := by decide +kernel
theorem dX12_next_46 : decode cX12_next 46 = .ok (.iinc 5 1, 3) := by decide +kernel
theorem dX12_next_49 : decode cX12_next 49 = .ok (.goto (-19), 3) := by decide +kernel
theorem dX12_next_52 : decode cX12_next 52 = .ok (.iconst 0, 1) := by decide +kernel
theorem dX12_next_53 : decode cX12_next 53 = .ok (.istore 5, 2) := by decide +kernel
theorem dX12_next_55 : decode cX12_next 55 = .ok (.iload 5, 2) := by decide +kernel
theorem dX12_next_57 : decode cX12_next 57 = .ok (.sipush 128, 3) := by decide +kernel
theorem dX12_next_60 : decode cX12_next 60 = .ok (.if_icmp .ge 70, 3) := by decide +kernel
theorem dX12_next_63 : decode cX12_next 63 = .ok (.aload_n 0, 1) := by decide +kernel
theorem dX12_next_64 : decode cX12_next 64 = .ok (.getfield 42, 3) := by decide +kernel
theorem dX12_next_67 : decode cX12_next 67 = .ok (.iload 5, 2) := by decide +kernel
theorem dX12_next_69 : decode cX12_next 69 = .ok (.baload, 1) := by decide +kernel
theorem dX12_next_70 : decode cX12_next 70 = .ok (.ifCond .eq 54, 3) := by decide +kernel
theorem dX12_next_73 : decode cX12_next 73 = .ok (.aload_n 0, 1) := by decide +kernel
theorem dX12_next_74 : decode cX12_next 74 = .ok (.iload 5, 2) := by decide +kernel
theorem dX12_next_76 : decode cX12_next 76 = .ok (.putfield 110, 3) := by decide +kernel
theorem dX12_next_79 : decode cX12_next 79 = .ok (.aload_n 0, 1) := by decide +kernel
theorem dX12_next_80 : decode cX12_next 80 = .ok (.iload_n 3, 1) := by decide +kernel
theorem dX12_next_81 : decode cX12_next 81 = .ok (.iconst 0, 1) := by decide +kernel
theorem dX12_next_82 : decode cX12_next 82 = .ok (.invokevirtual 130, 3) := by decide +kernel
theorem dX12_next_85 : decode cX12_next 85 = .ok (.istore 6, 2) := by decide +kernel
theorem dX12_next_87 : decode cX12_next 87 = .ok (.aload_n 0, 1) := by decide +kernel
theorem dX12_next_88 : decode cX12_next 88 = .ok (.getfield 45, 3) := by decide +kernel
theorem dX12_next_91 : decode cX12_next 91 = .ok (.iload 6, 2) := by decide +kernel
theorem dX12_next_93 : decode cX12_next 93 = .ok (.dup2, 1) := by decide +kernel
theorem dX12_next_94 : decode cX12_next 94 = .ok (.iaload, 1) := by decide +kernel
theorem dX12_next_95 : decode cX12_next 95 = .ok (.iconst 1, 1) := by decide +kernel
theorem dX12_next_96 : decode cX12_next 96 = .ok (.iadd, 1) := by decide +kernel
theorem dX12_next_97 : decode cX12_next 97 = .ok (.iastore, 1) := by decide +kernel
theorem dX12_next_98 : decode cX12_next 98 = .ok (.aload_n 0, 1) := by decide +kernel
theorem dX12_next_99 : decode cX12_next 99 = .ok (.getfield 45, 3) := by decide +kernel
theorem dX12_next_102 : decode cX12_next 102 = .ok (.iload 6, 2) := by decide +kernel
theorem dX12_next_104 : decode cX12_next 104 = .ok (.iaload, 1) := by decide +kernel
theorem dX12_next_105 : decode cX12_next 105 = .ok (.iload 4, 2) := by decide +kernel
theorem dX12_next_107 : decode cX12_next 107 = .ok (.if_icmp .le 13, 3) := by decide +kernel
theorem dX12_next_110 : decode cX12_next 110 = .ok (.aload_n 0, 1) := by decide +kernel
theorem dX12_next_111 : decode cX12_next 111 = .ok (.getfield 45, 3) := by decide +kernel
theorem dX12_next_114 : decode cX12_next 114 = .ok (.iload 6, 2) := by decide +kernel
theorem dX12_next_116 : decode cX12_next 116 = .ok (.iaload, 1) := by decide +kernel
theorem dX12_next_117 : decode cX12_next 117 = .ok (.goto 5, 3) := by decide +kernel
theorem dX12_next_120 : decode cX12_next 120 = .ok (.iload 4, 2) := by decide +kernel
theorem dX12_next_122 : decode cX12_next 122 = .ok (.istore 4, 2) := by decide +kernel
theorem dX12_next_124 : decode cX12_next 124 = .ok (.iinc 5 1, 3) := by decide +kernel
theorem dX12_next_127 : decode cX12_next 127 = .ok (.goto (-72), 3) := by decide +kernel
theorem dX12_next_130 : decode cX12_next 130 = .ok (.iload 4, 2) := by decide +kernel
theorem dX12_next_132 : decode cX12_next 132 = .ok (.iload_n 2, 1) := by decide +kernel
theorem dX12_next_133 : decode cX12_next 133 = .ok (.if_icmp .ge 7, 3) := by decide +kernel
theorem dX12_next_136 : decode cX12_next 136 = .ok (.iload_n 3, 1) := by decide +kernel
theorem dX12_next_137 : decode cX12_next 137 = .ok (.goto 4, 3) := by decide +kernel
theorem dX12_next_140 : decode cX12_next 140 = .ok (.iload_n 1, 1) := by decide +kernel
theorem dX12_next_141 : decode cX12_next 141 = .ok (.istore_n 1, 1) := by decide +kernel
theorem dX12_next_142 : decode cX12_next 142 = .ok (.iload 4, 2) := by decide +kernel
theorem dX12_next_144 : decode cX12_next 144 = .ok (.iload_n 2, 1) := by decide +kernel
theorem dX12_next_145 : decode cX12_next 145 = .ok (.if_icmp .ge 8, 3) := by decide +kernel
theorem dX12_next_148 : decode cX12_next 148 = .ok (.iload 4, 2) := by decide +kernel
theorem dX12_next_150 : decode cX12_next 150 = .ok (.goto 4, 3) := by decide +kernel
theorem dX12_next_153 : decode cX12_next 153 = .ok (.iload_n 2, 1) := by decide +kernel
theorem dX12_next_154 : decode cX12_next 154 = .ok (.istore_n 2, 1) := by decide +kernel
theorem dX12_next_155 : decode cX12_next 155 = .ok (.iinc 3 1, 3) := by decide +kernel
theorem dX12_next_158 : decode cX12_next 158 = .ok (.goto (-147), 3) := by decide +kernel
theorem dX12_next_161 : decode cX12_next 161 = .ok (.iload_n 1, 1) := by decide +kernel
theorem dX12_next_162 : decode cX12_next 162 = .ok (.ireturn, 1) := by decide +kernel
def P_X12_next : Nat → Nat
  | 1 => 11
  | 2 => 30
  | 3 => 55
  | 4 => 122
  | 5 => 124
  | 6 => 141
  | 7 => 154
  | _ => 0
set_option maxRecDepth 100000 in
set_option maxHeartbeats 4000000 in
theorem S_X12_next : zSd yX12_next cX12_next 7 (some .int) { frames := 6, cells := 0, slots := 0, locals := 137 } T_X12_next := by
  refine zMet (pcs := P_X12_next) (F := F_X12_next) (by decide) rfl ?_
  intro p l e s m args below meth c D ids ad A Q Y C hr hk hY b
  match b with
  | 0 => exact (z_aln (pc := 0) C dX12_next_0 rfl <| z_cV (pc := 1) C dX12_next_1 S_X12_layMay rfl (zl4 w_1103 w_1105 wp_39 w_13) w_1106 ds_X12_layMay (zrm rfl rfl (by decide) (by decide)) <| z_ic (pc := 4) C dX12_next_4 (by decide +kernel) <| z_isn (pc := 5) C dX12_next_5 rfl (by decide) <| z_ldc (pc := 6) C dX12_next_6 w_1115 <| z_isn (pc := 8) C dX12_next_8 rfl (by decide) <| z_ic (pc := 9) C dX12_next_9 (by decide +kernel) <| z_isn (pc := 10) C dX12_next_10 rfl (by decide) <| z_jmp (hY 1))
  | 1 => exact (z_iln (pc := 11) C dX12_next_11 rfl <| z_bi (pc := 12) C dX12_next_12 (by decide +kernel) <| z_cmpge (tgt := 161) (pc := 14) C dX12_next_14 (by decide) (z_iln (pc := 161) C dX12_next_161 rfl <| z_ir C hr hk dX12_next_162) <| z_aln (pc := 17) C dX12_next_17 rfl <| z_gf (pc := 18) C dX12_next_18 fl_12_178 <| z_ifle (tgt := 161) (pc := 21) C dX12_next_21 (by decide) (z_iln (pc := 161) C dX12_next_161 rfl <| z_ir C hr hk dX12_next_162) <| z_ic (pc := 24) C dX12_next_24 (by decide +kernel) <| z_is (pc := 25) C dX12_next_25 (by decide) <| z_ic (pc := 27) C dX12_next_27 (by decide +kernel) <| z_is (pc := 28) C dX12_next_28 (by decide) <| z_jmp (hY 2))
  | 2 => exact (z_il (pc := 30) C dX12_next_30 <| z_si (pc := 32) C dX12_next_32 (by decide +kernel) <| z_cmpgt (tgt := 52) (pc := 35) C dX12_next_35 (by decide) (z_ic (pc := 52) C dX12_next_52 (by decide +kernel) <| z_is (pc := 53) C dX12_next_53 (by decide) <| z_jmp (hY 3)) <| z_aln (pc := 38) C dX12_next_38 rfl <| z_gf (pc := 39) C dX12_next_39 fl_12_45 <| z_il (pc := 42) C dX12_next_42 <| z_ic (pc := 44) C dX12_next_44 (by decide +kernel) <| z_iast (pc := 45) C dX12_next_45 <| z_inc (pc := 46) C dX12_next_46 (by decide +kernel) (by decide) <| z_goto (tgt := 30) (pc := 49) C dX12_next_49 (by decide) <| z_jmp (hY 2))
  | 3 => exact (z_il (pc := 55) C dX12_next_55 <| z_si (pc := 57) C dX12_next_57 (by decide +kernel) <| z_cmpge (tgt := 130) (pc := 60) C dX12_next_60 (by decide) (z_il (pc := 130) C dX12_next_130 <| z_iln (pc := 132) C dX12_next_132 rfl <| z_cmpge (tgt := 140) (pc := 133) C dX12_next_133 (by decide) (z_iln (pc := 140) C dX12_next_140 rfl <| z_jmp (hY 6)) <| z_iln (pc := 136) C dX12_next_136 rfl <| z_goto (tgt := 141) (pc := 137) C dX12_next_137 (by decide) <| z_jmp (hY 6)) <| z_aln (pc := 63) C dX12_next_63 rfl <| z_gf (pc := 64) C dX12_next_64 fl_12_42 <| z_il (pc := 67) C dX12_next_67 <| z_ba (pc := 69) C dX12_next_69 <| z_ifeq (tgt := 124) (pc := 70) C dX12_next_70 (by decide) (z_jmp (hY 5)) <| z_aln (pc := 73) C dX12_next_73 rfl <| z_il (pc := 74) C dX12_next_74 <| z_pf (pc := 76) C dX12_next_76 fp_12_110 <| z_aln (pc := 79) C dX12_next_79 rfl <| z_iln (pc := 80) C dX12_next_80 rfl <| z_ic (pc := 81) C dX12_next_81 (by decide +kernel) <| z_cV (pc := 82) C dX12_next_82 S_X12_loudOf rfl (zl4 w_1041 w_1043 wp_33 w_13) w_1044 ds_X12_loudOf (zrm rfl rfl (by decide) (by decide)) <| z_is (pc := 85) C dX12_next_85 (by decide) <| z_aln (pc := 87) C dX12_next_87 rfl <| z_gf (pc := 88) C dX12_next_88 fl_12_45 <| z_il (pc := 91) C dX12_next_91 <| z_dup2 (pc := 93) C dX12_next_93 <| z_ia (pc := 94) C dX12_next_94 <| z_ic (pc := 95) C dX12_next_95 (by decide +kernel) <| z_iadd (pc := 96) C dX12_next_96 <| z_iast (pc := 97) C dX12_next_97 <| z_aln (pc := 98) C dX12_next_98 rfl <| z_gf (pc := 99) C dX12_next_99 fl_12_45 <| z_il (pc := 102) C dX12_next_102 <| z_ia (pc := 104) C dX12_next_104 <| z_il (pc := 105) C dX12_next_105 <| z_cmple (tgt := 120) (pc := 107) C dX12_next_107 (by decide) (z_il (pc := 120) C dX12_next_120 <| z_jmp (hY 4)) <| z_aln (pc := 110) C dX12_next_110 rfl <| z_gf (pc := 111) C dX12_next_111 fl_12_45 <| z_il (pc := 114) C dX12_next_114 <| z_ia (pc := 116) C dX12_next_116 <| z_goto (tgt := 122) (pc := 117) C dX12_next_117 (by decide) <| z_jmp (hY 4))
  | 4 => exact (z_is (pc := 122) C dX12_next_122 (by decide) <| z_jmp (hY 5))
  | 5 => exact (z_inc (pc := 124) C dX12_next_124 (by decide +kernel) (by decide) <| z_goto (tgt := 55) (pc := 127) C dX12_next_127 (by decide) <| z_jmp (hY 3))
  | 6 => exact (z_isn (pc := 141) C dX12_next_141 rfl (by decide) <| z_il (pc := 142) C dX12_next_142 <| z_iln (pc := 144) C dX12_next_144 rfl <| z_cmpge (tgt := 153) (pc := 145) C dX12_next_145 (by decide) (z_iln (pc := 153) C dX12_next_153 rfl <| z_jmp (hY 7)) <| z_il (pc := 148) C dX12_next_148 <| z_goto (tgt := 154) (pc := 150) C dX12_next_150 (by decide) <| z_jmp (hY 7))
  | 7 => exact (z_isn (pc := 154) C dX12_next_154 rfl (by decide) <| z_inc (pc := 155) C dX12_next_155 (by decide +kernel) (by decide) <| z_goto (tgt := 11) (pc := 158) C dX12_next_158 (by decide) <| z_jmp (hY 1))
  | b + 8 => exact fun _ _ _ h => h.elim
