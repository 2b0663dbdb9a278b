/-! Soundness of methods: by program. -/
theorem dX12_voices_0 : decode cX12_voices 0 = .ok (.aload_n 0, 1) := by decide +kernel
theorem dX12_voices_1 : decode cX12_voices 1 = .ok (.getfield 110, 3) := by decide +kernel
theorem dX12_voices_4 : decode cX12_voices 4 = .ok (.iload_n 1, 1) := by decide +kernel
theorem dX12_voices_5 : decode cX12_voices 5 = .ok (.invokestatic 118, 3) := by decide +kernel
theorem dX12_voices_8 : decode cX12_voices 8 = .ok (.ifCond .ne 12, 3) := by decide +kernel
theorem dX12_voices_11 : decode cX12_voices 11 = .ok (.aload_n 0, 1) := by decide +kernel
theorem dX12_voices_12 : decode cX12_voices 12 = .ok (.iload_n 1, 1) := by decide +kernel
theorem dX12_voices_13 : decode cX12_voices 13 = .ok (.iload_n 2, 1) := by decide +kernel
theorem dX12_voices_14 : decode cX12_voices 14 = .ok (.invokevirtual 121, 3) := by decide +kernel
theorem dX12_voices_17 : decode cX12_voices 17 = .ok (.ifCond .eq 7, 3) := by decide +kernel
theorem dX12_voices_20 : decode cX12_voices 20 = .ok (.iconst 0, 1) := by decide +kernel
theorem dX12_voices_21 : decode cX12_voices 21 = .ok (.goto 9, 3) := by decide +kernel
theorem dX12_voices_24 : decode cX12_voices 24 = .ok (.aload_n 0, 1) := by decide +kernel
theorem dX12_voices_25 : decode cX12_voices 25 = .ok (.iload_n 1, 1) := by decide +kernel
theorem dX12_voices_26 : decode cX12_voices 26 = .ok (.iconst 3, 1) := by decide +kernel
theorem dX12_voices_27 : decode cX12_voices 27 = .ok (.invokevirtual 114, 3) := by decide +kernel
theorem dX12_voices_30 : decode cX12_voices 30 = .ok (.istore_n 3, 1) := by decide +kernel
theorem dX12_voices_31 : decode cX12_voices 31 = .ok (.iload_n 3, 1) := by decide +kernel
theorem dX12_voices_32 : decode cX12_voices 32 = .ok (.ifCond .le 9, 3) := by decide +kernel
theorem dX12_voices_35 : decode cX12_voices 35 = .ok (.iload_n 3, 1) := by decide +kernel
theorem dX12_voices_36 : decode cX12_voices 36 = .ok (.iconst 1, 1) := by decide +kernel
theorem dX12_voices_37 : decode cX12_voices 37 = .ok (.isub, 1) := by decide +kernel
theorem dX12_voices_38 : decode cX12_voices 38 = .ok (.goto 4, 3) := by decide +kernel
theorem dX12_voices_41 : decode cX12_voices 41 = .ok (.iconst 0, 1) := by decide +kernel
theorem dX12_voices_42 : decode cX12_voices 42 = .ok (.istore 4, 2) := by decide +kernel
theorem dX12_voices_44 : decode cX12_voices 44 = .ok (.aload_n 0, 1) := by decide +kernel
theorem dX12_voices_45 : decode cX12_voices 45 = .ok (.getfield 27, 3) := by decide +kernel
theorem dX12_voices_48 : decode cX12_voices 48 = .ok (.iload_n 1, 1) := by decide +kernel
theorem dX12_voices_49 : decode cX12_voices 49 = .ok (.iaload, 1) := by decide +kernel
theorem dX12_voices_50 : decode cX12_voices 50 = .ok (.iconst 1, 1) := by decide +kernel
theorem dX12_voices_51 : decode cX12_voices 51 = .ok (.if_icmp .eq 13, 3) := by decide +kernel
theorem dX12_voices_54 : decode cX12_voices 54 = .ok (.aload_n 0, 1) := by decide +kernel
theorem dX12_voices_55 : decode cX12_voices 55 = .ok (.getfield 27, 3) := by decide +kernel
theorem dX12_voices_58 : decode cX12_voices 58 = .ok (.iload_n 1, 1) := by decide +kernel
theorem dX12_voices_59 : decode cX12_voices 59 = .ok (.iaload, 1) := by decide +kernel
theorem dX12_voices_60 : decode cX12_voices 60 = .ok (.iconst 4, 1) := by decide +kernel
theorem dX12_voices_61 : decode cX12_voices 61 = .ok (.if_icmp .ne 9, 3) := by decide +kernel
theorem dX12_voices_64 : decode cX12_voices 64 = .ok (.iload_n 3, 1) := by decide +kernel
theorem dX12_voices_65 : decode cX12_voices 65 = .ok (.iconst 2, 1) := by decide +kernel
theorem dX12_voices_66 : decode cX12_voices 66 = .ok (.idiv, 1) := by decide +kernel
theorem dX12_voices_67 : decode cX12_voices 67 = .ok (.goto 19, 3) := by decide +kernel
theorem dX12_voices_70 : decode cX12_voices 70 = .ok (.aload_n 0, 1) := by decide +kernel
theorem dX12_voices_71 : decode cX12_voices 71 = .ok (.getfield 27, 3) := by decide +kernel
theorem dX12_voices_74 : decode cX12_voices 74 = .ok (.iload_n 1, 1) := by decide +kernel
theorem dX12_voices_75 : decode cX12_voices 75 = .ok (.iaload, 1) := by decide +kernel
theorem dX12_voices_76 : decode cX12_voices 76 = .ok (.iconst 5, 1) := by decide +kernel
theorem dX12_voices_77 : decode cX12_voices 77 = .ok (.if_icmp .ne 8, 3) := by decide +kernel
theorem dX12_voices_80 : decode cX12_voices 80 = .ok (.iload 4, 2) := by decide +kernel
theorem dX12_voices_82 : decode cX12_voices 82 = .ok (.goto 4, 3) := by decide +kernel
theorem dX12_voices_85 : decode cX12_voices 85 = .ok (.iload_n 3, 1) := by decide +kernel
theorem dX12_voices_86 : decode cX12_voices 86 = .ok (.ireturn, 1) := by decide +kernel
def P_X12_voices : Nat → Nat
  | 1 => 20
  | 2 => 30
  | 3 => 42
  | 4 => 64
  | _ => 0
set_option maxRecDepth 100000 in
set_option maxHeartbeats 4000000 in
theorem S_X12_voices : zSd yX12_voices cX12_voices 5 (some .int) { frames := 2, cells := 0, slots := 0, locals := 45 } T_X12_voices := by
  refine zMet (pcs := P_X12_voices) (F := F_X12_voices) (by decide) rfl ?_
  intro p l e s m args below meth c D ids ad A Q Y C hr hk hY b
  match b with
  | 0 => exact (z_aln (pc := 0) C dX12_voices_0 rfl <| z_gf (pc := 1) C dX12_voices_1 fl_12_110 <| z_iln (pc := 4) C dX12_voices_4 rfl <| z_cS (pc := 5) C dX12_voices_5 S_X12_has (zl3 w_1014 w_1015 w_13) w_1016 ds_X12_has (zrm rfl rfl (by decide) (by decide)) <| z_ifne (tgt := 20) (pc := 8) C dX12_voices_8 (by decide) (z_jmp (hY 1)) <| z_aln (pc := 11) C dX12_voices_11 rfl <| z_iln (pc := 12) C dX12_voices_12 rfl <| z_iln (pc := 13) C dX12_voices_13 rfl <| z_cV (pc := 14) C dX12_voices_14 S_X12_kneels rfl (zl4 w_1010 w_1012 wp_29 w_13) w_1013 ds_X12_kneels (zrm rfl rfl (by decide) (by decide)) <| z_ifeq (tgt := 24) (pc := 17) C dX12_voices_17 (by decide) (z_aln (pc := 24) C dX12_voices_24 rfl <| z_iln (pc := 25) C dX12_voices_25 rfl <| z_ic (pc := 26) C dX12_voices_26 (by decide +kernel) <| z_cV (pc := 27) C dX12_voices_27 S_X12_get rfl (zl4 w_973 w_975 wp_25 w_13) w_976 ds_X12_get (zrm rfl rfl (by decide) (by decide)) <| z_jmp (hY 2)) <| z_jmp (hY 1))
  | 1 => exact (z_ic (pc := 20) C dX12_voices_20 (by decide +kernel) <| z_goto (tgt := 30) (pc := 21) C dX12_voices_21 (by decide) <| z_jmp (hY 2))
  | 2 => exact (z_isn (pc := 30) C dX12_voices_30 rfl (by decide) <| z_iln (pc := 31) C dX12_voices_31 rfl <| z_ifle (tgt := 41) (pc := 32) C dX12_voices_32 (by decide) (z_ic (pc := 41) C dX12_voices_41 (by decide +kernel) <| z_jmp (hY 3)) <| z_iln (pc := 35) C dX12_voices_35 rfl <| z_ic (pc := 36) C dX12_voices_36 (by decide +kernel) <| z_isub (pc := 37) C dX12_voices_37 <| z_goto (tgt := 42) (pc := 38) C dX12_voices_38 (by decide) <| z_jmp (hY 3))
  | 3 => exact (z_is (pc := 42) C dX12_voices_42 (by decide) <| z_aln (pc := 44) C dX12_voices_44 rfl <| z_gf (pc := 45) C dX12_voices_45 fl_12_27 <| z_iln (pc := 48) C dX12_voices_48 rfl <| z_ia (pc := 49) C dX12_voices_49 <| z_ic (pc := 50) C dX12_voices_50 (by decide +kernel) <| z_cmpeq (tgt := 64) (pc := 51) C dX12_voices_51 (by decide) (z_jmp (hY 4)) <| z_aln (pc := 54) C dX12_voices_54 rfl <| z_gf (pc := 55) C dX12_voices_55 fl_12_27 <| z_iln (pc := 58) C dX12_voices_58 rfl <| z_ia (pc := 59) C dX12_voices_59 <| z_ic (pc := 60) C dX12_voices_60 (by decide +kernel) <| z_cmpne (tgt := 70) (pc := 61) C dX12_voices_61 (by decide) (z_aln (pc := 70) C dX12_voices_70 rfl <| z_gf (pc := 71) C dX12_voices_71 fl_12_27 <| z_iln (pc := 74) C dX12_voices_74 rfl <| z_ia (pc := 75) C dX12_voices_75 <| z_ic (pc := 76) C dX12_voices_76 (by decide +kernel) <| z_cmpne (tgt := 85) (pc := 77) C dX12_voices_77 (by decide) (z_iln (pc := 85) C dX12_voices_85 rfl <| z_ir C hr hk dX12_voices_86) <| z_il (pc := 80) C dX12_voices_80 <| z_goto (tgt := 86) (pc := 82) C dX12_voices_82 (by decide) <| z_ir C hr hk dX12_voices_86) <| z_jmp (hY 4))
  | 4 => exact (z_iln (pc := 64) C dX12_voices_64 rfl <| z_ic (pc := 65) C dX12_voices_65 (by decide +kernel) <| z_idiv (pc := 66) C dX12_voices_66 <| z_goto (tgt := 86) (pc := 67) C dX12_voices_67 (by decide) <| z_ir C hr hk dX12_voices_86)
  | b + 5 => exact fun _ _ _ h => h.elim
theorem dX12_sees_0 : decode cX12_sees 0 = .ok (.iconst 1, 1) := by decide +kernel
theorem dX12_sees_1 : decode cX12_sees 1 = .ok (.istore_n 3, 1) := by decide +kernel
theorem dX12_sees_2 : decode cX12_sees 2 = .ok (.iconst 0, 1) := by decide +kernel
theorem dX12_sees_3 : decode cX12_sees 3 = .ok (.istore 4, 2) := by decide +kernel
theorem dX12_sees_5 : decode cX12_sees 5 = .ok (.iload 4, 2) := by decide +kernel
theorem dX12_sees_7 : decode cX12_sees 7 = .ok (.aload_n 0, 1) := by decide +kernel
theorem dX12_sees_8 : decode cX12_sees 8 = .ok (.invokevirtual 64, 3) := by decide +kernel
theorem dX12_sees_11 : decode cX12_sees 11 = .ok (.if_icmp .ge 51, 3) := by decide +kernel
theorem dX12_sees_14 : decode cX12_sees 14 = .ok (.iload_n 3, 1) := by decide +kernel
theorem dX12_sees_15 : decode cX12_sees 15 = .ok (.ifCond .eq 39, 3) := by decide +kernel
theorem dX12_sees_18 : decode cX12_sees 18 = .ok (.aload_n 0, 1) := by decide +kernel
theorem dX12_sees_19 : decode cX12_sees 19 = .ok (.getfield 33, 3) := by decide +kernel
theorem dX12_sees_22 : decode cX12_sees 22 = .ok (.iload 4, 2) := by decide +kernel
theorem dX12_sees_24 : decode cX12_sees 24 = .ok (.iaload, 1) := by decide +kernel
theorem dX12_sees_25 : decode cX12_sees 25 = .ok (.aload_n 0, 1) := by decide +kernel
theorem dX12_sees_26 : decode cX12_sees 26 = .ok (.getfield 33, 3) := by decide +kernel
theorem dX12_sees_29 : decode cX12_sees 29 = .ok (.iload_n 1, 1) := by decide +kernel
theorem dX12_sees_30 : decode cX12_sees 30 = .ok (.iaload, 1) := by decide +kernel
theorem dX12_sees_31 : decode cX12_sees 31 = .ok (.if_icmp .ge 19, 3) := by decide +kernel
theorem dX12_sees_34 : decode cX12_sees 34 = .ok (.aload_n 0, 1) := by decide +kernel
theorem dX12_sees_35 : decode cX12_sees 35 = .ok (.iload 4, 2) := by decide +kernel
theorem dX12_sees_37 : decode cX12_sees 37 = .ok (.iload_n 2, 1) := by decide +kernel
theorem dX12_sees_38 : decode cX12_sees 38 = .ok (.invokevirtual 124, 3) := by decide +kernel
theorem dX12_sees_41 : decode cX12_sees 41 = .ok (.aload_n 0, 1) := by decide +kernel
theorem dX12_sees_42 : decode cX12_sees 42 = .ok (.iload_n 1, 1) := by decide +kernel
theorem dX12_sees_43 : decode cX12_sees 43 = .ok (.iload_n 2, 1) := by decide +kernel
theorem dX12_sees_44 : decode cX12_sees 44 = .ok (.invokevirtual 124, 3) := by decide +kernel
theorem dX12_sees_47 : decode cX12_sees 47 = .ok (.if_icmp .ge 7, 3) := by decide +kernel
theorem dX12_sees_50 : decode cX12_sees 50 = .ok (.iconst 1, 1) := by decide +kernel
theorem dX12_sees_51 : decode cX12_sees 51 = .ok (.goto 4, 3) := by decide +kernel
theorem dX12_sees_54 : decode cX12_sees 54 = .ok (.iconst 0, 1) := by decide +kernel
theorem dX12_sees_55 : decode cX12_sees 55 = .ok (.istore_n 3, 1) := by decide +kernel
theorem dX12_sees_56 : decode cX12_sees 56 = .ok (.iinc 4 1, 3) := by decide +kernel
theorem dX12_sees_59 : decode cX12_sees 59 = .ok (.goto (-54), 3) := by decide +kernel
theorem dX12_sees_62 : decode cX12_sees 62 = .ok (.iload_n 3, 1) := by decide +kernel
theorem dX12_sees_63 : decode cX12_sees 63 = .ok (.ireturn, 1) := by decide +kernel
def P_X12_sees : Nat → Nat
  | 1 => 5
  | 2 => 50
  | 3 => 54
  | 4 => 55
  | _ => 0
set_option maxRecDepth 100000 in
set_option maxHeartbeats 4000000 in
theorem S_X12_sees : zSd yX12_sees cX12_sees 5 (some .boolean) { frames := 3, cells := 0, slots := 0, locals := 69 } T_X12_sees := by
  refine zMet (pcs := P_X12_sees) (F := F_X12_sees) (by decide) rfl ?_
  intro p l e s m args below meth c D ids ad A Q Y C hr hk hY b
  match b with
  | 0 => exact (z_ic (pc := 0) C dX12_sees_0 (by decide +kernel) <| z_isn (pc := 1) C dX12_sees_1 rfl (by decide) <| z_ic (pc := 2) C dX12_sees_2 (by decide +kernel) <| z_is (pc := 3) C dX12_sees_3 (by decide) <| z_jmp (hY 1))
  | 1 => exact (z_il (pc := 5) C dX12_sees_5 <| z_aln (pc := 7) C dX12_sees_7 rfl <| z_cV (pc := 8) C dX12_sees_8 S_X12_many rfl (zl4 w_929 w_931 wp_21 w_13) w_932 ds_X12_many (zrm rfl rfl (by decide) (by decide)) <| z_cmpge (tgt := 62) (pc := 11) C dX12_sees_11 (by decide) (z_iln (pc := 62) C dX12_sees_62 rfl <| z_zr C hr hk dX12_sees_63) <| z_iln (pc := 14) C dX12_sees_14 rfl <| z_ifeq (tgt := 54) (pc := 15) C dX12_sees_15 (by decide) (z_jmp (hY 3)) <| z_aln (pc := 18) C dX12_sees_18 rfl <| z_gf (pc := 19) C dX12_sees_19 fl_12_33 <| z_il (pc := 22) C dX12_sees_22 <| z_ia (pc := 24) C dX12_sees_24 <| z_aln (pc := 25) C dX12_sees_25 rfl <| z_gf (pc := 26) C dX12_sees_26 fl_12_33 <| z_iln (pc := 29) C dX12_sees_29 rfl <| z_ia (pc := 30) C dX12_sees_30 <| z_cmpge (tgt := 50) (pc := 31) C dX12_sees_31 (by decide) (z_jmp (hY 2)) <| z_aln (pc := 34) C dX12_sees_34 rfl <| z_il (pc := 35) C dX12_sees_35 <| z_iln (pc := 37) C dX12_sees_37 rfl <| z_cV (pc := 38) C dX12_sees_38 S_X12_high rfl (zl4 w_1017 w_1019 wp_30 w_13) w_1020 ds_X12_high (zrm rfl rfl (by decide) (by decide)) <| z_aln (pc := 41) C dX12_sees_41 rfl <| z_iln (pc := 42) C dX12_sees_42 rfl <| z_iln (pc := 43) C dX12_sees_43 rfl <| z_cV (pc := 44) C dX12_sees_44 S_X12_high rfl (zl4 w_1017 w_1019 wp_30 w_13) w_1020 ds_X12_high (zrm rfl rfl (by decide) (by decide)) <| z_cmpge (tgt := 54) (pc := 47) C dX12_sees_47 (by decide) (z_jmp (hY 3)) <| z_jmp (hY 2))
  | 2 => exact (z_ic (pc := 50) C dX12_sees_50 (by decide +kernel) <| z_goto (tgt := 55) (pc := 51) C dX12_sees_51 (by decide) <| z_jmp (hY 4))
  | 3 => exact (z_ic (pc := 54) C dX12_sees_54 (by decide +kernel) <| z_jmp (hY 4))
  | 4 => exact (z_isn (pc := 55) C dX12_sees_55 rfl (by decide) <| z_inc (pc := 56) C dX12_sees_56 (by decide +kernel) (by decide) <| z_goto (tgt := 5) (pc := 59) C dX12_sees_59 (by decide) <| z_jmp (hY 1))
  | b + 5 => exact fun _ _ _ h => h.elim
theorem dX12_loudOf_0 : decode cX12_loudOf 0 = .ok (.iconst 0, 1) := by decide +kernel
theorem dX12_loudOf_1 : decode cX12_loudOf 1 = .ok (.istore_n 3, 1) := by decide +kernel
theorem dX12_loudOf_2 : decode cX12_loudOf 2 = .ok (.iconst 0, 1) := by decide +kernel
theorem dX12_loudOf_3 : decode cX12_loudOf 3 = .ok (.istore 4, 2) := by decide +kernel
theorem dX12_loudOf_5 : decode cX12_loudOf 5 = .ok (.iload 4, 2) := by decide +kernel
theorem dX12_loudOf_7 : decode cX12_loudOf 7 = .ok (.aload_n 0, 1) := by decide +kernel
theorem dX12_loudOf_8 : decode cX12_loudOf 8 = .ok (.invokevirtual 64, 3) := by decide +kernel
theorem dX12_loudOf_11 : decode cX12_loudOf 11 = .ok (.if_icmp .ge 34, 3) := by decide +kernel
theorem dX12_loudOf_14 : decode cX12_loudOf 14 = .ok (.iload_n 3, 1) := by decide +kernel
theorem dX12_loudOf_15 : decode cX12_loudOf 15 = .ok (.aload_n 0, 1) := by decide +kernel
theorem dX12_loudOf_16 : decode cX12_loudOf 16 = .ok (.getfield 30, 3) := by decide +kernel
theorem dX12_loudOf_19 : decode cX12_loudOf 19 = .ok (.iload 4, 2) := by decide +kernel
theorem dX12_loudOf_21 : decode cX12_loudOf 21 = .ok (.iaload, 1) := by decide +kernel
theorem dX12_loudOf_22 : decode cX12_loudOf 22 = .ok (.iload_n 2, 1) := by decide +kernel
theorem dX12_loudOf_23 : decode cX12_loudOf 23 = .ok (.if_icmp .ne 13, 3) := by decide +kernel
theorem dX12_loudOf_26 : decode cX12_loudOf 26 = .ok (.aload_n 0, 1) := by decide +kernel
theorem dX12_loudOf_27 : decode cX12_loudOf 27 = .ok (.iload 4, 2) := by decide +kernel
theorem dX12_loudOf_29 : decode cX12_loudOf 29 = .ok (.iload_n 1, 1) := by decide +kernel
theorem dX12_loudOf_30 : decode cX12_loudOf 30 = .ok (.invokevirtual 127, 3) := by decide +kernel
theorem dX12_loudOf_33 : decode cX12_loudOf 33 = .ok (.goto 4, 3) := by decide +kernel
theorem dX12_loudOf_36 : decode cX12_loudOf 36 = .ok (.iconst 0, 1) := by decide +kernel
theorem dX12_loudOf_37 : decode cX12_loudOf 37 = .ok (.iadd, 1) := by decide +kernel
theorem dX12_loudOf_38 : decode cX12_loudOf 38 = .ok (.istore_n 3, 1) := by decide +kernel
theorem dX12_loudOf_39 : decode cX12_loudOf 39 = .ok (.iinc 4 1, 3) := by decide +kernel
theorem dX12_loudOf_42 : decode cX12_loudOf 42 = .ok (.goto (-37), 3) := by decide +kernel
theorem dX12_loudOf_45 : decode cX12_loudOf 45 = .ok (.iload_n 3, 1) := by decide +kernel
theorem dX12_loudOf_46 : decode cX12_loudOf 46 = .ok (.ireturn, 1) := by decide +kernel
def P_X12_loudOf : Nat → Nat
  | 1 => 5
  | 2 => 37
  | _ => 0
set_option maxRecDepth 100000 in
set_option maxHeartbeats 4000000 in
theorem S_X12_loudOf : zSd yX12_loudOf cX12_loudOf 5 (some .int) { frames := 3, cells := 0, slots := 0, locals := 69 } T_X12_loudOf := by
  refine zMet (pcs := P_X12_loudOf) (F := F_X12_loudOf) (by decide) rfl ?_
  intro p l e s m args below meth c D ids ad A Q Y C hr hk hY b
  match b with
  | 0 => exact (z_ic (pc := 0) C dX12_loudOf_0 (by decide +kernel) <| z_isn (pc := 1) C dX12_loudOf_1 rfl (by decide) <| z_ic (pc := 2) C dX12_loudOf_2 (by decide +kernel) <| z_is (pc := 3) C dX12_loudOf_3 (by decide) <| z_jmp (hY 1))
  | 1 => exact (z_il (pc := 5) C dX12_loudOf_5 <| z_aln (pc := 7) C dX12_loudOf_7 rfl <| z_cV (pc := 8) C dX12_loudOf_8 S_X12_many rfl (zl4 w_929 w_931 wp_21 w_13) w_932 ds_X12_many (zrm rfl rfl (by decide) (by decide)) <| z_cmpge (tgt := 45) (pc := 11) C dX12_loudOf_11 (by decide) (z_iln (pc := 45) C dX12_loudOf_45 rfl <| z_ir C hr hk dX12_loudOf_46) <| z_iln (pc := 14) C dX12_loudOf_14 rfl <| z_aln (pc := 15) C dX12_loudOf_15 rfl <| z_gf (pc := 16) C dX12_loudOf_16 fl_12_30 <| z_il (pc := 19) C dX12_loudOf_19 <| z_ia (pc := 21) C dX12_loudOf_21 <| z_iln (pc := 22) C dX12_loudOf_22 rfl <| z_cmpne (tgt := 36) (pc := 23) C dX12_loudOf_23 (by decide) (z_ic (pc := 36) C dX12_loudOf_36 (by decide +kernel) <| z_jmp (hY 2)) <| z_aln (pc := 26) C dX12_loudOf_26 rfl <| z_il (pc := 27) C dX12_loudOf_27 <| z_iln (pc := 29) C dX12_loudOf_29 rfl <| z_cV (pc := 30) C dX12_loudOf_30 S_X12_voices rfl (zl4 w_1021 w_1023 wp_31 w_13) w_1024 ds_X12_voices (zrm rfl rfl (by decide) (by decide)) <| z_goto (tgt := 37) (pc := 33) C dX12_loudOf_33 (by decide) <| z_jmp (hY 2))
  | 2 => exact (z_iadd (pc := 37) C dX12_loudOf_37 <| z_isn (pc := 38) C dX12_loudOf_38 rfl (by decide) <| z_inc (pc := 39) C dX12_loudOf_39 (by decide +kernel) (by decide) <| z_goto (tgt := 5) (pc := 42) C dX12_loudOf_42 (by decide) <| z_jmp (hY 1))
  | b + 3 => exact fun _ _ _ h => h.elim
theorem dX12_isPeace_0 : decode cX12_isPeace 0 = .ok (.aload_n 0, 1) := by decide +kernel
theorem dX12_isPeace_1 : decode cX12_isPeace 1 = .ok (.iload_n 1, 1) := by decide +kernel
theorem dX12_isPeace_2 : decode cX12_isPeace 2 = .ok (.iconst 0, 1) := by decide +kernel
theorem dX12_isPeace_3 : decode cX12_isPeace 3 = .ok (.invokevirtual 130, 3) := by decide +kernel
theorem dX12_isPeace_6 : decode cX12_isPeace 6 = .ok (.aload_n 0, 1) := by decide +kernel
theorem dX12_isPeace_7 : decode cX12_isPeace 7 = .ok (.iload_n 1, 1) := by decide +kernel
theorem dX12_isPeace_8 : decode cX12_isPeace 8 = .ok (.iconst 1, 1) := by decide +kernel
theorem dX12_isPeace_9 : decode cX12_isPeace 9 = .ok (.invokevirtual 130, 3) := by decide +kernel
theorem dX12_isPeace_12 : decode cX12_isPeace 12 = .ok (.isub, 1) := by decide +kernel
theorem dX12_isPeace_13 : decode cX12_isPeace 13 = .ok (.istore_n 2, 1) := by decide +kernel
theorem dX12_isPeace_14 : decode cX12_isPeace 14 = .ok (.iload_n 2, 1) := by decide +kernel
theorem dX12_isPeace_15 : decode cX12_isPeace 15 = .ok (.i2l, 1) := by decide +kernel
theorem dX12_isPeace_16 : decode cX12_isPeace 16 = .ok (.aload_n 0, 1) := by decide +kernel
theorem dX12_isPeace_17 : decode cX12_isPeace 17 = .ok (.getfield 7, 3) := by decide +kernel
theorem dX12_isPeace_20 : decode cX12_isPeace 20 = .ok (.iconst 1, 1) := by decide +kernel
theorem dX12_isPeace_21 : decode cX12_isPeace 21 = .ok (.iaload, 1) := by decide +kernel
theorem dX12_isPeace_22 : decode cX12_isPeace 22 = .ok (.ineg, 1) := by decide +kernel
theorem dX12_isPeace_23 : decode cX12_isPeace 23 = .ok (.i2l, 1) := by decide +kernel
theorem dX12_isPeace_24 : decode cX12_isPeace 24 = .ok (.aload_n 0, 1) := by decide +kernel
theorem dX12_isPeace_25 : decode cX12_isPeace 25 = .ok (.getfield 7, 3) := by decide +kernel
theorem dX12_isPeace_28 : decode cX12_isPeace 28 = .ok (.iconst 1, 1) := by decide +kernel
theorem dX12_isPeace_29 : decode cX12_isPeace 29 = .ok (.iaload, 1) := by decide +kernel
theorem dX12_isPeace_30 : decode cX12_isPeace 30 = .ok (.i2l, 1) := by decide +kernel
theorem dX12_isPeace_31 : decode cX12_isPeace 31 = .ok (.invokestatic 68, 3) := by decide +kernel
theorem dX12_isPeace_34 : decode cX12_isPeace 34 = .ok (.ireturn, 1) := by decide +kernel
def P_X12_isPeace : Nat → Nat
  | _ => 0
set_option maxRecDepth 100000 in
set_option maxHeartbeats 4000000 in
theorem S_X12_isPeace : zSd yX12_isPeace cX12_isPeace 3 (some .boolean) { frames := 4, cells := 0, slots := 0, locals := 93 } T_X12_isPeace := by
  refine zMet (pcs := P_X12_isPeace) (F := F_X12_isPeace) (by decide) rfl ?_
  intro p l e s m args below meth c D ids ad A Q Y C hr hk hY b
  match b with
  | 0 => exact (z_aln (pc := 0) C dX12_isPeace_0 rfl <| z_iln (pc := 1) C dX12_isPeace_1 rfl <| z_ic (pc := 2) C dX12_isPeace_2 (by decide +kernel) <| z_cV (pc := 3) C dX12_isPeace_3 S_X12_loudOf rfl (zl4 w_1041 w_1043 wp_33 w_13) w_1044 ds_X12_loudOf (zrm rfl rfl (by decide) (by decide)) <| z_aln (pc := 6) C dX12_isPeace_6 rfl <| z_iln (pc := 7) C dX12_isPeace_7 rfl <| z_ic (pc := 8) C dX12_isPeace_8 (by decide +kernel) <| z_cV (pc := 9) C dX12_isPeace_9 S_X12_loudOf rfl (zl4 w_1041 w_1043 wp_33 w_13) w_1044 ds_X12_loudOf (zrm rfl rfl (by decide) (by decide)) <| z_isub (pc := 12) C dX12_isPeace_12 <| z_isn (pc := 13) C dX12_isPeace_13 rfl (by decide) <| z_iln (pc := 14) C dX12_isPeace_14 rfl <| z_i2l (pc := 15) C dX12_isPeace_15 <| z_aln (pc := 16) C dX12_isPeace_16 rfl <| z_gf (pc := 17) C dX12_isPeace_17 fl_12_7 <| z_ic (pc := 20) C dX12_isPeace_20 (by decide +kernel) <| z_ia (pc := 21) C dX12_isPeace_21 <| z_ineg (pc := 22) C dX12_isPeace_22 <| z_i2l (pc := 23) C dX12_isPeace_23 <| z_aln (pc := 24) C dX12_isPeace_24 rfl <| z_gf (pc := 25) C dX12_isPeace_25 fl_12_7 <| z_ic (pc := 28) C dX12_isPeace_28 (by decide +kernel) <| z_ia (pc := 29) C dX12_isPeace_29 <| z_i2l (pc := 30) C dX12_isPeace_30 <| z_cS (pc := 31) C dX12_isPeace_31 S_X12_in (zl3 w_922 w_923 w_13) w_924 ds_X12_in (zrm rfl rfl (by decide) (by decide)) <| z_zr C hr hk dX12_isPeace_34)
  | b + 1 => exact fun _ _ _ h => h.elim
theorem dX12_peaces_0 : decode cX12_peaces 0 = .ok (.iconst 0, 1) := by decide +kernel
theorem dX12_peaces_1 : decode cX12_peaces 1 = .ok (.istore_n 1, 1) := by decide +kernel
theorem dX12_peaces_2 : decode cX12_peaces 2 = .ok (.iconst 0, 1) := by decide +kernel
theorem dX12_peaces_3 : decode cX12_peaces 3 = .ok (.istore_n 2, 1) := by decide +kernel
theorem dX12_peaces_4 : decode cX12_peaces 4 = .ok (.iload_n 2, 1) := by decide +kernel
theorem dX12_peaces_5 : decode cX12_peaces 5 = .ok (.bipush 16, 2) := by decide +kernel
theorem dX12_peaces_7 : decode cX12_peaces 7 = .ok (.if_icmp .ge 25, 3) := by decide +kernel
theorem dX12_peaces_10 : decode cX12_peaces 10 = .ok (.iload_n 1, 1) := by decide +kernel
theorem dX12_peaces_11 : decode cX12_peaces 11 = .ok (.aload_n 0, 1) := by decide +kernel
theorem dX12_peaces_12 : decode cX12_peaces 12 = .ok (.iload_n 2, 1) := by decide +kernel
theorem dX12_peaces_13 : decode cX12_peaces 13 = .ok (.invokevirtual 133, 3) := by decide +kernel
theorem dX12_peaces_16 : decode cX12_peaces 16 = .ok (.ifCond .eq 7, 3) := by decide +kernel
theorem dX12_peaces_19 : decode cX12_peaces 19 = .ok (.iconst 1, 1) := by decide +kernel
theorem dX12_peaces_20 : decode cX12_peaces 20 = .ok (.goto 4, 3) := by decide +kernel
theorem dX12_peaces_23 : decode cX12_peaces 23 = .ok (.iconst 0, 1) := by decide +kernel
theorem dX12_peaces_24 : decode cX12_peaces 24 = .ok (.iadd, 1) := by decide +kernel
theorem dX12_peaces_25 : decode cX12_peaces 25 = .ok (.istore_n 1, 1) := by decide +kernel
theorem dX12_peaces_26 : decode cX12_peaces 26 = .ok (.iinc 2 1, 3) := by decide +kernel
theorem dX12_peaces_29 : decode cX12_peaces 29 = .ok (.goto (-25), 3) := by decide +kernel
theorem dX12_peaces_32 : decode cX12_peaces 32 = .ok (.iload_n 1, 1) := by decide +kernel
theorem dX12_peaces_33 : decode cX12_peaces 33 = .ok (.ireturn, 1) := by decide +kernel
def P_X12_peaces : Nat → Nat
  | 1 => 4
  | 2 => 24
  | _ => 0
set_option maxRecDepth 100000 in
set_option maxHeartbeats 4000000 in
theorem S_X12_peaces : zSd yX12_peaces cX12_peaces 3 (some .int) { frames := 5, cells := 0, slots := 0, locals := 115 } T_X12_peaces := by
  refine zMet (pcs := P_X12_peaces) (F := F_X12_peaces) (by decide) rfl ?_
  intro p l e s m args below meth c D ids ad A Q Y C hr hk hY b
  match b with
  | 0 => exact (z_ic (pc := 0) C dX12_peaces_0 (by decide +kernel) <| z_isn (pc := 1) C dX12_peaces_1 rfl (by decide) <| z_ic (pc := 2) C dX12_peaces_2 (by decide +kernel) <| z_isn (pc := 3) C dX12_peaces_3 rfl (by decide) <| z_jmp (hY 1))
  | 1 => exact (z_iln (pc := 4) C dX12_peaces_4 rfl <| z_bi (pc := 5) C dX12_peaces_5 (by decide +kernel) <| z_cmpge (tgt := 32) (pc := 7) C dX12_peaces_7 (by decide) (z_iln (pc := 32) C dX12_peaces_32 rfl <| z_ir C hr hk dX12_peaces_33) <| z_iln (pc := 10) C dX12_peaces_10 rfl <| z_aln (pc := 11) C dX12_peaces_11 rfl <| z_iln (pc := 12) C dX12_peaces_12 rfl <| z_cV (pc := 13) C dX12_peaces_13 S_X12_isPeace rfl (zl4 w_1049 w_1051 wp_34 w_13) w_1052 ds_X12_isPeace (zrm rfl rfl (by decide) (by decide)) <| z_ifeq (tgt := 23) (pc := 16) C dX12_peaces_16 (by decide) (z_ic (pc := 23) C dX12_peaces_23 (by decide +kernel) <| z_jmp (hY 2)) <| z_ic (pc := 19) C dX12_peaces_19 (by decide +kernel) <| z_goto (tgt := 24) (pc := 20) C dX12_peaces_20 (by decide) <| z_jmp (hY 2))
  | 2 => exact (z_iadd (pc := 24) C dX12_peaces_24 <| z_isn (pc := 25) C dX12_peaces_25 rfl (by decide) <| z_inc (pc := 26) C dX12_peaces_26 (by decide +kernel) (by decide) <| z_goto (tgt := 4) (pc := 29) C dX12_peaces_29 (by decide) <| z_jmp (hY 1))
  | b + 3 => exact fun _ _ _ h => h.elim
theorem dX12_keep_0 : decode cX12_keep 0 = .ok (.aload_n 0, 1) := by decide +kernel
theorem dX12_keep_1 : decode cX12_keep 1 = .ok (.getfield 7, 3) := by decide +kernel
theorem dX12_keep_4 : decode cX12_keep 4 = .ok (.iconst 5, 1) := by decide +kernel
theorem dX12_keep_5 : decode cX12_keep 5 = .ok (.iaload, 1) := by decide +kernel
theorem dX12_keep_6 : decode cX12_keep 6 = .ok (.bipush 8, 2) := by decide +kernel
theorem dX12_keep_8 : decode cX12_keep 8 = .ok (.if_icmp .ne 43, 3) := by decide +kernel
theorem dX12_keep_11 : decode cX12_keep 11 = .ok (.iconst 0, 1) := by decide +kernel
theorem dX12_keep_12 : decode cX12_keep 12 = .ok (.istore_n 1, 1) := by decide +kernel
theorem dX12_keep_13 : decode cX12_keep 13 = .ok (.iload_n 1, 1) := by decide +kernel
theorem dX12_keep_14 : decode cX12_keep 14 = .ok (.bipush 98, 2) := by decide +kernel
theorem dX12_keep_16 : decode cX12_keep 16 = .ok (.if_icmp .ge 27, 3) := by decide +kernel
theorem dX12_keep_19 : decode cX12_keep 19 = .ok (.aload_n 0, 1) := by decide +kernel
theorem dX12_keep_20 : decode cX12_keep 20 = .ok (.getfield 7, 3) := by decide +kernel
theorem dX12_keep_23 : decode cX12_keep 23 = .ok (.bipush 66, 2) := by decide +kernel
theorem dX12_keep_25 : decode cX12_keep 25 = .ok (.iload_n 1, 1) := by decide +kernel
theorem dX12_keep_26 : decode cX12_keep 26 = .ok (.iadd, 1) := by decide +kernel
theorem dX12_keep_27 : decode cX12_keep 27 = .ok (.aload_n 0, 1) := by decide +kernel
theorem dX12_keep_28 : decode cX12_keep 28 = .ok (.getfield 7, 3) := by decide +kernel
theorem dX12_keep_31 : decode cX12_keep 31 = .ok (.bipush 80, 2) := by decide +kernel
theorem dX12_keep_33 : decode cX12_keep 33 = .ok (.iload_n 1, 1) := by decide +kernel
theorem dX12_keep_34 : decode cX12_keep 34 = .ok (.iadd, 1) := by decide +kernel
theorem dX12_keep_35 : decode cX12_keep 35 = .ok (.iaload, 1) := by decide +kernel
theorem dX12_keep_36 : decode cX12_keep 36 = .ok (.iastore, 1) := by decide +kernel
theorem dX12_keep_37 : decode cX12_keep 37 = .ok (.iinc 1 1, 3) := by decide +kernel
theorem dX12_keep_40 : decode cX12_keep 40 = .ok (.goto (-27), 3) := by decide +kernel
theorem dX12_keep_43 : decode cX12_keep 43 = .ok (.aload_n 0, 1) := by decide +kernel
theorem dX12_keep_44 : decode cX12_keep 44 = .ok (.getfield 7, 3) := by decide +kernel
theorem dX12_keep_47 : decode cX12_keep 47 = .ok (.iconst 5, 1) := by decide +kernel
theorem dX12_keep_48 : decode cX12_keep 48 = .ok (.bipush 7, 2) := by decide +kernel
theorem dX12_keep_50 : decode cX12_keep 50 = .ok (.iastore, 1) := by decide +kernel
theorem dX12_keep_51 : decode cX12_keep 51 = .ok (.bipush 66, 2) := by decide +kernel
theorem dX12_keep_53 : decode cX12_keep 53 = .ok (.bipush 14, 2) := by decide +kernel
theorem dX12_keep_55 : decode cX12_keep 55 = .ok (.aload_n 0, 1) := by decide +kernel
theorem dX12_keep_56 : decode cX12_keep 56 = .ok (.getfield 7, 3) := by decide +kernel
theorem dX12_keep_59 : decode cX12_keep 59 = .ok (.iconst 5, 1) := by decide +kernel
theorem dX12_keep_60 : decode cX12_keep 60 = .ok (.iaload, 1) := by decide +kernel
theorem dX12_keep_61 : decode cX12_keep 61 = .ok (.imul, 1) := by decide +kernel
theorem dX12_keep_62 : decode cX12_keep 62 = .ok (.iadd, 1) := by decide +kernel
theorem dX12_keep_63 : decode cX12_keep 63 = .ok (.istore_n 1, 1) := by decide +kernel
theorem dX12_keep_64 : decode cX12_keep 64 = .ok (.iconst 0, 1) := by decide +kernel
theorem dX12_keep_65 : decode cX12_keep 65 = .ok (.istore_n 2, 1) := by decide +kernel
theorem dX12_keep_66 : decode cX12_keep 66 = .ok (.iload_n 2, 1) := by decide +kernel
theorem dX12_keep_67 : decode cX12_keep 67 = .ok (.bipush 7, 2) := by decide +kernel
theorem dX12_keep_69 : decode cX12_keep 69 = .ok (.if_icmp .ge 40, 3) := by decide +kernel
theorem dX12_keep_72 : decode cX12_keep 72 = .ok (.aload_n 0, 1) := by decide +kernel
theorem dX12_keep_73 : decode cX12_keep 73 = .ok (.getfield 7, 3) := by decide +kernel
theorem dX12_keep_76 : decode cX12_keep 76 = .ok (.iload_n 1, 1) := by decide +kernel
theorem dX12_keep_77 : decode cX12_keep 77 = .ok (.iload_n 2, 1) := by decide +kernel
theorem dX12_keep_78 : decode cX12_keep 78 = .ok (.iadd, 1) := by decide +kernel
theorem dX12_keep_79 : decode cX12_keep 79 = .ok (.aload_n 0, 1) := by decide +kernel
theorem dX12_keep_80 : decode cX12_keep 80 = .ok (.iload_n 2, 1) := by decide +kernel
theorem dX12_keep_81 : decode cX12_keep 81 = .ok (.iconst 4, 1) := by decide +kernel
theorem dX12_keep_82 : decode cX12_keep 82 = .ok (.invokevirtual 114, 3) := by decide +kernel
theorem dX12_keep_85 : decode cX12_keep 85 = .ok (.iastore, 1) := by decide +kernel
theorem dX12_keep_86 : decode cX12_keep 86 = .ok (.aload_n 0, 1) := by decide +kernel
theorem dX12_keep_87 : decode cX12_keep 87 = .ok (.getfield 7, 3) := by decide +kernel
theorem dX12_keep_90 : decode cX12_keep 90 = .ok (.iload_n 1, 1) := by decide +kernel
theorem dX12_keep_91 : decode cX12_keep 91 = .ok (.bipush 7, 2) := by decide +kernel
theorem dX12_keep_93 : decode cX12_keep 93 = .ok (.iadd, 1) := by decide +kernel
theorem dX12_keep_94 : decode cX12_keep 94 = .ok (.iload_n 2, 1) := by decide +kernel
theorem dX12_keep_95 : decode cX12_keep 95 = .ok (.iadd, 1) := by decide +kernel
theorem dX12_keep_96 : decode cX12_keep 96 = .ok (.aload_n 0, 1) := by decide +kernel
theorem dX12_keep_97 : decode cX12_keep 97 = .ok (.iload_n 2, 1) := by decide +kernel
theorem dX12_keep_98 : decode cX12_keep 98 = .ok (.iconst 5, 1) := by decide +kernel
theorem dX12_keep_99 : decode cX12_keep 99 = .ok (.invokevirtual 114, 3) := by decide +kernel
theorem dX12_keep_102 : decode cX12_keep 102 = .ok (.iastore, 1) := by decide +kernel
theorem dX12_keep_103 : decode cX12_keep 103 = .ok (.iinc 2 1, 3) := by decide +kernel
theorem dX12_keep_106 : decode cX12_keep 106 = .ok (.goto (-40), 3) := by decide +kernel
theorem dX12_keep_109 : decode cX12_keep 109 = .ok (.aload_n 0, 1) := by decide +kernel
theorem dX12_keep_110 : decode cX12_keep 110 = .ok (.getfield 7, 3) := by decide +kernel
theorem dX12_keep_113 : decode cX12_keep 113 = .ok (.iconst 5, 1) := by decide +kernel
theorem dX12_keep_114 : decode cX12_keep 114 = .ok (.dup2, 1) := by decide +kernel
theorem dX12_keep_115 : decode cX12_keep 115 = .ok (.iaload, 1) := by decide +kernel
theorem dX12_keep_116 : decode cX12_keep 116 = .ok (.iconst 1, 1) := by decide +kernel
theorem dX12_keep_117 : decode cX12_keep 117 = .ok (.iadd, 1) := by decide +kernel
theorem dX12_keep_118 : decode cX12_keep 118 = .ok (.iastore, 1) := by decide +kernel
theorem dX12_keep_119 : decode cX12_keep 119 = .ok (.return_, 1) := by decide +kernel
def P_X12_keep : Nat → Nat
  | 1 => 13
  | 2 => 51
  | 3 => 66
  | _ => 0
set_option maxRecDepth 100000 in
set_option maxHeartbeats 4000000 in
theorem S_X12_keep : zSd yX12_keep cX12_keep 3 none { frames := 1, cells := 0, slots := 0, locals := 22 } T_X12_keep := by
  refine zMet (pcs := P_X12_keep) (F := F_X12_keep) (by decide) rfl ?_
  intro p l e s m args below meth c D ids ad A Q Y C hr hk hY b
  match b with
  | 0 => exact (z_aln (pc := 0) C dX12_keep_0 rfl <| z_gf (pc := 1) C dX12_keep_1 fl_12_7 <| z_ic (pc := 4) C dX12_keep_4 (by decide +kernel) <| z_ia (pc := 5) C dX12_keep_5 <| z_bi (pc := 6) C dX12_keep_6 (by decide +kernel) <| z_cmpne (tgt := 51) (pc := 8) C dX12_keep_8 (by decide) (z_jmp (hY 2)) <| z_ic (pc := 11) C dX12_keep_11 (by decide +kernel) <| z_isn (pc := 12) C dX12_keep_12 rfl (by decide) <| z_jmp (hY 1))
  | 1 => exact (z_iln (pc := 13) C dX12_keep_13 rfl <| z_bi (pc := 14) C dX12_keep_14 (by decide +kernel) <| z_cmpge (tgt := 43) (pc := 16) C dX12_keep_16 (by decide) (z_aln (pc := 43) C dX12_keep_43 rfl <| z_gf (pc := 44) C dX12_keep_44 fl_12_7 <| z_ic (pc := 47) C dX12_keep_47 (by decide +kernel) <| z_bi (pc := 48) C dX12_keep_48 (by decide +kernel) <| z_iast (pc := 50) C dX12_keep_50 <| z_jmp (hY 2)) <| z_aln (pc := 19) C dX12_keep_19 rfl <| z_gf (pc := 20) C dX12_keep_20 fl_12_7 <| z_bi (pc := 23) C dX12_keep_23 (by decide +kernel) <| z_iln (pc := 25) C dX12_keep_25 rfl <| z_iadd (pc := 26) C dX12_keep_26 <| z_aln (pc := 27) C dX12_keep_27 rfl <| z_gf (pc := 28) C dX12_keep_28 fl_12_7 <| z_bi (pc := 31) C dX12_keep_31 (by decide +kernel) <| z_iln (pc := 33) C dX12_keep_33 rfl <| z_iadd (pc := 34) C dX12_keep_34 <| z_ia (pc := 35) C dX12_keep_35 <| z_iast (pc := 36) C dX12_keep_36 <| z_inc (pc := 37) C dX12_keep_37 (by decide +kernel) (by decide) <| z_goto (tgt := 13) (pc := 40) C dX12_keep_40 (by decide) <| z_jmp (hY 1))
  | 2 => exact (z_bi (pc := 51) C dX12_keep_51 (by decide +kernel) <| z_bi (pc := 53) C dX12_keep_53 (by decide +kernel) <| z_aln (pc := 55) C dX12_keep_55 rfl <| z_gf (pc := 56) C dX12_keep_56 fl_12_7 <| z_ic (pc := 59) C dX12_keep_59 (by decide +kernel) <| z_ia (pc := 60) C dX12_keep_60 <| z_imul (pc := 61) C dX12_keep_61 <| z_iadd (pc := 62) C dX12_keep_62 <| z_isn (pc := 63) C dX12_keep_63 rfl (by decide) <| z_ic (pc := 64) C dX12_keep_64 (by decide +kernel) <| z_isn (pc := 65) C dX12_keep_65 rfl (by decide) <| z_jmp (hY 3))
  | 3 => exact (z_iln (pc := 66) C dX12_keep_66 rfl <| z_bi (pc := 67) C dX12_keep_67 (by decide +kernel) <| z_cmpge (tgt := 109) (pc := 69) C dX12_keep_69 (by decide) (z_aln (pc := 109) C dX12_keep_109 rfl <| z_gf (pc := 110) C dX12_keep_110 fl_12_7 <| z_ic (pc := 113) C dX12_keep_113 (by decide +kernel) <| z_dup2 (pc := 114) C dX12_keep_114 <| z_ia (pc := 115) C dX12_keep_115 <| z_ic (pc := 116) C dX12_keep_116 (by decide +kernel) <| z_iadd (pc := 117) C dX12_keep_117 <| z_iast (pc := 118) C dX12_keep_118 <| z_vr C hr hk dX12_keep_119) <| z_aln (pc := 72) C dX12_keep_72 rfl <| z_gf (pc := 73) C dX12_keep_73 fl_12_7 <| z_iln (pc := 76) C dX12_keep_76 rfl <| z_iln (pc := 77) C dX12_keep_77 rfl <| z_iadd (pc := 78) C dX12_keep_78 <| z_aln (pc := 79) C dX12_keep_79 rfl <| z_iln (pc := 80) C dX12_keep_80 rfl <| z_ic (pc := 81) C dX12_keep_81 (by decide +kernel) <| z_cV (pc := 82) C dX12_keep_82 S_X12_get rfl (zl4 w_973 w_975 wp_25 w_13) w_976 ds_X12_get (zrm rfl rfl (by decide) (by decide)) <| z_iast (pc := 85) C dX12_keep_85 <| z_aln (pc := 86) C dX12_keep_86 rfl <| z_gf (pc := 87) C dX12_keep_87 fl_12_7 <| z_iln (pc := 90) C dX12_keep_90 rfl <| z_bi (pc := 91) C dX12_keep_91 (by decide +kernel) <| z_iadd (pc := 93) C dX12_keep_93 <| z_iln (pc := 94) C dX12_keep_94 rfl <| z_iadd (pc := 95) C dX12_keep_95 <| z_aln (pc := 96) C dX12_keep_96 rfl <| z_iln (pc := 97) C dX12_keep_97 rfl <| z_ic (pc := 98) C dX12_keep_98 (by decide +kernel) <| z_cV (pc := 99) C dX12_keep_99 S_X12_get rfl (zl4 w_973 w_975 wp_25 w_13) w_976 ds_X12_get (zrm rfl rfl (by decide) (by decide)) <| z_iast (pc := 102) C dX12_keep_102 <| z_inc (pc := 103) C dX12_keep_103 (by decide +kernel) (by decide) <| z_goto (tgt := 66) (pc := 106) C dX12_keep_106 (by decide) <| z_jmp (hY 3))
  | b + 4 => exact fun _ _ _ h => h.elim
theorem dX12_move_0 : decode cX12_move 0 = .ok (.aload_n 0, 1) := by decide +kernel
theorem dX12_move_1 : decode cX12_move 1 = .ok (.iload_n 1, 1) := by decide +kernel
theorem dX12_move_2 : decode cX12_move 2 = .ok (.invokevirtual 136, 3) := by decide +kernel
theorem dX12_move_5 : decode cX12_move 5 = .ok (.ifCond .eq 16, 3) := by decide +kernel
theorem dX12_move_8 : decode cX12_move 8 = .ok (.iload_n 2, 1) := by decide +kernel
theorem dX12_move_9 : decode cX12_move 9 = .ok (.aload_n 0, 1) := by decide +kernel
theorem dX12_move_10 : decode cX12_move 10 = .ok (.iload_n 1, 1) := by decide +kernel
theorem dX12_move_11 : decode cX12_move 11 = .ok (.iconst 1, 1) := by decide +kernel
theorem dX12_move_12 : decode cX12_move 12 = .ok (.invokevirtual 114, 3) := by decide +kernel
theorem dX12_move_15 : decode cX12_move 15 = .ok (.invokestatic 92, 3) := by decide +kernel
theorem dX12_move_18 : decode cX12_move 18 = .ok (.ifCond .ne 10, 3) := by decide +kernel
theorem dX12_move_21 : decode cX12_move 21 = .ok (.aload_n 0, 1) := by decide +kernel
theorem dX12_move_22 : decode cX12_move 22 = .ok (.bipush (-2), 2) := by decide +kernel
theorem dX12_move_24 : decode cX12_move 24 = .ok (.invokevirtual 78, 3) := by decide +kernel
theorem dX12_move_27 : decode cX12_move 27 = .ok (.ireturn, 1) := by decide +kernel
theorem dX12_move_28 : decode cX12_move 28 = .ok (.aload_n 0, 1) := by decide +kernel
theorem dX12_move_29 : decode cX12_move 29 = .ok (.getfield 7, 3) := by decide +kernel
theorem dX12_move_32 : decode cX12_move 32 = .ok (.iload_n 2, 1) := by decide +kernel
theorem dX12_move_33 : decode cX12_move 33 = .ok (.invokestatic 96, 3) := by decide +kernel
theorem dX12_move_36 : decode cX12_move 36 = .ok (.ifCond .eq 8, 3) := by decide +kernel
theorem dX12_move_39 : decode cX12_move 39 = .ok (.aload_n 0, 1) := by decide +kernel
theorem dX12_move_40 : decode cX12_move 40 = .ok (.invokevirtual 100, 3) := by decide +kernel
theorem dX12_move_43 : decode cX12_move 43 = .ok (.ireturn, 1) := by decide +kernel
theorem dX12_move_44 : decode cX12_move 44 = .ok (.aload_n 0, 1) := by decide +kernel
theorem dX12_move_45 : decode cX12_move 45 = .ok (.iload_n 1, 1) := by decide +kernel
theorem dX12_move_46 : decode cX12_move 46 = .ok (.iconst 4, 1) := by decide +kernel
theorem dX12_move_47 : decode cX12_move 47 = .ok (.invokevirtual 114, 3) := by decide +kernel
theorem dX12_move_50 : decode cX12_move 50 = .ok (.istore_n 3, 1) := by decide +kernel
theorem dX12_move_51 : decode cX12_move 51 = .ok (.aload_n 0, 1) := by decide +kernel
theorem dX12_move_52 : decode cX12_move 52 = .ok (.invokevirtual 139, 3) := by decide +kernel
theorem dX12_move_55 : decode cX12_move 55 = .ok (.aload_n 0, 1) := by decide +kernel
theorem dX12_move_56 : decode cX12_move 56 = .ok (.getfield 7, 3) := by decide +kernel
theorem dX12_move_59 : decode cX12_move 59 = .ok (.bipush 6, 2) := by decide +kernel
theorem dX12_move_61 : decode cX12_move 61 = .ok (.bipush 6, 2) := by decide +kernel
theorem dX12_move_63 : decode cX12_move 63 = .ok (.iload_n 1, 1) := by decide +kernel
theorem dX12_move_64 : decode cX12_move 64 = .ok (.imul, 1) := by decide +kernel
theorem dX12_move_65 : decode cX12_move 65 = .ok (.iadd, 1) := by decide +kernel
theorem dX12_move_66 : decode cX12_move 66 = .ok (.iconst 4, 1) := by decide +kernel
theorem dX12_move_67 : decode cX12_move 67 = .ok (.iadd, 1) := by decide +kernel
theorem dX12_move_68 : decode cX12_move 68 = .ok (.iload_n 2, 1) := by decide +kernel
theorem dX12_move_69 : decode cX12_move 69 = .ok (.iastore, 1) := by decide +kernel
theorem dX12_move_70 : decode cX12_move 70 = .ok (.iload_n 3, 1) := by decide +kernel
theorem dX12_move_71 : decode cX12_move 71 = .ok (.ireturn, 1) := by decide +kernel
def P_X12_move : Nat → Nat
  | 1 => 21
  | _ => 0
set_option maxRecDepth 100000 in
set_option maxHeartbeats 4000000 in
theorem S_X12_move : zSd yX12_move cX12_move 4 (some .int) { frames := 2, cells := 0, slots := 0, locals := 46 } T_X12_move := by
  refine zMet (pcs := P_X12_move) (F := F_X12_move) (by decide) rfl ?_
  intro p l e s m args below meth c D ids ad A Q Y C hr hk hY b
  match b with
  | 0 => exact (z_aln (pc := 0) C dX12_move_0 rfl <| z_iln (pc := 1) C dX12_move_1 rfl <| z_cV (pc := 2) C dX12_move_2 S_X12_isFamily rfl (zl4 w_969 w_971 wp_24 w_13) w_972 ds_X12_isFamily (zrm rfl rfl (by decide) (by decide)) <| z_ifeq (tgt := 21) (pc := 5) C dX12_move_5 (by decide) (z_jmp (hY 1)) <| z_iln (pc := 8) C dX12_move_8 rfl <| z_aln (pc := 9) C dX12_move_9 rfl <| z_iln (pc := 10) C dX12_move_10 rfl <| z_ic (pc := 11) C dX12_move_11 (by decide +kernel) <| z_cV (pc := 12) C dX12_move_12 S_X12_get rfl (zl4 w_973 w_975 wp_25 w_13) w_976 ds_X12_get (zrm rfl rfl (by decide) (by decide)) <| z_cS (pc := 15) C dX12_move_15 S_X12_isPewOf (zl3 w_948 w_949 w_13) w_950 ds_X12_isPewOf (zrm rfl rfl (by decide) (by decide)) <| z_ifne (tgt := 28) (pc := 18) C dX12_move_18 (by decide) (z_aln (pc := 28) C dX12_move_28 rfl <| z_gf (pc := 29) C dX12_move_29 fl_12_7 <| z_iln (pc := 32) C dX12_move_32 rfl <| z_cS (pc := 33) C dX12_move_33 S_X12_isTaken (zl3 w_951 w_952 w_13) w_953 ds_X12_isTaken (zrm rfl rfl (by decide) (by decide)) <| z_ifeq (tgt := 44) (pc := 36) C dX12_move_36 (by decide) (z_aln (pc := 44) C dX12_move_44 rfl <| z_iln (pc := 45) C dX12_move_45 rfl <| z_ic (pc := 46) C dX12_move_46 (by decide +kernel) <| z_cV (pc := 47) C dX12_move_47 S_X12_get rfl (zl4 w_973 w_975 wp_25 w_13) w_976 ds_X12_get (zrm rfl rfl (by decide) (by decide)) <| z_isn (pc := 50) C dX12_move_50 rfl (by decide) <| z_aln (pc := 51) C dX12_move_51 rfl <| z_cV (pc := 52) C dX12_move_52 S_X12_keep rfl (zl4 w_977 w_979 wp_26 w_13) w_980 ds_X12_keep (zrm rfl rfl (by decide) (by decide)) <| z_aln (pc := 55) C dX12_move_55 rfl <| z_gf (pc := 56) C dX12_move_56 fl_12_7 <| z_bi (pc := 59) C dX12_move_59 (by decide +kernel) <| z_bi (pc := 61) C dX12_move_61 (by decide +kernel) <| z_iln (pc := 63) C dX12_move_63 rfl <| z_imul (pc := 64) C dX12_move_64 <| z_iadd (pc := 65) C dX12_move_65 <| z_ic (pc := 66) C dX12_move_66 (by decide +kernel) <| z_iadd (pc := 67) C dX12_move_67 <| z_iln (pc := 68) C dX12_move_68 rfl <| z_iast (pc := 69) C dX12_move_69 <| z_iln (pc := 70) C dX12_move_70 rfl <| z_ir C hr hk dX12_move_71) <| z_aln (pc := 39) C dX12_move_39 rfl <| z_cV (pc := 40) C dX12_move_40 S_X12_no rfl (zl4 w_954 w_956 wp_22 w_13) w_957 ds_X12_no (zrm rfl rfl (by decide) (by decide)) <| z_ir C hr hk dX12_move_43) <| z_jmp (hY 1))
  | 1 => exact (z_aln (pc := 21) C dX12_move_21 rfl <| z_bi (pc := 22) C dX12_move_22 (by decide +kernel) <| z_cV (pc := 24) C dX12_move_24 S_X12_bad rfl (zl4 w_925 w_927 wp_20 w_13) w_928 ds_X12_bad (zrm rfl rfl (by decide) (by decide)) <| z_ir C hr hk dX12_move_27)
  | b + 2 => exact fun _ _ _ h => h.elim
theorem dX12_cold_0 : decode cX12_cold 0 = .ok (.aload_n 0, 1) := by decide +kernel
theorem dX12_cold_1 : decode cX12_cold 1 = .ok (.iload_n 1, 1) := by decide +kernel
theorem dX12_cold_2 : decode cX12_cold 2 = .ok (.invokevirtual 136, 3) := by decide +kernel
theorem dX12_cold_5 : decode cX12_cold 5 = .ok (.ifCond .eq 13, 3) := by decide +kernel
theorem dX12_cold_8 : decode cX12_cold 8 = .ok (.iload_n 2, 1) := by decide +kernel
theorem dX12_cold_9 : decode cX12_cold 9 = .ok (.i2l, 1) := by decide +kernel
theorem dX12_cold_10 : decode cX12_cold 10 = .ok (.lconst 0, 1) := by decide +kernel
theorem dX12_cold_11 : decode cX12_cold 11 = .ok (.lconst 1, 1) := by decide +kernel
theorem dX12_cold_12 : decode cX12_cold 12 = .ok (.invokestatic 68, 3) := by decide +kernel
theorem dX12_cold_15 : decode cX12_cold 15 = .ok (.ifCond .ne 10, 3) := by decide +kernel
theorem dX12_cold_18 : decode cX12_cold 18 = .ok (.aload_n 0, 1) := by decide +kernel
theorem dX12_cold_19 : decode cX12_cold 19 = .ok (.bipush (-2), 2) := by decide +kernel
theorem dX12_cold_21 : decode cX12_cold 21 = .ok (.invokevirtual 78, 3) := by decide +kernel
theorem dX12_cold_24 : decode cX12_cold 24 = .ok (.ireturn, 1) := by decide +kernel
theorem dX12_cold_25 : decode cX12_cold 25 = .ok (.aload_n 0, 1) := by decide +kernel
theorem dX12_cold_26 : decode cX12_cold 26 = .ok (.iload_n 1, 1) := by decide +kernel
theorem dX12_cold_27 : decode cX12_cold 27 = .ok (.iconst 5, 1) := by decide +kernel
theorem dX12_cold_28 : decode cX12_cold 28 = .ok (.invokevirtual 114, 3) := by decide +kernel
theorem dX12_cold_31 : decode cX12_cold 31 = .ok (.istore_n 3, 1) := by decide +kernel
theorem dX12_cold_32 : decode cX12_cold 32 = .ok (.aload_n 0, 1) := by decide +kernel
theorem dX12_cold_33 : decode cX12_cold 33 = .ok (.invokevirtual 139, 3) := by decide +kernel
theorem dX12_cold_36 : decode cX12_cold 36 = .ok (.aload_n 0, 1) := by decide +kernel
theorem dX12_cold_37 : decode cX12_cold 37 = .ok (.getfield 7, 3) := by decide +kernel
theorem dX12_cold_40 : decode cX12_cold 40 = .ok (.bipush 6, 2) := by decide +kernel
theorem dX12_cold_42 : decode cX12_cold 42 = .ok (.bipush 6, 2) := by decide +kernel
theorem dX12_cold_44 : decode cX12_cold 44 = .ok (.iload_n 1, 1) := by decide +kernel
theorem dX12_cold_45 : decode cX12_cold 45 = .ok (.imul, 1) := by decide +kernel
theorem dX12_cold_46 : decode cX12_cold 46 = .ok (.iadd, 1) := by decide +kernel
theorem dX12_cold_47 : decode cX12_cold 47 = .ok (.iconst 5, 1) := by decide +kernel
theorem dX12_cold_48 : decode cX12_cold 48 = .ok (.iadd, 1) := by decide +kernel
theorem dX12_cold_49 : decode cX12_cold 49 = .ok (.iload_n 2, 1) := by decide +kernel
theorem dX12_cold_50 : decode cX12_cold 50 = .ok (.iastore, 1) := by decide +kernel
theorem dX12_cold_51 : decode cX12_cold 51 = .ok (.iload_n 3, 1) := by decide +kernel
theorem dX12_cold_52 : decode cX12_cold 52 = .ok (.ireturn, 1) := by decide +kernel
def P_X12_cold : Nat → Nat
  | 1 => 18
  | _ => 0
set_option maxRecDepth 100000 in
set_option maxHeartbeats 4000000 in
theorem S_X12_cold : zSd yX12_cold cX12_cold 4 (some .int) { frames := 2, cells := 0, slots := 0, locals := 46 } T_X12_cold := by
  refine zMet (pcs := P_X12_cold) (F := F_X12_cold) (by decide) rfl ?_
  intro p l e s m args below meth c D ids ad A Q Y C hr hk hY b
  match b with
  | 0 => exact (z_aln (pc := 0) C dX12_cold_0 rfl <| z_iln (pc := 1) C dX12_cold_1 rfl <| z_cV (pc := 2) C dX12_cold_2 S_X12_isFamily rfl (zl4 w_969 w_971 wp_24 w_13) w_972 ds_X12_isFamily (zrm rfl rfl (by decide) (by decide)) <| z_ifeq (tgt := 18) (pc := 5) C dX12_cold_5 (by decide) (z_jmp (hY 1)) <| z_iln (pc := 8) C dX12_cold_8 rfl <| z_i2l (pc := 9) C dX12_cold_9 <| z_lc (pc := 10) C dX12_cold_10 (by decide +kernel) <| z_lc (pc := 11) C dX12_cold_11 (by decide +kernel) <| z_cS (pc := 12) C dX12_cold_12 S_X12_in (zl3 w_922 w_923 w_13) w_924 ds_X12_in (zrm rfl rfl (by decide) (by decide)) <| z_ifne (tgt := 25) (pc := 15) C dX12_cold_15 (by decide) (z_aln (pc := 25) C dX12_cold_25 rfl <| z_iln (pc := 26) C dX12_cold_26 rfl <| z_ic (pc := 27) C dX12_cold_27 (by decide +kernel) <| z_cV (pc := 28) C dX12_cold_28 S_X12_get rfl (zl4 w_973 w_975 wp_25 w_13) w_976 ds_X12_get (zrm rfl rfl (by decide) (by decide)) <| z_isn (pc := 31) C dX12_cold_31 rfl (by decide) <| z_aln (pc := 32) C dX12_cold_32 rfl <| z_cV (pc := 33) C dX12_cold_33 S_X12_keep rfl (zl4 w_977 w_979 wp_26 w_13) w_980 ds_X12_keep (zrm rfl rfl (by decide) (by decide)) <| z_aln (pc := 36) C dX12_cold_36 rfl <| z_gf (pc := 37) C dX12_cold_37 fl_12_7 <| z_bi (pc := 40) C dX12_cold_40 (by decide +kernel) <| z_bi (pc := 42) C dX12_cold_42 (by decide +kernel) <| z_iln (pc := 44) C dX12_cold_44 rfl <| z_imul (pc := 45) C dX12_cold_45 <| z_iadd (pc := 46) C dX12_cold_46 <| z_ic (pc := 47) C dX12_cold_47 (by decide +kernel) <| z_iadd (pc := 48) C dX12_cold_48 <| z_iln (pc := 49) C dX12_cold_49 rfl <| z_iast (pc := 50) C dX12_cold_50 <| z_iln (pc := 51) C dX12_cold_51 rfl <| z_ir C hr hk dX12_cold_52) <| z_jmp (hY 1))
  | 1 => exact (z_aln (pc := 18) C dX12_cold_18 rfl <| z_bi (pc := 19) C dX12_cold_19 (by decide +kernel) <| z_cV (pc := 21) C dX12_cold_21 S_X12_bad rfl (zl4 w_925 w_927 wp_20 w_13) w_928 ds_X12_bad (zrm rfl rfl (by decide) (by decide)) <| z_ir C hr hk dX12_cold_24)
  | b + 2 => exact fun _ _ _ h => h.elim
theorem dX12_manyColds_0 : decode cX12_manyColds 0 = .ok (.iconst 0, 1) := by decide +kernel
theorem dX12_manyColds_1 : decode cX12_manyColds 1 = .ok (.istore_n 1, 1) := by decide +kernel
theorem dX12_manyColds_2 : decode cX12_manyColds 2 = .ok (.iconst 0, 1) := by decide +kernel
theorem dX12_manyColds_3 : decode cX12_manyColds 3 = .ok (.istore_n 2, 1) := by decide +kernel
theorem dX12_manyColds_4 : decode cX12_manyColds 4 = .ok (.iload_n 2, 1) := by decide +kernel
theorem dX12_manyColds_5 : decode cX12_manyColds 5 = .ok (.aload_n 0, 1) := by decide +kernel
theorem dX12_manyColds_6 : decode cX12_manyColds 6 = .ok (.invokevirtual 64, 3) := by decide +kernel
theorem dX12_manyColds_9 : decode cX12_manyColds 9 = .ok (.if_icmp .ge 18, 3) := by decide +kernel
theorem dX12_manyColds_12 : decode cX12_manyColds 12 = .ok (.iload_n 1, 1) := by decide +kernel
theorem dX12_manyColds_13 : decode cX12_manyColds 13 = .ok (.aload_n 0, 1) := by decide +kernel
theorem dX12_manyColds_14 : decode cX12_manyColds 14 = .ok (.iload_n 2, 1) := by decide +kernel
theorem dX12_manyColds_15 : decode cX12_manyColds 15 = .ok (.iconst 5, 1) := by decide +kernel
theorem dX12_manyColds_16 : decode cX12_manyColds 16 = .ok (.invokevirtual 114, 3) := by decide +kernel
theorem dX12_manyColds_19 : decode cX12_manyColds 19 = .ok (.iadd, 1) := by decide +kernel
theorem dX12_manyColds_20 : decode cX12_manyColds 20 = .ok (.istore_n 1, 1) := by decide +kernel
theorem dX12_manyColds_21 : decode cX12_manyColds 21 = .ok (.iinc 2 1, 3) := by decide +kernel
theorem dX12_manyColds_24 : decode cX12_manyColds 24 = .ok (.goto (-20), 3) := by decide +kernel
theorem dX12_manyColds_27 : decode cX12_manyColds 27 = .ok (.iload_n 1, 1) := by decide +kernel
theorem dX12_manyColds_28 : decode cX12_manyColds 28 = .ok (.ireturn, 1) := by decide +kernel
def P_X12_manyColds : Nat → Nat
  | 1 => 4
  | _ => 0
set_option maxRecDepth 100000 in
set_option maxHeartbeats 4000000 in
theorem S_X12_manyColds : zSd yX12_manyColds cX12_manyColds 3 (some .int) { frames := 1, cells := 0, slots := 0, locals := 22 } T_X12_manyColds := by
  refine zMet (pcs := P_X12_manyColds) (F := F_X12_manyColds) (by decide) rfl ?_
  intro p l e s m args below meth c D ids ad A Q Y C hr hk hY b
  match b with
  | 0 => exact (z_ic (pc := 0) C dX12_manyColds_0 (by decide +kernel) <| z_isn (pc := 1) C dX12_manyColds_1 rfl (by decide) <| z_ic (pc := 2) C dX12_manyColds_2 (by decide +kernel) <| z_isn (pc := 3) C dX12_manyColds_3 rfl (by decide) <| z_jmp (hY 1))
  | 1 => exact (z_iln (pc := 4) C dX12_manyColds_4 rfl <| z_aln (pc := 5) C dX12_manyColds_5 rfl <| z_cV (pc := 6) C dX12_manyColds_6 S_X12_many rfl (zl4 w_929 w_931 wp_21 w_13) w_932 ds_X12_many (zrm rfl rfl (by decide) (by decide)) <| z_cmpge (tgt := 27) (pc := 9) C dX12_manyColds_9 (by decide) (z_iln (pc := 27) C dX12_manyColds_27 rfl <| z_ir C hr hk dX12_manyColds_28) <| z_iln (pc := 12) C dX12_manyColds_12 rfl <| z_aln (pc := 13) C dX12_manyColds_13 rfl <| z_iln (pc := 14) C dX12_manyColds_14 rfl <| z_ic (pc := 15) C dX12_manyColds_15 (by decide +kernel) <| z_cV (pc := 16) C dX12_manyColds_16 S_X12_get rfl (zl4 w_973 w_975 wp_25 w_13) w_976 ds_X12_get (zrm rfl rfl (by decide) (by decide)) <| z_iadd (pc := 19) C dX12_manyColds_19 <| z_isn (pc := 20) C dX12_manyColds_20 rfl (by decide) <| z_inc (pc := 21) C dX12_manyColds_21 (by decide +kernel) (by decide) <| z_goto (tgt := 4) (pc := 24) C dX12_manyColds_24 (by decide) <| z_jmp (hY 1))
  | b + 2 => exact fun _ _ _ h => h.elim
theorem dX12_undo_0 : decode cX12_undo 0 = .ok (.aload_n 0, 1) := by decide +kernel
theorem dX12_undo_1 : decode cX12_undo 1 = .ok (.getfield 7, 3) := by decide +kernel
theorem dX12_undo_4 : decode cX12_undo 4 = .ok (.iconst 5, 1) := by decide +kernel
theorem dX12_undo_5 : decode cX12_undo 5 = .ok (.iaload, 1) := by decide +kernel
theorem dX12_undo_6 : decode cX12_undo 6 = .ok (.ifCond .ne 8, 3) := by decide +kernel
theorem dX12_undo_9 : decode cX12_undo 9 = .ok (.aload_n 0, 1) := by decide +kernel
theorem dX12_undo_10 : decode cX12_undo 10 = .ok (.invokevirtual 100, 3) := by decide +kernel
theorem dX12_undo_13 : decode cX12_undo 13 = .ok (.ireturn, 1) := by decide +kernel
theorem dX12_undo_14 : decode cX12_undo 14 = .ok (.aload_n 0, 1) := by decide +kernel
theorem dX12_undo_15 : decode cX12_undo 15 = .ok (.getfield 7, 3) := by decide +kernel
theorem dX12_undo_18 : decode cX12_undo 18 = .ok (.iconst 5, 1) := by decide +kernel
theorem dX12_undo_19 : decode cX12_undo 19 = .ok (.dup2, 1) := by decide +kernel
theorem dX12_undo_20 : decode cX12_undo 20 = .ok (.iaload, 1) := by decide +kernel
theorem dX12_undo_21 : decode cX12_undo 21 = .ok (.iconst 1, 1) := by decide +kernel
theorem dX12_undo_22 : decode cX12_undo 22 = .ok (.isub, 1) := by decide +kernel
theorem dX12_undo_23 : decode cX12_undo 23 = .ok (.iastore, 1) := by decide +kernel
theorem dX12_undo_24 : decode cX12_undo 24 = .ok (.bipush 66, 2) := by decide +kernel
theorem dX12_undo_26 : decode cX12_undo 26 = .ok (.bipush 14, 2) := by decide +kernel
theorem dX12_undo_28 : decode cX12_undo 28 = .ok (.aload_n 0, 1) := by decide +kernel
theorem dX12_undo_29 : decode cX12_undo 29 = .ok (.getfield 7, 3) := by decide +kernel
theorem dX12_undo_32 : decode cX12_undo 32 = .ok (.iconst 5, 1) := by decide +kernel
theorem dX12_undo_33 : decode cX12_undo 33 = .ok (.iaload, 1) := by decide +kernel
theorem dX12_undo_34 : decode cX12_undo 34 = .ok (.imul, 1) := by decide +kernel
theorem dX12_undo_35 : decode cX12_undo 35 = .ok (.iadd, 1) := by decide +kernel
theorem dX12_undo_36 : decode cX12_undo 36 = .ok (.istore_n 1, 1) := by decide +kernel
theorem dX12_undo_37 : decode cX12_undo 37 = .ok (.iconst 0, 1) := by decide +kernel
theorem dX12_undo_38 : decode cX12_undo 38 = .ok (.istore_n 2, 1) := by decide +kernel
theorem dX12_undo_39 : decode cX12_undo 39 = .ok (.iload_n 2, 1) := by decide +kernel
theorem dX12_undo_40 : decode cX12_undo 40 = .ok (.bipush 7, 2) := by decide +kernel
theorem dX12_undo_42 : decode cX12_undo 42 = .ok (.if_icmp .ge 56, 3) := by decide +kernel
theorem dX12_undo_45 : decode cX12_undo 45 = .ok (.aload_n 0, 1) := by decide +kernel
theorem dX12_undo_46 : decode cX12_undo 46 = .ok (.getfield 7, 3) := by decide +kernel
theorem dX12_undo_49 : decode cX12_undo 49 = .ok (.bipush 6, 2) := by decide +kernel
theorem dX12_undo_51 : decode cX12_undo 51 = .ok (.bipush 6, 2) := by decide +kernel
theorem dX12_undo_53 : decode cX12_undo 53 = .ok (.iload_n 2, 1) := by decide +kernel
theorem dX12_undo_54 : decode cX12_undo 54 = .ok (.imul, 1) := by decide +kernel
theorem dX12_undo_55 : decode cX12_undo 55 = .ok (.iadd, 1) := by decide +kernel
theorem dX12_undo_56 : decode cX12_undo 56 = .ok (.iconst 4, 1) := by decide +kernel
theorem dX12_undo_57 : decode cX12_undo 57 = .ok (.iadd, 1) := by decide +kernel
theorem dX12_undo_58 : decode cX12_undo 58 = .ok (.aload_n 0, 1) := by decide +kernel
theorem dX12_undo_59 : decode cX12_undo 59 = .ok (.getfield 7, 3) := by decide +kernel
theorem dX12_undo_62 : decode cX12_undo 62 = .ok (.iload_n 1, 1) := by decide +kernel
theorem dX12_undo_63 : decode cX12_undo 63 = .ok (.iload_n 2, 1) := by decide +kernel
theorem dX12_undo_64 : decode cX12_undo 64 = .ok (.iadd, 1) := by decide +kernel
theorem dX12_undo_65 : decode cX12_undo 65 = .ok (.iaload, 1) := by decide +kernel
theorem dX12_undo_66 : decode cX12_undo 66 = .ok (.iastore, 1) := by decide +kernel
theorem dX12_undo_67 : decode cX12_undo 67 = .ok (.aload_n 0, 1) := by decide +kernel
theorem dX12_undo_68 : decode cX12_undo 68 = .ok (.getfield 7, 3) := by decide +kernel
theorem dX12_undo_71 : decode cX12_undo 71 = .ok (.bipush 6, 2) := by decide +kernel
theorem dX12_undo_73 : decode cX12_undo 73 = .ok (.bipush 6, 2) := by decide +kernel
theorem dX12_undo_75 : decode cX12_undo 75 = .ok (.iload_n 2, 1) := by decide +kernel
theorem dX12_undo_76 : decode cX12_undo 76 = .ok (.imul, 1) := by decide +kernel
theorem dX12_undo_77 : decode cX12_undo 77 = .ok (.iadd, 1) := by decide +kernel
theorem dX12_undo_78 : decode cX12_undo 78 = .ok (.iconst 5, 1) := by decide +kernel
theorem dX12_undo_79 : decode cX12_undo 79 = .ok (.iadd, 1) := by decide +kernel
theorem dX12_undo_80 : decode cX12_undo 80 = .ok (.aload_n 0, 1) := by decide +kernel
theorem dX12_undo_81 : decode cX12_undo 81 = .ok (.getfield 7, 3) := by decide +kernel
theorem dX12_undo_84 : decode cX12_undo 84 = .ok (.iload_n 1, 1) := by decide +kernel
theorem dX12_undo_85 : decode cX12_undo 85 = .ok (.bipush 7, 2) := by decide +kernel
theorem dX12_undo_87 : decode cX12_undo 87 = .ok (.iadd, 1) := by decide +kernel
theorem dX12_undo_88 : decode cX12_undo 88 = .ok (.iload_n 2, 1) := by decide +kernel
theorem dX12_undo_89 : decode cX12_undo 89 = .ok (.iadd, 1) := by decide +kernel
theorem dX12_undo_90 : decode cX12_undo 90 = .ok (.iaload, 1) := by decide +kernel
theorem dX12_undo_91 : decode cX12_undo 91 = .ok (.iastore, 1) := by decide +kernel
theorem dX12_undo_92 : decode cX12_undo 92 = .ok (.iinc 2 1, 3) := by decide +kernel
theorem dX12_undo_95 : decode cX12_undo 95 = .ok (.goto (-56), 3) := by decide +kernel
theorem dX12_undo_98 : decode cX12_undo 98 = .ok (.aload_n 0, 1) := by decide +kernel
theorem dX12_undo_99 : decode cX12_undo 99 = .ok (.invokevirtual 142, 3) := by decide +kernel
theorem dX12_undo_102 : decode cX12_undo 102 = .ok (.ireturn, 1) := by decide +kernel
def P_X12_undo : Nat → Nat
  | 1 => 39
  | _ => 0
set_option maxRecDepth 100000 in
set_option maxHeartbeats 4000000 in
theorem S_X12_undo : zSd yX12_undo cX12_undo 3 (some .int) { frames := 2, cells := 0, slots := 0, locals := 44 } T_X12_undo := by
  refine zMet (pcs := P_X12_undo) (F := F_X12_undo) (by decide) rfl ?_
  intro p l e s m args below meth c D ids ad A Q Y C hr hk hY b
  match b with
  | 0 => exact (z_aln (pc := 0) C dX12_undo_0 rfl <| z_gf (pc := 1) C dX12_undo_1 fl_12_7 <| z_ic (pc := 4) C dX12_undo_4 (by decide +kernel) <| z_ia (pc := 5) C dX12_undo_5 <| z_ifne (tgt := 14) (pc := 6) C dX12_undo_6 (by decide) (z_aln (pc := 14) C dX12_undo_14 rfl <| z_gf (pc := 15) C dX12_undo_15 fl_12_7 <| z_ic (pc := 18) C dX12_undo_18 (by decide +kernel) <| z_dup2 (pc := 19) C dX12_undo_19 <| z_ia (pc := 20) C dX12_undo_20 <| z_ic (pc := 21) C dX12_undo_21 (by decide +kernel) <| z_isub (pc := 22) C dX12_undo_22 <| z_iast (pc := 23) C dX12_undo_23 <| z_bi (pc := 24) C dX12_undo_24 (by decide +kernel) <| z_bi (pc := 26) C dX12_undo_26 (by decide +kernel) <| z_aln (pc := 28) C dX12_undo_28 rfl <| z_gf (pc := 29) C dX12_undo_29 fl_12_7 <| z_ic (pc := 32) C dX12_undo_32 (by decide +kernel) <| z_ia (pc := 33) C dX12_undo_33 <| z_imul (pc := 34) C dX12_undo_34 <| z_iadd (pc := 35) C dX12_undo_35 <| z_isn (pc := 36) C dX12_undo_36 rfl (by decide) <| z_ic (pc := 37) C dX12_undo_37 (by decide +kernel) <| z_isn (pc := 38) C dX12_undo_38 rfl (by decide) <| z_jmp (hY 1)) <| z_aln (pc := 9) C dX12_undo_9 rfl <| z_cV (pc := 10) C dX12_undo_10 S_X12_no rfl (zl4 w_954 w_956 wp_22 w_13) w_957 ds_X12_no (zrm rfl rfl (by decide) (by decide)) <| z_ir C hr hk dX12_undo_13)
  | 1 => exact (z_iln (pc := 39) C dX12_undo_39 rfl <| z_bi (pc := 40) C dX12_undo_40 (by decide +kernel) <| z_cmpge (tgt := 98) (pc := 42) C dX12_undo_42 (by decide) (z_aln (pc := 98) C dX12_undo_98 rfl <| z_cV (pc := 99) C dX12_undo_99 S_X12_manyColds rfl (zl4 w_989 w_991 wp_27 w_13) w_992 ds_X12_manyColds (zrm rfl rfl (by decide) (by decide)) <| z_ir C hr hk dX12_undo_102) <| z_aln (pc := 45) C dX12_undo_45 rfl <| z_gf (pc := 46) C dX12_undo_46 fl_12_7 <| z_bi (pc := 49) C dX12_undo_49 (by decide +kernel) <| z_bi (pc := 51) C dX12_undo_51 (by decide +kernel) <| z_iln (pc := 53) C dX12_undo_53 rfl <| z_imul (pc := 54) C dX12_undo_54 <| z_iadd (pc := 55) C dX12_undo_55 <| z_ic (pc := 56) C dX12_undo_56 (by decide +kernel) <| z_iadd (pc := 57) C dX12_undo_57 <| z_aln (pc := 58) C dX12_undo_58 rfl <| z_gf (pc := 59) C dX12_undo_59 fl_12_7 <| z_iln (pc := 62) C dX12_undo_62 rfl <| z_iln (pc := 63) C dX12_undo_63 rfl <| z_iadd (pc := 64) C dX12_undo_64 <| z_ia (pc := 65) C dX12_undo_65 <| z_iast (pc := 66) C dX12_undo_66 <| z_aln (pc := 67) C dX12_undo_67 rfl <| z_gf (pc := 68) C dX12_undo_68 fl_12_7 <| z_bi (pc := 71) C dX12_undo_71 (by decide +kernel) <| z_bi (pc := 73) C dX12_undo_73 (by decide +kernel) <| z_iln (pc := 75) C dX12_undo_75 rfl <| z_imul (pc := 76) C dX12_undo_76 <| z_iadd (pc := 77) C dX12_undo_77 <| z_ic (pc := 78) C dX12_undo_78 (by decide +kernel) <| z_iadd (pc := 79) C dX12_undo_79 <| z_aln (pc := 80) C dX12_undo_80 rfl <| z_gf (pc := 81) C dX12_undo_81 fl_12_7 <| z_iln (pc := 84) C dX12_undo_84 rfl <| z_bi (pc := 85) C dX12_undo_85 (by decide +kernel) <| z_iadd (pc := 87) C dX12_undo_87 <| z_iln (pc := 88) C dX12_undo_88 rfl <| z_iadd (pc := 89) C dX12_undo_89 <| z_ia (pc := 90) C dX12_undo_90 <| z_iast (pc := 91) C dX12_undo_91 <| z_inc (pc := 92) C dX12_undo_92 (by decide +kernel) (by decide) <| z_goto (tgt := 39) (pc := 95) C dX12_undo_95 (by decide) <| z_jmp (hY 1))
  | b + 2 => exact fun _ _ _ h => h.elim
theorem dX12_of_0 : decode cX12_of 0 = .ok (.aload_n 0, 1) := by decide +kernel
theorem dX12_of_1 : decode cX12_of 1 = .ok (.iload_n 1, 1) := by decide +kernel
theorem dX12_of_2 : decode cX12_of 2 = .ok (.invokevirtual 136, 3) := by decide +kernel
theorem dX12_of_5 : decode cX12_of 5 = .ok (.ifCond .eq 24, 3) := by decide +kernel
theorem dX12_of_8 : decode cX12_of 8 = .ok (.iload_n 2, 1) := by decide +kernel
theorem dX12_of_9 : decode cX12_of 9 = .ok (.i2l, 1) := by decide +kernel
theorem dX12_of_10 : decode cX12_of 10 = .ok (.lconst 0, 1) := by decide +kernel
theorem dX12_of_11 : decode cX12_of 11 = .ok (.ldc2_w 88, 3) := by decide +kernel
theorem dX12_of_14 : decode cX12_of 14 = .ok (.invokestatic 68, 3) := by decide +kernel
theorem dX12_of_17 : decode cX12_of 17 = .ok (.ifCond .eq 12, 3) := by decide +kernel
theorem dX12_of_20 : decode cX12_of 20 = .ok (.aload_n 0, 1) := by decide +kernel
theorem dX12_of_21 : decode cX12_of 21 = .ok (.iload_n 1, 1) := by decide +kernel
theorem dX12_of_22 : decode cX12_of 22 = .ok (.iload_n 2, 1) := by decide +kernel
theorem dX12_of_23 : decode cX12_of 23 = .ok (.invokevirtual 114, 3) := by decide +kernel
theorem dX12_of_26 : decode cX12_of 26 = .ok (.goto 9, 3) := by decide +kernel
theorem dX12_of_29 : decode cX12_of 29 = .ok (.aload_n 0, 1) := by decide +kernel
theorem dX12_of_30 : decode cX12_of 30 = .ok (.bipush (-2), 2) := by decide +kernel
theorem dX12_of_32 : decode cX12_of 32 = .ok (.invokevirtual 78, 3) := by decide +kernel
theorem dX12_of_35 : decode cX12_of 35 = .ok (.ireturn, 1) := by decide +kernel
def P_X12_of : Nat → Nat
  | 1 => 29
  | _ => 0
set_option maxRecDepth 100000 in
set_option maxHeartbeats 4000000 in
theorem S_X12_of : zSd yX12_of cX12_of 3 (some .int) { frames := 2, cells := 0, slots := 0, locals := 46 } T_X12_of := by
  refine zMet (pcs := P_X12_of) (F := F_X12_of) (by decide) rfl ?_
  intro p l e s m args below meth c D ids ad A Q Y C hr hk hY b
  match b with
  | 0 => exact (z_aln (pc := 0) C dX12_of_0 rfl <| z_iln (pc := 1) C dX12_of_1 rfl <| z_cV (pc := 2) C dX12_of_2 S_X12_isFamily rfl (zl4 w_969 w_971 wp_24 w_13) w_972 ds_X12_isFamily (zrm rfl rfl (by decide) (by decide)) <| z_ifeq (tgt := 29) (pc := 5) C dX12_of_5 (by decide) (z_jmp (hY 1)) <| z_iln (pc := 8) C dX12_of_8 rfl <| z_i2l (pc := 9) C dX12_of_9 <| z_lc (pc := 10) C dX12_of_10 (by decide +kernel) <| z_ldc2 (pc := 11) C dX12_of_11 w_945 <| z_cS (pc := 14) C dX12_of_14 S_X12_in (zl3 w_922 w_923 w_13) w_924 ds_X12_in (zrm rfl rfl (by decide) (by decide)) <| z_ifeq (tgt := 29) (pc := 17) C dX12_of_17 (by decide) (z_jmp (hY 1)) <| z_aln (pc := 20) C dX12_of_20 rfl <| z_iln (pc := 21) C dX12_of_21 rfl <| z_iln (pc := 22) C dX12_of_22 rfl <| z_cV (pc := 23) C dX12_of_23 S_X12_get rfl (zl4 w_973 w_975 wp_25 w_13) w_976 ds_X12_get (zrm rfl rfl (by decide) (by decide)) <| z_goto (tgt := 35) (pc := 26) C dX12_of_26 (by decide) <| z_ir C hr hk dX12_of_35)
  | 1 => exact (z_aln (pc := 29) C dX12_of_29 rfl <| z_bi (pc := 30) C dX12_of_30 (by decide +kernel) <| z_cV (pc := 32) C dX12_of_32 S_X12_bad rfl (zl4 w_925 w_927 wp_20 w_13) w_928 ds_X12_bad (zrm rfl rfl (by decide) (by decide)) <| z_ir C hr hk dX12_of_35)
  | b + 2 => exact fun _ _ _ h => h.elim
theorem dX12_at_0 : decode cX12_at 0 = .ok (.aload_n 0, 1) := by decide +kernel
theorem dX12_at_1 : decode cX12_at 1 = .ok (.iload_n 1, 1) := by decide +kernel
theorem dX12_at_2 : decode cX12_at 2 = .ok (.invokevirtual 136, 3) := by decide +kernel
theorem dX12_at_5 : decode cX12_at 5 = .ok (.ifCond .eq 22, 3) := by decide +kernel
theorem dX12_at_8 : decode cX12_at 8 = .ok (.iload_n 2, 1) := by decide +kernel
theorem dX12_at_9 : decode cX12_at 9 = .ok (.invokestatic 145, 3) := by decide +kernel
theorem dX12_at_12 : decode cX12_at 12 = .ok (.ifCond .eq 15, 3) := by decide +kernel
theorem dX12_at_15 : decode cX12_at 15 = .ok (.iload_n 3, 1) := by decide +kernel
theorem dX12_at_16 : decode cX12_at 16 = .ok (.i2l, 1) := by decide +kernel
theorem dX12_at_17 : decode cX12_at 17 = .ok (.lconst 0, 1) := by decide +kernel
theorem dX12_at_18 : decode cX12_at 18 = .ok (.ldc2_w 148, 3) := by decide +kernel
theorem dX12_at_21 : decode cX12_at 21 = .ok (.invokestatic 68, 3) := by decide +kernel
theorem dX12_at_24 : decode cX12_at 24 = .ok (.ifCond .ne 10, 3) := by decide +kernel
theorem dX12_at_27 : decode cX12_at 27 = .ok (.aload_n 0, 1) := by decide +kernel
theorem dX12_at_28 : decode cX12_at 28 = .ok (.bipush (-2), 2) := by decide +kernel
theorem dX12_at_30 : decode cX12_at 30 = .ok (.invokevirtual 78, 3) := by decide +kernel
theorem dX12_at_33 : decode cX12_at 33 = .ok (.ireturn, 1) := by decide +kernel
theorem dX12_at_34 : decode cX12_at 34 = .ok (.aload_n 0, 1) := by decide +kernel
theorem dX12_at_35 : decode cX12_at 35 = .ok (.invokevirtual 150, 3) := by decide +kernel
theorem dX12_at_38 : decode cX12_at 38 = .ok (.iload_n 3, 1) := by decide +kernel
theorem dX12_at_39 : decode cX12_at 39 = .ok (.tableswitch 54 0 2 #[25, 40, 47], 25) := by decide +kernel
theorem dX12_at_64 : decode cX12_at 64 = .ok (.aload_n 0, 1) := by decide +kernel
theorem dX12_at_65 : decode cX12_at 65 = .ok (.iload_n 1, 1) := by decide +kernel
theorem dX12_at_66 : decode cX12_at 66 = .ok (.iload_n 2, 1) := by decide +kernel
theorem dX12_at_67 : decode cX12_at 67 = .ok (.invokevirtual 121, 3) := by decide +kernel
theorem dX12_at_70 : decode cX12_at 70 = .ok (.ifCond .eq 7, 3) := by decide +kernel
theorem dX12_at_73 : decode cX12_at 73 = .ok (.iconst 1, 1) := by decide +kernel
theorem dX12_at_74 : decode cX12_at 74 = .ok (.goto 4, 3) := by decide +kernel
theorem dX12_at_77 : decode cX12_at 77 = .ok (.iconst 0, 1) := by decide +kernel
theorem dX12_at_78 : decode cX12_at 78 = .ok (.ireturn, 1) := by decide +kernel
theorem dX12_at_79 : decode cX12_at 79 = .ok (.aload_n 0, 1) := by decide +kernel
theorem dX12_at_80 : decode cX12_at 80 = .ok (.iload_n 1, 1) := by decide +kernel
theorem dX12_at_81 : decode cX12_at 81 = .ok (.iload_n 2, 1) := by decide +kernel
theorem dX12_at_82 : decode cX12_at 82 = .ok (.invokevirtual 124, 3) := by decide +kernel
theorem dX12_at_85 : decode cX12_at 85 = .ok (.ireturn, 1) := by decide +kernel
theorem dX12_at_86 : decode cX12_at 86 = .ok (.aload_n 0, 1) := by decide +kernel
theorem dX12_at_87 : decode cX12_at 87 = .ok (.iload_n 1, 1) := by decide +kernel
theorem dX12_at_88 : decode cX12_at 88 = .ok (.iload_n 2, 1) := by decide +kernel
theorem dX12_at_89 : decode cX12_at 89 = .ok (.invokevirtual 127, 3) := by decide +kernel
theorem dX12_at_92 : decode cX12_at 92 = .ok (.ireturn, 1) := by decide +kernel
theorem dX12_at_93 : decode cX12_at 93 = .ok (.aload_n 0, 1) := by decide +kernel
theorem dX12_at_94 : decode cX12_at 94 = .ok (.iload_n 1, 1) := by decide +kernel
theorem dX12_at_95 : decode cX12_at 95 = .ok (.iload_n 2, 1) := by decide +kernel
theorem dX12_at_96 : decode cX12_at 96 = .ok (.invokevirtual 153, 3) := by decide +kernel
theorem dX12_at_99 : decode cX12_at 99 = .ok (.ifCond .eq 7, 3) := by decide +kernel
theorem dX12_at_102 : decode cX12_at 102 = .ok (.iconst 1, 1) := by decide +kernel
theorem dX12_at_103 : decode cX12_at 103 = .ok (.goto 4, 3) := by decide +kernel
theorem dX12_at_106 : decode cX12_at 106 = .ok (.iconst 0, 1) := by decide +kernel
theorem dX12_at_107 : decode cX12_at 107 = .ok (.ireturn, 1) := by decide +kernel
def P_X12_at : Nat → Nat
  | 1 => 27
  | _ => 0
set_option maxRecDepth 100000 in
set_option maxHeartbeats 4000000 in
theorem S_X12_at : zSd yX12_at cX12_at 4 (some .int) { frames := 4, cells := 0, slots := 0, locals := 93 } T_X12_at := by
  refine zMet (pcs := P_X12_at) (F := F_X12_at) (by decide) rfl ?_
  intro p l e s m args below meth c D ids ad A Q Y C hr hk hY b
  match b with
  | 0 => exact (z_aln (pc := 0) C dX12_at_0 rfl <| z_iln (pc := 1) C dX12_at_1 rfl <| z_cV (pc := 2) C dX12_at_2 S_X12_isFamily rfl (zl4 w_969 w_971 wp_24 w_13) w_972 ds_X12_isFamily (zrm rfl rfl (by decide) (by decide)) <| z_ifeq (tgt := 27) (pc := 5) C dX12_at_5 (by decide) (z_jmp (hY 1)) <| z_iln (pc := 8) C dX12_at_8 rfl <| z_cS (pc := 9) C dX12_at_9 S_X12_isWord (zl3 w_1001 w_1002 w_13) w_1003 ds_X12_isWord (zrm rfl rfl (by decide) (by decide)) <| z_ifeq (tgt := 27) (pc := 12) C dX12_at_12 (by decide) (z_jmp (hY 1)) <| z_iln (pc := 15) C dX12_at_15 rfl <| z_i2l (pc := 16) C dX12_at_16 <| z_lc (pc := 17) C dX12_at_17 (by decide +kernel) <| z_ldc2 (pc := 18) C dX12_at_18 w_1005 <| z_cS (pc := 21) C dX12_at_21 S_X12_in (zl3 w_922 w_923 w_13) w_924 ds_X12_in (zrm rfl rfl (by decide) (by decide)) <| z_ifne (tgt := 34) (pc := 24) C dX12_at_24 (by decide) (z_aln (pc := 34) C dX12_at_34 rfl <| z_cV (pc := 35) C dX12_at_35 S_X12_layHand rfl (zl4 w_1006 w_1008 wp_28 w_13) w_1009 ds_X12_layHand (zrm rfl rfl (by decide) (by decide)) <| z_iln (pc := 38) C dX12_at_38 rfl <| z_table (pc := 39) (tgts := [64, 79, 86]) (td := 93) C dX12_at_39 (keys := [0, 1, 2]) rfl (by decide +kernel) rfl (by decide) (by decide +kernel) (by decide) (fun j q t h1 h2 => match j, q, t, h1, h2 with
  | 0, _, _, h1, h2 => by cases h1; cases h2; exact (z_aln (pc := 64) C dX12_at_64 rfl <| z_iln (pc := 65) C dX12_at_65 rfl <| z_iln (pc := 66) C dX12_at_66 rfl <| z_cV (pc := 67) C dX12_at_67 S_X12_kneels rfl (zl4 w_1010 w_1012 wp_29 w_13) w_1013 ds_X12_kneels (zrm rfl rfl (by decide) (by decide)) <| z_ifeq (tgt := 77) (pc := 70) C dX12_at_70 (by decide) (z_ic (pc := 77) C dX12_at_77 (by decide +kernel) <| z_ir C hr hk dX12_at_78) <| z_ic (pc := 73) C dX12_at_73 (by decide +kernel) <| z_goto (tgt := 78) (pc := 74) C dX12_at_74 (by decide) <| z_ir C hr hk dX12_at_78)
  | 1, _, _, h1, h2 => by cases h1; cases h2; exact (z_aln (pc := 79) C dX12_at_79 rfl <| z_iln (pc := 80) C dX12_at_80 rfl <| z_iln (pc := 81) C dX12_at_81 rfl <| z_cV (pc := 82) C dX12_at_82 S_X12_high rfl (zl4 w_1017 w_1019 wp_30 w_13) w_1020 ds_X12_high (zrm rfl rfl (by decide) (by decide)) <| z_ir C hr hk dX12_at_85)
  | 2, _, _, h1, h2 => by cases h1; cases h2; exact (z_aln (pc := 86) C dX12_at_86 rfl <| z_iln (pc := 87) C dX12_at_87 rfl <| z_iln (pc := 88) C dX12_at_88 rfl <| z_cV (pc := 89) C dX12_at_89 S_X12_voices rfl (zl4 w_1021 w_1023 wp_31 w_13) w_1024 ds_X12_voices (zrm rfl rfl (by decide) (by decide)) <| z_ir C hr hk dX12_at_92)
  | j + 3, _, _, h1, _ => by simp at h1) (z_aln (pc := 93) C dX12_at_93 rfl <| z_iln (pc := 94) C dX12_at_94 rfl <| z_iln (pc := 95) C dX12_at_95 rfl <| z_cV (pc := 96) C dX12_at_96 S_X12_sees rfl (zl4 w_1025 w_1027 wp_32 w_13) w_1028 ds_X12_sees (zrm rfl rfl (by decide) (by decide)) <| z_ifeq (tgt := 106) (pc := 99) C dX12_at_99 (by decide) (z_ic (pc := 106) C dX12_at_106 (by decide +kernel) <| z_ir C hr hk dX12_at_107) <| z_ic (pc := 102) C dX12_at_102 (by decide +kernel) <| z_goto (tgt := 107) (pc := 103) C dX12_at_103 (by decide) <| z_ir C hr hk dX12_at_107)) <| z_jmp (hY 1))
  | 1 => exact (z_aln (pc := 27) C dX12_at_27 rfl <| z_bi (pc := 28) C dX12_at_28 (by decide +kernel) <| z_cV (pc := 30) C dX12_at_30 S_X12_bad rfl (zl4 w_925 w_927 wp_20 w_13) w_928 ds_X12_bad (zrm rfl rfl (by decide) (by decide)) <| z_ir C hr hk dX12_at_33)
  | b + 2 => exact fun _ _ _ h => h.elim
theorem dX12_up_0 : decode cX12_up 0 = .ok (.iload_n 1, 1) := by decide +kernel
theorem dX12_up_1 : decode cX12_up 1 = .ok (.invokestatic 145, 3) := by decide +kernel
theorem dX12_up_4 : decode cX12_up 4 = .ok (.ifCond .ne 10, 3) := by decide +kernel
theorem dX12_up_7 : decode cX12_up 7 = .ok (.aload_n 0, 1) := by decide +kernel
theorem dX12_up_8 : decode cX12_up 8 = .ok (.bipush (-2), 2) := by decide +kernel
theorem dX12_up_10 : decode cX12_up 10 = .ok (.invokevirtual 78, 3) := by decide +kernel
theorem dX12_up_13 : decode cX12_up 13 = .ok (.ireturn, 1) := by decide +kernel
theorem dX12_up_14 : decode cX12_up 14 = .ok (.iconst 0, 1) := by decide +kernel
theorem dX12_up_15 : decode cX12_up 15 = .ok (.istore_n 2, 1) := by decide +kernel
theorem dX12_up_16 : decode cX12_up 16 = .ok (.aload_n 0, 1) := by decide +kernel
theorem dX12_up_17 : decode cX12_up 17 = .ok (.invokevirtual 150, 3) := by decide +kernel
theorem dX12_up_20 : decode cX12_up 20 = .ok (.iconst 0, 1) := by decide +kernel
theorem dX12_up_21 : decode cX12_up 21 = .ok (.istore_n 3, 1) := by decide +kernel
theorem dX12_up_22 : decode cX12_up 22 = .ok (.iload_n 3, 1) := by decide +kernel
theorem dX12_up_23 : decode cX12_up 23 = .ok (.aload_n 0, 1) := by decide +kernel
theorem dX12_up_24 : decode cX12_up 24 = .ok (.invokevirtual 64, 3) := by decide +kernel
theorem dX12_up_27 : decode cX12_up 27 = .ok (.if_icmp .ge 28, 3) := by decide +kernel
theorem dX12_up_30 : decode cX12_up 30 = .ok (.iload_n 2, 1) := by decide +kernel
theorem dX12_up_31 : decode cX12_up 31 = .ok (.aload_n 0, 1) := by decide +kernel
theorem dX12_up_32 : decode cX12_up 32 = .ok (.iload_n 3, 1) := by decide +kernel
theorem dX12_up_33 : decode cX12_up 33 = .ok (.iload_n 1, 1) := by decide +kernel
theorem dX12_up_34 : decode cX12_up 34 = .ok (.invokevirtual 121, 3) := by decide +kernel
theorem dX12_up_37 : decode cX12_up 37 = .ok (.ifCond .eq 7, 3) := by decide +kernel
theorem dX12_up_40 : decode cX12_up 40 = .ok (.iconst 0, 1) := by decide +kernel
theorem dX12_up_41 : decode cX12_up 41 = .ok (.goto 6, 3) := by decide +kernel
theorem dX12_up_44 : decode cX12_up 44 = .ok (.iconst 1, 1) := by decide +kernel
theorem dX12_up_45 : decode cX12_up 45 = .ok (.iload_n 3, 1) := by decide +kernel
theorem dX12_up_46 : decode cX12_up 46 = .ok (.ishl, 1) := by decide +kernel
theorem dX12_up_47 : decode cX12_up 47 = .ok (.ior, 1) := by decide +kernel
theorem dX12_up_48 : decode cX12_up 48 = .ok (.istore_n 2, 1) := by decide +kernel
theorem dX12_up_49 : decode cX12_up 49 = .ok (.iinc 3 1, 3) := by decide +kernel
theorem dX12_up_52 : decode cX12_up 52 = .ok (.goto (-30), 3) := by decide +kernel
theorem dX12_up_55 : decode cX12_up 55 = .ok (.iload_n 2, 1) := by decide +kernel
theorem dX12_up_56 : decode cX12_up 56 = .ok (.ireturn, 1) := by decide +kernel
def P_X12_up : Nat → Nat
  | 1 => 22
  | 2 => 47
  | _ => 0
set_option maxRecDepth 100000 in
set_option maxHeartbeats 4000000 in
theorem S_X12_up : zSd yX12_up cX12_up 4 (some .int) { frames := 2, cells := 0, slots := 0, locals := 45 } T_X12_up := by
  refine zMet (pcs := P_X12_up) (F := F_X12_up) (by decide) rfl ?_
  intro p l e s m args below meth c D ids ad A Q Y C hr hk hY b
  match b with
  | 0 => exact (z_iln (pc := 0) C dX12_up_0 rfl <| z_cS (pc := 1) C dX12_up_1 S_X12_isWord (zl3 w_1001 w_1002 w_13) w_1003 ds_X12_isWord (zrm rfl rfl (by decide) (by decide)) <| z_ifne (tgt := 14) (pc := 4) C dX12_up_4 (by decide) (z_ic (pc := 14) C dX12_up_14 (by decide +kernel) <| z_isn (pc := 15) C dX12_up_15 rfl (by decide) <| z_aln (pc := 16) C dX12_up_16 rfl <| z_cV (pc := 17) C dX12_up_17 S_X12_layHand rfl (zl4 w_1006 w_1008 wp_28 w_13) w_1009 ds_X12_layHand (zrm rfl rfl (by decide) (by decide)) <| z_ic (pc := 20) C dX12_up_20 (by decide +kernel) <| z_isn (pc := 21) C dX12_up_21 rfl (by decide) <| z_jmp (hY 1)) <| z_aln (pc := 7) C dX12_up_7 rfl <| z_bi (pc := 8) C dX12_up_8 (by decide +kernel) <| z_cV (pc := 10) C dX12_up_10 S_X12_bad rfl (zl4 w_925 w_927 wp_20 w_13) w_928 ds_X12_bad (zrm rfl rfl (by decide) (by decide)) <| z_ir C hr hk dX12_up_13)
  | 1 => exact (z_iln (pc := 22) C dX12_up_22 rfl <| z_aln (pc := 23) C dX12_up_23 rfl <| z_cV (pc := 24) C dX12_up_24 S_X12_many rfl (zl4 w_929 w_931 wp_21 w_13) w_932 ds_X12_many (zrm rfl rfl (by decide) (by decide)) <| z_cmpge (tgt := 55) (pc := 27) C dX12_up_27 (by decide) (z_iln (pc := 55) C dX12_up_55 rfl <| z_ir C hr hk dX12_up_56) <| z_iln (pc := 30) C dX12_up_30 rfl <| z_aln (pc := 31) C dX12_up_31 rfl <| z_iln (pc := 32) C dX12_up_32 rfl <| z_iln (pc := 33) C dX12_up_33 rfl <| z_cV (pc := 34) C dX12_up_34 S_X12_kneels rfl (zl4 w_1010 w_1012 wp_29 w_13) w_1013 ds_X12_kneels (zrm rfl rfl (by decide) (by decide)) <| z_ifeq (tgt := 44) (pc := 37) C dX12_up_37 (by decide) (z_ic (pc := 44) C dX12_up_44 (by decide +kernel) <| z_iln (pc := 45) C dX12_up_45 rfl <| z_ishl (pc := 46) C dX12_up_46 <| z_jmp (hY 2)) <| z_ic (pc := 40) C dX12_up_40 (by decide +kernel) <| z_goto (tgt := 47) (pc := 41) C dX12_up_41 (by decide) <| z_jmp (hY 2))
  | 2 => exact (z_ior (pc := 47) C dX12_up_47 <| z_isn (pc := 48) C dX12_up_48 rfl (by decide) <| z_inc (pc := 49) C dX12_up_49 (by decide +kernel) (by decide) <| z_goto (tgt := 22) (pc := 52) C dX12_up_52 (by decide) <| z_jmp (hY 1))
  | b + 3 => exact fun _ _ _ h => h.elim
theorem dX12_seers_0 : decode cX12_seers 0 = .ok (.iload_n 1, 1) := by decide +kernel
theorem dX12_seers_1 : decode cX12_seers 1 = .ok (.invokestatic 145, 3) := by decide +kernel
theorem dX12_seers_4 : decode cX12_seers 4 = .ok (.ifCond .ne 10, 3) := by decide +kernel
theorem dX12_seers_7 : decode cX12_seers 7 = .ok (.aload_n 0, 1) := by decide +kernel
theorem dX12_seers_8 : decode cX12_seers 8 = .ok (.bipush (-2), 2) := by decide +kernel
theorem dX12_seers_10 : decode cX12_seers 10 = .ok (.invokevirtual 78, 3) := by decide +kernel
theorem dX12_seers_13 : decode cX12_seers 13 = .ok (.ireturn, 1) := by decide +kernel
theorem dX12_seers_14 : decode cX12_seers 14 = .ok (.iconst 0, 1) := by decide +kernel
theorem dX12_seers_15 : decode cX12_seers 15 = .ok (.istore_n 2, 1) := by decide +kernel
theorem dX12_seers_16 : decode cX12_seers 16 = .ok (.aload_n 0, 1) := by decide +kernel
theorem dX12_seers_17 : decode cX12_seers 17 = .ok (.invokevirtual 150, 3) := by decide +kernel
theorem dX12_seers_20 : decode cX12_seers 20 = .ok (.iconst 0, 1) := by decide +kernel
theorem dX12_seers_21 : decode cX12_seers 21 = .ok (.istore_n 3, 1) := by decide +kernel
theorem dX12_seers_22 : decode cX12_seers 22 = .ok (.iload_n 3, 1) := by decide +kernel
theorem dX12_seers_23 : decode cX12_seers 23 = .ok (.aload_n 0, 1) := by decide +kernel
theorem dX12_seers_24 : decode cX12_seers 24 = .ok (.invokevirtual 64, 3) := by decide +kernel
theorem dX12_seers_27 : decode cX12_seers 27 = .ok (.if_icmp .ge 28, 3) := by decide +kernel
theorem dX12_seers_30 : decode cX12_seers 30 = .ok (.iload_n 2, 1) := by decide +kernel
theorem dX12_seers_31 : decode cX12_seers 31 = .ok (.aload_n 0, 1) := by decide +kernel
theorem dX12_seers_32 : decode cX12_seers 32 = .ok (.iload_n 3, 1) := by decide +kernel
theorem dX12_seers_33 : decode cX12_seers 33 = .ok (.iload_n 1, 1) := by decide +kernel
theorem dX12_seers_34 : decode cX12_seers 34 = .ok (.invokevirtual 153, 3) := by decide +kernel
theorem dX12_seers_37 : decode cX12_seers 37 = .ok (.ifCond .eq 9, 3) := by decide +kernel
theorem dX12_seers_40 : decode cX12_seers 40 = .ok (.iconst 1, 1) := by decide +kernel
theorem dX12_seers_41 : decode cX12_seers 41 = .ok (.iload_n 3, 1) := by decide +kernel
theorem dX12_seers_42 : decode cX12_seers 42 = .ok (.ishl, 1) := by decide +kernel
theorem dX12_seers_43 : decode cX12_seers 43 = .ok (.goto 4, 3) := by decide +kernel
theorem dX12_seers_46 : decode cX12_seers 46 = .ok (.iconst 0, 1) := by decide +kernel
theorem dX12_seers_47 : decode cX12_seers 47 = .ok (.ior, 1) := by decide +kernel
theorem dX12_seers_48 : decode cX12_seers 48 = .ok (.istore_n 2, 1) := by decide +kernel
theorem dX12_seers_49 : decode cX12_seers 49 = .ok (.iinc 3 1, 3) := by decide +kernel
theorem dX12_seers_52 : decode cX12_seers 52 = .ok (.goto (-30), 3) := by decide +kernel
theorem dX12_seers_55 : decode cX12_seers 55 = .ok (.iload_n 2, 1) := by decide +kernel
theorem dX12_seers_56 : decode cX12_seers 56 = .ok (.ireturn, 1) := by decide +kernel
def P_X12_seers : Nat → Nat
  | 1 => 22
  | 2 => 47
  | _ => 0
set_option maxRecDepth 100000 in
set_option maxHeartbeats 4000000 in
theorem S_X12_seers : zSd yX12_seers cX12_seers 4 (some .int) { frames := 4, cells := 0, slots := 0, locals := 93 } T_X12_seers := by
  refine zMet (pcs := P_X12_seers) (F := F_X12_seers) (by decide) rfl ?_
  intro p l e s m args below meth c D ids ad A Q Y C hr hk hY b
  match b with
  | 0 => exact (z_iln (pc := 0) C dX12_seers_0 rfl <| z_cS (pc := 1) C dX12_seers_1 S_X12_isWord (zl3 w_1001 w_1002 w_13) w_1003 ds_X12_isWord (zrm rfl rfl (by decide) (by decide)) <| z_ifne (tgt := 14) (pc := 4) C dX12_seers_4 (by decide) (z_ic (pc := 14) C dX12_seers_14 (by decide +kernel) <| z_isn (pc := 15) C dX12_seers_15 rfl (by decide) <| z_aln (pc := 16) C dX12_seers_16 rfl <| z_cV (pc := 17) C dX12_seers_17 S_X12_layHand rfl (zl4 w_1006 w_1008 wp_28 w_13) w_1009 ds_X12_layHand (zrm rfl rfl (by decide) (by decide)) <| z_ic (pc := 20) C dX12_seers_20 (by decide +kernel) <| z_isn (pc := 21) C dX12_seers_21 rfl (by decide) <| z_jmp (hY 1)) <| z_aln (pc := 7) C dX12_seers_7 rfl <| z_bi (pc := 8) C dX12_seers_8 (by decide +kernel) <| z_cV (pc := 10) C dX12_seers_10 S_X12_bad rfl (zl4 w_925 w_927 wp_20 w_13) w_928 ds_X12_bad (zrm rfl rfl (by decide) (by decide)) <| z_ir C hr hk dX12_seers_13)
  | 1 => exact (z_iln (pc := 22) C dX12_seers_22 rfl <| z_aln (pc := 23) C dX12_seers_23 rfl <| z_cV (pc := 24) C dX12_seers_24 S_X12_many rfl (zl4 w_929 w_931 wp_21 w_13) w_932 ds_X12_many (zrm rfl rfl (by decide) (by decide)) <| z_cmpge (tgt := 55) (pc := 27) C dX12_seers_27 (by decide) (z_iln (pc := 55) C dX12_seers_55 rfl <| z_ir C hr hk dX12_seers_56) <| z_iln (pc := 30) C dX12_seers_30 rfl <| z_aln (pc := 31) C dX12_seers_31 rfl <| z_iln (pc := 32) C dX12_seers_32 rfl <| z_iln (pc := 33) C dX12_seers_33 rfl <| z_cV (pc := 34) C dX12_seers_34 S_X12_sees rfl (zl4 w_1025 w_1027 wp_32 w_13) w_1028 ds_X12_sees (zrm rfl rfl (by decide) (by decide)) <| z_ifeq (tgt := 46) (pc := 37) C dX12_seers_37 (by decide) (z_ic (pc := 46) C dX12_seers_46 (by decide +kernel) <| z_jmp (hY 2)) <| z_ic (pc := 40) C dX12_seers_40 (by decide +kernel) <| z_iln (pc := 41) C dX12_seers_41 rfl <| z_ishl (pc := 42) C dX12_seers_42 <| z_goto (tgt := 47) (pc := 43) C dX12_seers_43 (by decide) <| z_jmp (hY 2))
  | 2 => exact (z_ior (pc := 47) C dX12_seers_47 <| z_isn (pc := 48) C dX12_seers_48 rfl (by decide) <| z_inc (pc := 49) C dX12_seers_49 (by decide +kernel) (by decide) <| z_goto (tgt := 22) (pc := 52) C dX12_seers_52 (by decide) <| z_jmp (hY 1))
  | b + 3 => exact fun _ _ _ h => h.elim
theorem dX12_loud_0 : decode cX12_loud 0 = .ok (.iload_n 1, 1) := by decide +kernel
theorem dX12_loud_1 : decode cX12_loud 1 = .ok (.invokestatic 145, 3) := by decide +kernel
theorem dX12_loud_4 : decode cX12_loud 4 = .ok (.ifCond .eq 10, 3) := by decide +kernel
theorem dX12_loud_7 : decode cX12_loud 7 = .ok (.iload_n 2, 1) := by decide +kernel
theorem dX12_loud_8 : decode cX12_loud 8 = .ok (.invokestatic 82, 3) := by decide +kernel
theorem dX12_loud_11 : decode cX12_loud 11 = .ok (.ifCond .ne 10, 3) := by decide +kernel
theorem dX12_loud_14 : decode cX12_loud 14 = .ok (.aload_n 0, 1) := by decide +kernel
theorem dX12_loud_15 : decode cX12_loud 15 = .ok (.bipush (-2), 2) := by decide +kernel
theorem dX12_loud_17 : decode cX12_loud 17 = .ok (.invokevirtual 78, 3) := by decide +kernel
theorem dX12_loud_20 : decode cX12_loud 20 = .ok (.ireturn, 1) := by decide +kernel
theorem dX12_loud_21 : decode cX12_loud 21 = .ok (.aload_n 0, 1) := by decide +kernel
theorem dX12_loud_22 : decode cX12_loud 22 = .ok (.invokevirtual 150, 3) := by decide +kernel
theorem dX12_loud_25 : decode cX12_loud 25 = .ok (.aload_n 0, 1) := by decide +kernel
theorem dX12_loud_26 : decode cX12_loud 26 = .ok (.iload_n 1, 1) := by decide +kernel
theorem dX12_loud_27 : decode cX12_loud 27 = .ok (.iload_n 2, 1) := by decide +kernel
theorem dX12_loud_28 : decode cX12_loud 28 = .ok (.invokevirtual 130, 3) := by decide +kernel
theorem dX12_loud_31 : decode cX12_loud 31 = .ok (.ireturn, 1) := by decide +kernel
def P_X12_loud : Nat → Nat
  | 1 => 14
  | _ => 0
set_option maxRecDepth 100000 in
set_option maxHeartbeats 4000000 in
theorem S_X12_loud : zSd yX12_loud cX12_loud 3 (some .int) { frames := 4, cells := 0, slots := 0, locals := 93 } T_X12_loud := by
  refine zMet (pcs := P_X12_loud) (F := F_X12_loud) (by decide) rfl ?_
  intro p l e s m args below meth c D ids ad A Q Y C hr hk hY b
  match b with
  | 0 => exact (z_iln (pc := 0) C dX12_loud_0 rfl <| z_cS (pc := 1) C dX12_loud_1 S_X12_isWord (zl3 w_1001 w_1002 w_13) w_1003 ds_X12_isWord (zrm rfl rfl (by decide) (by decide)) <| z_ifeq (tgt := 14) (pc := 4) C dX12_loud_4 (by decide) (z_jmp (hY 1)) <| z_iln (pc := 7) C dX12_loud_7 rfl <| z_cS (pc := 8) C dX12_loud_8 S_X12_isBook (zl3 w_937 w_938 w_13) w_939 ds_X12_isBook (zrm rfl rfl (by decide) (by decide)) <| z_ifne (tgt := 21) (pc := 11) C dX12_loud_11 (by decide) (z_aln (pc := 21) C dX12_loud_21 rfl <| z_cV (pc := 22) C dX12_loud_22 S_X12_layHand rfl (zl4 w_1006 w_1008 wp_28 w_13) w_1009 ds_X12_layHand (zrm rfl rfl (by decide) (by decide)) <| z_aln (pc := 25) C dX12_loud_25 rfl <| z_iln (pc := 26) C dX12_loud_26 rfl <| z_iln (pc := 27) C dX12_loud_27 rfl <| z_cV (pc := 28) C dX12_loud_28 S_X12_loudOf rfl (zl4 w_1041 w_1043 wp_33 w_13) w_1044 ds_X12_loudOf (zrm rfl rfl (by decide) (by decide)) <| z_ir C hr hk dX12_loud_31) <| z_jmp (hY 1))
  | 1 => exact (z_aln (pc := 14) C dX12_loud_14 rfl <| z_bi (pc := 15) C dX12_loud_15 (by decide +kernel) <| z_cV (pc := 17) C dX12_loud_17 S_X12_bad rfl (zl4 w_925 w_927 wp_20 w_13) w_928 ds_X12_bad (zrm rfl rfl (by decide) (by decide)) <| z_ir C hr hk dX12_loud_20)
  | b + 2 => exact fun _ _ _ h => h.elim
theorem dX12_breach_0 : decode cX12_breach 0 = .ok (.iload_n 1, 1) := by decide +kernel
theorem dX12_breach_1 : decode cX12_breach 1 = .ok (.invokestatic 145, 3) := by decide +kernel
theorem dX12_breach_4 : decode cX12_breach 4 = .ok (.ifCond .ne 10, 3) := by decide +kernel
theorem dX12_breach_7 : decode cX12_breach 7 = .ok (.aload_n 0, 1) := by decide +kernel
theorem dX12_breach_8 : decode cX12_breach 8 = .ok (.bipush (-2), 2) := by decide +kernel
theorem dX12_breach_10 : decode cX12_breach 10 = .ok (.invokevirtual 78, 3) := by decide +kernel
theorem dX12_breach_13 : decode cX12_breach 13 = .ok (.ireturn, 1) := by decide +kernel
theorem dX12_breach_14 : decode cX12_breach 14 = .ok (.aload_n 0, 1) := by decide +kernel
theorem dX12_breach_15 : decode cX12_breach 15 = .ok (.invokevirtual 150, 3) := by decide +kernel
theorem dX12_breach_18 : decode cX12_breach 18 = .ok (.iload_n 1, 1) := by decide +kernel
theorem dX12_breach_19 : decode cX12_breach 19 = .ok (.istore_n 2, 1) := by decide +kernel
theorem dX12_breach_20 : decode cX12_breach 20 = .ok (.iload_n 2, 1) := by decide +kernel
theorem dX12_breach_21 : decode cX12_breach 21 = .ok (.bipush 16, 2) := by decide +kernel
theorem dX12_breach_23 : decode cX12_breach 23 = .ok (.if_icmp .ge 19, 3) := by decide +kernel
theorem dX12_breach_26 : decode cX12_breach 26 = .ok (.aload_n 0, 1) := by decide +kernel
theorem dX12_breach_27 : decode cX12_breach 27 = .ok (.iload_n 2, 1) := by decide +kernel
theorem dX12_breach_28 : decode cX12_breach 28 = .ok (.invokevirtual 133, 3) := by decide +kernel
theorem dX12_breach_31 : decode cX12_breach 31 = .ok (.ifCond .ne 5, 3) := by decide +kernel
theorem dX12_breach_34 : decode cX12_breach 34 = .ok (.iload_n 2, 1) := by decide +kernel
theorem dX12_breach_35 : decode cX12_breach 35 = .ok (.ireturn, 1) := by decide +kernel
theorem dX12_breach_36 : decode cX12_breach 36 = .ok (.iinc 2 1, 3) := by decide +kernel
theorem dX12_breach_39 : decode cX12_breach 39 = .ok (.goto (-19), 3) := by decide +kernel
theorem dX12_breach_42 : decode cX12_breach 42 = .ok (.iconst (-1), 1) := by decide +kernel
theorem dX12_breach_43 : decode cX12_breach 43 = .ok (.ireturn, 1) := by decide +kernel
def P_X12_breach : Nat → Nat
  | 1 => 20
  | _ => 0
set_option maxRecDepth 100000 in
set_option maxHeartbeats 4000000 in
theorem S_X12_breach : zSd yX12_breach cX12_breach 3 (some .int) { frames := 5, cells := 0, slots := 0, locals := 115 } T_X12_breach := by
  refine zMet (pcs := P_X12_breach) (F := F_X12_breach) (by decide) rfl ?_
  intro p l e s m args below meth c D ids ad A Q Y C hr hk hY b
  match b with
  | 0 => exact (z_iln (pc := 0) C dX12_breach_0 rfl <| z_cS (pc := 1) C dX12_breach_1 S_X12_isWord (zl3 w_1001 w_1002 w_13) w_1003 ds_X12_isWord (zrm rfl rfl (by decide) (by decide)) <| z_ifne (tgt := 14) (pc := 4) C dX12_breach_4 (by decide) (z_aln (pc := 14) C dX12_breach_14 rfl <| z_cV (pc := 15) C dX12_breach_15 S_X12_layHand rfl (zl4 w_1006 w_1008 wp_28 w_13) w_1009 ds_X12_layHand (zrm rfl rfl (by decide) (by decide)) <| z_iln (pc := 18) C dX12_breach_18 rfl <| z_isn (pc := 19) C dX12_breach_19 rfl (by decide) <| z_jmp (hY 1)) <| z_aln (pc := 7) C dX12_breach_7 rfl <| z_bi (pc := 8) C dX12_breach_8 (by decide +kernel) <| z_cV (pc := 10) C dX12_breach_10 S_X12_bad rfl (zl4 w_925 w_927 wp_20 w_13) w_928 ds_X12_bad (zrm rfl rfl (by decide) (by decide)) <| z_ir C hr hk dX12_breach_13)
  | 1 => exact (z_iln (pc := 20) C dX12_breach_20 rfl <| z_bi (pc := 21) C dX12_breach_21 (by decide +kernel) <| z_cmpge (tgt := 42) (pc := 23) C dX12_breach_23 (by decide) (z_ic (pc := 42) C dX12_breach_42 (by decide +kernel) <| z_ir C hr hk dX12_breach_43) <| z_aln (pc := 26) C dX12_breach_26 rfl <| z_iln (pc := 27) C dX12_breach_27 rfl <| z_cV (pc := 28) C dX12_breach_28 S_X12_isPeace rfl (zl4 w_1049 w_1051 wp_34 w_13) w_1052 ds_X12_isPeace (zrm rfl rfl (by decide) (by decide)) <| z_ifne (tgt := 36) (pc := 31) C dX12_breach_31 (by decide) (z_inc (pc := 36) C dX12_breach_36 (by decide +kernel) (by decide) <| z_goto (tgt := 20) (pc := 39) C dX12_breach_39 (by decide) <| z_jmp (hY 1)) <| z_iln (pc := 34) C dX12_breach_34 rfl <| z_ir C hr hk dX12_breach_35)
  | b + 2 => exact fun _ _ _ h => h.elim
theorem dX12_canNot_0 : decode cX12_canNot 0 = .ok (.aload_n 0, 1) := by decide +kernel
theorem dX12_canNot_1 : decode cX12_canNot 1 = .ok (.getfield 7, 3) := by decide +kernel
theorem dX12_canNot_4 : decode cX12_canNot 4 = .ok (.iconst 2, 1) := by decide +kernel
theorem dX12_canNot_5 : decode cX12_canNot 5 = .ok (.iaload, 1) := by decide +kernel
theorem dX12_canNot_6 : decode cX12_canNot 6 = .ok (.aload_n 0, 1) := by decide +kernel
theorem dX12_canNot_7 : decode cX12_canNot 7 = .ok (.getfield 7, 3) := by decide +kernel
theorem dX12_canNot_10 : decode cX12_canNot 10 = .ok (.iconst 3, 1) := by decide +kernel
theorem dX12_canNot_11 : decode cX12_canNot 11 = .ok (.iaload, 1) := by decide +kernel
theorem dX12_canNot_12 : decode cX12_canNot 12 = .ok (.ixor, 1) := by decide +kernel
theorem dX12_canNot_13 : decode cX12_canNot 13 = .ok (.ireturn, 1) := by decide +kernel
def P_X12_canNot : Nat → Nat
  | _ => 0
set_option maxRecDepth 100000 in
set_option maxHeartbeats 4000000 in
theorem S_X12_canNot : zSd yX12_canNot cX12_canNot 1 (some .int) { frames := 0, cells := 0, slots := 0, locals := 0 } T_X12_canNot := by
  refine zMet (pcs := P_X12_canNot) (F := F_X12_canNot) (by decide) rfl ?_
  intro p l e s m args below meth c D ids ad A Q Y C hr hk hY b
  match b with
  | 0 => exact (z_aln (pc := 0) C dX12_canNot_0 rfl <| z_gf (pc := 1) C dX12_canNot_1 fl_12_7 <| z_ic (pc := 4) C dX12_canNot_4 (by decide +kernel) <| z_ia (pc := 5) C dX12_canNot_5 <| z_aln (pc := 6) C dX12_canNot_6 rfl <| z_gf (pc := 7) C dX12_canNot_7 fl_12_7 <| z_ic (pc := 10) C dX12_canNot_10 (by decide +kernel) <| z_ia (pc := 11) C dX12_canNot_11 <| z_ixor (pc := 12) C dX12_canNot_12 <| z_ir C hr hk dX12_canNot_13)
  | b + 1 => exact fun _ _ _ h => h.elim
theorem dX12_laySeats_0 : decode cX12_laySeats 0 = .ok (.iload_n 1, 1) := by decide +kernel
theorem dX12_laySeats_1 : decode cX12_laySeats 1 = .ok (.istore_n 2, 1) := by decide +kernel
theorem dX12_laySeats_2 : decode cX12_laySeats 2 = .ok (.iconst 0, 1) := by decide +kernel
theorem dX12_laySeats_3 : decode cX12_laySeats 3 = .ok (.istore_n 3, 1) := by decide +kernel
theorem dX12_laySeats_4 : decode cX12_laySeats 4 = .ok (.iconst 1, 1) := by decide +kernel
theorem dX12_laySeats_5 : decode cX12_laySeats 5 = .ok (.istore 4, 2) := by decide +kernel
theorem dX12_laySeats_7 : decode cX12_laySeats 7 = .ok (.aload_n 0, 1) := by decide +kernel
theorem dX12_laySeats_8 : decode cX12_laySeats 8 = .ok (.invokevirtual 64, 3) := by decide +kernel
theorem dX12_laySeats_11 : decode cX12_laySeats 11 = .ok (.iconst 1, 1) := by decide +kernel
theorem dX12_laySeats_12 : decode cX12_laySeats 12 = .ok (.isub, 1) := by decide +kernel
theorem dX12_laySeats_13 : decode cX12_laySeats 13 = .ok (.istore 5, 2) := by decide +kernel
theorem dX12_laySeats_15 : decode cX12_laySeats 15 = .ok (.iload 5, 2) := by decide +kernel
theorem dX12_laySeats_17 : decode cX12_laySeats 17 = .ok (.ifCond .lt 71, 3) := by decide +kernel
theorem dX12_laySeats_20 : decode cX12_laySeats 20 = .ok (.aload_n 0, 1) := by decide +kernel
theorem dX12_laySeats_21 : decode cX12_laySeats 21 = .ok (.getfield 33, 3) := by decide +kernel
theorem dX12_laySeats_24 : decode cX12_laySeats 24 = .ok (.iload 5, 2) := by decide +kernel
theorem dX12_laySeats_26 : decode cX12_laySeats 26 = .ok (.iconst 2, 1) := by decide +kernel
theorem dX12_laySeats_27 : decode cX12_laySeats 27 = .ok (.iload_n 2, 1) := by decide +kernel
theorem dX12_laySeats_28 : decode cX12_laySeats 28 = .ok (.iconst 5, 1) := by decide +kernel
theorem dX12_laySeats_29 : decode cX12_laySeats 29 = .ok (.irem, 1) := by decide +kernel
theorem dX12_laySeats_30 : decode cX12_laySeats 30 = .ok (.imul, 1) := by decide +kernel
theorem dX12_laySeats_31 : decode cX12_laySeats 31 = .ok (.aload_n 0, 1) := by decide +kernel
theorem dX12_laySeats_32 : decode cX12_laySeats 32 = .ok (.getfield 30, 3) := by decide +kernel
theorem dX12_laySeats_35 : decode cX12_laySeats 35 = .ok (.iload 5, 2) := by decide +kernel
theorem dX12_laySeats_37 : decode cX12_laySeats 37 = .ok (.iaload, 1) := by decide +kernel
theorem dX12_laySeats_38 : decode cX12_laySeats 38 = .ok (.iadd, 1) := by decide +kernel
theorem dX12_laySeats_39 : decode cX12_laySeats 39 = .ok (.iastore, 1) := by decide +kernel
theorem dX12_laySeats_40 : decode cX12_laySeats 40 = .ok (.iload_n 2, 1) := by decide +kernel
theorem dX12_laySeats_41 : decode cX12_laySeats 41 = .ok (.iconst 5, 1) := by decide +kernel
theorem dX12_laySeats_42 : decode cX12_laySeats 42 = .ok (.idiv, 1) := by decide +kernel
theorem dX12_laySeats_43 : decode cX12_laySeats 43 = .ok (.istore_n 2, 1) := by decide +kernel
theorem dX12_laySeats_44 : decode cX12_laySeats 44 = .ok (.iload 4, 2) := by decide +kernel
theorem dX12_laySeats_46 : decode cX12_laySeats 46 = .ok (.ifCond .eq 21, 3) := by decide +kernel
theorem dX12_laySeats_49 : decode cX12_laySeats 49 = .ok (.iload_n 3, 1) := by decide +kernel
theorem dX12_laySeats_50 : decode cX12_laySeats 50 = .ok (.aload_n 0, 1) := by decide +kernel
theorem dX12_laySeats_51 : decode cX12_laySeats 51 = .ok (.getfield 33, 3) := by decide +kernel
theorem dX12_laySeats_54 : decode cX12_laySeats 54 = .ok (.iload 5, 2) := by decide +kernel
theorem dX12_laySeats_56 : decode cX12_laySeats 56 = .ok (.iaload, 1) := by decide +kernel
theorem dX12_laySeats_57 : decode cX12_laySeats 57 = .ok (.invokestatic 118, 3) := by decide +kernel
theorem dX12_laySeats_60 : decode cX12_laySeats 60 = .ok (.ifCond .ne 7, 3) := by decide +kernel
theorem dX12_laySeats_63 : decode cX12_laySeats 63 = .ok (.iconst 1, 1) := by decide +kernel
theorem dX12_laySeats_64 : decode cX12_laySeats 64 = .ok (.goto 4, 3) := by decide +kernel
theorem dX12_laySeats_67 : decode cX12_laySeats 67 = .ok (.iconst 0, 1) := by decide +kernel
theorem dX12_laySeats_68 : decode cX12_laySeats 68 = .ok (.istore 4, 2) := by decide +kernel
theorem dX12_laySeats_70 : decode cX12_laySeats 70 = .ok (.iload_n 3, 1) := by decide +kernel
theorem dX12_laySeats_71 : decode cX12_laySeats 71 = .ok (.iconst 1, 1) := by decide +kernel
theorem dX12_laySeats_72 : decode cX12_laySeats 72 = .ok (.aload_n 0, 1) := by decide +kernel
theorem dX12_laySeats_73 : decode cX12_laySeats 73 = .ok (.getfield 33, 3) := by decide +kernel
theorem dX12_laySeats_76 : decode cX12_laySeats 76 = .ok (.iload 5, 2) := by decide +kernel
theorem dX12_laySeats_78 : decode cX12_laySeats 78 = .ok (.iaload, 1) := by decide +kernel
theorem dX12_laySeats_79 : decode cX12_laySeats 79 = .ok (.ishl, 1) := by decide +kernel
theorem dX12_laySeats_80 : decode cX12_laySeats 80 = .ok (.ior, 1) := by decide +kernel
theorem dX12_laySeats_81 : decode cX12_laySeats 81 = .ok (.istore_n 3, 1) := by decide +kernel
theorem dX12_laySeats_82 : decode cX12_laySeats 82 = .ok (.iinc 5 (-1), 3) := by decide +kernel
theorem dX12_laySeats_85 : decode cX12_laySeats 85 = .ok (.goto (-70), 3) := by decide +kernel
theorem dX12_laySeats_88 : decode cX12_laySeats 88 = .ok (.iload 4, 2) := by decide +kernel
theorem dX12_laySeats_90 : decode cX12_laySeats 90 = .ok (.ireturn, 1) := by decide +kernel
def P_X12_laySeats : Nat → Nat
  | 1 => 15
  | 2 => 67
  | 3 => 68
  | _ => 0
set_option maxRecDepth 100000 in
set_option maxHeartbeats 4000000 in
theorem S_X12_laySeats : zSd yX12_laySeats cX12_laySeats 6 (some .boolean) { frames := 1, cells := 0, slots := 0, locals := 21 } T_X12_laySeats := by
  refine zMet (pcs := P_X12_laySeats) (F := F_X12_laySeats) (by decide) rfl ?_
  intro p l e s m args below meth c D ids ad A Q Y C hr hk hY b
  match b with
  | 0 => exact (z_iln (pc := 0) C dX12_laySeats_0 rfl <| z_isn (pc := 1) C dX12_laySeats_1 rfl (by decide) <| z_ic (pc := 2) C dX12_laySeats_2 (by decide +kernel) <| z_isn (pc := 3) C dX12_laySeats_3 rfl (by decide) <| z_ic (pc := 4) C dX12_laySeats_4 (by decide +kernel) <| z_is (pc := 5) C dX12_laySeats_5 (by decide) <| z_aln (pc := 7) C dX12_laySeats_7 rfl <| z_cV (pc := 8) C dX12_laySeats_8 S_X12_many rfl (zl4 w_929 w_931 wp_21 w_13) w_932 ds_X12_many (zrm rfl rfl (by decide) (by decide)) <| z_ic (pc := 11) C dX12_laySeats_11 (by decide +kernel) <| z_isub (pc := 12) C dX12_laySeats_12 <| z_is (pc := 13) C dX12_laySeats_13 (by decide) <| z_jmp (hY 1))
  | 1 => exact (z_il (pc := 15) C dX12_laySeats_15 <| z_iflt (tgt := 88) (pc := 17) C dX12_laySeats_17 (by decide) (z_il (pc := 88) C dX12_laySeats_88 <| z_zr C hr hk dX12_laySeats_90) <| z_aln (pc := 20) C dX12_laySeats_20 rfl <| z_gf (pc := 21) C dX12_laySeats_21 fl_12_33 <| z_il (pc := 24) C dX12_laySeats_24 <| z_ic (pc := 26) C dX12_laySeats_26 (by decide +kernel) <| z_iln (pc := 27) C dX12_laySeats_27 rfl <| z_ic (pc := 28) C dX12_laySeats_28 (by decide +kernel) <| z_irem (pc := 29) C dX12_laySeats_29 <| z_imul (pc := 30) C dX12_laySeats_30 <| z_aln (pc := 31) C dX12_laySeats_31 rfl <| z_gf (pc := 32) C dX12_laySeats_32 fl_12_30 <| z_il (pc := 35) C dX12_laySeats_35 <| z_ia (pc := 37) C dX12_laySeats_37 <| z_iadd (pc := 38) C dX12_laySeats_38 <| z_iast (pc := 39) C dX12_laySeats_39 <| z_iln (pc := 40) C dX12_laySeats_40 rfl <| z_ic (pc := 41) C dX12_laySeats_41 (by decide +kernel) <| z_idiv (pc := 42) C dX12_laySeats_42 <| z_isn (pc := 43) C dX12_laySeats_43 rfl (by decide) <| z_il (pc := 44) C dX12_laySeats_44 <| z_ifeq (tgt := 67) (pc := 46) C dX12_laySeats_46 (by decide) (z_jmp (hY 2)) <| z_iln (pc := 49) C dX12_laySeats_49 rfl <| z_aln (pc := 50) C dX12_laySeats_50 rfl <| z_gf (pc := 51) C dX12_laySeats_51 fl_12_33 <| z_il (pc := 54) C dX12_laySeats_54 <| z_ia (pc := 56) C dX12_laySeats_56 <| z_cS (pc := 57) C dX12_laySeats_57 S_X12_has (zl3 w_1014 w_1015 w_13) w_1016 ds_X12_has (zrm rfl rfl (by decide) (by decide)) <| z_ifne (tgt := 67) (pc := 60) C dX12_laySeats_60 (by decide) (z_jmp (hY 2)) <| z_ic (pc := 63) C dX12_laySeats_63 (by decide +kernel) <| z_goto (tgt := 68) (pc := 64) C dX12_laySeats_64 (by decide) <| z_jmp (hY 3))
  | 2 => exact (z_ic (pc := 67) C dX12_laySeats_67 (by decide +kernel) <| z_jmp (hY 3))
  | 3 => exact (z_is (pc := 68) C dX12_laySeats_68 (by decide) <| z_iln (pc := 70) C dX12_laySeats_70 rfl <| z_ic (pc := 71) C dX12_laySeats_71 (by decide +kernel) <| z_aln (pc := 72) C dX12_laySeats_72 rfl <| z_gf (pc := 73) C dX12_laySeats_73 fl_12_33 <| z_il (pc := 76) C dX12_laySeats_76 <| z_ia (pc := 78) C dX12_laySeats_78 <| z_ishl (pc := 79) C dX12_laySeats_79 <| z_ior (pc := 80) C dX12_laySeats_80 <| z_isn (pc := 81) C dX12_laySeats_81 rfl (by decide) <| z_inc (pc := 82) C dX12_laySeats_82 (by decide +kernel) (by decide) <| z_goto (tgt := 15) (pc := 85) C dX12_laySeats_85 (by decide) <| z_jmp (hY 1))
  | b + 4 => exact fun _ _ _ h => h.elim
