/-! Soundness of methods: by program. -/
theorem dX12_is_0 : decode cX12_is 0 = .ok (.aload_n 0, 1) := by decide +kernel
theorem dX12_is_1 : decode cX12_is 1 = .ok (.iload_n 1, 1) := by decide +kernel
theorem dX12_is_2 : decode cX12_is 2 = .ok (.invokevirtual 136, 3) := by decide +kernel
theorem dX12_is_5 : decode cX12_is 5 = .ok (.ifCond .ne 10, 3) := by decide +kernel
theorem dX12_is_8 : decode cX12_is 8 = .ok (.aload_n 0, 1) := by decide +kernel
theorem dX12_is_9 : decode cX12_is 9 = .ok (.bipush (-2), 2) := by decide +kernel
theorem dX12_is_11 : decode cX12_is 11 = .ok (.invokevirtual 78, 3) := by decide +kernel
theorem dX12_is_14 : decode cX12_is 14 = .ok (.ireturn, 1) := by decide +kernel
theorem dX12_is_15 : decode cX12_is 15 = .ok (.iconst 0, 1) := by decide +kernel
theorem dX12_is_16 : decode cX12_is 16 = .ok (.istore_n 2, 1) := by decide +kernel
theorem dX12_is_17 : decode cX12_is 17 = .ok (.aload_n 0, 1) := by decide +kernel
theorem dX12_is_18 : decode cX12_is 18 = .ok (.invokevirtual 150, 3) := by decide +kernel
theorem dX12_is_21 : decode cX12_is 21 = .ok (.iconst 0, 1) := by decide +kernel
theorem dX12_is_22 : decode cX12_is 22 = .ok (.istore_n 3, 1) := by decide +kernel
theorem dX12_is_23 : decode cX12_is 23 = .ok (.iload_n 3, 1) := by decide +kernel
theorem dX12_is_24 : decode cX12_is 24 = .ok (.bipush 6, 2) := by decide +kernel
theorem dX12_is_26 : decode cX12_is 26 = .ok (.if_icmp .ge 33, 3) := by decide +kernel
theorem dX12_is_29 : decode cX12_is 29 = .ok (.aload_n 0, 1) := by decide +kernel
theorem dX12_is_30 : decode cX12_is 30 = .ok (.getfield 27, 3) := by decide +kernel
theorem dX12_is_33 : decode cX12_is 33 = .ok (.iload_n 1, 1) := by decide +kernel
theorem dX12_is_34 : decode cX12_is 34 = .ok (.iload_n 3, 1) := by decide +kernel
theorem dX12_is_35 : decode cX12_is 35 = .ok (.iastore, 1) := by decide +kernel
theorem dX12_is_36 : decode cX12_is 36 = .ok (.iload_n 2, 1) := by decide +kernel
theorem dX12_is_37 : decode cX12_is 37 = .ok (.aload_n 0, 1) := by decide +kernel
theorem dX12_is_38 : decode cX12_is 38 = .ok (.invokevirtual 181, 3) := by decide +kernel
theorem dX12_is_41 : decode cX12_is 41 = .ok (.ifCond .eq 9, 3) := by decide +kernel
theorem dX12_is_44 : decode cX12_is 44 = .ok (.iconst 1, 1) := by decide +kernel
theorem dX12_is_45 : decode cX12_is 45 = .ok (.iload_n 3, 1) := by decide +kernel
theorem dX12_is_46 : decode cX12_is 46 = .ok (.ishl, 1) := by decide +kernel
theorem dX12_is_47 : decode cX12_is 47 = .ok (.goto 4, 3) := by decide +kernel
theorem dX12_is_50 : decode cX12_is 50 = .ok (.iconst 0, 1) := by decide +kernel
theorem dX12_is_51 : decode cX12_is 51 = .ok (.ior, 1) := by decide +kernel
theorem dX12_is_52 : decode cX12_is 52 = .ok (.istore_n 2, 1) := by decide +kernel
theorem dX12_is_53 : decode cX12_is 53 = .ok (.iinc 3 1, 3) := by decide +kernel
theorem dX12_is_56 : decode cX12_is 56 = .ok (.goto (-33), 3) := by decide +kernel
theorem dX12_is_59 : decode cX12_is 59 = .ok (.iload_n 2, 1) := by decide +kernel
theorem dX12_is_60 : decode cX12_is 60 = .ok (.ireturn, 1) := by decide +kernel
def P_X12_is : Nat → Nat
  | 1 => 23
  | 2 => 51
  | _ => 0
set_option maxRecDepth 100000 in
set_option maxHeartbeats 4000000 in
theorem S_X12_is : zSd yX12_is cX12_is 4 (some .int) { frames := 5, cells := 0, slots := 0, locals := 116 } T_X12_is := by
  refine zMet (pcs := P_X12_is) (F := F_X12_is) (by decide) rfl ?_
  intro p l e s m args below meth c D ids ad A Q Y C hr hk hY b
  match b with
  | 0 => exact (z_aln (pc := 0) C dX12_is_0 rfl <| z_iln (pc := 1) C dX12_is_1 rfl <| z_cV (pc := 2) C dX12_is_2 S_X12_isFamily rfl (zl4 w_969 w_971 wp_24 w_13) w_972 ds_X12_isFamily (zrm rfl rfl (by decide) (by decide)) <| z_ifne (tgt := 15) (pc := 5) C dX12_is_5 (by decide) (z_ic (pc := 15) C dX12_is_15 (by decide +kernel) <| z_isn (pc := 16) C dX12_is_16 rfl (by decide) <| z_aln (pc := 17) C dX12_is_17 rfl <| z_cV (pc := 18) C dX12_is_18 S_X12_layHand rfl (zl4 w_1006 w_1008 wp_28 w_13) w_1009 ds_X12_layHand (zrm rfl rfl (by decide) (by decide)) <| z_ic (pc := 21) C dX12_is_21 (by decide +kernel) <| z_isn (pc := 22) C dX12_is_22 rfl (by decide) <| z_jmp (hY 1)) <| z_aln (pc := 8) C dX12_is_8 rfl <| z_bi (pc := 9) C dX12_is_9 (by decide +kernel) <| z_cV (pc := 11) C dX12_is_11 S_X12_bad rfl (zl4 w_925 w_927 wp_20 w_13) w_928 ds_X12_bad (zrm rfl rfl (by decide) (by decide)) <| z_ir C hr hk dX12_is_14)
  | 1 => exact (z_iln (pc := 23) C dX12_is_23 rfl <| z_bi (pc := 24) C dX12_is_24 (by decide +kernel) <| z_cmpge (tgt := 59) (pc := 26) C dX12_is_26 (by decide) (z_iln (pc := 59) C dX12_is_59 rfl <| z_ir C hr hk dX12_is_60) <| z_aln (pc := 29) C dX12_is_29 rfl <| z_gf (pc := 30) C dX12_is_30 fl_12_27 <| z_iln (pc := 33) C dX12_is_33 rfl <| z_iln (pc := 34) C dX12_is_34 rfl <| z_iast (pc := 35) C dX12_is_35 <| z_iln (pc := 36) C dX12_is_36 rfl <| z_aln (pc := 37) C dX12_is_37 rfl <| z_cV (pc := 38) C dX12_is_38 S_X12_isHeardSo rfl (zl4 w_1107 w_1109 wp_40 w_13) w_1110 ds_X12_isHeardSo (zrm rfl rfl (by decide) (by decide)) <| z_ifeq (tgt := 50) (pc := 41) C dX12_is_41 (by decide) (z_ic (pc := 50) C dX12_is_50 (by decide +kernel) <| z_jmp (hY 2)) <| z_ic (pc := 44) C dX12_is_44 (by decide +kernel) <| z_iln (pc := 45) C dX12_is_45 rfl <| z_ishl (pc := 46) C dX12_is_46 <| z_goto (tgt := 51) (pc := 47) C dX12_is_47 (by decide) <| z_jmp (hY 2))
  | 2 => exact (z_ior (pc := 51) C dX12_is_51 <| z_isn (pc := 52) C dX12_is_52 rfl (by decide) <| z_inc (pc := 53) C dX12_is_53 (by decide +kernel) (by decide) <| z_goto (tgt := 23) (pc := 56) C dX12_is_56 (by decide) <| z_jmp (hY 1))
  | b + 3 => exact fun _ _ _ h => h.elim
theorem dX12_deaconOf_0 : decode cX12_deaconOf 0 = .ok (.iconst (-1), 1) := by decide +kernel
theorem dX12_deaconOf_1 : decode cX12_deaconOf 1 = .ok (.istore_n 2, 1) := by decide +kernel
theorem dX12_deaconOf_2 : decode cX12_deaconOf 2 = .ok (.iconst 0, 1) := by decide +kernel
theorem dX12_deaconOf_3 : decode cX12_deaconOf 3 = .ok (.istore_n 3, 1) := by decide +kernel
theorem dX12_deaconOf_4 : decode cX12_deaconOf 4 = .ok (.iload_n 3, 1) := by decide +kernel
theorem dX12_deaconOf_5 : decode cX12_deaconOf 5 = .ok (.aload_n 0, 1) := by decide +kernel
theorem dX12_deaconOf_6 : decode cX12_deaconOf 6 = .ok (.invokevirtual 64, 3) := by decide +kernel
theorem dX12_deaconOf_9 : decode cX12_deaconOf 9 = .ok (.if_icmp .ge 57, 3) := by decide +kernel
theorem dX12_deaconOf_12 : decode cX12_deaconOf 12 = .ok (.iload_n 2, 1) := by decide +kernel
theorem dX12_deaconOf_13 : decode cX12_deaconOf 13 = .ok (.iconst (-1), 1) := by decide +kernel
theorem dX12_deaconOf_14 : decode cX12_deaconOf 14 = .ok (.if_icmp .eq 18, 3) := by decide +kernel
theorem dX12_deaconOf_17 : decode cX12_deaconOf 17 = .ok (.aload_n 0, 1) := by decide +kernel
theorem dX12_deaconOf_18 : decode cX12_deaconOf 18 = .ok (.iload_n 3, 1) := by decide +kernel
theorem dX12_deaconOf_19 : decode cX12_deaconOf 19 = .ok (.iconst 3, 1) := by decide +kernel
theorem dX12_deaconOf_20 : decode cX12_deaconOf 20 = .ok (.invokevirtual 114, 3) := by decide +kernel
theorem dX12_deaconOf_23 : decode cX12_deaconOf 23 = .ok (.aload_n 0, 1) := by decide +kernel
theorem dX12_deaconOf_24 : decode cX12_deaconOf 24 = .ok (.iload_n 2, 1) := by decide +kernel
theorem dX12_deaconOf_25 : decode cX12_deaconOf 25 = .ok (.iconst 3, 1) := by decide +kernel
theorem dX12_deaconOf_26 : decode cX12_deaconOf 26 = .ok (.invokevirtual 114, 3) := by decide +kernel
theorem dX12_deaconOf_29 : decode cX12_deaconOf 29 = .ok (.if_icmp .le 7, 3) := by decide +kernel
theorem dX12_deaconOf_32 : decode cX12_deaconOf 32 = .ok (.iconst 1, 1) := by decide +kernel
theorem dX12_deaconOf_33 : decode cX12_deaconOf 33 = .ok (.goto 4, 3) := by decide +kernel
theorem dX12_deaconOf_36 : decode cX12_deaconOf 36 = .ok (.iconst 0, 1) := by decide +kernel
theorem dX12_deaconOf_37 : decode cX12_deaconOf 37 = .ok (.istore 4, 2) := by decide +kernel
theorem dX12_deaconOf_39 : decode cX12_deaconOf 39 = .ok (.aload_n 0, 1) := by decide +kernel
theorem dX12_deaconOf_40 : decode cX12_deaconOf 40 = .ok (.iload_n 3, 1) := by decide +kernel
theorem dX12_deaconOf_41 : decode cX12_deaconOf 41 = .ok (.iconst 1, 1) := by decide +kernel
theorem dX12_deaconOf_42 : decode cX12_deaconOf 42 = .ok (.invokevirtual 114, 3) := by decide +kernel
theorem dX12_deaconOf_45 : decode cX12_deaconOf 45 = .ok (.iload_n 1, 1) := by decide +kernel
theorem dX12_deaconOf_46 : decode cX12_deaconOf 46 = .ok (.if_icmp .ne 12, 3) := by decide +kernel
theorem dX12_deaconOf_49 : decode cX12_deaconOf 49 = .ok (.iload 4, 2) := by decide +kernel
theorem dX12_deaconOf_51 : decode cX12_deaconOf 51 = .ok (.ifCond .eq 7, 3) := by decide +kernel
theorem dX12_deaconOf_54 : decode cX12_deaconOf 54 = .ok (.iload_n 3, 1) := by decide +kernel
theorem dX12_deaconOf_55 : decode cX12_deaconOf 55 = .ok (.goto 4, 3) := by decide +kernel
theorem dX12_deaconOf_58 : decode cX12_deaconOf 58 = .ok (.iload_n 2, 1) := by decide +kernel
theorem dX12_deaconOf_59 : decode cX12_deaconOf 59 = .ok (.istore_n 2, 1) := by decide +kernel
theorem dX12_deaconOf_60 : decode cX12_deaconOf 60 = .ok (.iinc 3 1, 3) := by decide +kernel
theorem dX12_deaconOf_63 : decode cX12_deaconOf 63 = .ok (.goto (-59), 3) := by decide +kernel
theorem dX12_deaconOf_66 : decode cX12_deaconOf 66 = .ok (.iload_n 2, 1) := by decide +kernel
theorem dX12_deaconOf_67 : decode cX12_deaconOf 67 = .ok (.iconst (-1), 1) := by decide +kernel
theorem dX12_deaconOf_68 : decode cX12_deaconOf 68 = .ok (.if_icmp .ne 7, 3) := by decide +kernel
theorem dX12_deaconOf_71 : decode cX12_deaconOf 71 = .ok (.iconst 0, 1) := by decide +kernel
theorem dX12_deaconOf_72 : decode cX12_deaconOf 72 = .ok (.goto 6, 3) := by decide +kernel
theorem dX12_deaconOf_75 : decode cX12_deaconOf 75 = .ok (.iconst 1, 1) := by decide +kernel
theorem dX12_deaconOf_76 : decode cX12_deaconOf 76 = .ok (.iload_n 2, 1) := by decide +kernel
theorem dX12_deaconOf_77 : decode cX12_deaconOf 77 = .ok (.ishl, 1) := by decide +kernel
theorem dX12_deaconOf_78 : decode cX12_deaconOf 78 = .ok (.ireturn, 1) := by decide +kernel
def P_X12_deaconOf : Nat → Nat
  | 1 => 4
  | 2 => 32
  | 3 => 37
  | 4 => 58
  | 5 => 59
  | _ => 0
set_option maxRecDepth 100000 in
set_option maxHeartbeats 4000000 in
theorem S_X12_deaconOf : zSd yX12_deaconOf cX12_deaconOf 5 (some .int) { frames := 1, cells := 0, slots := 0, locals := 22 } T_X12_deaconOf := by
  refine zMet (pcs := P_X12_deaconOf) (F := F_X12_deaconOf) (by decide) rfl ?_
  intro p l e s m args below meth c D ids ad A Q Y C hr hk hY b
  match b with
  | 0 => exact (z_ic (pc := 0) C dX12_deaconOf_0 (by decide +kernel) <| z_isn (pc := 1) C dX12_deaconOf_1 rfl (by decide) <| z_ic (pc := 2) C dX12_deaconOf_2 (by decide +kernel) <| z_isn (pc := 3) C dX12_deaconOf_3 rfl (by decide) <| z_jmp (hY 1))
  | 1 => exact (z_iln (pc := 4) C dX12_deaconOf_4 rfl <| z_aln (pc := 5) C dX12_deaconOf_5 rfl <| z_cV (pc := 6) C dX12_deaconOf_6 S_X12_many rfl (zl4 w_929 w_931 wp_21 w_13) w_932 ds_X12_many (zrm rfl rfl (by decide) (by decide)) <| z_cmpge (tgt := 66) (pc := 9) C dX12_deaconOf_9 (by decide) (z_iln (pc := 66) C dX12_deaconOf_66 rfl <| z_ic (pc := 67) C dX12_deaconOf_67 (by decide +kernel) <| z_cmpne (tgt := 75) (pc := 68) C dX12_deaconOf_68 (by decide) (z_ic (pc := 75) C dX12_deaconOf_75 (by decide +kernel) <| z_iln (pc := 76) C dX12_deaconOf_76 rfl <| z_ishl (pc := 77) C dX12_deaconOf_77 <| z_ir C hr hk dX12_deaconOf_78) <| z_ic (pc := 71) C dX12_deaconOf_71 (by decide +kernel) <| z_goto (tgt := 78) (pc := 72) C dX12_deaconOf_72 (by decide) <| z_ir C hr hk dX12_deaconOf_78) <| z_iln (pc := 12) C dX12_deaconOf_12 rfl <| z_ic (pc := 13) C dX12_deaconOf_13 (by decide +kernel) <| z_cmpeq (tgt := 32) (pc := 14) C dX12_deaconOf_14 (by decide) (z_jmp (hY 2)) <| z_aln (pc := 17) C dX12_deaconOf_17 rfl <| z_iln (pc := 18) C dX12_deaconOf_18 rfl <| z_ic (pc := 19) C dX12_deaconOf_19 (by decide +kernel) <| z_cV (pc := 20) C dX12_deaconOf_20 S_X12_get rfl (zl4 w_973 w_975 wp_25 w_13) w_976 ds_X12_get (zrm rfl rfl (by decide) (by decide)) <| z_aln (pc := 23) C dX12_deaconOf_23 rfl <| z_iln (pc := 24) C dX12_deaconOf_24 rfl <| z_ic (pc := 25) C dX12_deaconOf_25 (by decide +kernel) <| z_cV (pc := 26) C dX12_deaconOf_26 S_X12_get rfl (zl4 w_973 w_975 wp_25 w_13) w_976 ds_X12_get (zrm rfl rfl (by decide) (by decide)) <| z_cmple (tgt := 36) (pc := 29) C dX12_deaconOf_29 (by decide) (z_ic (pc := 36) C dX12_deaconOf_36 (by decide +kernel) <| z_jmp (hY 3)) <| z_jmp (hY 2))
  | 2 => exact (z_ic (pc := 32) C dX12_deaconOf_32 (by decide +kernel) <| z_goto (tgt := 37) (pc := 33) C dX12_deaconOf_33 (by decide) <| z_jmp (hY 3))
  | 3 => exact (z_is (pc := 37) C dX12_deaconOf_37 (by decide) <| z_aln (pc := 39) C dX12_deaconOf_39 rfl <| z_iln (pc := 40) C dX12_deaconOf_40 rfl <| z_ic (pc := 41) C dX12_deaconOf_41 (by decide +kernel) <| z_cV (pc := 42) C dX12_deaconOf_42 S_X12_get rfl (zl4 w_973 w_975 wp_25 w_13) w_976 ds_X12_get (zrm rfl rfl (by decide) (by decide)) <| z_iln (pc := 45) C dX12_deaconOf_45 rfl <| z_cmpne (tgt := 58) (pc := 46) C dX12_deaconOf_46 (by decide) (z_jmp (hY 4)) <| z_il (pc := 49) C dX12_deaconOf_49 <| z_ifeq (tgt := 58) (pc := 51) C dX12_deaconOf_51 (by decide) (z_jmp (hY 4)) <| z_iln (pc := 54) C dX12_deaconOf_54 rfl <| z_goto (tgt := 59) (pc := 55) C dX12_deaconOf_55 (by decide) <| z_jmp (hY 5))
  | 4 => exact (z_iln (pc := 58) C dX12_deaconOf_58 rfl <| z_jmp (hY 5))
  | 5 => exact (z_isn (pc := 59) C dX12_deaconOf_59 rfl (by decide) <| z_inc (pc := 60) C dX12_deaconOf_60 (by decide +kernel) (by decide) <| z_goto (tgt := 4) (pc := 63) C dX12_deaconOf_63 (by decide) <| z_jmp (hY 1))
  | b + 6 => exact fun _ _ _ h => h.elim
theorem dX12_deacons_0 : decode cX12_deacons 0 = .ok (.iload_n 1, 1) := by decide +kernel
theorem dX12_deacons_1 : decode cX12_deacons 1 = .ok (.invokestatic 145, 3) := by decide +kernel
theorem dX12_deacons_4 : decode cX12_deacons 4 = .ok (.ifCond .ne 10, 3) := by decide +kernel
theorem dX12_deacons_7 : decode cX12_deacons 7 = .ok (.aload_n 0, 1) := by decide +kernel
theorem dX12_deacons_8 : decode cX12_deacons 8 = .ok (.bipush (-2), 2) := by decide +kernel
theorem dX12_deacons_10 : decode cX12_deacons 10 = .ok (.invokevirtual 78, 3) := by decide +kernel
theorem dX12_deacons_13 : decode cX12_deacons 13 = .ok (.ireturn, 1) := by decide +kernel
theorem dX12_deacons_14 : decode cX12_deacons 14 = .ok (.aload_n 0, 1) := by decide +kernel
theorem dX12_deacons_15 : decode cX12_deacons 15 = .ok (.invokevirtual 150, 3) := by decide +kernel
theorem dX12_deacons_18 : decode cX12_deacons 18 = .ok (.aload_n 0, 1) := by decide +kernel
theorem dX12_deacons_19 : decode cX12_deacons 19 = .ok (.getfield 110, 3) := by decide +kernel
theorem dX12_deacons_22 : decode cX12_deacons 22 = .ok (.istore_n 2, 1) := by decide +kernel
theorem dX12_deacons_23 : decode cX12_deacons 23 = .ok (.iconst 0, 1) := by decide +kernel
theorem dX12_deacons_24 : decode cX12_deacons 24 = .ok (.istore_n 3, 1) := by decide +kernel
theorem dX12_deacons_25 : decode cX12_deacons 25 = .ok (.iload_n 3, 1) := by decide +kernel
theorem dX12_deacons_26 : decode cX12_deacons 26 = .ok (.iconst 4, 1) := by decide +kernel
theorem dX12_deacons_27 : decode cX12_deacons 27 = .ok (.if_icmp .ge 65, 3) := by decide +kernel
theorem dX12_deacons_30 : decode cX12_deacons 30 = .ok (.aload_n 0, 1) := by decide +kernel
theorem dX12_deacons_31 : decode cX12_deacons 31 = .ok (.iload_n 2, 1) := by decide +kernel
theorem dX12_deacons_32 : decode cX12_deacons 32 = .ok (.iload_n 3, 1) := by decide +kernel
theorem dX12_deacons_33 : decode cX12_deacons 33 = .ok (.iconst 1, 1) := by decide +kernel
theorem dX12_deacons_34 : decode cX12_deacons 34 = .ok (.iand, 1) := by decide +kernel
theorem dX12_deacons_35 : decode cX12_deacons 35 = .ok (.iconst 1, 1) := by decide +kernel
theorem dX12_deacons_36 : decode cX12_deacons 36 = .ok (.if_icmp .ne 11, 3) := by decide +kernel
theorem dX12_deacons_39 : decode cX12_deacons 39 = .ok (.aload_n 0, 1) := by decide +kernel
theorem dX12_deacons_40 : decode cX12_deacons 40 = .ok (.iconst 0, 1) := by decide +kernel
theorem dX12_deacons_41 : decode cX12_deacons 41 = .ok (.invokevirtual 191, 3) := by decide +kernel
theorem dX12_deacons_44 : decode cX12_deacons 44 = .ok (.goto 4, 3) := by decide +kernel
theorem dX12_deacons_47 : decode cX12_deacons 47 = .ok (.iconst 0, 1) := by decide +kernel
theorem dX12_deacons_48 : decode cX12_deacons 48 = .ok (.ior, 1) := by decide +kernel
theorem dX12_deacons_49 : decode cX12_deacons 49 = .ok (.iload_n 3, 1) := by decide +kernel
theorem dX12_deacons_50 : decode cX12_deacons 50 = .ok (.iconst 1, 1) := by decide +kernel
theorem dX12_deacons_51 : decode cX12_deacons 51 = .ok (.if_icmp .le 11, 3) := by decide +kernel
theorem dX12_deacons_54 : decode cX12_deacons 54 = .ok (.aload_n 0, 1) := by decide +kernel
theorem dX12_deacons_55 : decode cX12_deacons 55 = .ok (.iconst 1, 1) := by decide +kernel
theorem dX12_deacons_56 : decode cX12_deacons 56 = .ok (.invokevirtual 191, 3) := by decide +kernel
theorem dX12_deacons_59 : decode cX12_deacons 59 = .ok (.goto 4, 3) := by decide +kernel
theorem dX12_deacons_62 : decode cX12_deacons 62 = .ok (.iconst 0, 1) := by decide +kernel
theorem dX12_deacons_63 : decode cX12_deacons 63 = .ok (.ior, 1) := by decide +kernel
theorem dX12_deacons_64 : decode cX12_deacons 64 = .ok (.putfield 110, 3) := by decide +kernel
theorem dX12_deacons_67 : decode cX12_deacons 67 = .ok (.aload_n 0, 1) := by decide +kernel
theorem dX12_deacons_68 : decode cX12_deacons 68 = .ok (.getfield 48, 3) := by decide +kernel
theorem dX12_deacons_71 : decode cX12_deacons 71 = .ok (.iload_n 3, 1) := by decide +kernel
theorem dX12_deacons_72 : decode cX12_deacons 72 = .ok (.aload_n 0, 1) := by decide +kernel
theorem dX12_deacons_73 : decode cX12_deacons 73 = .ok (.iload_n 1, 1) := by decide +kernel
theorem dX12_deacons_74 : decode cX12_deacons 74 = .ok (.iconst 0, 1) := by decide +kernel
theorem dX12_deacons_75 : decode cX12_deacons 75 = .ok (.invokevirtual 130, 3) := by decide +kernel
theorem dX12_deacons_78 : decode cX12_deacons 78 = .ok (.aload_n 0, 1) := by decide +kernel
theorem dX12_deacons_79 : decode cX12_deacons 79 = .ok (.iload_n 1, 1) := by decide +kernel
theorem dX12_deacons_80 : decode cX12_deacons 80 = .ok (.iconst 1, 1) := by decide +kernel
theorem dX12_deacons_81 : decode cX12_deacons 81 = .ok (.invokevirtual 130, 3) := by decide +kernel
theorem dX12_deacons_84 : decode cX12_deacons 84 = .ok (.isub, 1) := by decide +kernel
theorem dX12_deacons_85 : decode cX12_deacons 85 = .ok (.iastore, 1) := by decide +kernel
theorem dX12_deacons_86 : decode cX12_deacons 86 = .ok (.iinc 3 1, 3) := by decide +kernel
theorem dX12_deacons_89 : decode cX12_deacons 89 = .ok (.goto (-64), 3) := by decide +kernel
theorem dX12_deacons_92 : decode cX12_deacons 92 = .ok (.iconst 0, 1) := by decide +kernel
theorem dX12_deacons_93 : decode cX12_deacons 93 = .ok (.istore_n 3, 1) := by decide +kernel
theorem dX12_deacons_94 : decode cX12_deacons 94 = .ok (.iconst 0, 1) := by decide +kernel
theorem dX12_deacons_95 : decode cX12_deacons 95 = .ok (.istore 4, 2) := by decide +kernel
theorem dX12_deacons_97 : decode cX12_deacons 97 = .ok (.iload 4, 2) := by decide +kernel
theorem dX12_deacons_99 : decode cX12_deacons 99 = .ok (.iconst 4, 1) := by decide +kernel
theorem dX12_deacons_100 : decode cX12_deacons 100 = .ok (.if_icmp .ge 70, 3) := by decide +kernel
theorem dX12_deacons_103 : decode cX12_deacons 103 = .ok (.aload_n 0, 1) := by decide +kernel
theorem dX12_deacons_104 : decode cX12_deacons 104 = .ok (.getfield 48, 3) := by decide +kernel
theorem dX12_deacons_107 : decode cX12_deacons 107 = .ok (.iload 4, 2) := by decide +kernel
theorem dX12_deacons_109 : decode cX12_deacons 109 = .ok (.iaload, 1) := by decide +kernel
theorem dX12_deacons_110 : decode cX12_deacons 110 = .ok (.aload_n 0, 1) := by decide +kernel
theorem dX12_deacons_111 : decode cX12_deacons 111 = .ok (.getfield 48, 3) := by decide +kernel
theorem dX12_deacons_114 : decode cX12_deacons 114 = .ok (.iload 4, 2) := by decide +kernel
theorem dX12_deacons_116 : decode cX12_deacons 116 = .ok (.iconst 1, 1) := by decide +kernel
theorem dX12_deacons_117 : decode cX12_deacons 117 = .ok (.ixor, 1) := by decide +kernel
theorem dX12_deacons_118 : decode cX12_deacons 118 = .ok (.iaload, 1) := by decide +kernel
theorem dX12_deacons_119 : decode cX12_deacons 119 = .ok (.if_icmp .lt 26, 3) := by decide +kernel
theorem dX12_deacons_122 : decode cX12_deacons 122 = .ok (.aload_n 0, 1) := by decide +kernel
theorem dX12_deacons_123 : decode cX12_deacons 123 = .ok (.getfield 48, 3) := by decide +kernel
theorem dX12_deacons_126 : decode cX12_deacons 126 = .ok (.iload 4, 2) := by decide +kernel
theorem dX12_deacons_128 : decode cX12_deacons 128 = .ok (.iaload, 1) := by decide +kernel
theorem dX12_deacons_129 : decode cX12_deacons 129 = .ok (.aload_n 0, 1) := by decide +kernel
theorem dX12_deacons_130 : decode cX12_deacons 130 = .ok (.getfield 48, 3) := by decide +kernel
theorem dX12_deacons_133 : decode cX12_deacons 133 = .ok (.iload 4, 2) := by decide +kernel
theorem dX12_deacons_135 : decode cX12_deacons 135 = .ok (.iconst 2, 1) := by decide +kernel
theorem dX12_deacons_136 : decode cX12_deacons 136 = .ok (.ixor, 1) := by decide +kernel
theorem dX12_deacons_137 : decode cX12_deacons 137 = .ok (.iaload, 1) := by decide +kernel
theorem dX12_deacons_138 : decode cX12_deacons 138 = .ok (.if_icmp .gt 7, 3) := by decide +kernel
theorem dX12_deacons_141 : decode cX12_deacons 141 = .ok (.iconst 1, 1) := by decide +kernel
theorem dX12_deacons_142 : decode cX12_deacons 142 = .ok (.goto 4, 3) := by decide +kernel
theorem dX12_deacons_145 : decode cX12_deacons 145 = .ok (.iconst 0, 1) := by decide +kernel
theorem dX12_deacons_146 : decode cX12_deacons 146 = .ok (.istore 5, 2) := by decide +kernel
theorem dX12_deacons_148 : decode cX12_deacons 148 = .ok (.iload_n 3, 1) := by decide +kernel
theorem dX12_deacons_149 : decode cX12_deacons 149 = .ok (.iload 5, 2) := by decide +kernel
theorem dX12_deacons_151 : decode cX12_deacons 151 = .ok (.ifCond .eq 10, 3) := by decide +kernel
theorem dX12_deacons_154 : decode cX12_deacons 154 = .ok (.iconst 1, 1) := by decide +kernel
theorem dX12_deacons_155 : decode cX12_deacons 155 = .ok (.iload 4, 2) := by decide +kernel
theorem dX12_deacons_157 : decode cX12_deacons 157 = .ok (.ishl, 1) := by decide +kernel
theorem dX12_deacons_158 : decode cX12_deacons 158 = .ok (.goto 4, 3) := by decide +kernel
theorem dX12_deacons_161 : decode cX12_deacons 161 = .ok (.iconst 0, 1) := by decide +kernel
theorem dX12_deacons_162 : decode cX12_deacons 162 = .ok (.ior, 1) := by decide +kernel
theorem dX12_deacons_163 : decode cX12_deacons 163 = .ok (.istore_n 3, 1) := by decide +kernel
theorem dX12_deacons_164 : decode cX12_deacons 164 = .ok (.iinc 4 1, 3) := by decide +kernel
theorem dX12_deacons_167 : decode cX12_deacons 167 = .ok (.goto (-70), 3) := by decide +kernel
theorem dX12_deacons_170 : decode cX12_deacons 170 = .ok (.iload_n 3, 1) := by decide +kernel
theorem dX12_deacons_171 : decode cX12_deacons 171 = .ok (.ireturn, 1) := by decide +kernel
def P_X12_deacons : Nat → Nat
  | 1 => 25
  | 2 => 48
  | 3 => 63
  | 4 => 97
  | 5 => 145
  | 6 => 146
  | 7 => 162
  | _ => 0
set_option maxRecDepth 100000 in
set_option maxHeartbeats 4000000 in
theorem S_X12_deacons : zSd yX12_deacons cX12_deacons 6 (some .int) { frames := 4, cells := 0, slots := 0, locals := 93 } T_X12_deacons := by
  refine zMet (pcs := P_X12_deacons) (F := F_X12_deacons) (by decide) rfl ?_
  intro p l e s m args below meth c D ids ad A Q Y C hr hk hY b
  match b with
  | 0 => exact (z_iln (pc := 0) C dX12_deacons_0 rfl <| z_cS (pc := 1) C dX12_deacons_1 S_X12_isWord (zl3 w_1001 w_1002 w_13) w_1003 ds_X12_isWord (zrm rfl rfl (by decide) (by decide)) <| z_ifne (tgt := 14) (pc := 4) C dX12_deacons_4 (by decide) (z_aln (pc := 14) C dX12_deacons_14 rfl <| z_cV (pc := 15) C dX12_deacons_15 S_X12_layHand rfl (zl4 w_1006 w_1008 wp_28 w_13) w_1009 ds_X12_layHand (zrm rfl rfl (by decide) (by decide)) <| z_aln (pc := 18) C dX12_deacons_18 rfl <| z_gf (pc := 19) C dX12_deacons_19 fl_12_110 <| z_isn (pc := 22) C dX12_deacons_22 rfl (by decide) <| z_ic (pc := 23) C dX12_deacons_23 (by decide +kernel) <| z_isn (pc := 24) C dX12_deacons_24 rfl (by decide) <| z_jmp (hY 1)) <| z_aln (pc := 7) C dX12_deacons_7 rfl <| z_bi (pc := 8) C dX12_deacons_8 (by decide +kernel) <| z_cV (pc := 10) C dX12_deacons_10 S_X12_bad rfl (zl4 w_925 w_927 wp_20 w_13) w_928 ds_X12_bad (zrm rfl rfl (by decide) (by decide)) <| z_ir C hr hk dX12_deacons_13)
  | 1 => exact (z_iln (pc := 25) C dX12_deacons_25 rfl <| z_ic (pc := 26) C dX12_deacons_26 (by decide +kernel) <| z_cmpge (tgt := 92) (pc := 27) C dX12_deacons_27 (by decide) (z_ic (pc := 92) C dX12_deacons_92 (by decide +kernel) <| z_isn (pc := 93) C dX12_deacons_93 rfl (by decide) <| z_ic (pc := 94) C dX12_deacons_94 (by decide +kernel) <| z_is (pc := 95) C dX12_deacons_95 (by decide) <| z_jmp (hY 4)) <| z_aln (pc := 30) C dX12_deacons_30 rfl <| z_iln (pc := 31) C dX12_deacons_31 rfl <| z_iln (pc := 32) C dX12_deacons_32 rfl <| z_ic (pc := 33) C dX12_deacons_33 (by decide +kernel) <| z_iand (pc := 34) C dX12_deacons_34 <| z_ic (pc := 35) C dX12_deacons_35 (by decide +kernel) <| z_cmpne (tgt := 47) (pc := 36) C dX12_deacons_36 (by decide) (z_ic (pc := 47) C dX12_deacons_47 (by decide +kernel) <| z_jmp (hY 2)) <| z_aln (pc := 39) C dX12_deacons_39 rfl <| z_ic (pc := 40) C dX12_deacons_40 (by decide +kernel) <| z_cV (pc := 41) C dX12_deacons_41 S_X12_deaconOf rfl (zl4 w_1124 w_1126 wp_41 w_13) w_1127 ds_X12_deaconOf (zrm rfl rfl (by decide) (by decide)) <| z_goto (tgt := 48) (pc := 44) C dX12_deacons_44 (by decide) <| z_jmp (hY 2))
  | 2 => exact (z_ior (pc := 48) C dX12_deacons_48 <| z_iln (pc := 49) C dX12_deacons_49 rfl <| z_ic (pc := 50) C dX12_deacons_50 (by decide +kernel) <| z_cmple (tgt := 62) (pc := 51) C dX12_deacons_51 (by decide) (z_ic (pc := 62) C dX12_deacons_62 (by decide +kernel) <| z_jmp (hY 3)) <| z_aln (pc := 54) C dX12_deacons_54 rfl <| z_ic (pc := 55) C dX12_deacons_55 (by decide +kernel) <| z_cV (pc := 56) C dX12_deacons_56 S_X12_deaconOf rfl (zl4 w_1124 w_1126 wp_41 w_13) w_1127 ds_X12_deaconOf (zrm rfl rfl (by decide) (by decide)) <| z_goto (tgt := 63) (pc := 59) C dX12_deacons_59 (by decide) <| z_jmp (hY 3))
  | 3 => exact (z_ior (pc := 63) C dX12_deacons_63 <| z_pf (pc := 64) C dX12_deacons_64 fp_12_110 <| z_aln (pc := 67) C dX12_deacons_67 rfl <| z_gf (pc := 68) C dX12_deacons_68 fl_12_48 <| z_iln (pc := 71) C dX12_deacons_71 rfl <| z_aln (pc := 72) C dX12_deacons_72 rfl <| z_iln (pc := 73) C dX12_deacons_73 rfl <| z_ic (pc := 74) C dX12_deacons_74 (by decide +kernel) <| z_cV (pc := 75) C dX12_deacons_75 S_X12_loudOf rfl (zl4 w_1041 w_1043 wp_33 w_13) w_1044 ds_X12_loudOf (zrm rfl rfl (by decide) (by decide)) <| z_aln (pc := 78) C dX12_deacons_78 rfl <| z_iln (pc := 79) C dX12_deacons_79 rfl <| z_ic (pc := 80) C dX12_deacons_80 (by decide +kernel) <| z_cV (pc := 81) C dX12_deacons_81 S_X12_loudOf rfl (zl4 w_1041 w_1043 wp_33 w_13) w_1044 ds_X12_loudOf (zrm rfl rfl (by decide) (by decide)) <| z_isub (pc := 84) C dX12_deacons_84 <| z_iast (pc := 85) C dX12_deacons_85 <| z_inc (pc := 86) C dX12_deacons_86 (by decide +kernel) (by decide) <| z_goto (tgt := 25) (pc := 89) C dX12_deacons_89 (by decide) <| z_jmp (hY 1))
  | 4 => exact (z_il (pc := 97) C dX12_deacons_97 <| z_ic (pc := 99) C dX12_deacons_99 (by decide +kernel) <| z_cmpge (tgt := 170) (pc := 100) C dX12_deacons_100 (by decide) (z_iln (pc := 170) C dX12_deacons_170 rfl <| z_ir C hr hk dX12_deacons_171) <| z_aln (pc := 103) C dX12_deacons_103 rfl <| z_gf (pc := 104) C dX12_deacons_104 fl_12_48 <| z_il (pc := 107) C dX12_deacons_107 <| z_ia (pc := 109) C dX12_deacons_109 <| z_aln (pc := 110) C dX12_deacons_110 rfl <| z_gf (pc := 111) C dX12_deacons_111 fl_12_48 <| z_il (pc := 114) C dX12_deacons_114 <| z_ic (pc := 116) C dX12_deacons_116 (by decide +kernel) <| z_ixor (pc := 117) C dX12_deacons_117 <| z_ia (pc := 118) C dX12_deacons_118 <| z_cmplt (tgt := 145) (pc := 119) C dX12_deacons_119 (by decide) (z_jmp (hY 5)) <| z_aln (pc := 122) C dX12_deacons_122 rfl <| z_gf (pc := 123) C dX12_deacons_123 fl_12_48 <| z_il (pc := 126) C dX12_deacons_126 <| z_ia (pc := 128) C dX12_deacons_128 <| z_aln (pc := 129) C dX12_deacons_129 rfl <| z_gf (pc := 130) C dX12_deacons_130 fl_12_48 <| z_il (pc := 133) C dX12_deacons_133 <| z_ic (pc := 135) C dX12_deacons_135 (by decide +kernel) <| z_ixor (pc := 136) C dX12_deacons_136 <| z_ia (pc := 137) C dX12_deacons_137 <| z_cmpgt (tgt := 145) (pc := 138) C dX12_deacons_138 (by decide) (z_jmp (hY 5)) <| z_ic (pc := 141) C dX12_deacons_141 (by decide +kernel) <| z_goto (tgt := 146) (pc := 142) C dX12_deacons_142 (by decide) <| z_jmp (hY 6))
  | 5 => exact (z_ic (pc := 145) C dX12_deacons_145 (by decide +kernel) <| z_jmp (hY 6))
  | 6 => exact (z_is (pc := 146) C dX12_deacons_146 (by decide) <| z_iln (pc := 148) C dX12_deacons_148 rfl <| z_il (pc := 149) C dX12_deacons_149 <| z_ifeq (tgt := 161) (pc := 151) C dX12_deacons_151 (by decide) (z_ic (pc := 161) C dX12_deacons_161 (by decide +kernel) <| z_jmp (hY 7)) <| z_ic (pc := 154) C dX12_deacons_154 (by decide +kernel) <| z_il (pc := 155) C dX12_deacons_155 <| z_ishl (pc := 157) C dX12_deacons_157 <| z_goto (tgt := 162) (pc := 158) C dX12_deacons_158 (by decide) <| z_jmp (hY 7))
  | 7 => exact (z_ior (pc := 162) C dX12_deacons_162 <| z_isn (pc := 163) C dX12_deacons_163 rfl (by decide) <| z_inc (pc := 164) C dX12_deacons_164 (by decide +kernel) (by decide) <| z_goto (tgt := 97) (pc := 167) C dX12_deacons_167 (by decide) <| z_jmp (hY 4))
  | b + 8 => exact fun _ _ _ h => h.elim
theorem dX12_feasts_0 : decode cX12_feasts 0 = .ok (.iload_n 1, 1) := by decide +kernel
theorem dX12_feasts_1 : decode cX12_feasts 1 = .ok (.i2l, 1) := by decide +kernel
theorem dX12_feasts_2 : decode cX12_feasts 2 = .ok (.lconst 1, 1) := by decide +kernel
theorem dX12_feasts_3 : decode cX12_feasts 3 = .ok (.ldc2_w 194, 3) := by decide +kernel
theorem dX12_feasts_6 : decode cX12_feasts 6 = .ok (.invokestatic 68, 3) := by decide +kernel
theorem dX12_feasts_9 : decode cX12_feasts 9 = .ok (.ifCond .eq 40, 3) := by decide +kernel
theorem dX12_feasts_12 : decode cX12_feasts 12 = .ok (.iload_n 2, 1) := by decide +kernel
theorem dX12_feasts_13 : decode cX12_feasts 13 = .ok (.i2l, 1) := by decide +kernel
theorem dX12_feasts_14 : decode cX12_feasts 14 = .ok (.lconst 0, 1) := by decide +kernel
theorem dX12_feasts_15 : decode cX12_feasts 15 = .ok (.ldc2_w 196, 3) := by decide +kernel
theorem dX12_feasts_18 : decode cX12_feasts 18 = .ok (.invokestatic 68, 3) := by decide +kernel
theorem dX12_feasts_21 : decode cX12_feasts 21 = .ok (.ifCond .eq 28, 3) := by decide +kernel
theorem dX12_feasts_24 : decode cX12_feasts 24 = .ok (.iload_n 3, 1) := by decide +kernel
theorem dX12_feasts_25 : decode cX12_feasts 25 = .ok (.i2l, 1) := by decide +kernel
theorem dX12_feasts_26 : decode cX12_feasts 26 = .ok (.lconst 1, 1) := by decide +kernel
theorem dX12_feasts_27 : decode cX12_feasts 27 = .ok (.ldc2_w 194, 3) := by decide +kernel
theorem dX12_feasts_30 : decode cX12_feasts 30 = .ok (.invokestatic 68, 3) := by decide +kernel
theorem dX12_feasts_33 : decode cX12_feasts 33 = .ok (.ifCond .eq 16, 3) := by decide +kernel
theorem dX12_feasts_36 : decode cX12_feasts 36 = .ok (.iload 4, 2) := by decide +kernel
theorem dX12_feasts_38 : decode cX12_feasts 38 = .ok (.i2l, 1) := by decide +kernel
theorem dX12_feasts_39 : decode cX12_feasts 39 = .ok (.lconst 0, 1) := by decide +kernel
theorem dX12_feasts_40 : decode cX12_feasts 40 = .ok (.ldc2_w 196, 3) := by decide +kernel
theorem dX12_feasts_43 : decode cX12_feasts 43 = .ok (.invokestatic 68, 3) := by decide +kernel
theorem dX12_feasts_46 : decode cX12_feasts 46 = .ok (.ifCond .ne 10, 3) := by decide +kernel
theorem dX12_feasts_49 : decode cX12_feasts 49 = .ok (.aload_n 0, 1) := by decide +kernel
theorem dX12_feasts_50 : decode cX12_feasts 50 = .ok (.bipush (-2), 2) := by decide +kernel
theorem dX12_feasts_52 : decode cX12_feasts 52 = .ok (.invokevirtual 78, 3) := by decide +kernel
theorem dX12_feasts_55 : decode cX12_feasts 55 = .ok (.ireturn, 1) := by decide +kernel
theorem dX12_feasts_56 : decode cX12_feasts 56 = .ok (.iload_n 2, 1) := by decide +kernel
theorem dX12_feasts_57 : decode cX12_feasts 57 = .ok (.iload 4, 2) := by decide +kernel
theorem dX12_feasts_59 : decode cX12_feasts 59 = .ok (.if_icmp .le 7, 3) := by decide +kernel
theorem dX12_feasts_62 : decode cX12_feasts 62 = .ok (.iload_n 2, 1) := by decide +kernel
theorem dX12_feasts_63 : decode cX12_feasts 63 = .ok (.goto 5, 3) := by decide +kernel
theorem dX12_feasts_66 : decode cX12_feasts 66 = .ok (.iload 4, 2) := by decide +kernel
theorem dX12_feasts_68 : decode cX12_feasts 68 = .ok (.istore 5, 2) := by decide +kernel
theorem dX12_feasts_70 : decode cX12_feasts 70 = .ok (.iload 5, 2) := by decide +kernel
theorem dX12_feasts_72 : decode cX12_feasts 72 = .ok (.istore 6, 2) := by decide +kernel
theorem dX12_feasts_74 : decode cX12_feasts 74 = .ok (.iload 6, 2) := by decide +kernel
theorem dX12_feasts_76 : decode cX12_feasts 76 = .ok (.iload 5, 2) := by decide +kernel
theorem dX12_feasts_78 : decode cX12_feasts 78 = .ok (.sipush 1600, 3) := by decide +kernel
theorem dX12_feasts_81 : decode cX12_feasts 81 = .ok (.iadd, 1) := by decide +kernel
theorem dX12_feasts_82 : decode cX12_feasts 82 = .ok (.if_icmp .ge 31, 3) := by decide +kernel
theorem dX12_feasts_85 : decode cX12_feasts 85 = .ok (.iload 6, 2) := by decide +kernel
theorem dX12_feasts_87 : decode cX12_feasts 87 = .ok (.iload_n 2, 1) := by decide +kernel
theorem dX12_feasts_88 : decode cX12_feasts 88 = .ok (.isub, 1) := by decide +kernel
theorem dX12_feasts_89 : decode cX12_feasts 89 = .ok (.iload_n 1, 1) := by decide +kernel
theorem dX12_feasts_90 : decode cX12_feasts 90 = .ok (.irem, 1) := by decide +kernel
theorem dX12_feasts_91 : decode cX12_feasts 91 = .ok (.ifCond .ne 16, 3) := by decide +kernel
theorem dX12_feasts_94 : decode cX12_feasts 94 = .ok (.iload 6, 2) := by decide +kernel
theorem dX12_feasts_96 : decode cX12_feasts 96 = .ok (.iload 4, 2) := by decide +kernel
theorem dX12_feasts_98 : decode cX12_feasts 98 = .ok (.isub, 1) := by decide +kernel
theorem dX12_feasts_99 : decode cX12_feasts 99 = .ok (.iload_n 3, 1) := by decide +kernel
theorem dX12_feasts_100 : decode cX12_feasts 100 = .ok (.irem, 1) := by decide +kernel
theorem dX12_feasts_101 : decode cX12_feasts 101 = .ok (.ifCond .ne 6, 3) := by decide +kernel
theorem dX12_feasts_104 : decode cX12_feasts 104 = .ok (.iload 6, 2) := by decide +kernel
theorem dX12_feasts_106 : decode cX12_feasts 106 = .ok (.ireturn, 1) := by decide +kernel
theorem dX12_feasts_107 : decode cX12_feasts 107 = .ok (.iinc 6 1, 3) := by decide +kernel
theorem dX12_feasts_110 : decode cX12_feasts 110 = .ok (.goto (-36), 3) := by decide +kernel
theorem dX12_feasts_113 : decode cX12_feasts 113 = .ok (.iconst (-1), 1) := by decide +kernel
theorem dX12_feasts_114 : decode cX12_feasts 114 = .ok (.ireturn, 1) := by decide +kernel
def P_X12_feasts : Nat → Nat
  | 1 => 49
  | 2 => 68
  | 3 => 74
  | 4 => 107
  | _ => 0
set_option maxRecDepth 100000 in
set_option maxHeartbeats 4000000 in
theorem S_X12_feasts : zSd yX12_feasts cX12_feasts 7 (some .int) { frames := 1, cells := 0, slots := 0, locals := 25 } T_X12_feasts := by
  refine zMet (pcs := P_X12_feasts) (F := F_X12_feasts) (by decide) rfl ?_
  intro p l e s m args below meth c D ids ad A Q Y C hr hk hY b
  match b with
  | 0 => exact (z_iln (pc := 0) C dX12_feasts_0 rfl <| z_i2l (pc := 1) C dX12_feasts_1 <| z_lc (pc := 2) C dX12_feasts_2 (by decide +kernel) <| z_ldc2 (pc := 3) C dX12_feasts_3 w_1132 <| z_cS (pc := 6) C dX12_feasts_6 S_X12_in (zl3 w_922 w_923 w_13) w_924 ds_X12_in (zrm rfl rfl (by decide) (by decide)) <| z_ifeq (tgt := 49) (pc := 9) C dX12_feasts_9 (by decide) (z_jmp (hY 1)) <| z_iln (pc := 12) C dX12_feasts_12 rfl <| z_i2l (pc := 13) C dX12_feasts_13 <| z_lc (pc := 14) C dX12_feasts_14 (by decide +kernel) <| z_ldc2 (pc := 15) C dX12_feasts_15 w_1133 <| z_cS (pc := 18) C dX12_feasts_18 S_X12_in (zl3 w_922 w_923 w_13) w_924 ds_X12_in (zrm rfl rfl (by decide) (by decide)) <| z_ifeq (tgt := 49) (pc := 21) C dX12_feasts_21 (by decide) (z_jmp (hY 1)) <| z_iln (pc := 24) C dX12_feasts_24 rfl <| z_i2l (pc := 25) C dX12_feasts_25 <| z_lc (pc := 26) C dX12_feasts_26 (by decide +kernel) <| z_ldc2 (pc := 27) C dX12_feasts_27 w_1132 <| z_cS (pc := 30) C dX12_feasts_30 S_X12_in (zl3 w_922 w_923 w_13) w_924 ds_X12_in (zrm rfl rfl (by decide) (by decide)) <| z_ifeq (tgt := 49) (pc := 33) C dX12_feasts_33 (by decide) (z_jmp (hY 1)) <| z_il (pc := 36) C dX12_feasts_36 <| z_i2l (pc := 38) C dX12_feasts_38 <| z_lc (pc := 39) C dX12_feasts_39 (by decide +kernel) <| z_ldc2 (pc := 40) C dX12_feasts_40 w_1133 <| z_cS (pc := 43) C dX12_feasts_43 S_X12_in (zl3 w_922 w_923 w_13) w_924 ds_X12_in (zrm rfl rfl (by decide) (by decide)) <| z_ifne (tgt := 56) (pc := 46) C dX12_feasts_46 (by decide) (z_iln (pc := 56) C dX12_feasts_56 rfl <| z_il (pc := 57) C dX12_feasts_57 <| z_cmple (tgt := 66) (pc := 59) C dX12_feasts_59 (by decide) (z_il (pc := 66) C dX12_feasts_66 <| z_jmp (hY 2)) <| z_iln (pc := 62) C dX12_feasts_62 rfl <| z_goto (tgt := 68) (pc := 63) C dX12_feasts_63 (by decide) <| z_jmp (hY 2)) <| z_jmp (hY 1))
  | 1 => exact (z_aln (pc := 49) C dX12_feasts_49 rfl <| z_bi (pc := 50) C dX12_feasts_50 (by decide +kernel) <| z_cV (pc := 52) C dX12_feasts_52 S_X12_bad rfl (zl4 w_925 w_927 wp_20 w_13) w_928 ds_X12_bad (zrm rfl rfl (by decide) (by decide)) <| z_ir C hr hk dX12_feasts_55)
  | 2 => exact (z_is (pc := 68) C dX12_feasts_68 (by decide) <| z_il (pc := 70) C dX12_feasts_70 <| z_is (pc := 72) C dX12_feasts_72 (by decide) <| z_jmp (hY 3))
  | 3 => exact (z_il (pc := 74) C dX12_feasts_74 <| z_il (pc := 76) C dX12_feasts_76 <| z_si (pc := 78) C dX12_feasts_78 (by decide +kernel) <| z_iadd (pc := 81) C dX12_feasts_81 <| z_cmpge (tgt := 113) (pc := 82) C dX12_feasts_82 (by decide) (z_ic (pc := 113) C dX12_feasts_113 (by decide +kernel) <| z_ir C hr hk dX12_feasts_114) <| z_il (pc := 85) C dX12_feasts_85 <| z_iln (pc := 87) C dX12_feasts_87 rfl <| z_isub (pc := 88) C dX12_feasts_88 <| z_iln (pc := 89) C dX12_feasts_89 rfl <| z_irem (pc := 90) C dX12_feasts_90 <| z_ifne (tgt := 107) (pc := 91) C dX12_feasts_91 (by decide) (z_jmp (hY 4)) <| z_il (pc := 94) C dX12_feasts_94 <| z_il (pc := 96) C dX12_feasts_96 <| z_isub (pc := 98) C dX12_feasts_98 <| z_iln (pc := 99) C dX12_feasts_99 rfl <| z_irem (pc := 100) C dX12_feasts_100 <| z_ifne (tgt := 107) (pc := 101) C dX12_feasts_101 (by decide) (z_jmp (hY 4)) <| z_il (pc := 104) C dX12_feasts_104 <| z_ir C hr hk dX12_feasts_106)
  | 4 => exact (z_inc (pc := 107) C dX12_feasts_107 (by decide +kernel) (by decide) <| z_goto (tgt := 74) (pc := 110) C dX12_feasts_110 (by decide) <| z_jmp (hY 3))
  | b + 5 => exact fun _ _ _ h => h.elim
theorem dX12_fraction_0 : decode cX12_fraction 0 = .ok (.lload_n 1, 1) := by decide +kernel
theorem dX12_fraction_1 : decode cX12_fraction 1 = .ok (.lstore 5, 2) := by decide +kernel
theorem dX12_fraction_3 : decode cX12_fraction 3 = .ok (.lload_n 3, 1) := by decide +kernel
theorem dX12_fraction_4 : decode cX12_fraction 4 = .ok (.lstore 7, 2) := by decide +kernel
theorem dX12_fraction_6 : decode cX12_fraction 6 = .ok (.lload 7, 2) := by decide +kernel
theorem dX12_fraction_8 : decode cX12_fraction 8 = .ok (.lconst 0, 1) := by decide +kernel
theorem dX12_fraction_9 : decode cX12_fraction 9 = .ok (.lcmp, 1) := by decide +kernel
theorem dX12_fraction_10 : decode cX12_fraction 10 = .ok (.ifCond .eq 21, 3) := by decide +kernel
theorem dX12_fraction_13 : decode cX12_fraction 13 = .ok (.lload 5, 2) := by decide +kernel
theorem dX12_fraction_15 : decode cX12_fraction 15 = .ok (.lload 7, 2) := by decide +kernel
theorem dX12_fraction_17 : decode cX12_fraction 17 = .ok (.lrem, 1) := by decide +kernel
theorem dX12_fraction_18 : decode cX12_fraction 18 = .ok (.lstore 9, 2) := by decide +kernel
theorem dX12_fraction_20 : decode cX12_fraction 20 = .ok (.lload 7, 2) := by decide +kernel
theorem dX12_fraction_22 : decode cX12_fraction 22 = .ok (.lstore 5, 2) := by decide +kernel
theorem dX12_fraction_24 : decode cX12_fraction 24 = .ok (.lload 9, 2) := by decide +kernel
theorem dX12_fraction_26 : decode cX12_fraction 26 = .ok (.lstore 7, 2) := by decide +kernel
theorem dX12_fraction_28 : decode cX12_fraction 28 = .ok (.goto (-22), 3) := by decide +kernel
theorem dX12_fraction_31 : decode cX12_fraction 31 = .ok (.aload_n 0, 1) := by decide +kernel
theorem dX12_fraction_32 : decode cX12_fraction 32 = .ok (.lload_n 1, 1) := by decide +kernel
theorem dX12_fraction_33 : decode cX12_fraction 33 = .ok (.lload 5, 2) := by decide +kernel
theorem dX12_fraction_35 : decode cX12_fraction 35 = .ok (.ldiv, 1) := by decide +kernel
theorem dX12_fraction_36 : decode cX12_fraction 36 = .ok (.putfield 198, 3) := by decide +kernel
theorem dX12_fraction_39 : decode cX12_fraction 39 = .ok (.aload_n 0, 1) := by decide +kernel
theorem dX12_fraction_40 : decode cX12_fraction 40 = .ok (.lload_n 3, 1) := by decide +kernel
theorem dX12_fraction_41 : decode cX12_fraction 41 = .ok (.lload 5, 2) := by decide +kernel
theorem dX12_fraction_43 : decode cX12_fraction 43 = .ok (.ldiv, 1) := by decide +kernel
theorem dX12_fraction_44 : decode cX12_fraction 44 = .ok (.putfield 23, 3) := by decide +kernel
theorem dX12_fraction_47 : decode cX12_fraction 47 = .ok (.return_, 1) := by decide +kernel
def P_X12_fraction : Nat → Nat
  | 1 => 6
  | _ => 0
set_option maxRecDepth 100000 in
set_option maxHeartbeats 4000000 in
theorem S_X12_fraction : zSd yX12_fraction cX12_fraction 11 none { frames := 0, cells := 0, slots := 0, locals := 0 } T_X12_fraction := by
  refine zMet (pcs := P_X12_fraction) (F := F_X12_fraction) (by decide) rfl ?_
  intro p l e s m args below meth c D ids ad A Q Y C hr hk hY b
  match b with
  | 0 => exact (z_lln (pc := 0) C dX12_fraction_0 rfl <| z_lst (pc := 1) C dX12_fraction_1 (by decide) <| z_lln (pc := 3) C dX12_fraction_3 rfl <| z_lst (pc := 4) C dX12_fraction_4 (by decide) <| z_jmp (hY 1))
  | 1 => exact (z_ll (pc := 6) C dX12_fraction_6 <| z_lc (pc := 8) C dX12_fraction_8 (by decide +kernel) <| z_lcmp (pc := 9) C dX12_fraction_9 <| z_ifeq (tgt := 31) (pc := 10) C dX12_fraction_10 (by decide) (z_aln (pc := 31) C dX12_fraction_31 rfl <| z_lln (pc := 32) C dX12_fraction_32 rfl <| z_ll (pc := 33) C dX12_fraction_33 <| z_ldiv (pc := 35) C dX12_fraction_35 <| z_pfl (pc := 36) C dX12_fraction_36 fp_12_198 <| z_aln (pc := 39) C dX12_fraction_39 rfl <| z_lln (pc := 40) C dX12_fraction_40 rfl <| z_ll (pc := 41) C dX12_fraction_41 <| z_ldiv (pc := 43) C dX12_fraction_43 <| z_pfl (pc := 44) C dX12_fraction_44 fp_12_23 <| z_vr C hr hk dX12_fraction_47) <| z_ll (pc := 13) C dX12_fraction_13 <| z_ll (pc := 15) C dX12_fraction_15 <| z_lrem (pc := 17) C dX12_fraction_17 <| z_lst (pc := 18) C dX12_fraction_18 (by decide) <| z_ll (pc := 20) C dX12_fraction_20 <| z_lst (pc := 22) C dX12_fraction_22 (by decide) <| z_ll (pc := 24) C dX12_fraction_24 <| z_lst (pc := 26) C dX12_fraction_26 (by decide) <| z_goto (tgt := 6) (pc := 28) C dX12_fraction_28 (by decide) <| z_jmp (hY 1))
  | b + 2 => exact fun _ _ _ h => h.elim
theorem dX12_colds_0 : decode cX12_colds 0 = .ok (.iload_n 1, 1) := by decide +kernel
theorem dX12_colds_1 : decode cX12_colds 1 = .ok (.invokestatic 145, 3) := by decide +kernel
theorem dX12_colds_4 : decode cX12_colds 4 = .ok (.ifCond .eq 15, 3) := by decide +kernel
theorem dX12_colds_7 : decode cX12_colds 7 = .ok (.iload_n 2, 1) := by decide +kernel
theorem dX12_colds_8 : decode cX12_colds 8 = .ok (.i2l, 1) := by decide +kernel
theorem dX12_colds_9 : decode cX12_colds 9 = .ok (.lconst 0, 1) := by decide +kernel
theorem dX12_colds_10 : decode cX12_colds 10 = .ok (.ldc2_w 201, 3) := by decide +kernel
theorem dX12_colds_13 : decode cX12_colds 13 = .ok (.invokestatic 68, 3) := by decide +kernel
theorem dX12_colds_16 : decode cX12_colds 16 = .ok (.ifCond .ne 10, 3) := by decide +kernel
theorem dX12_colds_19 : decode cX12_colds 19 = .ok (.aload_n 0, 1) := by decide +kernel
theorem dX12_colds_20 : decode cX12_colds 20 = .ok (.bipush (-2), 2) := by decide +kernel
theorem dX12_colds_22 : decode cX12_colds 22 = .ok (.invokevirtual 78, 3) := by decide +kernel
theorem dX12_colds_25 : decode cX12_colds 25 = .ok (.ireturn, 1) := by decide +kernel
theorem dX12_colds_26 : decode cX12_colds 26 = .ok (.lconst 0, 1) := by decide +kernel
theorem dX12_colds_27 : decode cX12_colds 27 = .ok (.lstore_n 3, 1) := by decide +kernel
theorem dX12_colds_28 : decode cX12_colds 28 = .ok (.lconst 1, 1) := by decide +kernel
theorem dX12_colds_29 : decode cX12_colds 29 = .ok (.lstore 5, 2) := by decide +kernel
theorem dX12_colds_31 : decode cX12_colds 31 = .ok (.aload_n 0, 1) := by decide +kernel
theorem dX12_colds_32 : decode cX12_colds 32 = .ok (.invokevirtual 150, 3) := by decide +kernel
theorem dX12_colds_35 : decode cX12_colds 35 = .ok (.aload_n 0, 1) := by decide +kernel
theorem dX12_colds_36 : decode cX12_colds 36 = .ok (.getfield 110, 3) := by decide +kernel
theorem dX12_colds_39 : decode cX12_colds 39 = .ok (.istore 7, 2) := by decide +kernel
theorem dX12_colds_41 : decode cX12_colds 41 = .ok (.iconst 0, 1) := by decide +kernel
theorem dX12_colds_42 : decode cX12_colds 42 = .ok (.istore 8, 2) := by decide +kernel
theorem dX12_colds_44 : decode cX12_colds 44 = .ok (.iload 8, 2) := by decide +kernel
theorem dX12_colds_46 : decode cX12_colds 46 = .ok (.aload_n 0, 1) := by decide +kernel
theorem dX12_colds_47 : decode cX12_colds 47 = .ok (.invokevirtual 64, 3) := by decide +kernel
theorem dX12_colds_50 : decode cX12_colds 50 = .ok (.iload 7, 2) := by decide +kernel
theorem dX12_colds_52 : decode cX12_colds 52 = .ok (.invokestatic 173, 3) := by decide +kernel
theorem dX12_colds_55 : decode cX12_colds 55 = .ok (.isub, 1) := by decide +kernel
theorem dX12_colds_56 : decode cX12_colds 56 = .ok (.if_icmp .ge 17, 3) := by decide +kernel
theorem dX12_colds_59 : decode cX12_colds 59 = .ok (.lload 5, 2) := by decide +kernel
theorem dX12_colds_61 : decode cX12_colds 61 = .ok (.ldc2_w 201, 3) := by decide +kernel
theorem dX12_colds_64 : decode cX12_colds 64 = .ok (.lmul, 1) := by decide +kernel
theorem dX12_colds_65 : decode cX12_colds 65 = .ok (.lstore 5, 2) := by decide +kernel
theorem dX12_colds_67 : decode cX12_colds 67 = .ok (.iinc 8 1, 3) := by decide +kernel
theorem dX12_colds_70 : decode cX12_colds 70 = .ok (.goto (-26), 3) := by decide +kernel
theorem dX12_colds_73 : decode cX12_colds 73 = .ok (.iconst 0, 1) := by decide +kernel
theorem dX12_colds_74 : decode cX12_colds 74 = .ok (.istore 8, 2) := by decide +kernel
theorem dX12_colds_76 : decode cX12_colds 76 = .ok (.iload 8, 2) := by decide +kernel
theorem dX12_colds_78 : decode cX12_colds 78 = .ok (.iconst 1, 1) := by decide +kernel
theorem dX12_colds_79 : decode cX12_colds 79 = .ok (.aload_n 0, 1) := by decide +kernel
theorem dX12_colds_80 : decode cX12_colds 80 = .ok (.invokevirtual 64, 3) := by decide +kernel
theorem dX12_colds_83 : decode cX12_colds 83 = .ok (.ishl, 1) := by decide +kernel
theorem dX12_colds_84 : decode cX12_colds 84 = .ok (.if_icmp .ge 114, 3) := by decide +kernel
theorem dX12_colds_87 : decode cX12_colds 87 = .ok (.iload 8, 2) := by decide +kernel
theorem dX12_colds_89 : decode cX12_colds 89 = .ok (.iload 7, 2) := by decide +kernel
theorem dX12_colds_91 : decode cX12_colds 91 = .ok (.iand, 1) := by decide +kernel
theorem dX12_colds_92 : decode cX12_colds 92 = .ok (.ifCond .ne 7, 3) := by decide +kernel
theorem dX12_colds_95 : decode cX12_colds 95 = .ok (.lconst 1, 1) := by decide +kernel
theorem dX12_colds_96 : decode cX12_colds 96 = .ok (.goto 4, 3) := by decide +kernel
theorem dX12_colds_99 : decode cX12_colds 99 = .ok (.lconst 0, 1) := by decide +kernel
theorem dX12_colds_100 : decode cX12_colds 100 = .ok (.lstore 9, 2) := by decide +kernel
theorem dX12_colds_102 : decode cX12_colds 102 = .ok (.iconst 0, 1) := by decide +kernel
theorem dX12_colds_103 : decode cX12_colds 103 = .ok (.istore 11, 2) := by decide +kernel
theorem dX12_colds_105 : decode cX12_colds 105 = .ok (.iload 11, 2) := by decide +kernel
theorem dX12_colds_107 : decode cX12_colds 107 = .ok (.aload_n 0, 1) := by decide +kernel
theorem dX12_colds_108 : decode cX12_colds 108 = .ok (.invokevirtual 64, 3) := by decide +kernel
theorem dX12_colds_111 : decode cX12_colds 111 = .ok (.if_icmp .ge 48, 3) := by decide +kernel
theorem dX12_colds_114 : decode cX12_colds 114 = .ok (.lload 9, 2) := by decide +kernel
theorem dX12_colds_116 : decode cX12_colds 116 = .ok (.iload 7, 2) := by decide +kernel
theorem dX12_colds_118 : decode cX12_colds 118 = .ok (.iload 11, 2) := by decide +kernel
theorem dX12_colds_120 : decode cX12_colds 120 = .ok (.invokestatic 118, 3) := by decide +kernel
theorem dX12_colds_123 : decode cX12_colds 123 = .ok (.ifCond .eq 7, 3) := by decide +kernel
theorem dX12_colds_126 : decode cX12_colds 126 = .ok (.lconst 1, 1) := by decide +kernel
theorem dX12_colds_127 : decode cX12_colds 127 = .ok (.goto 23, 3) := by decide +kernel
theorem dX12_colds_130 : decode cX12_colds 130 = .ok (.iload 8, 2) := by decide +kernel
theorem dX12_colds_132 : decode cX12_colds 132 = .ok (.iload 11, 2) := by decide +kernel
theorem dX12_colds_134 : decode cX12_colds 134 = .ok (.invokestatic 118, 3) := by decide +kernel
theorem dX12_colds_137 : decode cX12_colds 137 = .ok (.ifCond .eq 8, 3) := by decide +kernel
theorem dX12_colds_140 : decode cX12_colds 140 = .ok (.iload_n 2, 1) := by decide +kernel
theorem dX12_colds_141 : decode cX12_colds 141 = .ok (.i2l, 1) := by decide +kernel
theorem dX12_colds_142 : decode cX12_colds 142 = .ok (.goto 8, 3) := by decide +kernel
theorem dX12_colds_145 : decode cX12_colds 145 = .ok (.bipush 10, 2) := by decide +kernel
theorem dX12_colds_147 : decode cX12_colds 147 = .ok (.iload_n 2, 1) := by decide +kernel
theorem dX12_colds_148 : decode cX12_colds 148 = .ok (.isub, 1) := by decide +kernel
theorem dX12_colds_149 : decode cX12_colds 149 = .ok (.i2l, 1) := by decide +kernel
theorem dX12_colds_150 : decode cX12_colds 150 = .ok (.lmul, 1) := by decide +kernel
theorem dX12_colds_151 : decode cX12_colds 151 = .ok (.lstore 9, 2) := by decide +kernel
theorem dX12_colds_153 : decode cX12_colds 153 = .ok (.iinc 11 1, 3) := by decide +kernel
theorem dX12_colds_156 : decode cX12_colds 156 = .ok (.goto (-51), 3) := by decide +kernel
theorem dX12_colds_159 : decode cX12_colds 159 = .ok (.aload_n 0, 1) := by decide +kernel
theorem dX12_colds_160 : decode cX12_colds 160 = .ok (.iload 7, 2) := by decide +kernel
theorem dX12_colds_162 : decode cX12_colds 162 = .ok (.iload 8, 2) := by decide +kernel
theorem dX12_colds_164 : decode cX12_colds 164 = .ok (.ior, 1) := by decide +kernel
theorem dX12_colds_165 : decode cX12_colds 165 = .ok (.putfield 110, 3) := by decide +kernel
theorem dX12_colds_168 : decode cX12_colds 168 = .ok (.lload_n 3, 1) := by decide +kernel
theorem dX12_colds_169 : decode cX12_colds 169 = .ok (.lload 9, 2) := by decide +kernel
theorem dX12_colds_171 : decode cX12_colds 171 = .ok (.lconst 0, 1) := by decide +kernel
theorem dX12_colds_172 : decode cX12_colds 172 = .ok (.lcmp, 1) := by decide +kernel
theorem dX12_colds_173 : decode cX12_colds 173 = .ok (.ifCond .le 16, 3) := by decide +kernel
theorem dX12_colds_176 : decode cX12_colds 176 = .ok (.aload_n 0, 1) := by decide +kernel
theorem dX12_colds_177 : decode cX12_colds 177 = .ok (.iload_n 1, 1) := by decide +kernel
theorem dX12_colds_178 : decode cX12_colds 178 = .ok (.invokevirtual 133, 3) := by decide +kernel
theorem dX12_colds_181 : decode cX12_colds 181 = .ok (.ifCond .eq 8, 3) := by decide +kernel
theorem dX12_colds_184 : decode cX12_colds 184 = .ok (.lload 9, 2) := by decide +kernel
theorem dX12_colds_186 : decode cX12_colds 186 = .ok (.goto 4, 3) := by decide +kernel
theorem dX12_colds_189 : decode cX12_colds 189 = .ok (.lconst 0, 1) := by decide +kernel
theorem dX12_colds_190 : decode cX12_colds 190 = .ok (.ladd, 1) := by decide +kernel
theorem dX12_colds_191 : decode cX12_colds 191 = .ok (.lstore_n 3, 1) := by decide +kernel
theorem dX12_colds_192 : decode cX12_colds 192 = .ok (.iinc 8 1, 3) := by decide +kernel
theorem dX12_colds_195 : decode cX12_colds 195 = .ok (.goto (-119), 3) := by decide +kernel
theorem dX12_colds_198 : decode cX12_colds 198 = .ok (.aload_n 0, 1) := by decide +kernel
theorem dX12_colds_199 : decode cX12_colds 199 = .ok (.lload_n 3, 1) := by decide +kernel
theorem dX12_colds_200 : decode cX12_colds 200 = .ok (.lload 5, 2) := by decide +kernel
theorem dX12_colds_202 : decode cX12_colds 202 = .ok (.invokevirtual 203, 3) := by decide +kernel
theorem dX12_colds_205 : decode cX12_colds 205 = .ok (.iconst 1, 1) := by decide +kernel
theorem dX12_colds_206 : decode cX12_colds 206 = .ok (.ireturn, 1) := by decide +kernel
def P_X12_colds : Nat → Nat
  | 1 => 19
  | 2 => 44
  | 3 => 76
  | 4 => 100
  | 5 => 105
  | 6 => 150
  | 7 => 189
  | 8 => 190
  | _ => 0
set_option maxRecDepth 100000 in
set_option maxHeartbeats 4000000 in
theorem S_X12_colds : zSd yX12_colds cX12_colds 12 (some .int) { frames := 5, cells := 0, slots := 0, locals := 115 } T_X12_colds := by
  refine zMet (pcs := P_X12_colds) (F := F_X12_colds) (by decide) rfl ?_
  intro p l e s m args below meth c D ids ad A Q Y C hr hk hY b
  match b with
  | 0 => exact (z_iln (pc := 0) C dX12_colds_0 rfl <| z_cS (pc := 1) C dX12_colds_1 S_X12_isWord (zl3 w_1001 w_1002 w_13) w_1003 ds_X12_isWord (zrm rfl rfl (by decide) (by decide)) <| z_ifeq (tgt := 19) (pc := 4) C dX12_colds_4 (by decide) (z_jmp (hY 1)) <| z_iln (pc := 7) C dX12_colds_7 rfl <| z_i2l (pc := 8) C dX12_colds_8 <| z_lc (pc := 9) C dX12_colds_9 (by decide +kernel) <| z_ldc2 (pc := 10) C dX12_colds_10 w_1138 <| z_cS (pc := 13) C dX12_colds_13 S_X12_in (zl3 w_922 w_923 w_13) w_924 ds_X12_in (zrm rfl rfl (by decide) (by decide)) <| z_ifne (tgt := 26) (pc := 16) C dX12_colds_16 (by decide) (z_lc (pc := 26) C dX12_colds_26 (by decide +kernel) <| z_lstn (pc := 27) C dX12_colds_27 rfl (by decide) <| z_lc (pc := 28) C dX12_colds_28 (by decide +kernel) <| z_lst (pc := 29) C dX12_colds_29 (by decide) <| z_aln (pc := 31) C dX12_colds_31 rfl <| z_cV (pc := 32) C dX12_colds_32 S_X12_layHand rfl (zl4 w_1006 w_1008 wp_28 w_13) w_1009 ds_X12_layHand (zrm rfl rfl (by decide) (by decide)) <| z_aln (pc := 35) C dX12_colds_35 rfl <| z_gf (pc := 36) C dX12_colds_36 fl_12_110 <| z_is (pc := 39) C dX12_colds_39 (by decide) <| z_ic (pc := 41) C dX12_colds_41 (by decide +kernel) <| z_is (pc := 42) C dX12_colds_42 (by decide) <| z_jmp (hY 2)) <| z_jmp (hY 1))
  | 1 => exact (z_aln (pc := 19) C dX12_colds_19 rfl <| z_bi (pc := 20) C dX12_colds_20 (by decide +kernel) <| z_cV (pc := 22) C dX12_colds_22 S_X12_bad rfl (zl4 w_925 w_927 wp_20 w_13) w_928 ds_X12_bad (zrm rfl rfl (by decide) (by decide)) <| z_ir C hr hk dX12_colds_25)
  | 2 => exact (z_il (pc := 44) C dX12_colds_44 <| z_aln (pc := 46) C dX12_colds_46 rfl <| z_cV (pc := 47) C dX12_colds_47 S_X12_many rfl (zl4 w_929 w_931 wp_21 w_13) w_932 ds_X12_many (zrm rfl rfl (by decide) (by decide)) <| z_il (pc := 50) C dX12_colds_50 <| z_cS (pc := 52) C dX12_colds_52 S_X12_bits (zl3 w_1086 w_1087 w_13) w_1088 ds_X12_bits (zrm rfl rfl (by decide) (by decide)) <| z_isub (pc := 55) C dX12_colds_55 <| z_cmpge (tgt := 73) (pc := 56) C dX12_colds_56 (by decide) (z_ic (pc := 73) C dX12_colds_73 (by decide +kernel) <| z_is (pc := 74) C dX12_colds_74 (by decide) <| z_jmp (hY 3)) <| z_ll (pc := 59) C dX12_colds_59 <| z_ldc2 (pc := 61) C dX12_colds_61 w_1138 <| z_lmul (pc := 64) C dX12_colds_64 <| z_lst (pc := 65) C dX12_colds_65 (by decide) <| z_inc (pc := 67) C dX12_colds_67 (by decide +kernel) (by decide) <| z_goto (tgt := 44) (pc := 70) C dX12_colds_70 (by decide) <| z_jmp (hY 2))
  | 3 => exact (z_il (pc := 76) C dX12_colds_76 <| z_ic (pc := 78) C dX12_colds_78 (by decide +kernel) <| z_aln (pc := 79) C dX12_colds_79 rfl <| z_cV (pc := 80) C dX12_colds_80 S_X12_many rfl (zl4 w_929 w_931 wp_21 w_13) w_932 ds_X12_many (zrm rfl rfl (by decide) (by decide)) <| z_ishl (pc := 83) C dX12_colds_83 <| z_cmpge (tgt := 198) (pc := 84) C dX12_colds_84 (by decide) (z_aln (pc := 198) C dX12_colds_198 rfl <| z_lln (pc := 199) C dX12_colds_199 rfl <| z_ll (pc := 200) C dX12_colds_200 <| z_cV (pc := 202) C dX12_colds_202 S_X12_fraction rfl (zl4 w_1139 w_1141 wp_42 w_13) w_1142 ds_X12_fraction (zrm rfl rfl (by decide) (by decide)) <| z_ic (pc := 205) C dX12_colds_205 (by decide +kernel) <| z_ir C hr hk dX12_colds_206) <| z_il (pc := 87) C dX12_colds_87 <| z_il (pc := 89) C dX12_colds_89 <| z_iand (pc := 91) C dX12_colds_91 <| z_ifne (tgt := 99) (pc := 92) C dX12_colds_92 (by decide) (z_lc (pc := 99) C dX12_colds_99 (by decide +kernel) <| z_jmp (hY 4)) <| z_lc (pc := 95) C dX12_colds_95 (by decide +kernel) <| z_goto (tgt := 100) (pc := 96) C dX12_colds_96 (by decide) <| z_jmp (hY 4))
  | 4 => exact (z_lst (pc := 100) C dX12_colds_100 (by decide) <| z_ic (pc := 102) C dX12_colds_102 (by decide +kernel) <| z_is (pc := 103) C dX12_colds_103 (by decide) <| z_jmp (hY 5))
  | 5 => exact (z_il (pc := 105) C dX12_colds_105 <| z_aln (pc := 107) C dX12_colds_107 rfl <| z_cV (pc := 108) C dX12_colds_108 S_X12_many rfl (zl4 w_929 w_931 wp_21 w_13) w_932 ds_X12_many (zrm rfl rfl (by decide) (by decide)) <| z_cmpge (tgt := 159) (pc := 111) C dX12_colds_111 (by decide) (z_aln (pc := 159) C dX12_colds_159 rfl <| z_il (pc := 160) C dX12_colds_160 <| z_il (pc := 162) C dX12_colds_162 <| z_ior (pc := 164) C dX12_colds_164 <| z_pf (pc := 165) C dX12_colds_165 fp_12_110 <| z_lln (pc := 168) C dX12_colds_168 rfl <| z_ll (pc := 169) C dX12_colds_169 <| z_lc (pc := 171) C dX12_colds_171 (by decide +kernel) <| z_lcmp (pc := 172) C dX12_colds_172 <| z_ifle (tgt := 189) (pc := 173) C dX12_colds_173 (by decide) (z_jmp (hY 7)) <| z_aln (pc := 176) C dX12_colds_176 rfl <| z_iln (pc := 177) C dX12_colds_177 rfl <| z_cV (pc := 178) C dX12_colds_178 S_X12_isPeace rfl (zl4 w_1049 w_1051 wp_34 w_13) w_1052 ds_X12_isPeace (zrm rfl rfl (by decide) (by decide)) <| z_ifeq (tgt := 189) (pc := 181) C dX12_colds_181 (by decide) (z_jmp (hY 7)) <| z_ll (pc := 184) C dX12_colds_184 <| z_goto (tgt := 190) (pc := 186) C dX12_colds_186 (by decide) <| z_jmp (hY 8)) <| z_ll (pc := 114) C dX12_colds_114 <| z_il (pc := 116) C dX12_colds_116 <| z_il (pc := 118) C dX12_colds_118 <| z_cS (pc := 120) C dX12_colds_120 S_X12_has (zl3 w_1014 w_1015 w_13) w_1016 ds_X12_has (zrm rfl rfl (by decide) (by decide)) <| z_ifeq (tgt := 130) (pc := 123) C dX12_colds_123 (by decide) (z_il (pc := 130) C dX12_colds_130 <| z_il (pc := 132) C dX12_colds_132 <| z_cS (pc := 134) C dX12_colds_134 S_X12_has (zl3 w_1014 w_1015 w_13) w_1016 ds_X12_has (zrm rfl rfl (by decide) (by decide)) <| z_ifeq (tgt := 145) (pc := 137) C dX12_colds_137 (by decide) (z_bi (pc := 145) C dX12_colds_145 (by decide +kernel) <| z_iln (pc := 147) C dX12_colds_147 rfl <| z_isub (pc := 148) C dX12_colds_148 <| z_i2l (pc := 149) C dX12_colds_149 <| z_jmp (hY 6)) <| z_iln (pc := 140) C dX12_colds_140 rfl <| z_i2l (pc := 141) C dX12_colds_141 <| z_goto (tgt := 150) (pc := 142) C dX12_colds_142 (by decide) <| z_jmp (hY 6)) <| z_lc (pc := 126) C dX12_colds_126 (by decide +kernel) <| z_goto (tgt := 150) (pc := 127) C dX12_colds_127 (by decide) <| z_jmp (hY 6))
  | 6 => exact (z_lmul (pc := 150) C dX12_colds_150 <| z_lst (pc := 151) C dX12_colds_151 (by decide) <| z_inc (pc := 153) C dX12_colds_153 (by decide +kernel) (by decide) <| z_goto (tgt := 105) (pc := 156) C dX12_colds_156 (by decide) <| z_jmp (hY 5))
  | 7 => exact (z_lc (pc := 189) C dX12_colds_189 (by decide +kernel) <| z_jmp (hY 8))
  | 8 => exact (z_ladd (pc := 190) C dX12_colds_190 <| z_lstn (pc := 191) C dX12_colds_191 rfl (by decide) <| z_inc (pc := 192) C dX12_colds_192 (by decide +kernel) (by decide) <| z_goto (tgt := 76) (pc := 195) C dX12_colds_195 (by decide) <| z_jmp (hY 3))
  | b + 9 => exact fun _ _ _ h => h.elim
theorem dX12_sundays_0 : decode cX12_sundays 0 = .ok (.iload_n 1, 1) := by decide +kernel
theorem dX12_sundays_1 : decode cX12_sundays 1 = .ok (.i2l, 1) := by decide +kernel
theorem dX12_sundays_2 : decode cX12_sundays 2 = .ok (.lconst 0, 1) := by decide +kernel
theorem dX12_sundays_3 : decode cX12_sundays 3 = .ok (.ldc2_w 207, 3) := by decide +kernel
theorem dX12_sundays_6 : decode cX12_sundays 6 = .ok (.invokestatic 68, 3) := by decide +kernel
theorem dX12_sundays_9 : decode cX12_sundays 9 = .ok (.ifCond .eq 15, 3) := by decide +kernel
theorem dX12_sundays_12 : decode cX12_sundays 12 = .ok (.iload_n 2, 1) := by decide +kernel
theorem dX12_sundays_13 : decode cX12_sundays 13 = .ok (.i2l, 1) := by decide +kernel
theorem dX12_sundays_14 : decode cX12_sundays 14 = .ok (.lconst 0, 1) := by decide +kernel
theorem dX12_sundays_15 : decode cX12_sundays 15 = .ok (.ldc2_w 209, 3) := by decide +kernel
theorem dX12_sundays_18 : decode cX12_sundays 18 = .ok (.invokestatic 68, 3) := by decide +kernel
theorem dX12_sundays_21 : decode cX12_sundays 21 = .ok (.ifCond .ne 10, 3) := by decide +kernel
theorem dX12_sundays_24 : decode cX12_sundays 24 = .ok (.aload_n 0, 1) := by decide +kernel
theorem dX12_sundays_25 : decode cX12_sundays 25 = .ok (.bipush (-2), 2) := by decide +kernel
theorem dX12_sundays_27 : decode cX12_sundays 27 = .ok (.invokevirtual 78, 3) := by decide +kernel
theorem dX12_sundays_30 : decode cX12_sundays 30 = .ok (.ireturn, 1) := by decide +kernel
theorem dX12_sundays_31 : decode cX12_sundays 31 = .ok (.iload_n 1, 1) := by decide +kernel
theorem dX12_sundays_32 : decode cX12_sundays 32 = .ok (.i2l, 1) := by decide +kernel
theorem dX12_sundays_33 : decode cX12_sundays 33 = .ok (.lstore_n 3, 1) := by decide +kernel
theorem dX12_sundays_34 : decode cX12_sundays 34 = .ok (.iconst 0, 1) := by decide +kernel
theorem dX12_sundays_35 : decode cX12_sundays 35 = .ok (.istore 5, 2) := by decide +kernel
theorem dX12_sundays_37 : decode cX12_sundays 37 = .ok (.aload_n 0, 1) := by decide +kernel
theorem dX12_sundays_38 : decode cX12_sundays 38 = .ok (.invokevirtual 150, 3) := by decide +kernel
theorem dX12_sundays_41 : decode cX12_sundays 41 = .ok (.iconst 0, 1) := by decide +kernel
theorem dX12_sundays_42 : decode cX12_sundays 42 = .ok (.istore 6, 2) := by decide +kernel
theorem dX12_sundays_44 : decode cX12_sundays 44 = .ok (.iload 6, 2) := by decide +kernel
theorem dX12_sundays_46 : decode cX12_sundays 46 = .ok (.iload_n 2, 1) := by decide +kernel
theorem dX12_sundays_47 : decode cX12_sundays 47 = .ok (.if_icmp .ge 96, 3) := by decide +kernel
theorem dX12_sundays_50 : decode cX12_sundays 50 = .ok (.aload_n 0, 1) := by decide +kernel
theorem dX12_sundays_51 : decode cX12_sundays 51 = .ok (.iconst 0, 1) := by decide +kernel
theorem dX12_sundays_52 : decode cX12_sundays 52 = .ok (.putfield 110, 3) := by decide +kernel
theorem dX12_sundays_55 : decode cX12_sundays 55 = .ok (.iconst 0, 1) := by decide +kernel
theorem dX12_sundays_56 : decode cX12_sundays 56 = .ok (.istore 7, 2) := by decide +kernel
theorem dX12_sundays_58 : decode cX12_sundays 58 = .ok (.iload 7, 2) := by decide +kernel
theorem dX12_sundays_60 : decode cX12_sundays 60 = .ok (.aload_n 0, 1) := by decide +kernel
theorem dX12_sundays_61 : decode cX12_sundays 61 = .ok (.invokevirtual 64, 3) := by decide +kernel
theorem dX12_sundays_64 : decode cX12_sundays 64 = .ok (.if_icmp .ge 54, 3) := by decide +kernel
theorem dX12_sundays_67 : decode cX12_sundays 67 = .ok (.lload_n 3, 1) := by decide +kernel
theorem dX12_sundays_68 : decode cX12_sundays 68 = .ok (.ldc2_w 211, 3) := by decide +kernel
theorem dX12_sundays_71 : decode cX12_sundays 71 = .ok (.lmul, 1) := by decide +kernel
theorem dX12_sundays_72 : decode cX12_sundays 72 = .ok (.ldc2_w 213, 3) := by decide +kernel
theorem dX12_sundays_75 : decode cX12_sundays 75 = .ok (.ladd, 1) := by decide +kernel
theorem dX12_sundays_76 : decode cX12_sundays 76 = .ok (.ldc2_w 215, 3) := by decide +kernel
theorem dX12_sundays_79 : decode cX12_sundays 79 = .ok (.lrem, 1) := by decide +kernel
theorem dX12_sundays_80 : decode cX12_sundays 80 = .ok (.lstore_n 3, 1) := by decide +kernel
theorem dX12_sundays_81 : decode cX12_sundays 81 = .ok (.aload_n 0, 1) := by decide +kernel
theorem dX12_sundays_82 : decode cX12_sundays 82 = .ok (.dup, 1) := by decide +kernel
theorem dX12_sundays_83 : decode cX12_sundays 83 = .ok (.getfield 110, 3) := by decide +kernel
theorem dX12_sundays_86 : decode cX12_sundays 86 = .ok (.lload_n 3, 1) := by decide +kernel
theorem dX12_sundays_87 : decode cX12_sundays 87 = .ok (.ldc2_w 217, 3) := by decide +kernel
theorem dX12_sundays_90 : decode cX12_sundays 90 = .ok (.ldiv, 1) := by decide +kernel
theorem dX12_sundays_91 : decode cX12_sundays 91 = .ok (.ldc2_w 219, 3) := by decide +kernel
theorem dX12_sundays_94 : decode cX12_sundays 94 = .ok (.lrem, 1) := by decide +kernel
theorem dX12_sundays_95 : decode cX12_sundays 95 = .ok (.lconst 0, 1) := by decide +kernel
theorem dX12_sundays_96 : decode cX12_sundays 96 = .ok (.lcmp, 1) := by decide +kernel
theorem dX12_sundays_97 : decode cX12_sundays 97 = .ok (.ifCond .ne 10, 3) := by decide +kernel
theorem dX12_sundays_100 : decode cX12_sundays 100 = .ok (.iconst 1, 1) := by decide +kernel
theorem dX12_sundays_101 : decode cX12_sundays 101 = .ok (.iload 7, 2) := by decide +kernel
theorem dX12_sundays_103 : decode cX12_sundays 103 = .ok (.ishl, 1) := by decide +kernel
theorem dX12_sundays_104 : decode cX12_sundays 104 = .ok (.goto 4, 3) := by decide +kernel
theorem dX12_sundays_107 : decode cX12_sundays 107 = .ok (.iconst 0, 1) := by decide +kernel
theorem dX12_sundays_108 : decode cX12_sundays 108 = .ok (.ior, 1) := by decide +kernel
theorem dX12_sundays_109 : decode cX12_sundays 109 = .ok (.putfield 110, 3) := by decide +kernel
theorem dX12_sundays_112 : decode cX12_sundays 112 = .ok (.iinc 7 1, 3) := by decide +kernel
theorem dX12_sundays_115 : decode cX12_sundays 115 = .ok (.goto (-57), 3) := by decide +kernel
theorem dX12_sundays_118 : decode cX12_sundays 118 = .ok (.iload 5, 2) := by decide +kernel
theorem dX12_sundays_120 : decode cX12_sundays 120 = .ok (.aload_n 0, 1) := by decide +kernel
theorem dX12_sundays_121 : decode cX12_sundays 121 = .ok (.invokevirtual 170, 3) := by decide +kernel
theorem dX12_sundays_124 : decode cX12_sundays 124 = .ok (.bipush 16, 2) := by decide +kernel
theorem dX12_sundays_126 : decode cX12_sundays 126 = .ok (.if_icmp .ne 7, 3) := by decide +kernel
theorem dX12_sundays_129 : decode cX12_sundays 129 = .ok (.iconst 1, 1) := by decide +kernel
theorem dX12_sundays_130 : decode cX12_sundays 130 = .ok (.goto 4, 3) := by decide +kernel
theorem dX12_sundays_133 : decode cX12_sundays 133 = .ok (.iconst 0, 1) := by decide +kernel
theorem dX12_sundays_134 : decode cX12_sundays 134 = .ok (.iadd, 1) := by decide +kernel
theorem dX12_sundays_135 : decode cX12_sundays 135 = .ok (.istore 5, 2) := by decide +kernel
theorem dX12_sundays_137 : decode cX12_sundays 137 = .ok (.iinc 6 1, 3) := by decide +kernel
theorem dX12_sundays_140 : decode cX12_sundays 140 = .ok (.goto (-96), 3) := by decide +kernel
theorem dX12_sundays_143 : decode cX12_sundays 143 = .ok (.iload 5, 2) := by decide +kernel
theorem dX12_sundays_145 : decode cX12_sundays 145 = .ok (.ireturn, 1) := by decide +kernel
def P_X12_sundays : Nat → Nat
  | 1 => 24
  | 2 => 44
  | 3 => 58
  | 4 => 108
  | 5 => 134
  | _ => 0
set_option maxRecDepth 100000 in
set_option maxHeartbeats 4000000 in
theorem S_X12_sundays : zSd yX12_sundays cX12_sundays 8 (some .int) { frames := 6, cells := 0, slots := 0, locals := 137 } T_X12_sundays := by
  refine zMet (pcs := P_X12_sundays) (F := F_X12_sundays) (by decide) rfl ?_
  intro p l e s m args below meth c D ids ad A Q Y C hr hk hY b
  match b with
  | 0 => exact (z_iln (pc := 0) C dX12_sundays_0 rfl <| z_i2l (pc := 1) C dX12_sundays_1 <| z_lc (pc := 2) C dX12_sundays_2 (by decide +kernel) <| z_ldc2 (pc := 3) C dX12_sundays_3 w_1147 <| z_cS (pc := 6) C dX12_sundays_6 S_X12_in (zl3 w_922 w_923 w_13) w_924 ds_X12_in (zrm rfl rfl (by decide) (by decide)) <| z_ifeq (tgt := 24) (pc := 9) C dX12_sundays_9 (by decide) (z_jmp (hY 1)) <| z_iln (pc := 12) C dX12_sundays_12 rfl <| z_i2l (pc := 13) C dX12_sundays_13 <| z_lc (pc := 14) C dX12_sundays_14 (by decide +kernel) <| z_ldc2 (pc := 15) C dX12_sundays_15 w_1148 <| z_cS (pc := 18) C dX12_sundays_18 S_X12_in (zl3 w_922 w_923 w_13) w_924 ds_X12_in (zrm rfl rfl (by decide) (by decide)) <| z_ifne (tgt := 31) (pc := 21) C dX12_sundays_21 (by decide) (z_iln (pc := 31) C dX12_sundays_31 rfl <| z_i2l (pc := 32) C dX12_sundays_32 <| z_lstn (pc := 33) C dX12_sundays_33 rfl (by decide) <| z_ic (pc := 34) C dX12_sundays_34 (by decide +kernel) <| z_is (pc := 35) C dX12_sundays_35 (by decide) <| z_aln (pc := 37) C dX12_sundays_37 rfl <| z_cV (pc := 38) C dX12_sundays_38 S_X12_layHand rfl (zl4 w_1006 w_1008 wp_28 w_13) w_1009 ds_X12_layHand (zrm rfl rfl (by decide) (by decide)) <| z_ic (pc := 41) C dX12_sundays_41 (by decide +kernel) <| z_is (pc := 42) C dX12_sundays_42 (by decide) <| z_jmp (hY 2)) <| z_jmp (hY 1))
  | 1 => exact (z_aln (pc := 24) C dX12_sundays_24 rfl <| z_bi (pc := 25) C dX12_sundays_25 (by decide +kernel) <| z_cV (pc := 27) C dX12_sundays_27 S_X12_bad rfl (zl4 w_925 w_927 wp_20 w_13) w_928 ds_X12_bad (zrm rfl rfl (by decide) (by decide)) <| z_ir C hr hk dX12_sundays_30)
  | 2 => exact (z_il (pc := 44) C dX12_sundays_44 <| z_iln (pc := 46) C dX12_sundays_46 rfl <| z_cmpge (tgt := 143) (pc := 47) C dX12_sundays_47 (by decide) (z_il (pc := 143) C dX12_sundays_143 <| z_ir C hr hk dX12_sundays_145) <| z_aln (pc := 50) C dX12_sundays_50 rfl <| z_ic (pc := 51) C dX12_sundays_51 (by decide +kernel) <| z_pf (pc := 52) C dX12_sundays_52 fp_12_110 <| z_ic (pc := 55) C dX12_sundays_55 (by decide +kernel) <| z_is (pc := 56) C dX12_sundays_56 (by decide) <| z_jmp (hY 3))
  | 3 => exact (z_il (pc := 58) C dX12_sundays_58 <| z_aln (pc := 60) C dX12_sundays_60 rfl <| z_cV (pc := 61) C dX12_sundays_61 S_X12_many rfl (zl4 w_929 w_931 wp_21 w_13) w_932 ds_X12_many (zrm rfl rfl (by decide) (by decide)) <| z_cmpge (tgt := 118) (pc := 64) C dX12_sundays_64 (by decide) (z_il (pc := 118) C dX12_sundays_118 <| z_aln (pc := 120) C dX12_sundays_120 rfl <| z_cV (pc := 121) C dX12_sundays_121 S_X12_peaces rfl (zl4 w_1078 w_1080 wp_38 w_13) w_1081 ds_X12_peaces (zrm rfl rfl (by decide) (by decide)) <| z_bi (pc := 124) C dX12_sundays_124 (by decide +kernel) <| z_cmpne (tgt := 133) (pc := 126) C dX12_sundays_126 (by decide) (z_ic (pc := 133) C dX12_sundays_133 (by decide +kernel) <| z_jmp (hY 5)) <| z_ic (pc := 129) C dX12_sundays_129 (by decide +kernel) <| z_goto (tgt := 134) (pc := 130) C dX12_sundays_130 (by decide) <| z_jmp (hY 5)) <| z_lln (pc := 67) C dX12_sundays_67 rfl <| z_ldc2 (pc := 68) C dX12_sundays_68 w_1149 <| z_lmul (pc := 71) C dX12_sundays_71 <| z_ldc2 (pc := 72) C dX12_sundays_72 w_1150 <| z_ladd (pc := 75) C dX12_sundays_75 <| z_ldc2 (pc := 76) C dX12_sundays_76 w_1151 <| z_lrem (pc := 79) C dX12_sundays_79 <| z_lstn (pc := 80) C dX12_sundays_80 rfl (by decide) <| z_aln (pc := 81) C dX12_sundays_81 rfl <| z_dup (pc := 82) C dX12_sundays_82 <| z_gf (pc := 83) C dX12_sundays_83 fl_12_110 <| z_lln (pc := 86) C dX12_sundays_86 rfl <| z_ldc2 (pc := 87) C dX12_sundays_87 w_1152 <| z_ldiv (pc := 90) C dX12_sundays_90 <| z_ldc2 (pc := 91) C dX12_sundays_91 w_1153 <| z_lrem (pc := 94) C dX12_sundays_94 <| z_lc (pc := 95) C dX12_sundays_95 (by decide +kernel) <| z_lcmp (pc := 96) C dX12_sundays_96 <| z_ifne (tgt := 107) (pc := 97) C dX12_sundays_97 (by decide) (z_ic (pc := 107) C dX12_sundays_107 (by decide +kernel) <| z_jmp (hY 4)) <| z_ic (pc := 100) C dX12_sundays_100 (by decide +kernel) <| z_il (pc := 101) C dX12_sundays_101 <| z_ishl (pc := 103) C dX12_sundays_103 <| z_goto (tgt := 108) (pc := 104) C dX12_sundays_104 (by decide) <| z_jmp (hY 4))
  | 4 => exact (z_ior (pc := 108) C dX12_sundays_108 <| z_pf (pc := 109) C dX12_sundays_109 fp_12_110 <| z_inc (pc := 112) C dX12_sundays_112 (by decide +kernel) (by decide) <| z_goto (tgt := 58) (pc := 115) C dX12_sundays_115 (by decide) <| z_jmp (hY 3))
  | 5 => exact (z_iadd (pc := 134) C dX12_sundays_134 <| z_is (pc := 135) C dX12_sundays_135 (by decide) <| z_inc (pc := 137) C dX12_sundays_137 (by decide +kernel) (by decide) <| z_goto (tgt := 44) (pc := 140) C dX12_sundays_140 (by decide) <| z_jmp (hY 2))
  | b + 6 => exact fun _ _ _ h => h.elim
theorem dX12_type_0 : decode cX12_type 0 = .ok (.iload_n 1, 1) := by decide +kernel
theorem dX12_type_1 : decode cX12_type 1 = .ok (.i2l, 1) := by decide +kernel
theorem dX12_type_2 : decode cX12_type 2 = .ok (.lconst 0, 1) := by decide +kernel
theorem dX12_type_3 : decode cX12_type 3 = .ok (.ldc2_w 221, 3) := by decide +kernel
theorem dX12_type_6 : decode cX12_type 6 = .ok (.invokestatic 68, 3) := by decide +kernel
theorem dX12_type_9 : decode cX12_type 9 = .ok (.ifCond .ne 10, 3) := by decide +kernel
theorem dX12_type_12 : decode cX12_type 12 = .ok (.aload_n 0, 1) := by decide +kernel
theorem dX12_type_13 : decode cX12_type 13 = .ok (.bipush (-2), 2) := by decide +kernel
theorem dX12_type_15 : decode cX12_type 15 = .ok (.invokevirtual 78, 3) := by decide +kernel
theorem dX12_type_18 : decode cX12_type 18 = .ok (.ireturn, 1) := by decide +kernel
theorem dX12_type_19 : decode cX12_type 19 = .ok (.aload_n 0, 1) := by decide +kernel
theorem dX12_type_20 : decode cX12_type 20 = .ok (.getfield 223, 3) := by decide +kernel
theorem dX12_type_23 : decode cX12_type 23 = .ok (.sipush 150, 3) := by decide +kernel
theorem dX12_type_26 : decode cX12_type 26 = .ok (.if_icmp .ne 8, 3) := by decide +kernel
theorem dX12_type_29 : decode cX12_type 29 = .ok (.aload_n 0, 1) := by decide +kernel
theorem dX12_type_30 : decode cX12_type 30 = .ok (.invokevirtual 103, 3) := by decide +kernel
theorem dX12_type_33 : decode cX12_type 33 = .ok (.ireturn, 1) := by decide +kernel
theorem dX12_type_34 : decode cX12_type 34 = .ok (.aload_n 0, 1) := by decide +kernel
theorem dX12_type_35 : decode cX12_type 35 = .ok (.getfield 51, 3) := by decide +kernel
theorem dX12_type_38 : decode cX12_type 38 = .ok (.aload_n 0, 1) := by decide +kernel
theorem dX12_type_39 : decode cX12_type 39 = .ok (.getfield 223, 3) := by decide +kernel
theorem dX12_type_42 : decode cX12_type 42 = .ok (.iload_n 1, 1) := by decide +kernel
theorem dX12_type_43 : decode cX12_type 43 = .ok (.iastore, 1) := by decide +kernel
theorem dX12_type_44 : decode cX12_type 44 = .ok (.aload_n 0, 1) := by decide +kernel
theorem dX12_type_45 : decode cX12_type 45 = .ok (.dup, 1) := by decide +kernel
theorem dX12_type_46 : decode cX12_type 46 = .ok (.getfield 223, 3) := by decide +kernel
theorem dX12_type_49 : decode cX12_type 49 = .ok (.iconst 1, 1) := by decide +kernel
theorem dX12_type_50 : decode cX12_type 50 = .ok (.iadd, 1) := by decide +kernel
theorem dX12_type_51 : decode cX12_type 51 = .ok (.putfield 223, 3) := by decide +kernel
theorem dX12_type_54 : decode cX12_type 54 = .ok (.aload_n 0, 1) := by decide +kernel
theorem dX12_type_55 : decode cX12_type 55 = .ok (.getfield 223, 3) := by decide +kernel
theorem dX12_type_58 : decode cX12_type 58 = .ok (.ireturn, 1) := by decide +kernel
def P_X12_type : Nat → Nat
  | _ => 0
set_option maxRecDepth 100000 in
set_option maxHeartbeats 4000000 in
theorem S_X12_type : zSd yX12_type cX12_type 2 (some .int) { frames := 1, cells := 0, slots := 0, locals := 25 } T_X12_type := by
  refine zMet (pcs := P_X12_type) (F := F_X12_type) (by decide) rfl ?_
  intro p l e s m args below meth c D ids ad A Q Y C hr hk hY b
  match b with
  | 0 => exact (z_iln (pc := 0) C dX12_type_0 rfl <| z_i2l (pc := 1) C dX12_type_1 <| z_lc (pc := 2) C dX12_type_2 (by decide +kernel) <| z_ldc2 (pc := 3) C dX12_type_3 w_1158 <| z_cS (pc := 6) C dX12_type_6 S_X12_in (zl3 w_922 w_923 w_13) w_924 ds_X12_in (zrm rfl rfl (by decide) (by decide)) <| z_ifne (tgt := 19) (pc := 9) C dX12_type_9 (by decide) (z_aln (pc := 19) C dX12_type_19 rfl <| z_gf (pc := 20) C dX12_type_20 fl_12_223 <| z_si (pc := 23) C dX12_type_23 (by decide +kernel) <| z_cmpne (tgt := 34) (pc := 26) C dX12_type_26 (by decide) (z_aln (pc := 34) C dX12_type_34 rfl <| z_gf (pc := 35) C dX12_type_35 fl_12_51 <| z_aln (pc := 38) C dX12_type_38 rfl <| z_gf (pc := 39) C dX12_type_39 fl_12_223 <| z_iln (pc := 42) C dX12_type_42 rfl <| z_iast (pc := 43) C dX12_type_43 <| z_aln (pc := 44) C dX12_type_44 rfl <| z_dup (pc := 45) C dX12_type_45 <| z_gf (pc := 46) C dX12_type_46 fl_12_223 <| z_ic (pc := 49) C dX12_type_49 (by decide +kernel) <| z_iadd (pc := 50) C dX12_type_50 <| z_pf (pc := 51) C dX12_type_51 fp_12_223 <| z_aln (pc := 54) C dX12_type_54 rfl <| z_gf (pc := 55) C dX12_type_55 fl_12_223 <| z_ir C hr hk dX12_type_58) <| z_aln (pc := 29) C dX12_type_29 rfl <| z_cV (pc := 30) C dX12_type_30 S_X12_full rfl (zl4 w_958 w_960 wp_23 w_13) w_961 ds_X12_full (zrm rfl rfl (by decide) (by decide)) <| z_ir C hr hk dX12_type_33) <| z_aln (pc := 12) C dX12_type_12 rfl <| z_bi (pc := 13) C dX12_type_13 (by decide +kernel) <| z_cV (pc := 15) C dX12_type_15 S_X12_bad rfl (zl4 w_925 w_927 wp_20 w_13) w_928 ds_X12_bad (zrm rfl rfl (by decide) (by decide)) <| z_ir C hr hk dX12_type_18)
  | b + 1 => exact fun _ _ _ h => h.elim
theorem dX12_clear_0 : decode cX12_clear 0 = .ok (.aload_n 0, 1) := by decide +kernel
theorem dX12_clear_1 : decode cX12_clear 1 = .ok (.getfield 223, 3) := by decide +kernel
theorem dX12_clear_4 : decode cX12_clear 4 = .ok (.istore_n 1, 1) := by decide +kernel
theorem dX12_clear_5 : decode cX12_clear 5 = .ok (.aload_n 0, 1) := by decide +kernel
theorem dX12_clear_6 : decode cX12_clear 6 = .ok (.iconst 0, 1) := by decide +kernel
theorem dX12_clear_7 : decode cX12_clear 7 = .ok (.putfield 223, 3) := by decide +kernel
theorem dX12_clear_10 : decode cX12_clear 10 = .ok (.iload_n 1, 1) := by decide +kernel
theorem dX12_clear_11 : decode cX12_clear 11 = .ok (.ireturn, 1) := by decide +kernel
def P_X12_clear : Nat → Nat
  | _ => 0
set_option maxRecDepth 100000 in
set_option maxHeartbeats 4000000 in
theorem S_X12_clear : zSd yX12_clear cX12_clear 2 (some .int) { frames := 0, cells := 0, slots := 0, locals := 0 } T_X12_clear := by
  refine zMet (pcs := P_X12_clear) (F := F_X12_clear) (by decide) rfl ?_
  intro p l e s m args below meth c D ids ad A Q Y C hr hk hY b
  match b with
  | 0 => exact (z_aln (pc := 0) C dX12_clear_0 rfl <| z_gf (pc := 1) C dX12_clear_1 fl_12_223 <| z_isn (pc := 4) C dX12_clear_4 rfl (by decide) <| z_aln (pc := 5) C dX12_clear_5 rfl <| z_ic (pc := 6) C dX12_clear_6 (by decide +kernel) <| z_pf (pc := 7) C dX12_clear_7 fp_12_223 <| z_iln (pc := 10) C dX12_clear_10 rfl <| z_ir C hr hk dX12_clear_11)
  | b + 1 => exact fun _ _ _ h => h.elim
theorem dX12_isSmall_0 : decode cX12_isSmall 0 = .ok (.iload_n 0, 1) := by decide +kernel
theorem dX12_isSmall_1 : decode cX12_isSmall 1 = .ok (.i2l, 1) := by decide +kernel
theorem dX12_isSmall_2 : decode cX12_isSmall 2 = .ok (.ldc2_w 226, 3) := by decide +kernel
theorem dX12_isSmall_5 : decode cX12_isSmall 5 = .ok (.ldc2_w 228, 3) := by decide +kernel
theorem dX12_isSmall_8 : decode cX12_isSmall 8 = .ok (.invokestatic 68, 3) := by decide +kernel
theorem dX12_isSmall_11 : decode cX12_isSmall 11 = .ok (.ireturn, 1) := by decide +kernel
def P_X12_isSmall : Nat → Nat
  | _ => 0
set_option maxRecDepth 100000 in
set_option maxHeartbeats 4000000 in
theorem S_X12_isSmall : zSd yX12_isSmall cX12_isSmall 1 (some .boolean) { frames := 1, cells := 0, slots := 0, locals := 25 } T_X12_isSmall := by
  refine zMet (pcs := P_X12_isSmall) (F := F_X12_isSmall) (by decide) rfl ?_
  intro p l e s m args below meth c D ids ad A Q Y C hr hk hY b
  match b with
  | 0 => exact (z_iln (pc := 0) C dX12_isSmall_0 rfl <| z_i2l (pc := 1) C dX12_isSmall_1 <| z_ldc2 (pc := 2) C dX12_isSmall_2 w_1174 <| z_ldc2 (pc := 5) C dX12_isSmall_5 w_1175 <| z_cS (pc := 8) C dX12_isSmall_8 S_X12_in (zl3 w_922 w_923 w_13) w_924 ds_X12_in (zrm rfl rfl (by decide) (by decide)) <| z_zr C hr hk dX12_isSmall_11)
  | b + 1 => exact fun _ _ _ h => h.elim
theorem dX12_isFigure_0 : decode cX12_isFigure 0 = .ok (.iload_n 0, 1) := by decide +kernel
theorem dX12_isFigure_1 : decode cX12_isFigure 1 = .ok (.i2l, 1) := by decide +kernel
theorem dX12_isFigure_2 : decode cX12_isFigure 2 = .ok (.ldc2_w 230, 3) := by decide +kernel
theorem dX12_isFigure_5 : decode cX12_isFigure 5 = .ok (.ldc2_w 232, 3) := by decide +kernel
theorem dX12_isFigure_8 : decode cX12_isFigure 8 = .ok (.invokestatic 68, 3) := by decide +kernel
theorem dX12_isFigure_11 : decode cX12_isFigure 11 = .ok (.ireturn, 1) := by decide +kernel
def P_X12_isFigure : Nat → Nat
  | _ => 0
set_option maxRecDepth 100000 in
set_option maxHeartbeats 4000000 in
theorem S_X12_isFigure : zSd yX12_isFigure cX12_isFigure 1 (some .boolean) { frames := 1, cells := 0, slots := 0, locals := 25 } T_X12_isFigure := by
  refine zMet (pcs := P_X12_isFigure) (F := F_X12_isFigure) (by decide) rfl ?_
  intro p l e s m args below meth c D ids ad A Q Y C hr hk hY b
  match b with
  | 0 => exact (z_iln (pc := 0) C dX12_isFigure_0 rfl <| z_i2l (pc := 1) C dX12_isFigure_1 <| z_ldc2 (pc := 2) C dX12_isFigure_2 w_1179 <| z_ldc2 (pc := 5) C dX12_isFigure_5 w_1180 <| z_cS (pc := 8) C dX12_isFigure_8 S_X12_in (zl3 w_922 w_923 w_13) w_924 ds_X12_in (zrm rfl rfl (by decide) (by decide)) <| z_zr C hr hk dX12_isFigure_11)
  | b + 1 => exact fun _ _ _ h => h.elim
theorem dX12_lookAt_0 : decode cX12_lookAt 0 = .ok (.aload_n 0, 1) := by decide +kernel
theorem dX12_lookAt_1 : decode cX12_lookAt 1 = .ok (.iload_n 1, 1) := by decide +kernel
theorem dX12_lookAt_2 : decode cX12_lookAt 2 = .ok (.putfield 234, 3) := by decide +kernel
theorem dX12_lookAt_5 : decode cX12_lookAt 5 = .ok (.aload_n 0, 1) := by decide +kernel
theorem dX12_lookAt_6 : decode cX12_lookAt 6 = .ok (.getfield 234, 3) := by decide +kernel
theorem dX12_lookAt_9 : decode cX12_lookAt 9 = .ok (.aload_n 0, 1) := by decide +kernel
theorem dX12_lookAt_10 : decode cX12_lookAt 10 = .ok (.getfield 223, 3) := by decide +kernel
theorem dX12_lookAt_13 : decode cX12_lookAt 13 = .ok (.if_icmp .ge 30, 3) := by decide +kernel
theorem dX12_lookAt_16 : decode cX12_lookAt 16 = .ok (.aload_n 0, 1) := by decide +kernel
theorem dX12_lookAt_17 : decode cX12_lookAt 17 = .ok (.getfield 51, 3) := by decide +kernel
theorem dX12_lookAt_20 : decode cX12_lookAt 20 = .ok (.aload_n 0, 1) := by decide +kernel
theorem dX12_lookAt_21 : decode cX12_lookAt 21 = .ok (.getfield 234, 3) := by decide +kernel
theorem dX12_lookAt_24 : decode cX12_lookAt 24 = .ok (.iaload, 1) := by decide +kernel
theorem dX12_lookAt_25 : decode cX12_lookAt 25 = .ok (.bipush 32, 2) := by decide +kernel
theorem dX12_lookAt_27 : decode cX12_lookAt 27 = .ok (.if_icmp .ne 16, 3) := by decide +kernel
theorem dX12_lookAt_30 : decode cX12_lookAt 30 = .ok (.aload_n 0, 1) := by decide +kernel
theorem dX12_lookAt_31 : decode cX12_lookAt 31 = .ok (.dup, 1) := by decide +kernel
theorem dX12_lookAt_32 : decode cX12_lookAt 32 = .ok (.getfield 234, 3) := by decide +kernel
theorem dX12_lookAt_35 : decode cX12_lookAt 35 = .ok (.iconst 1, 1) := by decide +kernel
theorem dX12_lookAt_36 : decode cX12_lookAt 36 = .ok (.iadd, 1) := by decide +kernel
theorem dX12_lookAt_37 : decode cX12_lookAt 37 = .ok (.putfield 234, 3) := by decide +kernel
theorem dX12_lookAt_40 : decode cX12_lookAt 40 = .ok (.goto (-35), 3) := by decide +kernel
theorem dX12_lookAt_43 : decode cX12_lookAt 43 = .ok (.aload_n 0, 1) := by decide +kernel
theorem dX12_lookAt_44 : decode cX12_lookAt 44 = .ok (.iconst 0, 1) := by decide +kernel
theorem dX12_lookAt_45 : decode cX12_lookAt 45 = .ok (.putfield 237, 3) := by decide +kernel
theorem dX12_lookAt_48 : decode cX12_lookAt 48 = .ok (.aload_n 0, 1) := by decide +kernel
theorem dX12_lookAt_49 : decode cX12_lookAt 49 = .ok (.iconst 0, 1) := by decide +kernel
theorem dX12_lookAt_50 : decode cX12_lookAt 50 = .ok (.putfield 240, 3) := by decide +kernel
theorem dX12_lookAt_53 : decode cX12_lookAt 53 = .ok (.aload_n 0, 1) := by decide +kernel
theorem dX12_lookAt_54 : decode cX12_lookAt 54 = .ok (.iconst 0, 1) := by decide +kernel
theorem dX12_lookAt_55 : decode cX12_lookAt 55 = .ok (.putfield 243, 3) := by decide +kernel
theorem dX12_lookAt_58 : decode cX12_lookAt 58 = .ok (.aload_n 0, 1) := by decide +kernel
theorem dX12_lookAt_59 : decode cX12_lookAt 59 = .ok (.getfield 234, 3) := by decide +kernel
theorem dX12_lookAt_62 : decode cX12_lookAt 62 = .ok (.aload_n 0, 1) := by decide +kernel
theorem dX12_lookAt_63 : decode cX12_lookAt 63 = .ok (.getfield 223, 3) := by decide +kernel
theorem dX12_lookAt_66 : decode cX12_lookAt 66 = .ok (.if_icmp .ne 4, 3) := by decide +kernel
theorem dX12_lookAt_69 : decode cX12_lookAt 69 = .ok (.return_, 1) := by decide +kernel
theorem dX12_lookAt_70 : decode cX12_lookAt 70 = .ok (.aload_n 0, 1) := by decide +kernel
theorem dX12_lookAt_71 : decode cX12_lookAt 71 = .ok (.getfield 51, 3) := by decide +kernel
theorem dX12_lookAt_74 : decode cX12_lookAt 74 = .ok (.aload_n 0, 1) := by decide +kernel
theorem dX12_lookAt_75 : decode cX12_lookAt 75 = .ok (.getfield 234, 3) := by decide +kernel
theorem dX12_lookAt_78 : decode cX12_lookAt 78 = .ok (.iaload, 1) := by decide +kernel
theorem dX12_lookAt_79 : decode cX12_lookAt 79 = .ok (.istore_n 2, 1) := by decide +kernel
theorem dX12_lookAt_80 : decode cX12_lookAt 80 = .ok (.aload_n 0, 1) := by decide +kernel
theorem dX12_lookAt_81 : decode cX12_lookAt 81 = .ok (.iload_n 2, 1) := by decide +kernel
theorem dX12_lookAt_82 : decode cX12_lookAt 82 = .ok (.invokestatic 246, 3) := by decide +kernel
theorem dX12_lookAt_85 : decode cX12_lookAt 85 = .ok (.ifCond .eq 7, 3) := by decide +kernel
theorem dX12_lookAt_88 : decode cX12_lookAt 88 = .ok (.iconst 1, 1) := by decide +kernel
theorem dX12_lookAt_89 : decode cX12_lookAt 89 = .ok (.goto 25, 3) := by decide +kernel
theorem dX12_lookAt_92 : decode cX12_lookAt 92 = .ok (.iload_n 2, 1) := by decide +kernel
theorem dX12_lookAt_93 : decode cX12_lookAt 93 = .ok (.invokestatic 249, 3) := by decide +kernel
theorem dX12_lookAt_96 : decode cX12_lookAt 96 = .ok (.ifCond .eq 7, 3) := by decide +kernel
theorem dX12_lookAt_99 : decode cX12_lookAt 99 = .ok (.iconst 2, 1) := by decide +kernel
theorem dX12_lookAt_100 : decode cX12_lookAt 100 = .ok (.goto 14, 3) := by decide +kernel
theorem dX12_lookAt_103 : decode cX12_lookAt 103 = .ok (.iload_n 2, 1) := by decide +kernel
theorem dX12_lookAt_104 : decode cX12_lookAt 104 = .ok (.bipush 59, 2) := by decide +kernel
theorem dX12_lookAt_106 : decode cX12_lookAt 106 = .ok (.if_icmp .ne 7, 3) := by decide +kernel
theorem dX12_lookAt_109 : decode cX12_lookAt 109 = .ok (.iconst 3, 1) := by decide +kernel
theorem dX12_lookAt_110 : decode cX12_lookAt 110 = .ok (.goto 4, 3) := by decide +kernel
theorem dX12_lookAt_113 : decode cX12_lookAt 113 = .ok (.iconst 4, 1) := by decide +kernel
theorem dX12_lookAt_114 : decode cX12_lookAt 114 = .ok (.putfield 240, 3) := by decide +kernel
theorem dX12_lookAt_117 : decode cX12_lookAt 117 = .ok (.aload_n 0, 1) := by decide +kernel
theorem dX12_lookAt_118 : decode cX12_lookAt 118 = .ok (.iconst 1, 1) := by decide +kernel
theorem dX12_lookAt_119 : decode cX12_lookAt 119 = .ok (.putfield 237, 3) := by decide +kernel
theorem dX12_lookAt_122 : decode cX12_lookAt 122 = .ok (.aload_n 0, 1) := by decide +kernel
theorem dX12_lookAt_123 : decode cX12_lookAt 123 = .ok (.getfield 240, 3) := by decide +kernel
theorem dX12_lookAt_126 : decode cX12_lookAt 126 = .ok (.iconst 3, 1) := by decide +kernel
theorem dX12_lookAt_127 : decode cX12_lookAt 127 = .ok (.if_icmp .ge 7, 3) := by decide +kernel
theorem dX12_lookAt_130 : decode cX12_lookAt 130 = .ok (.iconst 1, 1) := by decide +kernel
theorem dX12_lookAt_131 : decode cX12_lookAt 131 = .ok (.goto 4, 3) := by decide +kernel
theorem dX12_lookAt_134 : decode cX12_lookAt 134 = .ok (.iconst 0, 1) := by decide +kernel
theorem dX12_lookAt_135 : decode cX12_lookAt 135 = .ok (.istore_n 3, 1) := by decide +kernel
theorem dX12_lookAt_136 : decode cX12_lookAt 136 = .ok (.iload_n 3, 1) := by decide +kernel
theorem dX12_lookAt_137 : decode cX12_lookAt 137 = .ok (.ifCond .eq 78, 3) := by decide +kernel
theorem dX12_lookAt_140 : decode cX12_lookAt 140 = .ok (.aload_n 0, 1) := by decide +kernel
theorem dX12_lookAt_141 : decode cX12_lookAt 141 = .ok (.getfield 234, 3) := by decide +kernel
theorem dX12_lookAt_144 : decode cX12_lookAt 144 = .ok (.aload_n 0, 1) := by decide +kernel
theorem dX12_lookAt_145 : decode cX12_lookAt 145 = .ok (.getfield 237, 3) := by decide +kernel
theorem dX12_lookAt_148 : decode cX12_lookAt 148 = .ok (.iadd, 1) := by decide +kernel
theorem dX12_lookAt_149 : decode cX12_lookAt 149 = .ok (.aload_n 0, 1) := by decide +kernel
theorem dX12_lookAt_150 : decode cX12_lookAt 150 = .ok (.getfield 223, 3) := by decide +kernel
theorem dX12_lookAt_153 : decode cX12_lookAt 153 = .ok (.if_icmp .ge 62, 3) := by decide +kernel
theorem dX12_lookAt_156 : decode cX12_lookAt 156 = .ok (.aload_n 0, 1) := by decide +kernel
theorem dX12_lookAt_157 : decode cX12_lookAt 157 = .ok (.getfield 51, 3) := by decide +kernel
theorem dX12_lookAt_160 : decode cX12_lookAt 160 = .ok (.aload_n 0, 1) := by decide +kernel
theorem dX12_lookAt_161 : decode cX12_lookAt 161 = .ok (.getfield 234, 3) := by decide +kernel
theorem dX12_lookAt_164 : decode cX12_lookAt 164 = .ok (.aload_n 0, 1) := by decide +kernel
theorem dX12_lookAt_165 : decode cX12_lookAt 165 = .ok (.getfield 237, 3) := by decide +kernel
theorem dX12_lookAt_168 : decode cX12_lookAt 168 = .ok (.iadd, 1) := by decide +kernel
theorem dX12_lookAt_169 : decode cX12_lookAt 169 = .ok (.iaload, 1) := by decide +kernel
theorem dX12_lookAt_170 : decode cX12_lookAt 170 = .ok (.istore 4, 2) := by decide +kernel
theorem dX12_lookAt_172 : decode cX12_lookAt 172 = .ok (.aload_n 0, 1) := by decide +kernel
theorem dX12_lookAt_173 : decode cX12_lookAt 173 = .ok (.getfield 240, 3) := by decide +kernel
theorem dX12_lookAt_176 : decode cX12_lookAt 176 = .ok (.iconst 1, 1) := by decide +kernel
theorem dX12_lookAt_177 : decode cX12_lookAt 177 = .ok (.if_icmp .ne 11, 3) := by decide +kernel
theorem dX12_lookAt_180 : decode cX12_lookAt 180 = .ok (.iload 4, 2) := by decide +kernel
theorem dX12_lookAt_182 : decode cX12_lookAt 182 = .ok (.invokestatic 246, 3) := by decide +kernel
theorem dX12_lookAt_185 : decode cX12_lookAt 185 = .ok (.goto 8, 3) := by decide +kernel
theorem dX12_lookAt_188 : decode cX12_lookAt 188 = .ok (.iload 4, 2) := by decide +kernel
theorem dX12_lookAt_190 : decode cX12_lookAt 190 = .ok (.invokestatic 249, 3) := by decide +kernel
theorem dX12_lookAt_193 : decode cX12_lookAt 193 = .ok (.istore_n 3, 1) := by decide +kernel
theorem dX12_lookAt_194 : decode cX12_lookAt 194 = .ok (.aload_n 0, 1) := by decide +kernel
theorem dX12_lookAt_195 : decode cX12_lookAt 195 = .ok (.dup, 1) := by decide +kernel
theorem dX12_lookAt_196 : decode cX12_lookAt 196 = .ok (.getfield 237, 3) := by decide +kernel
theorem dX12_lookAt_199 : decode cX12_lookAt 199 = .ok (.iload_n 3, 1) := by decide +kernel
theorem dX12_lookAt_200 : decode cX12_lookAt 200 = .ok (.ifCond .eq 7, 3) := by decide +kernel
theorem dX12_lookAt_203 : decode cX12_lookAt 203 = .ok (.iconst 1, 1) := by decide +kernel
theorem dX12_lookAt_204 : decode cX12_lookAt 204 = .ok (.goto 4, 3) := by decide +kernel
theorem dX12_lookAt_207 : decode cX12_lookAt 207 = .ok (.iconst 0, 1) := by decide +kernel
theorem dX12_lookAt_208 : decode cX12_lookAt 208 = .ok (.iadd, 1) := by decide +kernel
theorem dX12_lookAt_209 : decode cX12_lookAt 209 = .ok (.putfield 237, 3) := by decide +kernel
theorem dX12_lookAt_212 : decode cX12_lookAt 212 = .ok (.goto (-76), 3) := by decide +kernel
theorem dX12_lookAt_215 : decode cX12_lookAt 215 = .ok (.iconst 0, 1) := by decide +kernel
theorem dX12_lookAt_216 : decode cX12_lookAt 216 = .ok (.istore 4, 2) := by decide +kernel
theorem dX12_lookAt_218 : decode cX12_lookAt 218 = .ok (.iload 4, 2) := by decide +kernel
theorem dX12_lookAt_220 : decode cX12_lookAt 220 = .ok (.aload_n 0, 1) := by decide +kernel
theorem dX12_lookAt_221 : decode cX12_lookAt 221 = .ok (.getfield 237, 3) := by decide +kernel
theorem dX12_lookAt_224 : decode cX12_lookAt 224 = .ok (.if_icmp .ge 50, 3) := by decide +kernel
theorem dX12_lookAt_227 : decode cX12_lookAt 227 = .ok (.iload 4, 2) := by decide +kernel
theorem dX12_lookAt_229 : decode cX12_lookAt 229 = .ok (.iconst 2, 1) := by decide +kernel
theorem dX12_lookAt_230 : decode cX12_lookAt 230 = .ok (.if_icmp .ge 44, 3) := by decide +kernel
theorem dX12_lookAt_233 : decode cX12_lookAt 233 = .ok (.aload_n 0, 1) := by decide +kernel
theorem dX12_lookAt_234 : decode cX12_lookAt 234 = .ok (.getfield 240, 3) := by decide +kernel
theorem dX12_lookAt_237 : decode cX12_lookAt 237 = .ok (.iconst 2, 1) := by decide +kernel
theorem dX12_lookAt_238 : decode cX12_lookAt 238 = .ok (.if_icmp .ne 36, 3) := by decide +kernel
theorem dX12_lookAt_241 : decode cX12_lookAt 241 = .ok (.aload_n 0, 1) := by decide +kernel
theorem dX12_lookAt_242 : decode cX12_lookAt 242 = .ok (.bipush 10, 2) := by decide +kernel
theorem dX12_lookAt_244 : decode cX12_lookAt 244 = .ok (.aload_n 0, 1) := by decide +kernel
theorem dX12_lookAt_245 : decode cX12_lookAt 245 = .ok (.getfield 243, 3) := by decide +kernel
theorem dX12_lookAt_248 : decode cX12_lookAt 248 = .ok (.imul, 1) := by decide +kernel
theorem dX12_lookAt_249 : decode cX12_lookAt 249 = .ok (.aload_n 0, 1) := by decide +kernel
theorem dX12_lookAt_250 : decode cX12_lookAt 250 = .ok (.getfield 51, 3) := by decide +kernel
theorem dX12_lookAt_253 : decode cX12_lookAt 253 = .ok (.aload_n 0, 1) := by decide +kernel
theorem dX12_lookAt_254 : decode cX12_lookAt 254 = .ok (.getfield 234, 3) := by decide +kernel
theorem dX12_lookAt_257 : decode cX12_lookAt 257 = .ok (.iload 4, 2) := by decide +kernel
theorem dX12_lookAt_259 : decode cX12_lookAt 259 = .ok (.iadd, 1) := by decide +kernel
theorem dX12_lookAt_260 : decode cX12_lookAt 260 = .ok (.iaload, 1) := by decide +kernel
theorem dX12_lookAt_261 : decode cX12_lookAt 261 = .ok (.iadd, 1) := by decide +kernel
theorem dX12_lookAt_262 : decode cX12_lookAt 262 = .ok (.bipush 48, 2) := by decide +kernel
theorem dX12_lookAt_264 : decode cX12_lookAt 264 = .ok (.isub, 1) := by decide +kernel
theorem dX12_lookAt_265 : decode cX12_lookAt 265 = .ok (.putfield 243, 3) := by decide +kernel
theorem dX12_lookAt_268 : decode cX12_lookAt 268 = .ok (.iinc 4 1, 3) := by decide +kernel
theorem dX12_lookAt_271 : decode cX12_lookAt 271 = .ok (.goto (-53), 3) := by decide +kernel
theorem dX12_lookAt_274 : decode cX12_lookAt 274 = .ok (.aload_n 0, 1) := by decide +kernel
theorem dX12_lookAt_275 : decode cX12_lookAt 275 = .ok (.aload_n 0, 1) := by decide +kernel
theorem dX12_lookAt_276 : decode cX12_lookAt 276 = .ok (.getfield 240, 3) := by decide +kernel
theorem dX12_lookAt_279 : decode cX12_lookAt 279 = .ok (.iconst 2, 1) := by decide +kernel
theorem dX12_lookAt_280 : decode cX12_lookAt 280 = .ok (.if_icmp .ne 15, 3) := by decide +kernel
theorem dX12_lookAt_283 : decode cX12_lookAt 283 = .ok (.aload_n 0, 1) := by decide +kernel
theorem dX12_lookAt_284 : decode cX12_lookAt 284 = .ok (.getfield 237, 3) := by decide +kernel
theorem dX12_lookAt_287 : decode cX12_lookAt 287 = .ok (.iconst 2, 1) := by decide +kernel
theorem dX12_lookAt_288 : decode cX12_lookAt 288 = .ok (.if_icmp .le 7, 3) := by decide +kernel
theorem dX12_lookAt_291 : decode cX12_lookAt 291 = .ok (.iconst 4, 1) := by decide +kernel
theorem dX12_lookAt_292 : decode cX12_lookAt 292 = .ok (.goto 7, 3) := by decide +kernel
theorem dX12_lookAt_295 : decode cX12_lookAt 295 = .ok (.aload_n 0, 1) := by decide +kernel
theorem dX12_lookAt_296 : decode cX12_lookAt 296 = .ok (.getfield 240, 3) := by decide +kernel
theorem dX12_lookAt_299 : decode cX12_lookAt 299 = .ok (.putfield 240, 3) := by decide +kernel
theorem dX12_lookAt_302 : decode cX12_lookAt 302 = .ok (.return_, 1) := by decide +kernel
def P_X12_lookAt : Nat → Nat
  | 1 => 5
  | 2 => 43
  | 3 => 114
  | 4 => 135
  | 5 => 136
  | 6 => 193
  | 7 => 208
  | 8 => 215
  | 9 => 218
  | 10 => 274
  | 11 => 295
  | _ => 0
set_option maxRecDepth 100000 in
set_option maxHeartbeats 4000000 in
theorem S_X12_lookAt : zSd yX12_lookAt cX12_lookAt 5 none { frames := 2, cells := 0, slots := 0, locals := 45 } T_X12_lookAt := by
  refine zMet (pcs := P_X12_lookAt) (F := F_X12_lookAt) (by decide) rfl ?_
  intro p l e s m args below meth c D ids ad A Q Y C hr hk hY b
  match b with
  | 0 => exact (z_aln (pc := 0) C dX12_lookAt_0 rfl <| z_iln (pc := 1) C dX12_lookAt_1 rfl <| z_pf (pc := 2) C dX12_lookAt_2 fp_12_234 <| z_jmp (hY 1))
  | 1 => exact (z_aln (pc := 5) C dX12_lookAt_5 rfl <| z_gf (pc := 6) C dX12_lookAt_6 fl_12_234 <| z_aln (pc := 9) C dX12_lookAt_9 rfl <| z_gf (pc := 10) C dX12_lookAt_10 fl_12_223 <| z_cmpge (tgt := 43) (pc := 13) C dX12_lookAt_13 (by decide) (z_jmp (hY 2)) <| z_aln (pc := 16) C dX12_lookAt_16 rfl <| z_gf (pc := 17) C dX12_lookAt_17 fl_12_51 <| z_aln (pc := 20) C dX12_lookAt_20 rfl <| z_gf (pc := 21) C dX12_lookAt_21 fl_12_234 <| z_ia (pc := 24) C dX12_lookAt_24 <| z_bi (pc := 25) C dX12_lookAt_25 (by decide +kernel) <| z_cmpne (tgt := 43) (pc := 27) C dX12_lookAt_27 (by decide) (z_jmp (hY 2)) <| z_aln (pc := 30) C dX12_lookAt_30 rfl <| z_dup (pc := 31) C dX12_lookAt_31 <| z_gf (pc := 32) C dX12_lookAt_32 fl_12_234 <| z_ic (pc := 35) C dX12_lookAt_35 (by decide +kernel) <| z_iadd (pc := 36) C dX12_lookAt_36 <| z_pf (pc := 37) C dX12_lookAt_37 fp_12_234 <| z_goto (tgt := 5) (pc := 40) C dX12_lookAt_40 (by decide) <| z_jmp (hY 1))
  | 2 => exact (z_aln (pc := 43) C dX12_lookAt_43 rfl <| z_ic (pc := 44) C dX12_lookAt_44 (by decide +kernel) <| z_pf (pc := 45) C dX12_lookAt_45 fp_12_237 <| z_aln (pc := 48) C dX12_lookAt_48 rfl <| z_ic (pc := 49) C dX12_lookAt_49 (by decide +kernel) <| z_pf (pc := 50) C dX12_lookAt_50 fp_12_240 <| z_aln (pc := 53) C dX12_lookAt_53 rfl <| z_ic (pc := 54) C dX12_lookAt_54 (by decide +kernel) <| z_pf (pc := 55) C dX12_lookAt_55 fp_12_243 <| z_aln (pc := 58) C dX12_lookAt_58 rfl <| z_gf (pc := 59) C dX12_lookAt_59 fl_12_234 <| z_aln (pc := 62) C dX12_lookAt_62 rfl <| z_gf (pc := 63) C dX12_lookAt_63 fl_12_223 <| z_cmpne (tgt := 70) (pc := 66) C dX12_lookAt_66 (by decide) (z_aln (pc := 70) C dX12_lookAt_70 rfl <| z_gf (pc := 71) C dX12_lookAt_71 fl_12_51 <| z_aln (pc := 74) C dX12_lookAt_74 rfl <| z_gf (pc := 75) C dX12_lookAt_75 fl_12_234 <| z_ia (pc := 78) C dX12_lookAt_78 <| z_isn (pc := 79) C dX12_lookAt_79 rfl (by decide) <| z_aln (pc := 80) C dX12_lookAt_80 rfl <| z_iln (pc := 81) C dX12_lookAt_81 rfl <| z_cS (pc := 82) C dX12_lookAt_82 S_X12_isSmall (zl3 w_1171 w_1172 w_13) w_1173 ds_X12_isSmall (zrm rfl rfl (by decide) (by decide)) <| z_ifeq (tgt := 92) (pc := 85) C dX12_lookAt_85 (by decide) (z_iln (pc := 92) C dX12_lookAt_92 rfl <| z_cS (pc := 93) C dX12_lookAt_93 S_X12_isFigure (zl3 w_1176 w_1177 w_13) w_1178 ds_X12_isFigure (zrm rfl rfl (by decide) (by decide)) <| z_ifeq (tgt := 103) (pc := 96) C dX12_lookAt_96 (by decide) (z_iln (pc := 103) C dX12_lookAt_103 rfl <| z_bi (pc := 104) C dX12_lookAt_104 (by decide +kernel) <| z_cmpne (tgt := 113) (pc := 106) C dX12_lookAt_106 (by decide) (z_ic (pc := 113) C dX12_lookAt_113 (by decide +kernel) <| z_jmp (hY 3)) <| z_ic (pc := 109) C dX12_lookAt_109 (by decide +kernel) <| z_goto (tgt := 114) (pc := 110) C dX12_lookAt_110 (by decide) <| z_jmp (hY 3)) <| z_ic (pc := 99) C dX12_lookAt_99 (by decide +kernel) <| z_goto (tgt := 114) (pc := 100) C dX12_lookAt_100 (by decide) <| z_jmp (hY 3)) <| z_ic (pc := 88) C dX12_lookAt_88 (by decide +kernel) <| z_goto (tgt := 114) (pc := 89) C dX12_lookAt_89 (by decide) <| z_jmp (hY 3)) <| z_vr C hr hk dX12_lookAt_69)
  | 3 => exact (z_pf (pc := 114) C dX12_lookAt_114 fp_12_240 <| z_aln (pc := 117) C dX12_lookAt_117 rfl <| z_ic (pc := 118) C dX12_lookAt_118 (by decide +kernel) <| z_pf (pc := 119) C dX12_lookAt_119 fp_12_237 <| z_aln (pc := 122) C dX12_lookAt_122 rfl <| z_gf (pc := 123) C dX12_lookAt_123 fl_12_240 <| z_ic (pc := 126) C dX12_lookAt_126 (by decide +kernel) <| z_cmpge (tgt := 134) (pc := 127) C dX12_lookAt_127 (by decide) (z_ic (pc := 134) C dX12_lookAt_134 (by decide +kernel) <| z_jmp (hY 4)) <| z_ic (pc := 130) C dX12_lookAt_130 (by decide +kernel) <| z_goto (tgt := 135) (pc := 131) C dX12_lookAt_131 (by decide) <| z_jmp (hY 4))
  | 4 => exact (z_isn (pc := 135) C dX12_lookAt_135 rfl (by decide) <| z_jmp (hY 5))
  | 5 => exact (z_iln (pc := 136) C dX12_lookAt_136 rfl <| z_ifeq (tgt := 215) (pc := 137) C dX12_lookAt_137 (by decide) (z_jmp (hY 8)) <| z_aln (pc := 140) C dX12_lookAt_140 rfl <| z_gf (pc := 141) C dX12_lookAt_141 fl_12_234 <| z_aln (pc := 144) C dX12_lookAt_144 rfl <| z_gf (pc := 145) C dX12_lookAt_145 fl_12_237 <| z_iadd (pc := 148) C dX12_lookAt_148 <| z_aln (pc := 149) C dX12_lookAt_149 rfl <| z_gf (pc := 150) C dX12_lookAt_150 fl_12_223 <| z_cmpge (tgt := 215) (pc := 153) C dX12_lookAt_153 (by decide) (z_jmp (hY 8)) <| z_aln (pc := 156) C dX12_lookAt_156 rfl <| z_gf (pc := 157) C dX12_lookAt_157 fl_12_51 <| z_aln (pc := 160) C dX12_lookAt_160 rfl <| z_gf (pc := 161) C dX12_lookAt_161 fl_12_234 <| z_aln (pc := 164) C dX12_lookAt_164 rfl <| z_gf (pc := 165) C dX12_lookAt_165 fl_12_237 <| z_iadd (pc := 168) C dX12_lookAt_168 <| z_ia (pc := 169) C dX12_lookAt_169 <| z_is (pc := 170) C dX12_lookAt_170 (by decide) <| z_aln (pc := 172) C dX12_lookAt_172 rfl <| z_gf (pc := 173) C dX12_lookAt_173 fl_12_240 <| z_ic (pc := 176) C dX12_lookAt_176 (by decide +kernel) <| z_cmpne (tgt := 188) (pc := 177) C dX12_lookAt_177 (by decide) (z_il (pc := 188) C dX12_lookAt_188 <| z_cS (pc := 190) C dX12_lookAt_190 S_X12_isFigure (zl3 w_1176 w_1177 w_13) w_1178 ds_X12_isFigure (zrm rfl rfl (by decide) (by decide)) <| z_jmp (hY 6)) <| z_il (pc := 180) C dX12_lookAt_180 <| z_cS (pc := 182) C dX12_lookAt_182 S_X12_isSmall (zl3 w_1171 w_1172 w_13) w_1173 ds_X12_isSmall (zrm rfl rfl (by decide) (by decide)) <| z_goto (tgt := 193) (pc := 185) C dX12_lookAt_185 (by decide) <| z_jmp (hY 6))
  | 6 => exact (z_isn (pc := 193) C dX12_lookAt_193 rfl (by decide) <| z_aln (pc := 194) C dX12_lookAt_194 rfl <| z_dup (pc := 195) C dX12_lookAt_195 <| z_gf (pc := 196) C dX12_lookAt_196 fl_12_237 <| z_iln (pc := 199) C dX12_lookAt_199 rfl <| z_ifeq (tgt := 207) (pc := 200) C dX12_lookAt_200 (by decide) (z_ic (pc := 207) C dX12_lookAt_207 (by decide +kernel) <| z_jmp (hY 7)) <| z_ic (pc := 203) C dX12_lookAt_203 (by decide +kernel) <| z_goto (tgt := 208) (pc := 204) C dX12_lookAt_204 (by decide) <| z_jmp (hY 7))
  | 7 => exact (z_iadd (pc := 208) C dX12_lookAt_208 <| z_pf (pc := 209) C dX12_lookAt_209 fp_12_237 <| z_goto (tgt := 136) (pc := 212) C dX12_lookAt_212 (by decide) <| z_jmp (hY 5))
  | 8 => exact (z_ic (pc := 215) C dX12_lookAt_215 (by decide +kernel) <| z_is (pc := 216) C dX12_lookAt_216 (by decide) <| z_jmp (hY 9))
  | 9 => exact (z_il (pc := 218) C dX12_lookAt_218 <| z_aln (pc := 220) C dX12_lookAt_220 rfl <| z_gf (pc := 221) C dX12_lookAt_221 fl_12_237 <| z_cmpge (tgt := 274) (pc := 224) C dX12_lookAt_224 (by decide) (z_jmp (hY 10)) <| z_il (pc := 227) C dX12_lookAt_227 <| z_ic (pc := 229) C dX12_lookAt_229 (by decide +kernel) <| z_cmpge (tgt := 274) (pc := 230) C dX12_lookAt_230 (by decide) (z_jmp (hY 10)) <| z_aln (pc := 233) C dX12_lookAt_233 rfl <| z_gf (pc := 234) C dX12_lookAt_234 fl_12_240 <| z_ic (pc := 237) C dX12_lookAt_237 (by decide +kernel) <| z_cmpne (tgt := 274) (pc := 238) C dX12_lookAt_238 (by decide) (z_jmp (hY 10)) <| z_aln (pc := 241) C dX12_lookAt_241 rfl <| z_bi (pc := 242) C dX12_lookAt_242 (by decide +kernel) <| z_aln (pc := 244) C dX12_lookAt_244 rfl <| z_gf (pc := 245) C dX12_lookAt_245 fl_12_243 <| z_imul (pc := 248) C dX12_lookAt_248 <| z_aln (pc := 249) C dX12_lookAt_249 rfl <| z_gf (pc := 250) C dX12_lookAt_250 fl_12_51 <| z_aln (pc := 253) C dX12_lookAt_253 rfl <| z_gf (pc := 254) C dX12_lookAt_254 fl_12_234 <| z_il (pc := 257) C dX12_lookAt_257 <| z_iadd (pc := 259) C dX12_lookAt_259 <| z_ia (pc := 260) C dX12_lookAt_260 <| z_iadd (pc := 261) C dX12_lookAt_261 <| z_bi (pc := 262) C dX12_lookAt_262 (by decide +kernel) <| z_isub (pc := 264) C dX12_lookAt_264 <| z_pf (pc := 265) C dX12_lookAt_265 fp_12_243 <| z_inc (pc := 268) C dX12_lookAt_268 (by decide +kernel) (by decide) <| z_goto (tgt := 218) (pc := 271) C dX12_lookAt_271 (by decide) <| z_jmp (hY 9))
  | 10 => exact (z_aln (pc := 274) C dX12_lookAt_274 rfl <| z_aln (pc := 275) C dX12_lookAt_275 rfl <| z_gf (pc := 276) C dX12_lookAt_276 fl_12_240 <| z_ic (pc := 279) C dX12_lookAt_279 (by decide +kernel) <| z_cmpne (tgt := 295) (pc := 280) C dX12_lookAt_280 (by decide) (z_jmp (hY 11)) <| z_aln (pc := 283) C dX12_lookAt_283 rfl <| z_gf (pc := 284) C dX12_lookAt_284 fl_12_237 <| z_ic (pc := 287) C dX12_lookAt_287 (by decide +kernel) <| z_cmple (tgt := 295) (pc := 288) C dX12_lookAt_288 (by decide) (z_jmp (hY 11)) <| z_ic (pc := 291) C dX12_lookAt_291 (by decide +kernel) <| z_goto (tgt := 299) (pc := 292) C dX12_lookAt_292 (by decide) <| z_pf (pc := 299) C dX12_lookAt_299 fp_12_240 <| z_vr C hr hk dX12_lookAt_302)
  | 11 => exact (z_aln (pc := 295) C dX12_lookAt_295 rfl <| z_gf (pc := 296) C dX12_lookAt_296 fl_12_240 <| z_pf (pc := 299) C dX12_lookAt_299 fp_12_240 <| z_vr C hr hk dX12_lookAt_302)
  | b + 12 => exact fun _ _ _ h => h.elim
