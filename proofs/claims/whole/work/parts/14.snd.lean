/-! Soundness of methods: by program. -/
theorem dX11_forget_0 : decode cX11_forget 0 = .ok (.aload_n 0, 1) := by decide +kernel
theorem dX11_forget_1 : decode cX11_forget 1 = .ok (.getfield 12, 3) := by decide +kernel
theorem dX11_forget_4 : decode cX11_forget 4 = .ok (.getfield 200, 3) := by decide +kernel
theorem dX11_forget_7 : decode cX11_forget 7 = .ok (.istore_n 1, 1) := by decide +kernel
theorem dX11_forget_8 : decode cX11_forget 8 = .ok (.aload_n 0, 1) := by decide +kernel
theorem dX11_forget_9 : decode cX11_forget 9 = .ok (.getfield 12, 3) := by decide +kernel
theorem dX11_forget_12 : decode cX11_forget 12 = .ok (.iconst 0, 1) := by decide +kernel
theorem dX11_forget_13 : decode cX11_forget 13 = .ok (.putfield 200, 3) := by decide +kernel
theorem dX11_forget_16 : decode cX11_forget 16 = .ok (.iload_n 1, 1) := by decide +kernel
theorem dX11_forget_17 : decode cX11_forget 17 = .ok (.ireturn, 1) := by decide +kernel
def P_X11_forget : Nat → Nat
  | _ => 0
set_option maxRecDepth 100000 in
set_option maxHeartbeats 4000000 in
theorem S_X11_forget : zSd yX11_forget cX11_forget 2 (some .int) { frames := 0, cells := 0, slots := 0, locals := 0 } T_X11_forget := by
  refine zMet (pcs := P_X11_forget) (F := F_X11_forget) (by decide) rfl ?_
  intro p l e s m args below meth c D ids ad A Q Y C hr hk hY b
  match b with
  | 0 => exact (z_aln (pc := 0) C dX11_forget_0 rfl <| z_gf (pc := 1) C dX11_forget_1 fl_11_12 <| z_gf (pc := 4) C dX11_forget_4 fl_11_200 <| z_isn (pc := 7) C dX11_forget_7 rfl (by decide) <| z_aln (pc := 8) C dX11_forget_8 rfl <| z_gf (pc := 9) C dX11_forget_9 fl_11_12 <| z_ic (pc := 12) C dX11_forget_12 (by decide +kernel) <| z_pf (pc := 13) C dX11_forget_13 fp_11_200 <| z_iln (pc := 16) C dX11_forget_16 rfl <| z_ir C hr hk dX11_forget_17)
  | b + 1 => exact fun _ _ _ h => h.elim
theorem dX11_coughed_0 : decode cX11_coughed 0 = .ok (.iload_n 1, 1) := by decide +kernel
theorem dX11_coughed_1 : decode cX11_coughed 1 = .ok (.iconst 0, 1) := by decide +kernel
theorem dX11_coughed_2 : decode cX11_coughed 2 = .ok (.iconst 2, 1) := by decide +kernel
theorem dX11_coughed_3 : decode cX11_coughed 3 = .ok (.invokestatic 66, 3) := by decide +kernel
theorem dX11_coughed_6 : decode cX11_coughed 6 = .ok (.ifCond .ne 10, 3) := by decide +kernel
theorem dX11_coughed_9 : decode cX11_coughed 9 = .ok (.aload_n 0, 1) := by decide +kernel
theorem dX11_coughed_10 : decode cX11_coughed 10 = .ok (.bipush (-2), 2) := by decide +kernel
theorem dX11_coughed_12 : decode cX11_coughed 12 = .ok (.invokevirtual 70, 3) := by decide +kernel
theorem dX11_coughed_15 : decode cX11_coughed 15 = .ok (.ireturn, 1) := by decide +kernel
theorem dX11_coughed_16 : decode cX11_coughed 16 = .ok (.aload_n 0, 1) := by decide +kernel
theorem dX11_coughed_17 : decode cX11_coughed 17 = .ok (.getfield 37, 3) := by decide +kernel
theorem dX11_coughed_20 : decode cX11_coughed 20 = .ok (.aload_n 0, 1) := by decide +kernel
theorem dX11_coughed_21 : decode cX11_coughed 21 = .ok (.getfield 12, 3) := by decide +kernel
theorem dX11_coughed_24 : decode cX11_coughed 24 = .ok (.invokevirtual 151, 3) := by decide +kernel
theorem dX11_coughed_27 : decode cX11_coughed 27 = .ok (.aload_n 0, 1) := by decide +kernel
theorem dX11_coughed_28 : decode cX11_coughed 28 = .ok (.getfield 51, 3) := by decide +kernel
theorem dX11_coughed_31 : decode cX11_coughed 31 = .ok (.aload_n 0, 1) := by decide +kernel
theorem dX11_coughed_32 : decode cX11_coughed 32 = .ok (.getfield 12, 3) := by decide +kernel
theorem dX11_coughed_35 : decode cX11_coughed 35 = .ok (.aload_n 0, 1) := by decide +kernel
theorem dX11_coughed_36 : decode cX11_coughed 36 = .ok (.getfield 37, 3) := by decide +kernel
theorem dX11_coughed_39 : decode cX11_coughed 39 = .ok (.invokevirtual 206, 3) := by decide +kernel
theorem dX11_coughed_42 : decode cX11_coughed 42 = .ok (.iload_n 1, 1) := by decide +kernel
theorem dX11_coughed_43 : decode cX11_coughed 43 = .ok (.lookupswitch 55 #[(0, 25), (1, 33)], 25) := by decide +kernel
theorem dX11_coughed_68 : decode cX11_coughed 68 = .ok (.aload_n 0, 1) := by decide +kernel
theorem dX11_coughed_69 : decode cX11_coughed 69 = .ok (.getfield 51, 3) := by decide +kernel
theorem dX11_coughed_72 : decode cX11_coughed 72 = .ok (.getfield 209, 3) := by decide +kernel
theorem dX11_coughed_75 : decode cX11_coughed 75 = .ok (.ireturn, 1) := by decide +kernel
theorem dX11_coughed_76 : decode cX11_coughed 76 = .ok (.aload_n 0, 1) := by decide +kernel
theorem dX11_coughed_77 : decode cX11_coughed 77 = .ok (.getfield 51, 3) := by decide +kernel
theorem dX11_coughed_80 : decode cX11_coughed 80 = .ok (.getfield 209, 3) := by decide +kernel
theorem dX11_coughed_83 : decode cX11_coughed 83 = .ok (.ifCond .le 13, 3) := by decide +kernel
theorem dX11_coughed_86 : decode cX11_coughed 86 = .ok (.aload_n 0, 1) := by decide +kernel
theorem dX11_coughed_87 : decode cX11_coughed 87 = .ok (.getfield 51, 3) := by decide +kernel
theorem dX11_coughed_90 : decode cX11_coughed 90 = .ok (.getfield 212, 3) := by decide +kernel
theorem dX11_coughed_93 : decode cX11_coughed 93 = .ok (.goto 4, 3) := by decide +kernel
theorem dX11_coughed_96 : decode cX11_coughed 96 = .ok (.iconst (-1), 1) := by decide +kernel
theorem dX11_coughed_97 : decode cX11_coughed 97 = .ok (.ireturn, 1) := by decide +kernel
theorem dX11_coughed_98 : decode cX11_coughed 98 = .ok (.aload_n 0, 1) := by decide +kernel
theorem dX11_coughed_99 : decode cX11_coughed 99 = .ok (.getfield 51, 3) := by decide +kernel
theorem dX11_coughed_102 : decode cX11_coughed 102 = .ok (.getfield 215, 3) := by decide +kernel
theorem dX11_coughed_105 : decode cX11_coughed 105 = .ok (.ireturn, 1) := by decide +kernel
def P_X11_coughed : Nat → Nat
  | _ => 0
set_option maxRecDepth 100000 in
set_option maxHeartbeats 4000000 in
theorem S_X11_coughed : zSd yX11_coughed cX11_coughed 2 (some .int) { frames := 5, cells := 0, slots := 0, locals := 115 } T_X11_coughed := by
  refine zMet (pcs := P_X11_coughed) (F := F_X11_coughed) (by decide) rfl ?_
  intro p l e s m args below meth c D ids ad A Q Y C hr hk hY b
  match b with
  | 0 => exact (z_iln (pc := 0) C dX11_coughed_0 rfl <| z_ic (pc := 1) C dX11_coughed_1 (by decide +kernel) <| z_ic (pc := 2) C dX11_coughed_2 (by decide +kernel) <| z_cS (pc := 3) C dX11_coughed_3 S_X11_within (zl3 w_308 w_309 w_1) w_310 ds_X11_within (zrm rfl rfl (by decide) (by decide)) <| z_ifne (tgt := 16) (pc := 6) C dX11_coughed_6 (by decide) (z_aln (pc := 16) C dX11_coughed_16 rfl <| z_gf (pc := 17) C dX11_coughed_17 fl_11_37 <| z_aln (pc := 20) C dX11_coughed_20 rfl <| z_gf (pc := 21) C dX11_coughed_21 fl_11_12 <| z_cV (pc := 24) C dX11_coughed_24 S_X8_hold rfl (zl4 w_528 w_529 w_530 w_4) w_531 ds_X8_hold (zrm rfl rfl (by decide) (by decide)) <| z_aln (pc := 27) C dX11_coughed_27 rfl <| z_gf (pc := 28) C dX11_coughed_28 fl_11_51 <| z_aln (pc := 31) C dX11_coughed_31 rfl <| z_gf (pc := 32) C dX11_coughed_32 fl_11_12 <| z_aln (pc := 35) C dX11_coughed_35 rfl <| z_gf (pc := 36) C dX11_coughed_36 fl_11_37 <| z_cV (pc := 39) C dX11_coughed_39 S_X3_find rfl (zl4 w_724 w_725 w_726 w_12) w_727 ds_X3_find (zrm rfl rfl (by decide) (by decide)) <| z_iln (pc := 42) C dX11_coughed_42 rfl <| z_look2 (pc := 43) (g1 := 68) (g2 := 76) (td := 98) C dX11_coughed_43 (by decide) (by decide) (by decide) (by decide) (by decide) (by decide) (z_aln (pc := 68) C dX11_coughed_68 rfl <| z_gf (pc := 69) C dX11_coughed_69 fl_11_51 <| z_gf (pc := 72) C dX11_coughed_72 fl_11_209 <| z_ir C hr hk dX11_coughed_75) (z_aln (pc := 76) C dX11_coughed_76 rfl <| z_gf (pc := 77) C dX11_coughed_77 fl_11_51 <| z_gf (pc := 80) C dX11_coughed_80 fl_11_209 <| z_ifle (tgt := 96) (pc := 83) C dX11_coughed_83 (by decide) (z_ic (pc := 96) C dX11_coughed_96 (by decide +kernel) <| z_ir C hr hk dX11_coughed_97) <| z_aln (pc := 86) C dX11_coughed_86 rfl <| z_gf (pc := 87) C dX11_coughed_87 fl_11_51 <| z_gf (pc := 90) C dX11_coughed_90 fl_11_212 <| z_goto (tgt := 97) (pc := 93) C dX11_coughed_93 (by decide) <| z_ir C hr hk dX11_coughed_97) (z_aln (pc := 98) C dX11_coughed_98 rfl <| z_gf (pc := 99) C dX11_coughed_99 fl_11_51 <| z_gf (pc := 102) C dX11_coughed_102 fl_11_215 <| z_ir C hr hk dX11_coughed_105)) <| z_aln (pc := 9) C dX11_coughed_9 rfl <| z_bi (pc := 10) C dX11_coughed_10 (by decide +kernel) <| z_cV (pc := 12) C dX11_coughed_12 S_X11_refuse rfl (zl4 w_311 w_313 wp_0 w_1) w_314 ds_X11_refuse (zrm rfl rfl (by decide) (by decide)) <| z_ir C hr hk dX11_coughed_15)
  | b + 1 => exact fun _ _ _ h => h.elim
theorem dX11_next_0 : decode cX11_next 0 = .ok (.aload_n 0, 1) := by decide +kernel
theorem dX11_next_1 : decode cX11_next 1 = .ok (.getfield 37, 3) := by decide +kernel
theorem dX11_next_4 : decode cX11_next 4 = .ok (.aload_n 0, 1) := by decide +kernel
theorem dX11_next_5 : decode cX11_next 5 = .ok (.getfield 12, 3) := by decide +kernel
theorem dX11_next_8 : decode cX11_next 8 = .ok (.invokevirtual 151, 3) := by decide +kernel
theorem dX11_next_11 : decode cX11_next 11 = .ok (.aload_n 0, 1) := by decide +kernel
theorem dX11_next_12 : decode cX11_next 12 = .ok (.getfield 51, 3) := by decide +kernel
theorem dX11_next_15 : decode cX11_next 15 = .ok (.aload_n 0, 1) := by decide +kernel
theorem dX11_next_16 : decode cX11_next 16 = .ok (.getfield 12, 3) := by decide +kernel
theorem dX11_next_19 : decode cX11_next 19 = .ok (.aload_n 0, 1) := by decide +kernel
theorem dX11_next_20 : decode cX11_next 20 = .ok (.getfield 37, 3) := by decide +kernel
theorem dX11_next_23 : decode cX11_next 23 = .ok (.invokevirtual 206, 3) := by decide +kernel
theorem dX11_next_26 : decode cX11_next 26 = .ok (.aload_n 0, 1) := by decide +kernel
theorem dX11_next_27 : decode cX11_next 27 = .ok (.getfield 51, 3) := by decide +kernel
theorem dX11_next_30 : decode cX11_next 30 = .ok (.aload_n 0, 1) := by decide +kernel
theorem dX11_next_31 : decode cX11_next 31 = .ok (.getfield 37, 3) := by decide +kernel
theorem dX11_next_34 : decode cX11_next 34 = .ok (.invokevirtual 218, 3) := by decide +kernel
theorem dX11_next_37 : decode cX11_next 37 = .ok (.ireturn, 1) := by decide +kernel
def P_X11_next : Nat → Nat
  | _ => 0
set_option maxRecDepth 100000 in
set_option maxHeartbeats 4000000 in
theorem S_X11_next : zSd yX11_next cX11_next 1 (some .int) { frames := 5, cells := 0, slots := 0, locals := 115 } T_X11_next := by
  refine zMet (pcs := P_X11_next) (F := F_X11_next) (by decide) rfl ?_
  intro p l e s m args below meth c D ids ad A Q Y C hr hk hY b
  match b with
  | 0 => exact (z_aln (pc := 0) C dX11_next_0 rfl <| z_gf (pc := 1) C dX11_next_1 fl_11_37 <| z_aln (pc := 4) C dX11_next_4 rfl <| z_gf (pc := 5) C dX11_next_5 fl_11_12 <| z_cV (pc := 8) C dX11_next_8 S_X8_hold rfl (zl4 w_528 w_529 w_530 w_4) w_531 ds_X8_hold (zrm rfl rfl (by decide) (by decide)) <| z_aln (pc := 11) C dX11_next_11 rfl <| z_gf (pc := 12) C dX11_next_12 fl_11_51 <| z_aln (pc := 15) C dX11_next_15 rfl <| z_gf (pc := 16) C dX11_next_16 fl_11_12 <| z_aln (pc := 19) C dX11_next_19 rfl <| z_gf (pc := 20) C dX11_next_20 fl_11_37 <| z_cV (pc := 23) C dX11_next_23 S_X3_find rfl (zl4 w_724 w_725 w_726 w_12) w_727 ds_X3_find (zrm rfl rfl (by decide) (by decide)) <| z_aln (pc := 26) C dX11_next_26 rfl <| z_gf (pc := 27) C dX11_next_27 fl_11_51 <| z_aln (pc := 30) C dX11_next_30 rfl <| z_gf (pc := 31) C dX11_next_31 fl_11_37 <| z_cV (pc := 34) C dX11_next_34 S_X3_bestWord rfl (zl4 w_738 w_739 w_740 w_12) w_741 ds_X3_bestWord (zrm rfl rfl (by decide) (by decide)) <| z_ir C hr hk dX11_next_37)
  | b + 1 => exact fun _ _ _ h => h.elim
theorem dX11_is_0 : decode cX11_is 0 = .ok (.aload_n 0, 1) := by decide +kernel
theorem dX11_is_1 : decode cX11_is 1 = .ok (.getfield 12, 3) := by decide +kernel
theorem dX11_is_4 : decode cX11_is 4 = .ok (.iload_n 1, 1) := by decide +kernel
theorem dX11_is_5 : decode cX11_is 5 = .ok (.invokevirtual 115, 3) := by decide +kernel
theorem dX11_is_8 : decode cX11_is 8 = .ok (.ifCond .ne 10, 3) := by decide +kernel
theorem dX11_is_11 : decode cX11_is 11 = .ok (.aload_n 0, 1) := by decide +kernel
theorem dX11_is_12 : decode cX11_is 12 = .ok (.bipush (-2), 2) := by decide +kernel
theorem dX11_is_14 : decode cX11_is 14 = .ok (.invokevirtual 70, 3) := by decide +kernel
theorem dX11_is_17 : decode cX11_is 17 = .ok (.ireturn, 1) := by decide +kernel
theorem dX11_is_18 : decode cX11_is 18 = .ok (.aload_n 0, 1) := by decide +kernel
theorem dX11_is_19 : decode cX11_is 19 = .ok (.getfield 37, 3) := by decide +kernel
theorem dX11_is_22 : decode cX11_is 22 = .ok (.aload_n 0, 1) := by decide +kernel
theorem dX11_is_23 : decode cX11_is 23 = .ok (.getfield 12, 3) := by decide +kernel
theorem dX11_is_26 : decode cX11_is 26 = .ok (.invokevirtual 151, 3) := by decide +kernel
theorem dX11_is_29 : decode cX11_is 29 = .ok (.iconst 0, 1) := by decide +kernel
theorem dX11_is_30 : decode cX11_is 30 = .ok (.istore_n 2, 1) := by decide +kernel
theorem dX11_is_31 : decode cX11_is 31 = .ok (.iconst 0, 1) := by decide +kernel
theorem dX11_is_32 : decode cX11_is 32 = .ok (.istore_n 3, 1) := by decide +kernel
theorem dX11_is_33 : decode cX11_is 33 = .ok (.iload_n 3, 1) := by decide +kernel
theorem dX11_is_34 : decode cX11_is 34 = .ok (.bipush 6, 2) := by decide +kernel
theorem dX11_is_36 : decode cX11_is 36 = .ok (.if_icmp .ge 58, 3) := by decide +kernel
theorem dX11_is_39 : decode cX11_is 39 = .ok (.aload_n 0, 1) := by decide +kernel
theorem dX11_is_40 : decode cX11_is 40 = .ok (.getfield 37, 3) := by decide +kernel
theorem dX11_is_43 : decode cX11_is 43 = .ok (.aload_n 0, 1) := by decide +kernel
theorem dX11_is_44 : decode cX11_is 44 = .ok (.getfield 12, 3) := by decide +kernel
theorem dX11_is_47 : decode cX11_is 47 = .ok (.iload_n 1, 1) := by decide +kernel
theorem dX11_is_48 : decode cX11_is 48 = .ok (.iload_n 3, 1) := by decide +kernel
theorem dX11_is_49 : decode cX11_is 49 = .ok (.aload_n 0, 1) := by decide +kernel
theorem dX11_is_50 : decode cX11_is 50 = .ok (.getfield 12, 3) := by decide +kernel
theorem dX11_is_53 : decode cX11_is 53 = .ok (.getfield 118, 3) := by decide +kernel
theorem dX11_is_56 : decode cX11_is 56 = .ok (.iload_n 1, 1) := by decide +kernel
theorem dX11_is_57 : decode cX11_is 57 = .ok (.iaload, 1) := by decide +kernel
theorem dX11_is_58 : decode cX11_is 58 = .ok (.invokevirtual 190, 3) := by decide +kernel
theorem dX11_is_61 : decode cX11_is 61 = .ok (.aload_n 0, 1) := by decide +kernel
theorem dX11_is_62 : decode cX11_is 62 = .ok (.getfield 37, 3) := by decide +kernel
theorem dX11_is_65 : decode cX11_is 65 = .ok (.aload_n 0, 1) := by decide +kernel
theorem dX11_is_66 : decode cX11_is 66 = .ok (.getfield 12, 3) := by decide +kernel
theorem dX11_is_69 : decode cX11_is 69 = .ok (.aload_n 0, 1) := by decide +kernel
theorem dX11_is_70 : decode cX11_is 70 = .ok (.getfield 12, 3) := by decide +kernel
theorem dX11_is_73 : decode cX11_is 73 = .ok (.getfield 127, 3) := by decide +kernel
theorem dX11_is_76 : decode cX11_is 76 = .ok (.invokevirtual 222, 3) := by decide +kernel
theorem dX11_is_79 : decode cX11_is 79 = .ok (.ifCond .eq 9, 3) := by decide +kernel
theorem dX11_is_82 : decode cX11_is 82 = .ok (.iload_n 2, 1) := by decide +kernel
theorem dX11_is_83 : decode cX11_is 83 = .ok (.iconst 1, 1) := by decide +kernel
theorem dX11_is_84 : decode cX11_is 84 = .ok (.iload_n 3, 1) := by decide +kernel
theorem dX11_is_85 : decode cX11_is 85 = .ok (.ishl, 1) := by decide +kernel
theorem dX11_is_86 : decode cX11_is 86 = .ok (.ior, 1) := by decide +kernel
theorem dX11_is_87 : decode cX11_is 87 = .ok (.istore_n 2, 1) := by decide +kernel
theorem dX11_is_88 : decode cX11_is 88 = .ok (.iinc 3 1, 3) := by decide +kernel
theorem dX11_is_91 : decode cX11_is 91 = .ok (.goto (-58), 3) := by decide +kernel
theorem dX11_is_94 : decode cX11_is 94 = .ok (.iload_n 2, 1) := by decide +kernel
theorem dX11_is_95 : decode cX11_is 95 = .ok (.ireturn, 1) := by decide +kernel
def P_X11_is : Nat → Nat
  | 1 => 33
  | 2 => 88
  | _ => 0
set_option maxRecDepth 100000 in
set_option maxHeartbeats 4000000 in
theorem S_X11_is : zSd yX11_is cX11_is 4 (some .int) { frames := 4, cells := 0, slots := 0, locals := 93 } T_X11_is := by
  refine zMet (pcs := P_X11_is) (F := F_X11_is) (by decide) rfl ?_
  intro p l e s m args below meth c D ids ad A Q Y C hr hk hY b
  match b with
  | 0 => exact (z_aln (pc := 0) C dX11_is_0 rfl <| z_gf (pc := 1) C dX11_is_1 fl_11_12 <| z_iln (pc := 4) C dX11_is_4 rfl <| z_cV (pc := 5) C dX11_is_5 S_X1_hasFamily rfl (zl4 w_483 w_484 w_485 w_2) w_486 ds_X1_hasFamily (zrm rfl rfl (by decide) (by decide)) <| z_ifne (tgt := 18) (pc := 8) C dX11_is_8 (by decide) (z_aln (pc := 18) C dX11_is_18 rfl <| z_gf (pc := 19) C dX11_is_19 fl_11_37 <| z_aln (pc := 22) C dX11_is_22 rfl <| z_gf (pc := 23) C dX11_is_23 fl_11_12 <| z_cV (pc := 26) C dX11_is_26 S_X8_hold rfl (zl4 w_528 w_529 w_530 w_4) w_531 ds_X8_hold (zrm rfl rfl (by decide) (by decide)) <| z_ic (pc := 29) C dX11_is_29 (by decide +kernel) <| z_isn (pc := 30) C dX11_is_30 rfl (by decide) <| z_ic (pc := 31) C dX11_is_31 (by decide +kernel) <| z_isn (pc := 32) C dX11_is_32 rfl (by decide) <| z_jmp (hY 1)) <| z_aln (pc := 11) C dX11_is_11 rfl <| z_bi (pc := 12) C dX11_is_12 (by decide +kernel) <| z_cV (pc := 14) C dX11_is_14 S_X11_refuse rfl (zl4 w_311 w_313 wp_0 w_1) w_314 ds_X11_refuse (zrm rfl rfl (by decide) (by decide)) <| z_ir C hr hk dX11_is_17)
  | 1 => exact (z_iln (pc := 33) C dX11_is_33 rfl <| z_bi (pc := 34) C dX11_is_34 (by decide +kernel) <| z_cmpge (tgt := 94) (pc := 36) C dX11_is_36 (by decide) (z_iln (pc := 94) C dX11_is_94 rfl <| z_ir C hr hk dX11_is_95) <| z_aln (pc := 39) C dX11_is_39 rfl <| z_gf (pc := 40) C dX11_is_40 fl_11_37 <| z_aln (pc := 43) C dX11_is_43 rfl <| z_gf (pc := 44) C dX11_is_44 fl_11_12 <| z_iln (pc := 47) C dX11_is_47 rfl <| z_iln (pc := 48) C dX11_is_48 rfl <| z_aln (pc := 49) C dX11_is_49 rfl <| z_gf (pc := 50) C dX11_is_50 fl_11_12 <| z_gf (pc := 53) C dX11_is_53 fl_11_118 <| z_iln (pc := 56) C dX11_is_56 rfl <| z_ia (pc := 57) C dX11_is_57 <| z_cV (pc := 58) C dX11_is_58 S_X8_suppose rfl (zl4 w_695 w_535 w_536 w_4) w_537 ds_X8_suppose (zrm rfl rfl (by decide) (by decide)) <| z_aln (pc := 61) C dX11_is_61 rfl <| z_gf (pc := 62) C dX11_is_62 fl_11_37 <| z_aln (pc := 65) C dX11_is_65 rfl <| z_gf (pc := 66) C dX11_is_66 fl_11_12 <| z_aln (pc := 69) C dX11_is_69 rfl <| z_gf (pc := 70) C dX11_is_70 fl_11_12 <| z_gf (pc := 73) C dX11_is_73 fl_11_127 <| z_cV (pc := 76) C dX11_is_76 S_X8_agreesWith rfl (zl4 w_756 w_730 w_731 w_4) w_732 ds_X8_agreesWith (zrm rfl rfl (by decide) (by decide)) <| z_ifeq (tgt := 88) (pc := 79) C dX11_is_79 (by decide) (z_jmp (hY 2)) <| z_iln (pc := 82) C dX11_is_82 rfl <| z_ic (pc := 83) C dX11_is_83 (by decide +kernel) <| z_iln (pc := 84) C dX11_is_84 rfl <| z_ishl (pc := 85) C dX11_is_85 <| z_ior (pc := 86) C dX11_is_86 <| z_isn (pc := 87) C dX11_is_87 rfl (by decide) <| z_jmp (hY 2))
  | 2 => exact (z_inc (pc := 88) C dX11_is_88 (by decide +kernel) (by decide) <| z_goto (tgt := 33) (pc := 91) C dX11_is_91 (by decide) <| z_jmp (hY 1))
  | b + 3 => exact fun _ _ _ h => h.elim
theorem dX11_leadOfBook0_0 : decode cX11_leadOfBook0 0 = .ok (.aload_n 0, 1) := by decide +kernel
theorem dX11_leadOfBook0_1 : decode cX11_leadOfBook0 1 = .ok (.getfield 12, 3) := by decide +kernel
theorem dX11_leadOfBook0_4 : decode cX11_leadOfBook0 4 = .ok (.getfield 127, 3) := by decide +kernel
theorem dX11_leadOfBook0_7 : decode cX11_leadOfBook0 7 = .ok (.istore_n 3, 1) := by decide +kernel
theorem dX11_leadOfBook0_8 : decode cX11_leadOfBook0 8 = .ok (.iconst 0, 1) := by decide +kernel
theorem dX11_leadOfBook0_9 : decode cX11_leadOfBook0 9 = .ok (.istore 4, 2) := by decide +kernel
theorem dX11_leadOfBook0_11 : decode cX11_leadOfBook0 11 = .ok (.iload 4, 2) := by decide +kernel
theorem dX11_leadOfBook0_13 : decode cX11_leadOfBook0 13 = .ok (.iconst 2, 1) := by decide +kernel
theorem dX11_leadOfBook0_14 : decode cX11_leadOfBook0 14 = .ok (.if_icmp .ge 43, 3) := by decide +kernel
theorem dX11_leadOfBook0_17 : decode cX11_leadOfBook0 17 = .ok (.aload_n 0, 1) := by decide +kernel
theorem dX11_leadOfBook0_18 : decode cX11_leadOfBook0 18 = .ok (.getfield 12, 3) := by decide +kernel
theorem dX11_leadOfBook0_21 : decode cX11_leadOfBook0 21 = .ok (.iload 4, 2) := by decide +kernel
theorem dX11_leadOfBook0_23 : decode cX11_leadOfBook0 23 = .ok (.invokevirtual 275, 3) := by decide +kernel
theorem dX11_leadOfBook0_26 : decode cX11_leadOfBook0 26 = .ok (.istore 5, 2) := by decide +kernel
theorem dX11_leadOfBook0_28 : decode cX11_leadOfBook0 28 = .ok (.iload_n 2, 1) := by decide +kernel
theorem dX11_leadOfBook0_29 : decode cX11_leadOfBook0 29 = .ok (.iload 4, 2) := by decide +kernel
theorem dX11_leadOfBook0_31 : decode cX11_leadOfBook0 31 = .ok (.invokestatic 130, 3) := by decide +kernel
theorem dX11_leadOfBook0_34 : decode cX11_leadOfBook0 34 = .ok (.iconst 1, 1) := by decide +kernel
theorem dX11_leadOfBook0_35 : decode cX11_leadOfBook0 35 = .ok (.if_icmp .ne 16, 3) := by decide +kernel
theorem dX11_leadOfBook0_38 : decode cX11_leadOfBook0 38 = .ok (.iload 5, 2) := by decide +kernel
theorem dX11_leadOfBook0_40 : decode cX11_leadOfBook0 40 = .ok (.iconst (-1), 1) := by decide +kernel
theorem dX11_leadOfBook0_41 : decode cX11_leadOfBook0 41 = .ok (.if_icmp .eq 10, 3) := by decide +kernel
theorem dX11_leadOfBook0_44 : decode cX11_leadOfBook0 44 = .ok (.iload_n 3, 1) := by decide +kernel
theorem dX11_leadOfBook0_45 : decode cX11_leadOfBook0 45 = .ok (.iconst 1, 1) := by decide +kernel
theorem dX11_leadOfBook0_46 : decode cX11_leadOfBook0 46 = .ok (.iload 5, 2) := by decide +kernel
theorem dX11_leadOfBook0_48 : decode cX11_leadOfBook0 48 = .ok (.ishl, 1) := by decide +kernel
theorem dX11_leadOfBook0_49 : decode cX11_leadOfBook0 49 = .ok (.ior, 1) := by decide +kernel
theorem dX11_leadOfBook0_50 : decode cX11_leadOfBook0 50 = .ok (.istore_n 3, 1) := by decide +kernel
theorem dX11_leadOfBook0_51 : decode cX11_leadOfBook0 51 = .ok (.iinc 4 1, 3) := by decide +kernel
theorem dX11_leadOfBook0_54 : decode cX11_leadOfBook0 54 = .ok (.goto (-43), 3) := by decide +kernel
theorem dX11_leadOfBook0_57 : decode cX11_leadOfBook0 57 = .ok (.aload_n 0, 1) := by decide +kernel
theorem dX11_leadOfBook0_58 : decode cX11_leadOfBook0 58 = .ok (.getfield 37, 3) := by decide +kernel
theorem dX11_leadOfBook0_61 : decode cX11_leadOfBook0 61 = .ok (.iload_n 1, 1) := by decide +kernel
theorem dX11_leadOfBook0_62 : decode cX11_leadOfBook0 62 = .ok (.iconst 0, 1) := by decide +kernel
theorem dX11_leadOfBook0_63 : decode cX11_leadOfBook0 63 = .ok (.iload_n 3, 1) := by decide +kernel
theorem dX11_leadOfBook0_64 : decode cX11_leadOfBook0 64 = .ok (.invokevirtual 167, 3) := by decide +kernel
theorem dX11_leadOfBook0_67 : decode cX11_leadOfBook0 67 = .ok (.aload_n 0, 1) := by decide +kernel
theorem dX11_leadOfBook0_68 : decode cX11_leadOfBook0 68 = .ok (.getfield 37, 3) := by decide +kernel
theorem dX11_leadOfBook0_71 : decode cX11_leadOfBook0 71 = .ok (.iload_n 1, 1) := by decide +kernel
theorem dX11_leadOfBook0_72 : decode cX11_leadOfBook0 72 = .ok (.iconst 1, 1) := by decide +kernel
theorem dX11_leadOfBook0_73 : decode cX11_leadOfBook0 73 = .ok (.iload_n 3, 1) := by decide +kernel
theorem dX11_leadOfBook0_74 : decode cX11_leadOfBook0 74 = .ok (.invokevirtual 167, 3) := by decide +kernel
theorem dX11_leadOfBook0_77 : decode cX11_leadOfBook0 77 = .ok (.isub, 1) := by decide +kernel
theorem dX11_leadOfBook0_78 : decode cX11_leadOfBook0 78 = .ok (.ireturn, 1) := by decide +kernel
def P_X11_leadOfBook0 : Nat → Nat
  | 1 => 11
  | 2 => 51
  | _ => 0
set_option maxRecDepth 100000 in
set_option maxHeartbeats 4000000 in
theorem S_X11_leadOfBook0 : zSd yX11_leadOfBook0 cX11_leadOfBook0 6 (some .int) { frames := 3, cells := 0, slots := 0, locals := 69 } T_X11_leadOfBook0 := by
  refine zMet (pcs := P_X11_leadOfBook0) (F := F_X11_leadOfBook0) (by decide) rfl ?_
  intro p l e s m args below meth c D ids ad A Q Y C hr hk hY b
  match b with
  | 0 => exact (z_aln (pc := 0) C dX11_leadOfBook0_0 rfl <| z_gf (pc := 1) C dX11_leadOfBook0_1 fl_11_12 <| z_gf (pc := 4) C dX11_leadOfBook0_4 fl_11_127 <| z_isn (pc := 7) C dX11_leadOfBook0_7 rfl (by decide) <| z_ic (pc := 8) C dX11_leadOfBook0_8 (by decide +kernel) <| z_is (pc := 9) C dX11_leadOfBook0_9 (by decide) <| z_jmp (hY 1))
  | 1 => exact (z_il (pc := 11) C dX11_leadOfBook0_11 <| z_ic (pc := 13) C dX11_leadOfBook0_13 (by decide +kernel) <| z_cmpge (tgt := 57) (pc := 14) C dX11_leadOfBook0_14 (by decide) (z_aln (pc := 57) C dX11_leadOfBook0_57 rfl <| z_gf (pc := 58) C dX11_leadOfBook0_58 fl_11_37 <| z_iln (pc := 61) C dX11_leadOfBook0_61 rfl <| z_ic (pc := 62) C dX11_leadOfBook0_62 (by decide +kernel) <| z_iln (pc := 63) C dX11_leadOfBook0_63 rfl <| z_cV (pc := 64) C dX11_leadOfBook0_64 S_X8_loudness rfl (zl4 w_623 w_624 w_625 w_4) w_626 ds_X8_loudness (zrm rfl rfl (by decide) (by decide)) <| z_aln (pc := 67) C dX11_leadOfBook0_67 rfl <| z_gf (pc := 68) C dX11_leadOfBook0_68 fl_11_37 <| z_iln (pc := 71) C dX11_leadOfBook0_71 rfl <| z_ic (pc := 72) C dX11_leadOfBook0_72 (by decide +kernel) <| z_iln (pc := 73) C dX11_leadOfBook0_73 rfl <| z_cV (pc := 74) C dX11_leadOfBook0_74 S_X8_loudness rfl (zl4 w_623 w_624 w_625 w_4) w_626 ds_X8_loudness (zrm rfl rfl (by decide) (by decide)) <| z_isub (pc := 77) C dX11_leadOfBook0_77 <| z_ir C hr hk dX11_leadOfBook0_78) <| z_aln (pc := 17) C dX11_leadOfBook0_17 rfl <| z_gf (pc := 18) C dX11_leadOfBook0_18 fl_11_12 <| z_il (pc := 21) C dX11_leadOfBook0_21 <| z_cV (pc := 23) C dX11_leadOfBook0_23 S_X1_mostVoiced rfl (zl4 w_765 w_766 w_767 w_2) w_768 ds_X1_mostVoiced (zrm rfl rfl (by decide) (by decide)) <| z_is (pc := 26) C dX11_leadOfBook0_26 (by decide) <| z_iln (pc := 28) C dX11_leadOfBook0_28 rfl <| z_il (pc := 29) C dX11_leadOfBook0_29 <| z_cS (pc := 31) C dX11_leadOfBook0_31 S_X11_bit (zl3 w_495 w_496 w_1) w_497 ds_X11_bit (zrm rfl rfl (by decide) (by decide)) <| z_ic (pc := 34) C dX11_leadOfBook0_34 (by decide +kernel) <| z_cmpne (tgt := 51) (pc := 35) C dX11_leadOfBook0_35 (by decide) (z_jmp (hY 2)) <| z_il (pc := 38) C dX11_leadOfBook0_38 <| z_ic (pc := 40) C dX11_leadOfBook0_40 (by decide +kernel) <| z_cmpeq (tgt := 51) (pc := 41) C dX11_leadOfBook0_41 (by decide) (z_jmp (hY 2)) <| z_iln (pc := 44) C dX11_leadOfBook0_44 rfl <| z_ic (pc := 45) C dX11_leadOfBook0_45 (by decide +kernel) <| z_il (pc := 46) C dX11_leadOfBook0_46 <| z_ishl (pc := 48) C dX11_leadOfBook0_48 <| z_ior (pc := 49) C dX11_leadOfBook0_49 <| z_isn (pc := 50) C dX11_leadOfBook0_50 rfl (by decide) <| z_jmp (hY 2))
  | 2 => exact (z_inc (pc := 51) C dX11_leadOfBook0_51 (by decide +kernel) (by decide) <| z_goto (tgt := 11) (pc := 54) C dX11_leadOfBook0_54 (by decide) <| z_jmp (hY 1))
  | b + 3 => exact fun _ _ _ h => h.elim
theorem dX11_deacons_0 : decode cX11_deacons 0 = .ok (.iload_n 1, 1) := by decide +kernel
theorem dX11_deacons_1 : decode cX11_deacons 1 = .ok (.invokestatic 148, 3) := by decide +kernel
theorem dX11_deacons_4 : decode cX11_deacons 4 = .ok (.ifCond .ne 10, 3) := by decide +kernel
theorem dX11_deacons_7 : decode cX11_deacons 7 = .ok (.aload_n 0, 1) := by decide +kernel
theorem dX11_deacons_8 : decode cX11_deacons 8 = .ok (.bipush (-2), 2) := by decide +kernel
theorem dX11_deacons_10 : decode cX11_deacons 10 = .ok (.invokevirtual 70, 3) := by decide +kernel
theorem dX11_deacons_13 : decode cX11_deacons 13 = .ok (.ireturn, 1) := by decide +kernel
theorem dX11_deacons_14 : decode cX11_deacons 14 = .ok (.aload_n 0, 1) := by decide +kernel
theorem dX11_deacons_15 : decode cX11_deacons 15 = .ok (.getfield 37, 3) := by decide +kernel
theorem dX11_deacons_18 : decode cX11_deacons 18 = .ok (.aload_n 0, 1) := by decide +kernel
theorem dX11_deacons_19 : decode cX11_deacons 19 = .ok (.getfield 12, 3) := by decide +kernel
theorem dX11_deacons_22 : decode cX11_deacons 22 = .ok (.invokevirtual 151, 3) := by decide +kernel
theorem dX11_deacons_25 : decode cX11_deacons 25 = .ok (.iconst 0, 1) := by decide +kernel
theorem dX11_deacons_26 : decode cX11_deacons 26 = .ok (.istore_n 2, 1) := by decide +kernel
theorem dX11_deacons_27 : decode cX11_deacons 27 = .ok (.iconst 0, 1) := by decide +kernel
theorem dX11_deacons_28 : decode cX11_deacons 28 = .ok (.istore_n 3, 1) := by decide +kernel
theorem dX11_deacons_29 : decode cX11_deacons 29 = .ok (.iload_n 3, 1) := by decide +kernel
theorem dX11_deacons_30 : decode cX11_deacons 30 = .ok (.iconst 4, 1) := by decide +kernel
theorem dX11_deacons_31 : decode cX11_deacons 31 = .ok (.if_icmp .ge 49, 3) := by decide +kernel
theorem dX11_deacons_34 : decode cX11_deacons 34 = .ok (.aload_n 0, 1) := by decide +kernel
theorem dX11_deacons_35 : decode cX11_deacons 35 = .ok (.iload_n 1, 1) := by decide +kernel
theorem dX11_deacons_36 : decode cX11_deacons 36 = .ok (.iload_n 3, 1) := by decide +kernel
theorem dX11_deacons_37 : decode cX11_deacons 37 = .ok (.invokevirtual 226, 3) := by decide +kernel
theorem dX11_deacons_40 : decode cX11_deacons 40 = .ok (.istore 4, 2) := by decide +kernel
theorem dX11_deacons_42 : decode cX11_deacons 42 = .ok (.iload 4, 2) := by decide +kernel
theorem dX11_deacons_44 : decode cX11_deacons 44 = .ok (.aload_n 0, 1) := by decide +kernel
theorem dX11_deacons_45 : decode cX11_deacons 45 = .ok (.iload_n 1, 1) := by decide +kernel
theorem dX11_deacons_46 : decode cX11_deacons 46 = .ok (.iload_n 3, 1) := by decide +kernel
theorem dX11_deacons_47 : decode cX11_deacons 47 = .ok (.iconst 1, 1) := by decide +kernel
theorem dX11_deacons_48 : decode cX11_deacons 48 = .ok (.ixor, 1) := by decide +kernel
theorem dX11_deacons_49 : decode cX11_deacons 49 = .ok (.invokevirtual 226, 3) := by decide +kernel
theorem dX11_deacons_52 : decode cX11_deacons 52 = .ok (.if_icmp .lt 22, 3) := by decide +kernel
theorem dX11_deacons_55 : decode cX11_deacons 55 = .ok (.iload 4, 2) := by decide +kernel
theorem dX11_deacons_57 : decode cX11_deacons 57 = .ok (.aload_n 0, 1) := by decide +kernel
theorem dX11_deacons_58 : decode cX11_deacons 58 = .ok (.iload_n 1, 1) := by decide +kernel
theorem dX11_deacons_59 : decode cX11_deacons 59 = .ok (.iload_n 3, 1) := by decide +kernel
theorem dX11_deacons_60 : decode cX11_deacons 60 = .ok (.iconst 2, 1) := by decide +kernel
theorem dX11_deacons_61 : decode cX11_deacons 61 = .ok (.ixor, 1) := by decide +kernel
theorem dX11_deacons_62 : decode cX11_deacons 62 = .ok (.invokevirtual 226, 3) := by decide +kernel
theorem dX11_deacons_65 : decode cX11_deacons 65 = .ok (.if_icmp .gt 9, 3) := by decide +kernel
theorem dX11_deacons_68 : decode cX11_deacons 68 = .ok (.iload_n 2, 1) := by decide +kernel
theorem dX11_deacons_69 : decode cX11_deacons 69 = .ok (.iconst 1, 1) := by decide +kernel
theorem dX11_deacons_70 : decode cX11_deacons 70 = .ok (.iload_n 3, 1) := by decide +kernel
theorem dX11_deacons_71 : decode cX11_deacons 71 = .ok (.ishl, 1) := by decide +kernel
theorem dX11_deacons_72 : decode cX11_deacons 72 = .ok (.ior, 1) := by decide +kernel
theorem dX11_deacons_73 : decode cX11_deacons 73 = .ok (.istore_n 2, 1) := by decide +kernel
theorem dX11_deacons_74 : decode cX11_deacons 74 = .ok (.iinc 3 1, 3) := by decide +kernel
theorem dX11_deacons_77 : decode cX11_deacons 77 = .ok (.goto (-48), 3) := by decide +kernel
theorem dX11_deacons_80 : decode cX11_deacons 80 = .ok (.iload_n 2, 1) := by decide +kernel
theorem dX11_deacons_81 : decode cX11_deacons 81 = .ok (.ireturn, 1) := by decide +kernel
def P_X11_deacons : Nat → Nat
  | 1 => 29
  | 2 => 74
  | _ => 0
set_option maxRecDepth 100000 in
set_option maxHeartbeats 4000000 in
theorem S_X11_deacons : zSd yX11_deacons cX11_deacons 5 (some .int) { frames := 4, cells := 0, slots := 0, locals := 94 } T_X11_deacons := by
  refine zMet (pcs := P_X11_deacons) (F := F_X11_deacons) (by decide) rfl ?_
  intro p l e s m args below meth c D ids ad A Q Y C hr hk hY b
  match b with
  | 0 => exact (z_iln (pc := 0) C dX11_deacons_0 rfl <| z_cS (pc := 1) C dX11_deacons_1 S_X11_isWord (zl3 w_525 w_526 w_1) w_527 ds_X11_isWord (zrm rfl rfl (by decide) (by decide)) <| z_ifne (tgt := 14) (pc := 4) C dX11_deacons_4 (by decide) (z_aln (pc := 14) C dX11_deacons_14 rfl <| z_gf (pc := 15) C dX11_deacons_15 fl_11_37 <| z_aln (pc := 18) C dX11_deacons_18 rfl <| z_gf (pc := 19) C dX11_deacons_19 fl_11_12 <| z_cV (pc := 22) C dX11_deacons_22 S_X8_hold rfl (zl4 w_528 w_529 w_530 w_4) w_531 ds_X8_hold (zrm rfl rfl (by decide) (by decide)) <| z_ic (pc := 25) C dX11_deacons_25 (by decide +kernel) <| z_isn (pc := 26) C dX11_deacons_26 rfl (by decide) <| z_ic (pc := 27) C dX11_deacons_27 (by decide +kernel) <| z_isn (pc := 28) C dX11_deacons_28 rfl (by decide) <| z_jmp (hY 1)) <| z_aln (pc := 7) C dX11_deacons_7 rfl <| z_bi (pc := 8) C dX11_deacons_8 (by decide +kernel) <| z_cV (pc := 10) C dX11_deacons_10 S_X11_refuse rfl (zl4 w_311 w_313 wp_0 w_1) w_314 ds_X11_refuse (zrm rfl rfl (by decide) (by decide)) <| z_ir C hr hk dX11_deacons_13)
  | 1 => exact (z_iln (pc := 29) C dX11_deacons_29 rfl <| z_ic (pc := 30) C dX11_deacons_30 (by decide +kernel) <| z_cmpge (tgt := 80) (pc := 31) C dX11_deacons_31 (by decide) (z_iln (pc := 80) C dX11_deacons_80 rfl <| z_ir C hr hk dX11_deacons_81) <| z_aln (pc := 34) C dX11_deacons_34 rfl <| z_iln (pc := 35) C dX11_deacons_35 rfl <| z_iln (pc := 36) C dX11_deacons_36 rfl <| z_cV (pc := 37) C dX11_deacons_37 S_X11_leadOfBook0 rfl (zl4 w_761 w_763 wp_16 w_1) w_764 ds_X11_leadOfBook0 (zrm rfl rfl (by decide) (by decide)) <| z_is (pc := 40) C dX11_deacons_40 (by decide) <| z_il (pc := 42) C dX11_deacons_42 <| z_aln (pc := 44) C dX11_deacons_44 rfl <| z_iln (pc := 45) C dX11_deacons_45 rfl <| z_iln (pc := 46) C dX11_deacons_46 rfl <| z_ic (pc := 47) C dX11_deacons_47 (by decide +kernel) <| z_ixor (pc := 48) C dX11_deacons_48 <| z_cV (pc := 49) C dX11_deacons_49 S_X11_leadOfBook0 rfl (zl4 w_761 w_763 wp_16 w_1) w_764 ds_X11_leadOfBook0 (zrm rfl rfl (by decide) (by decide)) <| z_cmplt (tgt := 74) (pc := 52) C dX11_deacons_52 (by decide) (z_jmp (hY 2)) <| z_il (pc := 55) C dX11_deacons_55 <| z_aln (pc := 57) C dX11_deacons_57 rfl <| z_iln (pc := 58) C dX11_deacons_58 rfl <| z_iln (pc := 59) C dX11_deacons_59 rfl <| z_ic (pc := 60) C dX11_deacons_60 (by decide +kernel) <| z_ixor (pc := 61) C dX11_deacons_61 <| z_cV (pc := 62) C dX11_deacons_62 S_X11_leadOfBook0 rfl (zl4 w_761 w_763 wp_16 w_1) w_764 ds_X11_leadOfBook0 (zrm rfl rfl (by decide) (by decide)) <| z_cmpgt (tgt := 74) (pc := 65) C dX11_deacons_65 (by decide) (z_jmp (hY 2)) <| z_iln (pc := 68) C dX11_deacons_68 rfl <| z_ic (pc := 69) C dX11_deacons_69 (by decide +kernel) <| z_iln (pc := 70) C dX11_deacons_70 rfl <| z_ishl (pc := 71) C dX11_deacons_71 <| z_ior (pc := 72) C dX11_deacons_72 <| z_isn (pc := 73) C dX11_deacons_73 rfl (by decide) <| z_jmp (hY 2))
  | 2 => exact (z_inc (pc := 74) C dX11_deacons_74 (by decide +kernel) (by decide) <| z_goto (tgt := 29) (pc := 77) C dX11_deacons_77 (by decide) <| z_jmp (hY 1))
  | b + 3 => exact fun _ _ _ h => h.elim
theorem dX11_feasts_0 : decode cX11_feasts 0 = .ok (.iload_n 1, 1) := by decide +kernel
theorem dX11_feasts_1 : decode cX11_feasts 1 = .ok (.iconst 1, 1) := by decide +kernel
theorem dX11_feasts_2 : decode cX11_feasts 2 = .ok (.bipush 40, 2) := by decide +kernel
theorem dX11_feasts_4 : decode cX11_feasts 4 = .ok (.invokestatic 66, 3) := by decide +kernel
theorem dX11_feasts_7 : decode cX11_feasts 7 = .ok (.ifCond .eq 34, 3) := by decide +kernel
theorem dX11_feasts_10 : decode cX11_feasts 10 = .ok (.iload_n 3, 1) := by decide +kernel
theorem dX11_feasts_11 : decode cX11_feasts 11 = .ok (.iconst 1, 1) := by decide +kernel
theorem dX11_feasts_12 : decode cX11_feasts 12 = .ok (.bipush 40, 2) := by decide +kernel
theorem dX11_feasts_14 : decode cX11_feasts 14 = .ok (.invokestatic 66, 3) := by decide +kernel
theorem dX11_feasts_17 : decode cX11_feasts 17 = .ok (.ifCond .eq 24, 3) := by decide +kernel
theorem dX11_feasts_20 : decode cX11_feasts 20 = .ok (.iload_n 2, 1) := by decide +kernel
theorem dX11_feasts_21 : decode cX11_feasts 21 = .ok (.iconst 0, 1) := by decide +kernel
theorem dX11_feasts_22 : decode cX11_feasts 22 = .ok (.bipush 99, 2) := by decide +kernel
theorem dX11_feasts_24 : decode cX11_feasts 24 = .ok (.invokestatic 66, 3) := by decide +kernel
theorem dX11_feasts_27 : decode cX11_feasts 27 = .ok (.ifCond .eq 14, 3) := by decide +kernel
theorem dX11_feasts_30 : decode cX11_feasts 30 = .ok (.iload 4, 2) := by decide +kernel
theorem dX11_feasts_32 : decode cX11_feasts 32 = .ok (.iconst 0, 1) := by decide +kernel
theorem dX11_feasts_33 : decode cX11_feasts 33 = .ok (.bipush 99, 2) := by decide +kernel
theorem dX11_feasts_35 : decode cX11_feasts 35 = .ok (.invokestatic 66, 3) := by decide +kernel
theorem dX11_feasts_38 : decode cX11_feasts 38 = .ok (.ifCond .ne 10, 3) := by decide +kernel
theorem dX11_feasts_41 : decode cX11_feasts 41 = .ok (.aload_n 0, 1) := by decide +kernel
theorem dX11_feasts_42 : decode cX11_feasts 42 = .ok (.bipush (-2), 2) := by decide +kernel
theorem dX11_feasts_44 : decode cX11_feasts 44 = .ok (.invokevirtual 70, 3) := by decide +kernel
theorem dX11_feasts_47 : decode cX11_feasts 47 = .ok (.ireturn, 1) := by decide +kernel
theorem dX11_feasts_48 : decode cX11_feasts 48 = .ok (.iload_n 2, 1) := by decide +kernel
theorem dX11_feasts_49 : decode cX11_feasts 49 = .ok (.iload 4, 2) := by decide +kernel
theorem dX11_feasts_51 : decode cX11_feasts 51 = .ok (.invokestatic 229, 3) := by decide +kernel
theorem dX11_feasts_54 : decode cX11_feasts 54 = .ok (.iload_n 1, 1) := by decide +kernel
theorem dX11_feasts_55 : decode cX11_feasts 55 = .ok (.iload_n 3, 1) := by decide +kernel
theorem dX11_feasts_56 : decode cX11_feasts 56 = .ok (.imul, 1) := by decide +kernel
theorem dX11_feasts_57 : decode cX11_feasts 57 = .ok (.iadd, 1) := by decide +kernel
theorem dX11_feasts_58 : decode cX11_feasts 58 = .ok (.istore 5, 2) := by decide +kernel
theorem dX11_feasts_60 : decode cX11_feasts 60 = .ok (.iload_n 2, 1) := by decide +kernel
theorem dX11_feasts_61 : decode cX11_feasts 61 = .ok (.istore 6, 2) := by decide +kernel
theorem dX11_feasts_63 : decode cX11_feasts 63 = .ok (.iload 6, 2) := by decide +kernel
theorem dX11_feasts_65 : decode cX11_feasts 65 = .ok (.iload 5, 2) := by decide +kernel
theorem dX11_feasts_67 : decode cX11_feasts 67 = .ok (.if_icmp .gt 32, 3) := by decide +kernel
theorem dX11_feasts_70 : decode cX11_feasts 70 = .ok (.iload 6, 2) := by decide +kernel
theorem dX11_feasts_72 : decode cX11_feasts 72 = .ok (.iload 4, 2) := by decide +kernel
theorem dX11_feasts_74 : decode cX11_feasts 74 = .ok (.if_icmp .lt 16, 3) := by decide +kernel
theorem dX11_feasts_77 : decode cX11_feasts 77 = .ok (.iload 6, 2) := by decide +kernel
theorem dX11_feasts_79 : decode cX11_feasts 79 = .ok (.iload 4, 2) := by decide +kernel
theorem dX11_feasts_81 : decode cX11_feasts 81 = .ok (.isub, 1) := by decide +kernel
theorem dX11_feasts_82 : decode cX11_feasts 82 = .ok (.iload_n 3, 1) := by decide +kernel
theorem dX11_feasts_83 : decode cX11_feasts 83 = .ok (.irem, 1) := by decide +kernel
theorem dX11_feasts_84 : decode cX11_feasts 84 = .ok (.ifCond .ne 6, 3) := by decide +kernel
theorem dX11_feasts_87 : decode cX11_feasts 87 = .ok (.iload 6, 2) := by decide +kernel
theorem dX11_feasts_89 : decode cX11_feasts 89 = .ok (.ireturn, 1) := by decide +kernel
theorem dX11_feasts_90 : decode cX11_feasts 90 = .ok (.iload 6, 2) := by decide +kernel
theorem dX11_feasts_92 : decode cX11_feasts 92 = .ok (.iload_n 1, 1) := by decide +kernel
theorem dX11_feasts_93 : decode cX11_feasts 93 = .ok (.iadd, 1) := by decide +kernel
theorem dX11_feasts_94 : decode cX11_feasts 94 = .ok (.istore 6, 2) := by decide +kernel
theorem dX11_feasts_96 : decode cX11_feasts 96 = .ok (.goto (-33), 3) := by decide +kernel
theorem dX11_feasts_99 : decode cX11_feasts 99 = .ok (.iconst (-1), 1) := by decide +kernel
theorem dX11_feasts_100 : decode cX11_feasts 100 = .ok (.ireturn, 1) := by decide +kernel
def P_X11_feasts : Nat → Nat
  | 1 => 41
  | 2 => 63
  | 3 => 90
  | _ => 0
set_option maxRecDepth 100000 in
set_option maxHeartbeats 4000000 in
theorem S_X11_feasts : zSd yX11_feasts cX11_feasts 7 (some .int) { frames := 1, cells := 0, slots := 0, locals := 22 } T_X11_feasts := by
  refine zMet (pcs := P_X11_feasts) (F := F_X11_feasts) (by decide) rfl ?_
  intro p l e s m args below meth c D ids ad A Q Y C hr hk hY b
  match b with
  | 0 => exact (z_iln (pc := 0) C dX11_feasts_0 rfl <| z_ic (pc := 1) C dX11_feasts_1 (by decide +kernel) <| z_bi (pc := 2) C dX11_feasts_2 (by decide +kernel) <| z_cS (pc := 4) C dX11_feasts_4 S_X11_within (zl3 w_308 w_309 w_1) w_310 ds_X11_within (zrm rfl rfl (by decide) (by decide)) <| z_ifeq (tgt := 41) (pc := 7) C dX11_feasts_7 (by decide) (z_jmp (hY 1)) <| z_iln (pc := 10) C dX11_feasts_10 rfl <| z_ic (pc := 11) C dX11_feasts_11 (by decide +kernel) <| z_bi (pc := 12) C dX11_feasts_12 (by decide +kernel) <| z_cS (pc := 14) C dX11_feasts_14 S_X11_within (zl3 w_308 w_309 w_1) w_310 ds_X11_within (zrm rfl rfl (by decide) (by decide)) <| z_ifeq (tgt := 41) (pc := 17) C dX11_feasts_17 (by decide) (z_jmp (hY 1)) <| z_iln (pc := 20) C dX11_feasts_20 rfl <| z_ic (pc := 21) C dX11_feasts_21 (by decide +kernel) <| z_bi (pc := 22) C dX11_feasts_22 (by decide +kernel) <| z_cS (pc := 24) C dX11_feasts_24 S_X11_within (zl3 w_308 w_309 w_1) w_310 ds_X11_within (zrm rfl rfl (by decide) (by decide)) <| z_ifeq (tgt := 41) (pc := 27) C dX11_feasts_27 (by decide) (z_jmp (hY 1)) <| z_il (pc := 30) C dX11_feasts_30 <| z_ic (pc := 32) C dX11_feasts_32 (by decide +kernel) <| z_bi (pc := 33) C dX11_feasts_33 (by decide +kernel) <| z_cS (pc := 35) C dX11_feasts_35 S_X11_within (zl3 w_308 w_309 w_1) w_310 ds_X11_within (zrm rfl rfl (by decide) (by decide)) <| z_ifne (tgt := 48) (pc := 38) C dX11_feasts_38 (by decide) (z_iln (pc := 48) C dX11_feasts_48 rfl <| z_il (pc := 49) C dX11_feasts_49 <| z_mmax (pc := 51) C dX11_feasts_51 w_773 w_565 w_19 w_566 (by decide) <| z_iln (pc := 54) C dX11_feasts_54 rfl <| z_iln (pc := 55) C dX11_feasts_55 rfl <| z_imul (pc := 56) C dX11_feasts_56 <| z_iadd (pc := 57) C dX11_feasts_57 <| z_is (pc := 58) C dX11_feasts_58 (by decide) <| z_iln (pc := 60) C dX11_feasts_60 rfl <| z_is (pc := 61) C dX11_feasts_61 (by decide) <| z_jmp (hY 2)) <| z_jmp (hY 1))
  | 1 => exact (z_aln (pc := 41) C dX11_feasts_41 rfl <| z_bi (pc := 42) C dX11_feasts_42 (by decide +kernel) <| z_cV (pc := 44) C dX11_feasts_44 S_X11_refuse rfl (zl4 w_311 w_313 wp_0 w_1) w_314 ds_X11_refuse (zrm rfl rfl (by decide) (by decide)) <| z_ir C hr hk dX11_feasts_47)
  | 2 => exact (z_il (pc := 63) C dX11_feasts_63 <| z_il (pc := 65) C dX11_feasts_65 <| z_cmpgt (tgt := 99) (pc := 67) C dX11_feasts_67 (by decide) (z_ic (pc := 99) C dX11_feasts_99 (by decide +kernel) <| z_ir C hr hk dX11_feasts_100) <| z_il (pc := 70) C dX11_feasts_70 <| z_il (pc := 72) C dX11_feasts_72 <| z_cmplt (tgt := 90) (pc := 74) C dX11_feasts_74 (by decide) (z_jmp (hY 3)) <| z_il (pc := 77) C dX11_feasts_77 <| z_il (pc := 79) C dX11_feasts_79 <| z_isub (pc := 81) C dX11_feasts_81 <| z_iln (pc := 82) C dX11_feasts_82 rfl <| z_irem (pc := 83) C dX11_feasts_83 <| z_ifne (tgt := 90) (pc := 84) C dX11_feasts_84 (by decide) (z_jmp (hY 3)) <| z_il (pc := 87) C dX11_feasts_87 <| z_ir C hr hk dX11_feasts_89)
  | 3 => exact (z_il (pc := 90) C dX11_feasts_90 <| z_iln (pc := 92) C dX11_feasts_92 rfl <| z_iadd (pc := 93) C dX11_feasts_93 <| z_is (pc := 94) C dX11_feasts_94 (by decide) <| z_goto (tgt := 63) (pc := 96) C dX11_feasts_96 (by decide) <| z_jmp (hY 2))
  | b + 4 => exact fun _ _ _ h => h.elim
theorem dX11_power_0 : decode cX11_power 0 = .ok (.lconst 1, 1) := by decide +kernel
theorem dX11_power_1 : decode cX11_power 1 = .ok (.lstore_n 2, 1) := by decide +kernel
theorem dX11_power_2 : decode cX11_power 2 = .ok (.iconst 0, 1) := by decide +kernel
theorem dX11_power_3 : decode cX11_power 3 = .ok (.istore 4, 2) := by decide +kernel
theorem dX11_power_5 : decode cX11_power 5 = .ok (.iload 4, 2) := by decide +kernel
theorem dX11_power_7 : decode cX11_power 7 = .ok (.iload_n 1, 1) := by decide +kernel
theorem dX11_power_8 : decode cX11_power 8 = .ok (.if_icmp .ge 14, 3) := by decide +kernel
theorem dX11_power_11 : decode cX11_power 11 = .ok (.lload_n 2, 1) := by decide +kernel
theorem dX11_power_12 : decode cX11_power 12 = .ok (.iload_n 0, 1) := by decide +kernel
theorem dX11_power_13 : decode cX11_power 13 = .ok (.i2l, 1) := by decide +kernel
theorem dX11_power_14 : decode cX11_power 14 = .ok (.lmul, 1) := by decide +kernel
theorem dX11_power_15 : decode cX11_power 15 = .ok (.lstore_n 2, 1) := by decide +kernel
theorem dX11_power_16 : decode cX11_power 16 = .ok (.iinc 4 1, 3) := by decide +kernel
theorem dX11_power_19 : decode cX11_power 19 = .ok (.goto (-14), 3) := by decide +kernel
theorem dX11_power_22 : decode cX11_power 22 = .ok (.lload_n 2, 1) := by decide +kernel
theorem dX11_power_23 : decode cX11_power 23 = .ok (.lreturn, 1) := by decide +kernel
def P_X11_power : Nat → Nat
  | 1 => 5
  | _ => 0
set_option maxRecDepth 100000 in
set_option maxHeartbeats 4000000 in
theorem S_X11_power : zSd yX11_power cX11_power 5 (some .long) { frames := 0, cells := 0, slots := 0, locals := 0 } T_X11_power := by
  refine zMet (pcs := P_X11_power) (F := F_X11_power) (by decide) rfl ?_
  intro p l e s m args below meth c D ids ad A Q Y C hr hk hY b
  match b with
  | 0 => exact (z_lc (pc := 0) C dX11_power_0 (by decide +kernel) <| z_lstn (pc := 1) C dX11_power_1 rfl (by decide) <| z_ic (pc := 2) C dX11_power_2 (by decide +kernel) <| z_is (pc := 3) C dX11_power_3 (by decide) <| z_jmp (hY 1))
  | 1 => exact (z_il (pc := 5) C dX11_power_5 <| z_iln (pc := 7) C dX11_power_7 rfl <| z_cmpge (tgt := 22) (pc := 8) C dX11_power_8 (by decide) (z_lln (pc := 22) C dX11_power_22 rfl <| z_lr C hr hk dX11_power_23) <| z_lln (pc := 11) C dX11_power_11 rfl <| z_iln (pc := 12) C dX11_power_12 rfl <| z_i2l (pc := 13) C dX11_power_13 <| z_lmul (pc := 14) C dX11_power_14 <| z_lstn (pc := 15) C dX11_power_15 rfl (by decide) <| z_inc (pc := 16) C dX11_power_16 (by decide +kernel) (by decide) <| z_goto (tgt := 5) (pc := 19) C dX11_power_19 (by decide) <| z_jmp (hY 1))
  | b + 2 => exact fun _ _ _ h => h.elim
theorem dX11_chancesOf_0 : decode cX11_chancesOf 0 = .ok (.iload_n 1, 1) := by decide +kernel
theorem dX11_chancesOf_1 : decode cX11_chancesOf 1 = .ok (.aload_n 0, 1) := by decide +kernel
theorem dX11_chancesOf_2 : decode cX11_chancesOf 2 = .ok (.getfield 12, 3) := by decide +kernel
theorem dX11_chancesOf_5 : decode cX11_chancesOf 5 = .ok (.getfield 127, 3) := by decide +kernel
theorem dX11_chancesOf_8 : decode cX11_chancesOf 8 = .ok (.iconst (-1), 1) := by decide +kernel
theorem dX11_chancesOf_9 : decode cX11_chancesOf 9 = .ok (.ixor, 1) := by decide +kernel
theorem dX11_chancesOf_10 : decode cX11_chancesOf 10 = .ok (.iand, 1) := by decide +kernel
theorem dX11_chancesOf_11 : decode cX11_chancesOf 11 = .ok (.invokestatic 140, 3) := by decide +kernel
theorem dX11_chancesOf_14 : decode cX11_chancesOf 14 = .ok (.istore_n 3, 1) := by decide +kernel
theorem dX11_chancesOf_15 : decode cX11_chancesOf 15 = .ok (.aload_n 0, 1) := by decide +kernel
theorem dX11_chancesOf_16 : decode cX11_chancesOf 16 = .ok (.getfield 12, 3) := by decide +kernel
theorem dX11_chancesOf_19 : decode cX11_chancesOf 19 = .ok (.getfield 74, 3) := by decide +kernel
theorem dX11_chancesOf_22 : decode cX11_chancesOf 22 = .ok (.iload_n 1, 1) := by decide +kernel
theorem dX11_chancesOf_23 : decode cX11_chancesOf 23 = .ok (.invokestatic 140, 3) := by decide +kernel
theorem dX11_chancesOf_26 : decode cX11_chancesOf 26 = .ok (.isub, 1) := by decide +kernel
theorem dX11_chancesOf_27 : decode cX11_chancesOf 27 = .ok (.istore 4, 2) := by decide +kernel
theorem dX11_chancesOf_29 : decode cX11_chancesOf 29 = .ok (.iload_n 2, 1) := by decide +kernel
theorem dX11_chancesOf_30 : decode cX11_chancesOf 30 = .ok (.iload_n 3, 1) := by decide +kernel
theorem dX11_chancesOf_31 : decode cX11_chancesOf 31 = .ok (.invokestatic 238, 3) := by decide +kernel
theorem dX11_chancesOf_34 : decode cX11_chancesOf 34 = .ok (.bipush 10, 2) := by decide +kernel
theorem dX11_chancesOf_36 : decode cX11_chancesOf 36 = .ok (.iload_n 2, 1) := by decide +kernel
theorem dX11_chancesOf_37 : decode cX11_chancesOf 37 = .ok (.isub, 1) := by decide +kernel
theorem dX11_chancesOf_38 : decode cX11_chancesOf 38 = .ok (.iload 4, 2) := by decide +kernel
theorem dX11_chancesOf_40 : decode cX11_chancesOf 40 = .ok (.invokestatic 238, 3) := by decide +kernel
theorem dX11_chancesOf_43 : decode cX11_chancesOf 43 = .ok (.lmul, 1) := by decide +kernel
theorem dX11_chancesOf_44 : decode cX11_chancesOf 44 = .ok (.lreturn, 1) := by decide +kernel
def P_X11_chancesOf : Nat → Nat
  | _ => 0
set_option maxRecDepth 100000 in
set_option maxHeartbeats 4000000 in
theorem S_X11_chancesOf : zSd yX11_chancesOf cX11_chancesOf 5 (some .long) { frames := 1, cells := 0, slots := 0, locals := 24 } T_X11_chancesOf := by
  refine zMet (pcs := P_X11_chancesOf) (F := F_X11_chancesOf) (by decide) rfl ?_
  intro p l e s m args below meth c D ids ad A Q Y C hr hk hY b
  match b with
  | 0 => exact (z_iln (pc := 0) C dX11_chancesOf_0 rfl <| z_aln (pc := 1) C dX11_chancesOf_1 rfl <| z_gf (pc := 2) C dX11_chancesOf_2 fl_11_12 <| z_gf (pc := 5) C dX11_chancesOf_5 fl_11_127 <| z_ic (pc := 8) C dX11_chancesOf_8 (by decide +kernel) <| z_ixor (pc := 9) C dX11_chancesOf_9 <| z_iand (pc := 10) C dX11_chancesOf_10 <| z_cS (pc := 11) C dX11_chancesOf_11 S_J6_bitCount_0f7a4 (zl3 w_506 w_507 w_21) w_508 ds_J6_bitCount_0f7a4 (zrm rfl rfl (by decide) (by decide)) <| z_isn (pc := 14) C dX11_chancesOf_14 rfl (by decide) <| z_aln (pc := 15) C dX11_chancesOf_15 rfl <| z_gf (pc := 16) C dX11_chancesOf_16 fl_11_12 <| z_gf (pc := 19) C dX11_chancesOf_19 fl_11_74 <| z_iln (pc := 22) C dX11_chancesOf_22 rfl <| z_cS (pc := 23) C dX11_chancesOf_23 S_J6_bitCount_0f7a4 (zl3 w_506 w_507 w_21) w_508 ds_J6_bitCount_0f7a4 (zrm rfl rfl (by decide) (by decide)) <| z_isub (pc := 26) C dX11_chancesOf_26 <| z_is (pc := 27) C dX11_chancesOf_27 (by decide) <| z_iln (pc := 29) C dX11_chancesOf_29 rfl <| z_iln (pc := 30) C dX11_chancesOf_30 rfl <| z_cS (pc := 31) C dX11_chancesOf_31 S_X11_power (zl3 w_782 w_783 w_1) w_784 ds_X11_power (zrm rfl rfl (by decide) (by decide)) <| z_bi (pc := 34) C dX11_chancesOf_34 (by decide +kernel) <| z_iln (pc := 36) C dX11_chancesOf_36 rfl <| z_isub (pc := 37) C dX11_chancesOf_37 <| z_il (pc := 38) C dX11_chancesOf_38 <| z_cS (pc := 40) C dX11_chancesOf_40 S_X11_power (zl3 w_782 w_783 w_1) w_784 ds_X11_power (zrm rfl rfl (by decide) (by decide)) <| z_lmul (pc := 43) C dX11_chancesOf_43 <| z_lr C hr hk dX11_chancesOf_44)
  | b + 1 => exact fun _ _ _ h => h.elim
theorem dX11_commonDivisor_0 : decode cX11_commonDivisor 0 = .ok (.lload_n 2, 1) := by decide +kernel
theorem dX11_commonDivisor_1 : decode cX11_commonDivisor 1 = .ok (.lstore 4, 2) := by decide +kernel
theorem dX11_commonDivisor_3 : decode cX11_commonDivisor 3 = .ok (.lload_n 0, 1) := by decide +kernel
theorem dX11_commonDivisor_4 : decode cX11_commonDivisor 4 = .ok (.lstore 6, 2) := by decide +kernel
theorem dX11_commonDivisor_6 : decode cX11_commonDivisor 6 = .ok (.iconst 0, 1) := by decide +kernel
theorem dX11_commonDivisor_7 : decode cX11_commonDivisor 7 = .ok (.istore 8, 2) := by decide +kernel
theorem dX11_commonDivisor_9 : decode cX11_commonDivisor 9 = .ok (.iload 8, 2) := by decide +kernel
theorem dX11_commonDivisor_11 : decode cX11_commonDivisor 11 = .ok (.sipush 128, 3) := by decide +kernel
theorem dX11_commonDivisor_14 : decode cX11_commonDivisor 14 = .ok (.if_icmp .ge 31, 3) := by decide +kernel
theorem dX11_commonDivisor_17 : decode cX11_commonDivisor 17 = .ok (.lload 6, 2) := by decide +kernel
theorem dX11_commonDivisor_19 : decode cX11_commonDivisor 19 = .ok (.lconst 0, 1) := by decide +kernel
theorem dX11_commonDivisor_20 : decode cX11_commonDivisor 20 = .ok (.lcmp, 1) := by decide +kernel
theorem dX11_commonDivisor_21 : decode cX11_commonDivisor 21 = .ok (.ifCond .eq 24, 3) := by decide +kernel
theorem dX11_commonDivisor_24 : decode cX11_commonDivisor 24 = .ok (.lload 4, 2) := by decide +kernel
theorem dX11_commonDivisor_26 : decode cX11_commonDivisor 26 = .ok (.lload 6, 2) := by decide +kernel
theorem dX11_commonDivisor_28 : decode cX11_commonDivisor 28 = .ok (.lrem, 1) := by decide +kernel
theorem dX11_commonDivisor_29 : decode cX11_commonDivisor 29 = .ok (.lstore 9, 2) := by decide +kernel
theorem dX11_commonDivisor_31 : decode cX11_commonDivisor 31 = .ok (.lload 6, 2) := by decide +kernel
theorem dX11_commonDivisor_33 : decode cX11_commonDivisor 33 = .ok (.lstore 4, 2) := by decide +kernel
theorem dX11_commonDivisor_35 : decode cX11_commonDivisor 35 = .ok (.lload 9, 2) := by decide +kernel
theorem dX11_commonDivisor_37 : decode cX11_commonDivisor 37 = .ok (.lstore 6, 2) := by decide +kernel
theorem dX11_commonDivisor_39 : decode cX11_commonDivisor 39 = .ok (.iinc 8 1, 3) := by decide +kernel
theorem dX11_commonDivisor_42 : decode cX11_commonDivisor 42 = .ok (.goto (-33), 3) := by decide +kernel
theorem dX11_commonDivisor_45 : decode cX11_commonDivisor 45 = .ok (.lload 4, 2) := by decide +kernel
theorem dX11_commonDivisor_47 : decode cX11_commonDivisor 47 = .ok (.lreturn, 1) := by decide +kernel
def P_X11_commonDivisor : Nat → Nat
  | 1 => 9
  | _ => 0
set_option maxRecDepth 100000 in
set_option maxHeartbeats 4000000 in
theorem S_X11_commonDivisor : zSd yX11_commonDivisor cX11_commonDivisor 11 (some .long) { frames := 0, cells := 0, slots := 0, locals := 0 } T_X11_commonDivisor := by
  refine zMet (pcs := P_X11_commonDivisor) (F := F_X11_commonDivisor) (by decide) rfl ?_
  intro p l e s m args below meth c D ids ad A Q Y C hr hk hY b
  match b with
  | 0 => exact (z_lln (pc := 0) C dX11_commonDivisor_0 rfl <| z_lst (pc := 1) C dX11_commonDivisor_1 (by decide) <| z_lln (pc := 3) C dX11_commonDivisor_3 rfl <| z_lst (pc := 4) C dX11_commonDivisor_4 (by decide) <| z_ic (pc := 6) C dX11_commonDivisor_6 (by decide +kernel) <| z_is (pc := 7) C dX11_commonDivisor_7 (by decide) <| z_jmp (hY 1))
  | 1 => exact (z_il (pc := 9) C dX11_commonDivisor_9 <| z_si (pc := 11) C dX11_commonDivisor_11 (by decide +kernel) <| z_cmpge (tgt := 45) (pc := 14) C dX11_commonDivisor_14 (by decide) (z_ll (pc := 45) C dX11_commonDivisor_45 <| z_lr C hr hk dX11_commonDivisor_47) <| z_ll (pc := 17) C dX11_commonDivisor_17 <| z_lc (pc := 19) C dX11_commonDivisor_19 (by decide +kernel) <| z_lcmp (pc := 20) C dX11_commonDivisor_20 <| z_ifeq (tgt := 45) (pc := 21) C dX11_commonDivisor_21 (by decide) (z_ll (pc := 45) C dX11_commonDivisor_45 <| z_lr C hr hk dX11_commonDivisor_47) <| z_ll (pc := 24) C dX11_commonDivisor_24 <| z_ll (pc := 26) C dX11_commonDivisor_26 <| z_lrem (pc := 28) C dX11_commonDivisor_28 <| z_lst (pc := 29) C dX11_commonDivisor_29 (by decide) <| z_ll (pc := 31) C dX11_commonDivisor_31 <| z_lst (pc := 33) C dX11_commonDivisor_33 (by decide) <| z_ll (pc := 35) C dX11_commonDivisor_35 <| z_lst (pc := 37) C dX11_commonDivisor_37 (by decide) <| z_inc (pc := 39) C dX11_commonDivisor_39 (by decide +kernel) (by decide) <| z_goto (tgt := 9) (pc := 42) C dX11_commonDivisor_42 (by decide) <| z_jmp (hY 1))
  | b + 2 => exact fun _ _ _ h => h.elim
theorem dX11_keepFraction_0 : decode cX11_keepFraction 0 = .ok (.lload_n 1, 1) := by decide +kernel
theorem dX11_keepFraction_1 : decode cX11_keepFraction 1 = .ok (.lload_n 3, 1) := by decide +kernel
theorem dX11_keepFraction_2 : decode cX11_keepFraction 2 = .ok (.invokestatic 278, 3) := by decide +kernel
theorem dX11_keepFraction_5 : decode cX11_keepFraction 5 = .ok (.lstore 5, 2) := by decide +kernel
theorem dX11_keepFraction_7 : decode cX11_keepFraction 7 = .ok (.lload 5, 2) := by decide +kernel
theorem dX11_keepFraction_9 : decode cX11_keepFraction 9 = .ok (.lconst 0, 1) := by decide +kernel
theorem dX11_keepFraction_10 : decode cX11_keepFraction 10 = .ok (.lcmp, 1) := by decide +kernel
theorem dX11_keepFraction_11 : decode cX11_keepFraction 11 = .ok (.ifCond .le 19, 3) := by decide +kernel
theorem dX11_keepFraction_14 : decode cX11_keepFraction 14 = .ok (.aload_n 0, 1) := by decide +kernel
theorem dX11_keepFraction_15 : decode cX11_keepFraction 15 = .ok (.lload_n 1, 1) := by decide +kernel
theorem dX11_keepFraction_16 : decode cX11_keepFraction 16 = .ok (.lload 5, 2) := by decide +kernel
theorem dX11_keepFraction_18 : decode cX11_keepFraction 18 = .ok (.ldiv, 1) := by decide +kernel
theorem dX11_keepFraction_19 : decode cX11_keepFraction 19 = .ok (.putfield 59, 3) := by decide +kernel
theorem dX11_keepFraction_22 : decode cX11_keepFraction 22 = .ok (.aload_n 0, 1) := by decide +kernel
theorem dX11_keepFraction_23 : decode cX11_keepFraction 23 = .ok (.lload_n 3, 1) := by decide +kernel
theorem dX11_keepFraction_24 : decode cX11_keepFraction 24 = .ok (.lload 5, 2) := by decide +kernel
theorem dX11_keepFraction_26 : decode cX11_keepFraction 26 = .ok (.ldiv, 1) := by decide +kernel
theorem dX11_keepFraction_27 : decode cX11_keepFraction 27 = .ok (.putfield 63, 3) := by decide +kernel
theorem dX11_keepFraction_30 : decode cX11_keepFraction 30 = .ok (.return_, 1) := by decide +kernel
def P_X11_keepFraction : Nat → Nat
  | _ => 0
set_option maxRecDepth 100000 in
set_option maxHeartbeats 4000000 in
theorem S_X11_keepFraction : zSd yX11_keepFraction cX11_keepFraction 7 none { frames := 1, cells := 0, slots := 0, locals := 30 } T_X11_keepFraction := by
  refine zMet (pcs := P_X11_keepFraction) (F := F_X11_keepFraction) (by decide) rfl ?_
  intro p l e s m args below meth c D ids ad A Q Y C hr hk hY b
  match b with
  | 0 => exact (z_lln (pc := 0) C dX11_keepFraction_0 rfl <| z_lln (pc := 1) C dX11_keepFraction_1 rfl <| z_cS (pc := 2) C dX11_keepFraction_2 S_X11_commonDivisor (zl3 w_789 w_790 w_1) w_791 ds_X11_commonDivisor (zrm rfl rfl (by decide) (by decide)) <| z_lst (pc := 5) C dX11_keepFraction_5 (by decide) <| z_ll (pc := 7) C dX11_keepFraction_7 <| z_lc (pc := 9) C dX11_keepFraction_9 (by decide +kernel) <| z_lcmp (pc := 10) C dX11_keepFraction_10 <| z_ifle (tgt := 30) (pc := 11) C dX11_keepFraction_11 (by decide) (z_vr C hr hk dX11_keepFraction_30) <| z_aln (pc := 14) C dX11_keepFraction_14 rfl <| z_lln (pc := 15) C dX11_keepFraction_15 rfl <| z_ll (pc := 16) C dX11_keepFraction_16 <| z_ldiv (pc := 18) C dX11_keepFraction_18 <| z_pfl (pc := 19) C dX11_keepFraction_19 fp_11_59 <| z_aln (pc := 22) C dX11_keepFraction_22 rfl <| z_lln (pc := 23) C dX11_keepFraction_23 rfl <| z_ll (pc := 24) C dX11_keepFraction_24 <| z_ldiv (pc := 26) C dX11_keepFraction_26 <| z_pfl (pc := 27) C dX11_keepFraction_27 fp_11_63 <| z_vr C hr hk dX11_keepFraction_30)
  | b + 1 => exact fun _ _ _ h => h.elim
theorem dX11_colds_0 : decode cX11_colds 0 = .ok (.iload_n 1, 1) := by decide +kernel
theorem dX11_colds_1 : decode cX11_colds 1 = .ok (.invokestatic 148, 3) := by decide +kernel
theorem dX11_colds_4 : decode cX11_colds 4 = .ok (.ifCond .eq 13, 3) := by decide +kernel
theorem dX11_colds_7 : decode cX11_colds 7 = .ok (.iload_n 2, 1) := by decide +kernel
theorem dX11_colds_8 : decode cX11_colds 8 = .ok (.iconst 0, 1) := by decide +kernel
theorem dX11_colds_9 : decode cX11_colds 9 = .ok (.bipush 10, 2) := by decide +kernel
theorem dX11_colds_11 : decode cX11_colds 11 = .ok (.invokestatic 66, 3) := by decide +kernel
theorem dX11_colds_14 : decode cX11_colds 14 = .ok (.ifCond .ne 10, 3) := by decide +kernel
theorem dX11_colds_17 : decode cX11_colds 17 = .ok (.aload_n 0, 1) := by decide +kernel
theorem dX11_colds_18 : decode cX11_colds 18 = .ok (.bipush (-2), 2) := by decide +kernel
theorem dX11_colds_20 : decode cX11_colds 20 = .ok (.invokevirtual 70, 3) := by decide +kernel
theorem dX11_colds_23 : decode cX11_colds 23 = .ok (.ireturn, 1) := by decide +kernel
theorem dX11_colds_24 : decode cX11_colds 24 = .ok (.aload_n 0, 1) := by decide +kernel
theorem dX11_colds_25 : decode cX11_colds 25 = .ok (.getfield 37, 3) := by decide +kernel
theorem dX11_colds_28 : decode cX11_colds 28 = .ok (.aload_n 0, 1) := by decide +kernel
theorem dX11_colds_29 : decode cX11_colds 29 = .ok (.getfield 12, 3) := by decide +kernel
theorem dX11_colds_32 : decode cX11_colds 32 = .ok (.invokevirtual 151, 3) := by decide +kernel
theorem dX11_colds_35 : decode cX11_colds 35 = .ok (.lconst 0, 1) := by decide +kernel
theorem dX11_colds_36 : decode cX11_colds 36 = .ok (.lstore_n 3, 1) := by decide +kernel
theorem dX11_colds_37 : decode cX11_colds 37 = .ok (.iconst 0, 1) := by decide +kernel
theorem dX11_colds_38 : decode cX11_colds 38 = .ok (.istore 5, 2) := by decide +kernel
theorem dX11_colds_40 : decode cX11_colds 40 = .ok (.iload 5, 2) := by decide +kernel
theorem dX11_colds_42 : decode cX11_colds 42 = .ok (.aload_n 0, 1) := by decide +kernel
theorem dX11_colds_43 : decode cX11_colds 43 = .ok (.getfield 12, 3) := by decide +kernel
theorem dX11_colds_46 : decode cX11_colds 46 = .ok (.invokevirtual 194, 3) := by decide +kernel
theorem dX11_colds_49 : decode cX11_colds 49 = .ok (.if_icmp .ge 52, 3) := by decide +kernel
theorem dX11_colds_52 : decode cX11_colds 52 = .ok (.iload 5, 2) := by decide +kernel
theorem dX11_colds_54 : decode cX11_colds 54 = .ok (.aload_n 0, 1) := by decide +kernel
theorem dX11_colds_55 : decode cX11_colds 55 = .ok (.getfield 12, 3) := by decide +kernel
theorem dX11_colds_58 : decode cX11_colds 58 = .ok (.getfield 127, 3) := by decide +kernel
theorem dX11_colds_61 : decode cX11_colds 61 = .ok (.iand, 1) := by decide +kernel
theorem dX11_colds_62 : decode cX11_colds 62 = .ok (.aload_n 0, 1) := by decide +kernel
theorem dX11_colds_63 : decode cX11_colds 63 = .ok (.getfield 12, 3) := by decide +kernel
theorem dX11_colds_66 : decode cX11_colds 66 = .ok (.getfield 127, 3) := by decide +kernel
theorem dX11_colds_69 : decode cX11_colds 69 = .ok (.if_icmp .ne 26, 3) := by decide +kernel
theorem dX11_colds_72 : decode cX11_colds 72 = .ok (.aload_n 0, 1) := by decide +kernel
theorem dX11_colds_73 : decode cX11_colds 73 = .ok (.getfield 37, 3) := by decide +kernel
theorem dX11_colds_76 : decode cX11_colds 76 = .ok (.iload_n 1, 1) := by decide +kernel
theorem dX11_colds_77 : decode cX11_colds 77 = .ok (.iload 5, 2) := by decide +kernel
theorem dX11_colds_79 : decode cX11_colds 79 = .ok (.invokevirtual 170, 3) := by decide +kernel
theorem dX11_colds_82 : decode cX11_colds 82 = .ok (.ifCond .eq 13, 3) := by decide +kernel
theorem dX11_colds_85 : decode cX11_colds 85 = .ok (.lload_n 3, 1) := by decide +kernel
theorem dX11_colds_86 : decode cX11_colds 86 = .ok (.aload_n 0, 1) := by decide +kernel
theorem dX11_colds_87 : decode cX11_colds 87 = .ok (.iload 5, 2) := by decide +kernel
theorem dX11_colds_89 : decode cX11_colds 89 = .ok (.iload_n 2, 1) := by decide +kernel
theorem dX11_colds_90 : decode cX11_colds 90 = .ok (.invokevirtual 234, 3) := by decide +kernel
theorem dX11_colds_93 : decode cX11_colds 93 = .ok (.ladd, 1) := by decide +kernel
theorem dX11_colds_94 : decode cX11_colds 94 = .ok (.lstore_n 3, 1) := by decide +kernel
theorem dX11_colds_95 : decode cX11_colds 95 = .ok (.iinc 5 1, 3) := by decide +kernel
theorem dX11_colds_98 : decode cX11_colds 98 = .ok (.goto (-58), 3) := by decide +kernel
theorem dX11_colds_101 : decode cX11_colds 101 = .ok (.aload_n 0, 1) := by decide +kernel
theorem dX11_colds_102 : decode cX11_colds 102 = .ok (.lload_n 3, 1) := by decide +kernel
theorem dX11_colds_103 : decode cX11_colds 103 = .ok (.bipush 10, 2) := by decide +kernel
theorem dX11_colds_105 : decode cX11_colds 105 = .ok (.aload_n 0, 1) := by decide +kernel
theorem dX11_colds_106 : decode cX11_colds 106 = .ok (.getfield 12, 3) := by decide +kernel
theorem dX11_colds_109 : decode cX11_colds 109 = .ok (.getfield 74, 3) := by decide +kernel
theorem dX11_colds_112 : decode cX11_colds 112 = .ok (.aload_n 0, 1) := by decide +kernel
theorem dX11_colds_113 : decode cX11_colds 113 = .ok (.getfield 12, 3) := by decide +kernel
theorem dX11_colds_116 : decode cX11_colds 116 = .ok (.getfield 127, 3) := by decide +kernel
theorem dX11_colds_119 : decode cX11_colds 119 = .ok (.invokestatic 140, 3) := by decide +kernel
theorem dX11_colds_122 : decode cX11_colds 122 = .ok (.isub, 1) := by decide +kernel
theorem dX11_colds_123 : decode cX11_colds 123 = .ok (.invokestatic 238, 3) := by decide +kernel
theorem dX11_colds_126 : decode cX11_colds 126 = .ok (.invokevirtual 241, 3) := by decide +kernel
theorem dX11_colds_129 : decode cX11_colds 129 = .ok (.iconst 1, 1) := by decide +kernel
theorem dX11_colds_130 : decode cX11_colds 130 = .ok (.ireturn, 1) := by decide +kernel
def P_X11_colds : Nat → Nat
  | 1 => 17
  | 2 => 40
  | 3 => 95
  | _ => 0
set_option maxRecDepth 100000 in
set_option maxHeartbeats 4000000 in
theorem S_X11_colds : zSd yX11_colds cX11_colds 6 (some .int) { frames := 4, cells := 0, slots := 0, locals := 93 } T_X11_colds := by
  refine zMet (pcs := P_X11_colds) (F := F_X11_colds) (by decide) rfl ?_
  intro p l e s m args below meth c D ids ad A Q Y C hr hk hY b
  match b with
  | 0 => exact (z_iln (pc := 0) C dX11_colds_0 rfl <| z_cS (pc := 1) C dX11_colds_1 S_X11_isWord (zl3 w_525 w_526 w_1) w_527 ds_X11_isWord (zrm rfl rfl (by decide) (by decide)) <| z_ifeq (tgt := 17) (pc := 4) C dX11_colds_4 (by decide) (z_jmp (hY 1)) <| z_iln (pc := 7) C dX11_colds_7 rfl <| z_ic (pc := 8) C dX11_colds_8 (by decide +kernel) <| z_bi (pc := 9) C dX11_colds_9 (by decide +kernel) <| z_cS (pc := 11) C dX11_colds_11 S_X11_within (zl3 w_308 w_309 w_1) w_310 ds_X11_within (zrm rfl rfl (by decide) (by decide)) <| z_ifne (tgt := 24) (pc := 14) C dX11_colds_14 (by decide) (z_aln (pc := 24) C dX11_colds_24 rfl <| z_gf (pc := 25) C dX11_colds_25 fl_11_37 <| z_aln (pc := 28) C dX11_colds_28 rfl <| z_gf (pc := 29) C dX11_colds_29 fl_11_12 <| z_cV (pc := 32) C dX11_colds_32 S_X8_hold rfl (zl4 w_528 w_529 w_530 w_4) w_531 ds_X8_hold (zrm rfl rfl (by decide) (by decide)) <| z_lc (pc := 35) C dX11_colds_35 (by decide +kernel) <| z_lstn (pc := 36) C dX11_colds_36 rfl (by decide) <| z_ic (pc := 37) C dX11_colds_37 (by decide +kernel) <| z_is (pc := 38) C dX11_colds_38 (by decide) <| z_jmp (hY 2)) <| z_jmp (hY 1))
  | 1 => exact (z_aln (pc := 17) C dX11_colds_17 rfl <| z_bi (pc := 18) C dX11_colds_18 (by decide +kernel) <| z_cV (pc := 20) C dX11_colds_20 S_X11_refuse rfl (zl4 w_311 w_313 wp_0 w_1) w_314 ds_X11_refuse (zrm rfl rfl (by decide) (by decide)) <| z_ir C hr hk dX11_colds_23)
  | 2 => exact (z_il (pc := 40) C dX11_colds_40 <| z_aln (pc := 42) C dX11_colds_42 rfl <| z_gf (pc := 43) C dX11_colds_43 fl_11_12 <| z_cV (pc := 46) C dX11_colds_46 S_X1_sets rfl (zl4 w_700 w_701 w_702 w_2) w_703 ds_X1_sets (zrm rfl rfl (by decide) (by decide)) <| z_cmpge (tgt := 101) (pc := 49) C dX11_colds_49 (by decide) (z_aln (pc := 101) C dX11_colds_101 rfl <| z_lln (pc := 102) C dX11_colds_102 rfl <| z_bi (pc := 103) C dX11_colds_103 (by decide +kernel) <| z_aln (pc := 105) C dX11_colds_105 rfl <| z_gf (pc := 106) C dX11_colds_106 fl_11_12 <| z_gf (pc := 109) C dX11_colds_109 fl_11_74 <| z_aln (pc := 112) C dX11_colds_112 rfl <| z_gf (pc := 113) C dX11_colds_113 fl_11_12 <| z_gf (pc := 116) C dX11_colds_116 fl_11_127 <| z_cS (pc := 119) C dX11_colds_119 S_J6_bitCount_0f7a4 (zl3 w_506 w_507 w_21) w_508 ds_J6_bitCount_0f7a4 (zrm rfl rfl (by decide) (by decide)) <| z_isub (pc := 122) C dX11_colds_122 <| z_cS (pc := 123) C dX11_colds_123 S_X11_power (zl3 w_782 w_783 w_1) w_784 ds_X11_power (zrm rfl rfl (by decide) (by decide)) <| z_cV (pc := 126) C dX11_colds_126 S_X11_keepFraction rfl (zl4 w_785 w_787 wp_18 w_1) w_788 ds_X11_keepFraction (zrm rfl rfl (by decide) (by decide)) <| z_ic (pc := 129) C dX11_colds_129 (by decide +kernel) <| z_ir C hr hk dX11_colds_130) <| z_il (pc := 52) C dX11_colds_52 <| z_aln (pc := 54) C dX11_colds_54 rfl <| z_gf (pc := 55) C dX11_colds_55 fl_11_12 <| z_gf (pc := 58) C dX11_colds_58 fl_11_127 <| z_iand (pc := 61) C dX11_colds_61 <| z_aln (pc := 62) C dX11_colds_62 rfl <| z_gf (pc := 63) C dX11_colds_63 fl_11_12 <| z_gf (pc := 66) C dX11_colds_66 fl_11_127 <| z_cmpne (tgt := 95) (pc := 69) C dX11_colds_69 (by decide) (z_jmp (hY 3)) <| z_aln (pc := 72) C dX11_colds_72 rfl <| z_gf (pc := 73) C dX11_colds_73 fl_11_37 <| z_iln (pc := 76) C dX11_colds_76 rfl <| z_il (pc := 77) C dX11_colds_77 <| z_cV (pc := 79) C dX11_colds_79 S_X8_isPeaceful rfl (zl4 w_635 w_636 w_637 w_4) w_638 ds_X8_isPeaceful (zrm rfl rfl (by decide) (by decide)) <| z_ifeq (tgt := 95) (pc := 82) C dX11_colds_82 (by decide) (z_jmp (hY 3)) <| z_lln (pc := 85) C dX11_colds_85 rfl <| z_aln (pc := 86) C dX11_colds_86 rfl <| z_il (pc := 87) C dX11_colds_87 <| z_iln (pc := 89) C dX11_colds_89 rfl <| z_cV (pc := 90) C dX11_colds_90 S_X11_chancesOf rfl (zl4 w_778 w_780 wp_17 w_1) w_781 ds_X11_chancesOf (zrm rfl rfl (by decide) (by decide)) <| z_ladd (pc := 93) C dX11_colds_93 <| z_lstn (pc := 94) C dX11_colds_94 rfl (by decide) <| z_jmp (hY 3))
  | 3 => exact (z_inc (pc := 95) C dX11_colds_95 (by decide +kernel) (by decide) <| z_goto (tgt := 40) (pc := 98) C dX11_colds_98 (by decide) <| z_jmp (hY 2))
  | b + 4 => exact fun _ _ _ h => h.elim
theorem dX11_sundays_0 : decode cX11_sundays 0 = .ok (.iload_n 1, 1) := by decide +kernel
theorem dX11_sundays_1 : decode cX11_sundays 1 = .ok (.iconst 0, 1) := by decide +kernel
theorem dX11_sundays_2 : decode cX11_sundays 2 = .ok (.ldc 245, 2) := by decide +kernel
theorem dX11_sundays_4 : decode cX11_sundays 4 = .ok (.invokestatic 66, 3) := by decide +kernel
theorem dX11_sundays_7 : decode cX11_sundays 7 = .ok (.ifCond .eq 13, 3) := by decide +kernel
theorem dX11_sundays_10 : decode cX11_sundays 10 = .ok (.iload_n 2, 1) := by decide +kernel
theorem dX11_sundays_11 : decode cX11_sundays 11 = .ok (.iconst 0, 1) := by decide +kernel
theorem dX11_sundays_12 : decode cX11_sundays 12 = .ok (.bipush 60, 2) := by decide +kernel
theorem dX11_sundays_14 : decode cX11_sundays 14 = .ok (.invokestatic 66, 3) := by decide +kernel
theorem dX11_sundays_17 : decode cX11_sundays 17 = .ok (.ifCond .ne 10, 3) := by decide +kernel
theorem dX11_sundays_20 : decode cX11_sundays 20 = .ok (.aload_n 0, 1) := by decide +kernel
theorem dX11_sundays_21 : decode cX11_sundays 21 = .ok (.bipush (-2), 2) := by decide +kernel
theorem dX11_sundays_23 : decode cX11_sundays 23 = .ok (.invokevirtual 70, 3) := by decide +kernel
theorem dX11_sundays_26 : decode cX11_sundays 26 = .ok (.ireturn, 1) := by decide +kernel
theorem dX11_sundays_27 : decode cX11_sundays 27 = .ok (.aload_n 0, 1) := by decide +kernel
theorem dX11_sundays_28 : decode cX11_sundays 28 = .ok (.getfield 37, 3) := by decide +kernel
theorem dX11_sundays_31 : decode cX11_sundays 31 = .ok (.aload_n 0, 1) := by decide +kernel
theorem dX11_sundays_32 : decode cX11_sundays 32 = .ok (.getfield 12, 3) := by decide +kernel
theorem dX11_sundays_35 : decode cX11_sundays 35 = .ok (.invokevirtual 151, 3) := by decide +kernel
theorem dX11_sundays_38 : decode cX11_sundays 38 = .ok (.iload_n 1, 1) := by decide +kernel
theorem dX11_sundays_39 : decode cX11_sundays 39 = .ok (.i2l, 1) := by decide +kernel
theorem dX11_sundays_40 : decode cX11_sundays 40 = .ok (.lstore_n 3, 1) := by decide +kernel
theorem dX11_sundays_41 : decode cX11_sundays 41 = .ok (.iconst 0, 1) := by decide +kernel
theorem dX11_sundays_42 : decode cX11_sundays 42 = .ok (.istore 5, 2) := by decide +kernel
theorem dX11_sundays_44 : decode cX11_sundays 44 = .ok (.iconst 0, 1) := by decide +kernel
theorem dX11_sundays_45 : decode cX11_sundays 45 = .ok (.istore 6, 2) := by decide +kernel
theorem dX11_sundays_47 : decode cX11_sundays 47 = .ok (.iload 6, 2) := by decide +kernel
theorem dX11_sundays_49 : decode cX11_sundays 49 = .ok (.iload_n 2, 1) := by decide +kernel
theorem dX11_sundays_50 : decode cX11_sundays 50 = .ok (.if_icmp .ge 85, 3) := by decide +kernel
theorem dX11_sundays_53 : decode cX11_sundays 53 = .ok (.iconst 0, 1) := by decide +kernel
theorem dX11_sundays_54 : decode cX11_sundays 54 = .ok (.istore 7, 2) := by decide +kernel
theorem dX11_sundays_56 : decode cX11_sundays 56 = .ok (.iconst 0, 1) := by decide +kernel
theorem dX11_sundays_57 : decode cX11_sundays 57 = .ok (.istore 8, 2) := by decide +kernel
theorem dX11_sundays_59 : decode cX11_sundays 59 = .ok (.iload 8, 2) := by decide +kernel
theorem dX11_sundays_61 : decode cX11_sundays 61 = .ok (.aload_n 0, 1) := by decide +kernel
theorem dX11_sundays_62 : decode cX11_sundays 62 = .ok (.getfield 12, 3) := by decide +kernel
theorem dX11_sundays_65 : decode cX11_sundays 65 = .ok (.getfield 74, 3) := by decide +kernel
theorem dX11_sundays_68 : decode cX11_sundays 68 = .ok (.if_icmp .ge 46, 3) := by decide +kernel
theorem dX11_sundays_71 : decode cX11_sundays 71 = .ok (.lload_n 3, 1) := by decide +kernel
theorem dX11_sundays_72 : decode cX11_sundays 72 = .ok (.ldc2_w 246, 3) := by decide +kernel
theorem dX11_sundays_75 : decode cX11_sundays 75 = .ok (.lmul, 1) := by decide +kernel
theorem dX11_sundays_76 : decode cX11_sundays 76 = .ok (.ldc2_w 248, 3) := by decide +kernel
theorem dX11_sundays_79 : decode cX11_sundays 79 = .ok (.ladd, 1) := by decide +kernel
theorem dX11_sundays_80 : decode cX11_sundays 80 = .ok (.ldc2_w 250, 3) := by decide +kernel
theorem dX11_sundays_83 : decode cX11_sundays 83 = .ok (.lrem, 1) := by decide +kernel
theorem dX11_sundays_84 : decode cX11_sundays 84 = .ok (.lstore_n 3, 1) := by decide +kernel
theorem dX11_sundays_85 : decode cX11_sundays 85 = .ok (.lload_n 3, 1) := by decide +kernel
theorem dX11_sundays_86 : decode cX11_sundays 86 = .ok (.ldc2_w 252, 3) := by decide +kernel
theorem dX11_sundays_89 : decode cX11_sundays 89 = .ok (.ldiv, 1) := by decide +kernel
theorem dX11_sundays_90 : decode cX11_sundays 90 = .ok (.ldc2_w 254, 3) := by decide +kernel
theorem dX11_sundays_93 : decode cX11_sundays 93 = .ok (.lrem, 1) := by decide +kernel
theorem dX11_sundays_94 : decode cX11_sundays 94 = .ok (.lconst 0, 1) := by decide +kernel
theorem dX11_sundays_95 : decode cX11_sundays 95 = .ok (.lcmp, 1) := by decide +kernel
theorem dX11_sundays_96 : decode cX11_sundays 96 = .ok (.ifCond .ne 12, 3) := by decide +kernel
theorem dX11_sundays_99 : decode cX11_sundays 99 = .ok (.iload 7, 2) := by decide +kernel
theorem dX11_sundays_101 : decode cX11_sundays 101 = .ok (.iconst 1, 1) := by decide +kernel
theorem dX11_sundays_102 : decode cX11_sundays 102 = .ok (.iload 8, 2) := by decide +kernel
theorem dX11_sundays_104 : decode cX11_sundays 104 = .ok (.ishl, 1) := by decide +kernel
theorem dX11_sundays_105 : decode cX11_sundays 105 = .ok (.ior, 1) := by decide +kernel
theorem dX11_sundays_106 : decode cX11_sundays 106 = .ok (.istore 7, 2) := by decide +kernel
theorem dX11_sundays_108 : decode cX11_sundays 108 = .ok (.iinc 8 1, 3) := by decide +kernel
theorem dX11_sundays_111 : decode cX11_sundays 111 = .ok (.goto (-52), 3) := by decide +kernel
theorem dX11_sundays_114 : decode cX11_sundays 114 = .ok (.aload_n 0, 1) := by decide +kernel
theorem dX11_sundays_115 : decode cX11_sundays 115 = .ok (.getfield 37, 3) := by decide +kernel
theorem dX11_sundays_118 : decode cX11_sundays 118 = .ok (.iload 7, 2) := by decide +kernel
theorem dX11_sundays_120 : decode cX11_sundays 120 = .ok (.invokevirtual 197, 3) := by decide +kernel
theorem dX11_sundays_123 : decode cX11_sundays 123 = .ok (.ifCond .eq 6, 3) := by decide +kernel
theorem dX11_sundays_126 : decode cX11_sundays 126 = .ok (.iinc 5 1, 3) := by decide +kernel
theorem dX11_sundays_129 : decode cX11_sundays 129 = .ok (.iinc 6 1, 3) := by decide +kernel
theorem dX11_sundays_132 : decode cX11_sundays 132 = .ok (.goto (-85), 3) := by decide +kernel
theorem dX11_sundays_135 : decode cX11_sundays 135 = .ok (.iload 5, 2) := by decide +kernel
theorem dX11_sundays_137 : decode cX11_sundays 137 = .ok (.ireturn, 1) := by decide +kernel
def P_X11_sundays : Nat → Nat
  | 1 => 20
  | 2 => 47
  | 3 => 59
  | 4 => 108
  | 5 => 129
  | _ => 0
set_option maxRecDepth 100000 in
set_option maxHeartbeats 4000000 in
theorem S_X11_sundays : zSd yX11_sundays cX11_sundays 9 (some .int) { frames := 4, cells := 0, slots := 0, locals := 93 } T_X11_sundays := by
  refine zMet (pcs := P_X11_sundays) (F := F_X11_sundays) (by decide) rfl ?_
  intro p l e s m args below meth c D ids ad A Q Y C hr hk hY b
  match b with
  | 0 => exact (z_iln (pc := 0) C dX11_sundays_0 rfl <| z_ic (pc := 1) C dX11_sundays_1 (by decide +kernel) <| z_ldc (pc := 2) C dX11_sundays_2 w_796 <| z_cS (pc := 4) C dX11_sundays_4 S_X11_within (zl3 w_308 w_309 w_1) w_310 ds_X11_within (zrm rfl rfl (by decide) (by decide)) <| z_ifeq (tgt := 20) (pc := 7) C dX11_sundays_7 (by decide) (z_jmp (hY 1)) <| z_iln (pc := 10) C dX11_sundays_10 rfl <| z_ic (pc := 11) C dX11_sundays_11 (by decide +kernel) <| z_bi (pc := 12) C dX11_sundays_12 (by decide +kernel) <| z_cS (pc := 14) C dX11_sundays_14 S_X11_within (zl3 w_308 w_309 w_1) w_310 ds_X11_within (zrm rfl rfl (by decide) (by decide)) <| z_ifne (tgt := 27) (pc := 17) C dX11_sundays_17 (by decide) (z_aln (pc := 27) C dX11_sundays_27 rfl <| z_gf (pc := 28) C dX11_sundays_28 fl_11_37 <| z_aln (pc := 31) C dX11_sundays_31 rfl <| z_gf (pc := 32) C dX11_sundays_32 fl_11_12 <| z_cV (pc := 35) C dX11_sundays_35 S_X8_hold rfl (zl4 w_528 w_529 w_530 w_4) w_531 ds_X8_hold (zrm rfl rfl (by decide) (by decide)) <| z_iln (pc := 38) C dX11_sundays_38 rfl <| z_i2l (pc := 39) C dX11_sundays_39 <| z_lstn (pc := 40) C dX11_sundays_40 rfl (by decide) <| z_ic (pc := 41) C dX11_sundays_41 (by decide +kernel) <| z_is (pc := 42) C dX11_sundays_42 (by decide) <| z_ic (pc := 44) C dX11_sundays_44 (by decide +kernel) <| z_is (pc := 45) C dX11_sundays_45 (by decide) <| z_jmp (hY 2)) <| z_jmp (hY 1))
  | 1 => exact (z_aln (pc := 20) C dX11_sundays_20 rfl <| z_bi (pc := 21) C dX11_sundays_21 (by decide +kernel) <| z_cV (pc := 23) C dX11_sundays_23 S_X11_refuse rfl (zl4 w_311 w_313 wp_0 w_1) w_314 ds_X11_refuse (zrm rfl rfl (by decide) (by decide)) <| z_ir C hr hk dX11_sundays_26)
  | 2 => exact (z_il (pc := 47) C dX11_sundays_47 <| z_iln (pc := 49) C dX11_sundays_49 rfl <| z_cmpge (tgt := 135) (pc := 50) C dX11_sundays_50 (by decide) (z_il (pc := 135) C dX11_sundays_135 <| z_ir C hr hk dX11_sundays_137) <| z_ic (pc := 53) C dX11_sundays_53 (by decide +kernel) <| z_is (pc := 54) C dX11_sundays_54 (by decide) <| z_ic (pc := 56) C dX11_sundays_56 (by decide +kernel) <| z_is (pc := 57) C dX11_sundays_57 (by decide) <| z_jmp (hY 3))
  | 3 => exact (z_il (pc := 59) C dX11_sundays_59 <| z_aln (pc := 61) C dX11_sundays_61 rfl <| z_gf (pc := 62) C dX11_sundays_62 fl_11_12 <| z_gf (pc := 65) C dX11_sundays_65 fl_11_74 <| z_cmpge (tgt := 114) (pc := 68) C dX11_sundays_68 (by decide) (z_aln (pc := 114) C dX11_sundays_114 rfl <| z_gf (pc := 115) C dX11_sundays_115 fl_11_37 <| z_il (pc := 118) C dX11_sundays_118 <| z_cV (pc := 120) C dX11_sundays_120 S_X8_isPeacefulThroughout rfl (zl4 w_704 w_705 w_706 w_4) w_707 ds_X8_isPeacefulThroughout (zrm rfl rfl (by decide) (by decide)) <| z_ifeq (tgt := 129) (pc := 123) C dX11_sundays_123 (by decide) (z_jmp (hY 5)) <| z_inc (pc := 126) C dX11_sundays_126 (by decide +kernel) (by decide) <| z_jmp (hY 5)) <| z_lln (pc := 71) C dX11_sundays_71 rfl <| z_ldc2 (pc := 72) C dX11_sundays_72 w_797 <| z_lmul (pc := 75) C dX11_sundays_75 <| z_ldc2 (pc := 76) C dX11_sundays_76 w_798 <| z_ladd (pc := 79) C dX11_sundays_79 <| z_ldc2 (pc := 80) C dX11_sundays_80 w_799 <| z_lrem (pc := 83) C dX11_sundays_83 <| z_lstn (pc := 84) C dX11_sundays_84 rfl (by decide) <| z_lln (pc := 85) C dX11_sundays_85 rfl <| z_ldc2 (pc := 86) C dX11_sundays_86 w_800 <| z_ldiv (pc := 89) C dX11_sundays_89 <| z_ldc2 (pc := 90) C dX11_sundays_90 w_801 <| z_lrem (pc := 93) C dX11_sundays_93 <| z_lc (pc := 94) C dX11_sundays_94 (by decide +kernel) <| z_lcmp (pc := 95) C dX11_sundays_95 <| z_ifne (tgt := 108) (pc := 96) C dX11_sundays_96 (by decide) (z_jmp (hY 4)) <| z_il (pc := 99) C dX11_sundays_99 <| z_ic (pc := 101) C dX11_sundays_101 (by decide +kernel) <| z_il (pc := 102) C dX11_sundays_102 <| z_ishl (pc := 104) C dX11_sundays_104 <| z_ior (pc := 105) C dX11_sundays_105 <| z_is (pc := 106) C dX11_sundays_106 (by decide) <| z_jmp (hY 4))
  | 4 => exact (z_inc (pc := 108) C dX11_sundays_108 (by decide +kernel) (by decide) <| z_goto (tgt := 59) (pc := 111) C dX11_sundays_111 (by decide) <| z_jmp (hY 3))
  | 5 => exact (z_inc (pc := 129) C dX11_sundays_129 (by decide +kernel) (by decide) <| z_goto (tgt := 47) (pc := 132) C dX11_sundays_132 (by decide) <| z_jmp (hY 2))
  | b + 6 => exact fun _ _ _ h => h.elim
theorem dX11_part_0 : decode cX11_part 0 = .ok (.iload_n 1, 1) := by decide +kernel
theorem dX11_part_1 : decode cX11_part 1 = .ok (.iconst 0, 1) := by decide +kernel
theorem dX11_part_2 : decode cX11_part 2 = .ok (.iconst 1, 1) := by decide +kernel
theorem dX11_part_3 : decode cX11_part 3 = .ok (.invokestatic 66, 3) := by decide +kernel
theorem dX11_part_6 : decode cX11_part 6 = .ok (.ifCond .ne 11, 3) := by decide +kernel
theorem dX11_part_9 : decode cX11_part 9 = .ok (.aload_n 0, 1) := by decide +kernel
theorem dX11_part_10 : decode cX11_part 10 = .ok (.bipush (-2), 2) := by decide +kernel
theorem dX11_part_12 : decode cX11_part 12 = .ok (.invokevirtual 70, 3) := by decide +kernel
theorem dX11_part_15 : decode cX11_part 15 = .ok (.i2l, 1) := by decide +kernel
theorem dX11_part_16 : decode cX11_part 16 = .ok (.lreturn, 1) := by decide +kernel
theorem dX11_part_17 : decode cX11_part 17 = .ok (.iload_n 1, 1) := by decide +kernel
theorem dX11_part_18 : decode cX11_part 18 = .ok (.ifCond .ne 10, 3) := by decide +kernel
theorem dX11_part_21 : decode cX11_part 21 = .ok (.aload_n 0, 1) := by decide +kernel
theorem dX11_part_22 : decode cX11_part 22 = .ok (.getfield 59, 3) := by decide +kernel
theorem dX11_part_25 : decode cX11_part 25 = .ok (.goto 7, 3) := by decide +kernel
theorem dX11_part_28 : decode cX11_part 28 = .ok (.aload_n 0, 1) := by decide +kernel
theorem dX11_part_29 : decode cX11_part 29 = .ok (.getfield 63, 3) := by decide +kernel
theorem dX11_part_32 : decode cX11_part 32 = .ok (.lreturn, 1) := by decide +kernel
def P_X11_part : Nat → Nat
  | _ => 0
set_option maxRecDepth 100000 in
set_option maxHeartbeats 4000000 in
theorem S_X11_part : zSd yX11_part cX11_part 2 (some .long) { frames := 1, cells := 0, slots := 0, locals := 22 } T_X11_part := by
  refine zMet (pcs := P_X11_part) (F := F_X11_part) (by decide) rfl ?_
  intro p l e s m args below meth c D ids ad A Q Y C hr hk hY b
  match b with
  | 0 => exact (z_iln (pc := 0) C dX11_part_0 rfl <| z_ic (pc := 1) C dX11_part_1 (by decide +kernel) <| z_ic (pc := 2) C dX11_part_2 (by decide +kernel) <| z_cS (pc := 3) C dX11_part_3 S_X11_within (zl3 w_308 w_309 w_1) w_310 ds_X11_within (zrm rfl rfl (by decide) (by decide)) <| z_ifne (tgt := 17) (pc := 6) C dX11_part_6 (by decide) (z_iln (pc := 17) C dX11_part_17 rfl <| z_ifne (tgt := 28) (pc := 18) C dX11_part_18 (by decide) (z_aln (pc := 28) C dX11_part_28 rfl <| z_gf (pc := 29) C dX11_part_29 fl_11_63 <| z_lr C hr hk dX11_part_32) <| z_aln (pc := 21) C dX11_part_21 rfl <| z_gf (pc := 22) C dX11_part_22 fl_11_59 <| z_goto (tgt := 32) (pc := 25) C dX11_part_25 (by decide) <| z_lr C hr hk dX11_part_32) <| z_aln (pc := 9) C dX11_part_9 rfl <| z_bi (pc := 10) C dX11_part_10 (by decide +kernel) <| z_cV (pc := 12) C dX11_part_12 S_X11_refuse rfl (zl4 w_311 w_313 wp_0 w_1) w_314 ds_X11_refuse (zrm rfl rfl (by decide) (by decide)) <| z_i2l (pc := 15) C dX11_part_15 <| z_lr C hr hk dX11_part_16)
  | b + 1 => exact fun _ _ _ h => h.elim
theorem dX11_image_0 : decode cX11_image 0 = .ok (.iload_n 1, 1) := by decide +kernel
theorem dX11_image_1 : decode cX11_image 1 = .ok (.iconst 0, 1) := by decide +kernel
theorem dX11_image_2 : decode cX11_image 2 = .ok (.iconst 1, 1) := by decide +kernel
theorem dX11_image_3 : decode cX11_image 3 = .ok (.invokestatic 66, 3) := by decide +kernel
theorem dX11_image_6 : decode cX11_image 6 = .ok (.ifCond .ne 10, 3) := by decide +kernel
theorem dX11_image_9 : decode cX11_image 9 = .ok (.aload_n 0, 1) := by decide +kernel
theorem dX11_image_10 : decode cX11_image 10 = .ok (.bipush (-2), 2) := by decide +kernel
theorem dX11_image_12 : decode cX11_image 12 = .ok (.invokevirtual 70, 3) := by decide +kernel
theorem dX11_image_15 : decode cX11_image 15 = .ok (.ireturn, 1) := by decide +kernel
theorem dX11_image_16 : decode cX11_image 16 = .ok (.aload_n 0, 1) := by decide +kernel
theorem dX11_image_17 : decode cX11_image 17 = .ok (.getfield 19, 3) := by decide +kernel
theorem dX11_image_20 : decode cX11_image 20 = .ok (.iload_n 1, 1) := by decide +kernel
theorem dX11_image_21 : decode cX11_image 21 = .ok (.aaload, 1) := by decide +kernel
theorem dX11_image_22 : decode cX11_image 22 = .ok (.aload_n 0, 1) := by decide +kernel
theorem dX11_image_23 : decode cX11_image 23 = .ok (.getfield 12, 3) := by decide +kernel
theorem dX11_image_26 : decode cX11_image 26 = .ok (.invokevirtual 111, 3) := by decide +kernel
theorem dX11_image_29 : decode cX11_image 29 = .ok (.aload_n 0, 1) := by decide +kernel
theorem dX11_image_30 : decode cX11_image 30 = .ok (.getfield 23, 3) := by decide +kernel
theorem dX11_image_33 : decode cX11_image 33 = .ok (.iload_n 1, 1) := by decide +kernel
theorem dX11_image_34 : decode cX11_image 34 = .ok (.iconst 1, 1) := by decide +kernel
theorem dX11_image_35 : decode cX11_image 35 = .ok (.bastore, 1) := by decide +kernel
theorem dX11_image_36 : decode cX11_image 36 = .ok (.iconst 1, 1) := by decide +kernel
theorem dX11_image_37 : decode cX11_image 37 = .ok (.ireturn, 1) := by decide +kernel
def P_X11_image : Nat → Nat
  | _ => 0
set_option maxRecDepth 100000 in
set_option maxHeartbeats 4000000 in
theorem S_X11_image : zSd yX11_image cX11_image 2 (some .int) { frames := 3, cells := 0, slots := 0, locals := 68 } T_X11_image := by
  refine zMet (pcs := P_X11_image) (F := F_X11_image) (by decide) rfl ?_
  intro p l e s m args below meth c D ids ad A Q Y C hr hk hY b
  match b with
  | 0 => exact (z_iln (pc := 0) C dX11_image_0 rfl <| z_ic (pc := 1) C dX11_image_1 (by decide +kernel) <| z_ic (pc := 2) C dX11_image_2 (by decide +kernel) <| z_cS (pc := 3) C dX11_image_3 S_X11_within (zl3 w_308 w_309 w_1) w_310 ds_X11_within (zrm rfl rfl (by decide) (by decide)) <| z_ifne (tgt := 16) (pc := 6) C dX11_image_6 (by decide) (z_aln (pc := 16) C dX11_image_16 rfl <| z_gf (pc := 17) C dX11_image_17 fl_11_19 <| z_iln (pc := 20) C dX11_image_20 rfl <| z_aa (pc := 21) C dX11_image_21 <| z_aln (pc := 22) C dX11_image_22 rfl <| z_gf (pc := 23) C dX11_image_23 fl_11_12 <| z_cV (pc := 26) C dX11_image_26 S_X1_becomeLike rfl (zl4 w_465 w_466 w_467 w_2) w_468 ds_X1_becomeLike (zrm rfl rfl (by decide) (by decide)) <| z_aln (pc := 29) C dX11_image_29 rfl <| z_gf (pc := 30) C dX11_image_30 fl_11_23 <| z_iln (pc := 33) C dX11_image_33 rfl <| z_ic (pc := 34) C dX11_image_34 (by decide +kernel) <| z_bast (pc := 35) C dX11_image_35 <| z_ic (pc := 36) C dX11_image_36 (by decide +kernel) <| z_ir C hr hk dX11_image_37) <| z_aln (pc := 9) C dX11_image_9 rfl <| z_bi (pc := 10) C dX11_image_10 (by decide +kernel) <| z_cV (pc := 12) C dX11_image_12 S_X11_refuse rfl (zl4 w_311 w_313 wp_0 w_1) w_314 ds_X11_refuse (zrm rfl rfl (by decide) (by decide)) <| z_ir C hr hk dX11_image_15)
  | b + 1 => exact fun _ _ _ h => h.elim
theorem dX11_from_0 : decode cX11_from 0 = .ok (.iload_n 1, 1) := by decide +kernel
theorem dX11_from_1 : decode cX11_from 1 = .ok (.iconst 0, 1) := by decide +kernel
theorem dX11_from_2 : decode cX11_from 2 = .ok (.iconst 1, 1) := by decide +kernel
theorem dX11_from_3 : decode cX11_from 3 = .ok (.invokestatic 66, 3) := by decide +kernel
theorem dX11_from_6 : decode cX11_from 6 = .ok (.ifCond .ne 10, 3) := by decide +kernel
theorem dX11_from_9 : decode cX11_from 9 = .ok (.aload_n 0, 1) := by decide +kernel
theorem dX11_from_10 : decode cX11_from 10 = .ok (.bipush (-2), 2) := by decide +kernel
theorem dX11_from_12 : decode cX11_from 12 = .ok (.invokevirtual 70, 3) := by decide +kernel
theorem dX11_from_15 : decode cX11_from 15 = .ok (.ireturn, 1) := by decide +kernel
theorem dX11_from_16 : decode cX11_from 16 = .ok (.aload_n 0, 1) := by decide +kernel
theorem dX11_from_17 : decode cX11_from 17 = .ok (.getfield 23, 3) := by decide +kernel
theorem dX11_from_20 : decode cX11_from 20 = .ok (.iload_n 1, 1) := by decide +kernel
theorem dX11_from_21 : decode cX11_from 21 = .ok (.baload, 1) := by decide +kernel
theorem dX11_from_22 : decode cX11_from 22 = .ok (.ifCond .ne 10, 3) := by decide +kernel
theorem dX11_from_25 : decode cX11_from 25 = .ok (.aload_n 0, 1) := by decide +kernel
theorem dX11_from_26 : decode cX11_from 26 = .ok (.bipush (-3), 2) := by decide +kernel
theorem dX11_from_28 : decode cX11_from 28 = .ok (.invokevirtual 70, 3) := by decide +kernel
theorem dX11_from_31 : decode cX11_from 31 = .ok (.ireturn, 1) := by decide +kernel
theorem dX11_from_32 : decode cX11_from 32 = .ok (.aload_n 0, 1) := by decide +kernel
theorem dX11_from_33 : decode cX11_from 33 = .ok (.getfield 12, 3) := by decide +kernel
theorem dX11_from_36 : decode cX11_from 36 = .ok (.aload_n 0, 1) := by decide +kernel
theorem dX11_from_37 : decode cX11_from 37 = .ok (.getfield 19, 3) := by decide +kernel
theorem dX11_from_40 : decode cX11_from 40 = .ok (.iload_n 1, 1) := by decide +kernel
theorem dX11_from_41 : decode cX11_from 41 = .ok (.aaload, 1) := by decide +kernel
theorem dX11_from_42 : decode cX11_from 42 = .ok (.invokevirtual 111, 3) := by decide +kernel
theorem dX11_from_45 : decode cX11_from 45 = .ok (.iconst 1, 1) := by decide +kernel
theorem dX11_from_46 : decode cX11_from 46 = .ok (.ireturn, 1) := by decide +kernel
def P_X11_from : Nat → Nat
  | _ => 0
set_option maxRecDepth 100000 in
set_option maxHeartbeats 4000000 in
theorem S_X11_from : zSd yX11_from cX11_from 2 (some .int) { frames := 3, cells := 0, slots := 0, locals := 68 } T_X11_from := by
  refine zMet (pcs := P_X11_from) (F := F_X11_from) (by decide) rfl ?_
  intro p l e s m args below meth c D ids ad A Q Y C hr hk hY b
  match b with
  | 0 => exact (z_iln (pc := 0) C dX11_from_0 rfl <| z_ic (pc := 1) C dX11_from_1 (by decide +kernel) <| z_ic (pc := 2) C dX11_from_2 (by decide +kernel) <| z_cS (pc := 3) C dX11_from_3 S_X11_within (zl3 w_308 w_309 w_1) w_310 ds_X11_within (zrm rfl rfl (by decide) (by decide)) <| z_ifne (tgt := 16) (pc := 6) C dX11_from_6 (by decide) (z_aln (pc := 16) C dX11_from_16 rfl <| z_gf (pc := 17) C dX11_from_17 fl_11_23 <| z_iln (pc := 20) C dX11_from_20 rfl <| z_ba (pc := 21) C dX11_from_21 <| z_ifne (tgt := 32) (pc := 22) C dX11_from_22 (by decide) (z_aln (pc := 32) C dX11_from_32 rfl <| z_gf (pc := 33) C dX11_from_33 fl_11_12 <| z_aln (pc := 36) C dX11_from_36 rfl <| z_gf (pc := 37) C dX11_from_37 fl_11_19 <| z_iln (pc := 40) C dX11_from_40 rfl <| z_aa (pc := 41) C dX11_from_41 <| z_cV (pc := 42) C dX11_from_42 S_X1_becomeLike rfl (zl4 w_465 w_466 w_467 w_2) w_468 ds_X1_becomeLike (zrm rfl rfl (by decide) (by decide)) <| z_ic (pc := 45) C dX11_from_45 (by decide +kernel) <| z_ir C hr hk dX11_from_46) <| z_aln (pc := 25) C dX11_from_25 rfl <| z_bi (pc := 26) C dX11_from_26 (by decide +kernel) <| z_cV (pc := 28) C dX11_from_28 S_X11_refuse rfl (zl4 w_311 w_313 wp_0 w_1) w_314 ds_X11_refuse (zrm rfl rfl (by decide) (by decide)) <| z_ir C hr hk dX11_from_31) <| z_aln (pc := 9) C dX11_from_9 rfl <| z_bi (pc := 10) C dX11_from_10 (by decide +kernel) <| z_cV (pc := 12) C dX11_from_12 S_X11_refuse rfl (zl4 w_311 w_313 wp_0 w_1) w_314 ds_X11_refuse (zrm rfl rfl (by decide) (by decide)) <| z_ir C hr hk dX11_from_15)
  | b + 1 => exact fun _ _ _ h => h.elim
theorem dX11_status_0 : decode cX11_status 0 = .ok (.iload_n 1, 1) := by decide +kernel
theorem dX11_status_1 : decode cX11_status 1 = .ok (.iconst 0, 1) := by decide +kernel
theorem dX11_status_2 : decode cX11_status 2 = .ok (.iconst 2, 1) := by decide +kernel
theorem dX11_status_3 : decode cX11_status 3 = .ok (.invokestatic 66, 3) := by decide +kernel
theorem dX11_status_6 : decode cX11_status 6 = .ok (.ifCond .ne 12, 3) := by decide +kernel
theorem dX11_status_9 : decode cX11_status 9 = .ok (.aload_n 0, 1) := by decide +kernel
theorem dX11_status_10 : decode cX11_status 10 = .ok (.bipush (-2), 2) := by decide +kernel
theorem dX11_status_12 : decode cX11_status 12 = .ok (.invokevirtual 70, 3) := by decide +kernel
theorem dX11_status_15 : decode cX11_status 15 = .ok (.pop, 1) := by decide +kernel
theorem dX11_status_16 : decode cX11_status 16 = .ok (.iconst (-1), 1) := by decide +kernel
theorem dX11_status_17 : decode cX11_status 17 = .ok (.ireturn, 1) := by decide +kernel
theorem dX11_status_18 : decode cX11_status 18 = .ok (.aload_n 0, 1) := by decide +kernel
theorem dX11_status_19 : decode cX11_status 19 = .ok (.getfield 55, 3) := by decide +kernel
theorem dX11_status_22 : decode cX11_status 22 = .ok (.iload_n 1, 1) := by decide +kernel
theorem dX11_status_23 : decode cX11_status 23 = .ok (.iaload, 1) := by decide +kernel
theorem dX11_status_24 : decode cX11_status 24 = .ok (.ireturn, 1) := by decide +kernel
def P_X11_status : Nat → Nat
  | _ => 0
set_option maxRecDepth 100000 in
set_option maxHeartbeats 4000000 in
theorem S_X11_status : zSd yX11_status cX11_status 2 (some .int) { frames := 1, cells := 0, slots := 0, locals := 22 } T_X11_status := by
  refine zMet (pcs := P_X11_status) (F := F_X11_status) (by decide) rfl ?_
  intro p l e s m args below meth c D ids ad A Q Y C hr hk hY b
  match b with
  | 0 => exact (z_iln (pc := 0) C dX11_status_0 rfl <| z_ic (pc := 1) C dX11_status_1 (by decide +kernel) <| z_ic (pc := 2) C dX11_status_2 (by decide +kernel) <| z_cS (pc := 3) C dX11_status_3 S_X11_within (zl3 w_308 w_309 w_1) w_310 ds_X11_within (zrm rfl rfl (by decide) (by decide)) <| z_ifne (tgt := 18) (pc := 6) C dX11_status_6 (by decide) (z_aln (pc := 18) C dX11_status_18 rfl <| z_gf (pc := 19) C dX11_status_19 fl_11_55 <| z_iln (pc := 22) C dX11_status_22 rfl <| z_ia (pc := 23) C dX11_status_23 <| z_ir C hr hk dX11_status_24) <| z_aln (pc := 9) C dX11_status_9 rfl <| z_bi (pc := 10) C dX11_status_10 (by decide +kernel) <| z_cV (pc := 12) C dX11_status_12 S_X11_refuse rfl (zl4 w_311 w_313 wp_0 w_1) w_314 ds_X11_refuse (zrm rfl rfl (by decide) (by decide)) <| z_pop (pc := 15) C dX11_status_15 <| z_ic (pc := 16) C dX11_status_16 (by decide +kernel) <| z_ir C hr hk dX11_status_17)
  | b + 1 => exact fun _ _ _ h => h.elim
theorem dX11_howMany_0 : decode cX11_howMany 0 = .ok (.iload_n 1, 1) := by decide +kernel
theorem dX11_howMany_1 : decode cX11_howMany 1 = .ok (.tableswitch 108 0 5 #[39, 47, 55, 66, 92, 100], 39) := by decide +kernel
theorem dX11_howMany_40 : decode cX11_howMany 40 = .ok (.aload_n 0, 1) := by decide +kernel
theorem dX11_howMany_41 : decode cX11_howMany 41 = .ok (.getfield 12, 3) := by decide +kernel
theorem dX11_howMany_44 : decode cX11_howMany 44 = .ok (.getfield 74, 3) := by decide +kernel
theorem dX11_howMany_47 : decode cX11_howMany 47 = .ok (.ireturn, 1) := by decide +kernel
theorem dX11_howMany_48 : decode cX11_howMany 48 = .ok (.aload_n 0, 1) := by decide +kernel
theorem dX11_howMany_49 : decode cX11_howMany 49 = .ok (.getfield 12, 3) := by decide +kernel
theorem dX11_howMany_52 : decode cX11_howMany 52 = .ok (.getfield 272, 3) := by decide +kernel
theorem dX11_howMany_55 : decode cX11_howMany 55 = .ok (.ireturn, 1) := by decide +kernel
theorem dX11_howMany_56 : decode cX11_howMany 56 = .ok (.aload_n 0, 1) := by decide +kernel
theorem dX11_howMany_57 : decode cX11_howMany 57 = .ok (.getfield 12, 3) := by decide +kernel
theorem dX11_howMany_60 : decode cX11_howMany 60 = .ok (.getfield 127, 3) := by decide +kernel
theorem dX11_howMany_63 : decode cX11_howMany 63 = .ok (.invokestatic 140, 3) := by decide +kernel
theorem dX11_howMany_66 : decode cX11_howMany 66 = .ok (.ireturn, 1) := by decide +kernel
theorem dX11_howMany_67 : decode cX11_howMany 67 = .ok (.aload_n 0, 1) := by decide +kernel
theorem dX11_howMany_68 : decode cX11_howMany 68 = .ok (.getfield 37, 3) := by decide +kernel
theorem dX11_howMany_71 : decode cX11_howMany 71 = .ok (.aload_n 0, 1) := by decide +kernel
theorem dX11_howMany_72 : decode cX11_howMany 72 = .ok (.getfield 12, 3) := by decide +kernel
theorem dX11_howMany_75 : decode cX11_howMany 75 = .ok (.invokevirtual 151, 3) := by decide +kernel
theorem dX11_howMany_78 : decode cX11_howMany 78 = .ok (.aload_n 0, 1) := by decide +kernel
theorem dX11_howMany_79 : decode cX11_howMany 79 = .ok (.getfield 37, 3) := by decide +kernel
theorem dX11_howMany_82 : decode cX11_howMany 82 = .ok (.aload_n 0, 1) := by decide +kernel
theorem dX11_howMany_83 : decode cX11_howMany 83 = .ok (.getfield 12, 3) := by decide +kernel
theorem dX11_howMany_86 : decode cX11_howMany 86 = .ok (.getfield 127, 3) := by decide +kernel
theorem dX11_howMany_89 : decode cX11_howMany 89 = .ok (.invokevirtual 184, 3) := by decide +kernel
theorem dX11_howMany_92 : decode cX11_howMany 92 = .ok (.ireturn, 1) := by decide +kernel
theorem dX11_howMany_93 : decode cX11_howMany 93 = .ok (.aload_n 0, 1) := by decide +kernel
theorem dX11_howMany_94 : decode cX11_howMany 94 = .ok (.getfield 12, 3) := by decide +kernel
theorem dX11_howMany_97 : decode cX11_howMany 97 = .ok (.getfield 200, 3) := by decide +kernel
theorem dX11_howMany_100 : decode cX11_howMany 100 = .ok (.ireturn, 1) := by decide +kernel
theorem dX11_howMany_101 : decode cX11_howMany 101 = .ok (.aload_n 0, 1) := by decide +kernel
theorem dX11_howMany_102 : decode cX11_howMany 102 = .ok (.getfield 12, 3) := by decide +kernel
theorem dX11_howMany_105 : decode cX11_howMany 105 = .ok (.getfield 134, 3) := by decide +kernel
theorem dX11_howMany_108 : decode cX11_howMany 108 = .ok (.ireturn, 1) := by decide +kernel
theorem dX11_howMany_109 : decode cX11_howMany 109 = .ok (.aload_n 0, 1) := by decide +kernel
theorem dX11_howMany_110 : decode cX11_howMany 110 = .ok (.getfield 30, 3) := by decide +kernel
theorem dX11_howMany_113 : decode cX11_howMany 113 = .ok (.getfield 101, 3) := by decide +kernel
theorem dX11_howMany_116 : decode cX11_howMany 116 = .ok (.ireturn, 1) := by decide +kernel
def P_X11_howMany : Nat → Nat
  | _ => 0
set_option maxRecDepth 100000 in
set_option maxHeartbeats 4000000 in
theorem S_X11_howMany : zSd yX11_howMany cX11_howMany 2 (some .int) { frames := 4, cells := 0, slots := 0, locals := 93 } T_X11_howMany := by
  refine zMet (pcs := P_X11_howMany) (F := F_X11_howMany) (by decide) rfl ?_
  intro p l e s m args below meth c D ids ad A Q Y C hr hk hY b
  match b with
  | 0 => exact (z_iln (pc := 0) C dX11_howMany_0 rfl <| z_table (pc := 1) (tgts := [40, 48, 56, 67, 93, 101]) (td := 109) C dX11_howMany_1 (keys := [0, 1, 2, 3, 4, 5]) rfl (by decide +kernel) rfl (by decide) (by decide +kernel) (by decide) (fun j q t h1 h2 => match j, q, t, h1, h2 with
  | 0, _, _, h1, h2 => by cases h1; cases h2; exact (z_aln (pc := 40) C dX11_howMany_40 rfl <| z_gf (pc := 41) C dX11_howMany_41 fl_11_12 <| z_gf (pc := 44) C dX11_howMany_44 fl_11_74 <| z_ir C hr hk dX11_howMany_47)
  | 1, _, _, h1, h2 => by cases h1; cases h2; exact (z_aln (pc := 48) C dX11_howMany_48 rfl <| z_gf (pc := 49) C dX11_howMany_49 fl_11_12 <| z_gf (pc := 52) C dX11_howMany_52 fl_11_272 <| z_ir C hr hk dX11_howMany_55)
  | 2, _, _, h1, h2 => by cases h1; cases h2; exact (z_aln (pc := 56) C dX11_howMany_56 rfl <| z_gf (pc := 57) C dX11_howMany_57 fl_11_12 <| z_gf (pc := 60) C dX11_howMany_60 fl_11_127 <| z_cS (pc := 63) C dX11_howMany_63 S_J6_bitCount_0f7a4 (zl3 w_506 w_507 w_21) w_508 ds_J6_bitCount_0f7a4 (zrm rfl rfl (by decide) (by decide)) <| z_ir C hr hk dX11_howMany_66)
  | 3, _, _, h1, h2 => by cases h1; cases h2; exact (z_aln (pc := 67) C dX11_howMany_67 rfl <| z_gf (pc := 68) C dX11_howMany_68 fl_11_37 <| z_aln (pc := 71) C dX11_howMany_71 rfl <| z_gf (pc := 72) C dX11_howMany_72 fl_11_12 <| z_cV (pc := 75) C dX11_howMany_75 S_X8_hold rfl (zl4 w_528 w_529 w_530 w_4) w_531 ds_X8_hold (zrm rfl rfl (by decide) (by decide)) <| z_aln (pc := 78) C dX11_howMany_78 rfl <| z_gf (pc := 79) C dX11_howMany_79 fl_11_37 <| z_aln (pc := 82) C dX11_howMany_82 rfl <| z_gf (pc := 83) C dX11_howMany_83 fl_11_12 <| z_gf (pc := 86) C dX11_howMany_86 fl_11_127 <| z_cV (pc := 89) C dX11_howMany_89 S_X8_peacefulWords rfl (zl4 w_691 w_692 w_693 w_4) w_694 ds_X8_peacefulWords (zrm rfl rfl (by decide) (by decide)) <| z_ir C hr hk dX11_howMany_92)
  | 4, _, _, h1, h2 => by cases h1; cases h2; exact (z_aln (pc := 93) C dX11_howMany_93 rfl <| z_gf (pc := 94) C dX11_howMany_94 fl_11_12 <| z_gf (pc := 97) C dX11_howMany_97 fl_11_200 <| z_ir C hr hk dX11_howMany_100)
  | 5, _, _, h1, h2 => by cases h1; cases h2; exact (z_aln (pc := 101) C dX11_howMany_101 rfl <| z_gf (pc := 102) C dX11_howMany_102 fl_11_12 <| z_gf (pc := 105) C dX11_howMany_105 fl_11_134 <| z_ir C hr hk dX11_howMany_108)
  | j + 6, _, _, h1, _ => by simp at h1) (z_aln (pc := 109) C dX11_howMany_109 rfl <| z_gf (pc := 110) C dX11_howMany_110 fl_11_30 <| z_gf (pc := 113) C dX11_howMany_113 fl_11_101 <| z_ir C hr hk dX11_howMany_116))
  | b + 1 => exact fun _ _ _ h => h.elim
