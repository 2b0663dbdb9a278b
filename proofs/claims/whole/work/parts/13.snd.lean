/-! Soundness of methods: by program. -/
theorem dX11_type_0 : decode cX11_type 0 = .ok (.iload_n 1, 1) := by decide +kernel
theorem dX11_type_1 : decode cX11_type 1 = .ok (.iconst 0, 1) := by decide +kernel
theorem dX11_type_2 : decode cX11_type 2 = .ok (.bipush 127, 2) := by decide +kernel
theorem dX11_type_4 : decode cX11_type 4 = .ok (.invokestatic 66, 3) := by decide +kernel
theorem dX11_type_7 : decode cX11_type 7 = .ok (.ifCond .ne 10, 3) := by decide +kernel
theorem dX11_type_10 : decode cX11_type 10 = .ok (.aload_n 0, 1) := by decide +kernel
theorem dX11_type_11 : decode cX11_type 11 = .ok (.bipush (-2), 2) := by decide +kernel
theorem dX11_type_13 : decode cX11_type 13 = .ok (.invokevirtual 70, 3) := by decide +kernel
theorem dX11_type_16 : decode cX11_type 16 = .ok (.ireturn, 1) := by decide +kernel
theorem dX11_type_17 : decode cX11_type 17 = .ok (.aload_n 0, 1) := by decide +kernel
theorem dX11_type_18 : decode cX11_type 18 = .ok (.getfield 30, 3) := by decide +kernel
theorem dX11_type_21 : decode cX11_type 21 = .ok (.getfield 101, 3) := by decide +kernel
theorem dX11_type_24 : decode cX11_type 24 = .ok (.sipush 150, 3) := by decide +kernel
theorem dX11_type_27 : decode cX11_type 27 = .ok (.if_icmp .lt 10, 3) := by decide +kernel
theorem dX11_type_30 : decode cX11_type 30 = .ok (.aload_n 0, 1) := by decide +kernel
theorem dX11_type_31 : decode cX11_type 31 = .ok (.bipush (-4), 2) := by decide +kernel
theorem dX11_type_33 : decode cX11_type 33 = .ok (.invokevirtual 70, 3) := by decide +kernel
theorem dX11_type_36 : decode cX11_type 36 = .ok (.ireturn, 1) := by decide +kernel
theorem dX11_type_37 : decode cX11_type 37 = .ok (.aload_n 0, 1) := by decide +kernel
theorem dX11_type_38 : decode cX11_type 38 = .ok (.getfield 30, 3) := by decide +kernel
theorem dX11_type_41 : decode cX11_type 41 = .ok (.iload_n 1, 1) := by decide +kernel
theorem dX11_type_42 : decode cX11_type 42 = .ok (.invokevirtual 104, 3) := by decide +kernel
theorem dX11_type_45 : decode cX11_type 45 = .ok (.ireturn, 1) := by decide +kernel
def P_X11_type : Nat → Nat
  | _ => 0
set_option maxRecDepth 100000 in
set_option maxHeartbeats 4000000 in
theorem S_X11_type : zSd yX11_type cX11_type 2 (some .int) { frames := 1, cells := 0, slots := 0, locals := 22 } T_X11_type := by
  refine zMet (pcs := P_X11_type) (F := F_X11_type) (by decide) rfl ?_
  intro p l e s m args below meth c D ids ad A Q Y C hr hk hY b
  match b with
  | 0 => exact (z_iln (pc := 0) C dX11_type_0 rfl <| z_ic (pc := 1) C dX11_type_1 (by decide +kernel) <| z_bi (pc := 2) C dX11_type_2 (by decide +kernel) <| z_cS (pc := 4) C dX11_type_4 S_X11_within (zl3 w_308 w_309 w_1) w_310 ds_X11_within (zrm rfl rfl (by decide) (by decide)) <| z_ifne (tgt := 17) (pc := 7) C dX11_type_7 (by decide) (z_aln (pc := 17) C dX11_type_17 rfl <| z_gf (pc := 18) C dX11_type_18 fl_11_30 <| z_gf (pc := 21) C dX11_type_21 fl_11_101 <| z_si (pc := 24) C dX11_type_24 (by decide +kernel) <| z_cmplt (tgt := 37) (pc := 27) C dX11_type_27 (by decide) (z_aln (pc := 37) C dX11_type_37 rfl <| z_gf (pc := 38) C dX11_type_38 fl_11_30 <| z_iln (pc := 41) C dX11_type_41 rfl <| z_cV (pc := 42) C dX11_type_42 S_X9_append rfl (zl4 w_349 w_350 w_351 w_3) w_352 ds_X9_append (zrm rfl rfl (by decide) (by decide)) <| z_ir C hr hk dX11_type_45) <| z_aln (pc := 30) C dX11_type_30 rfl <| z_bi (pc := 31) C dX11_type_31 (by decide +kernel) <| z_cV (pc := 33) C dX11_type_33 S_X11_refuse rfl (zl4 w_311 w_313 wp_0 w_1) w_314 ds_X11_refuse (zrm rfl rfl (by decide) (by decide)) <| z_ir C hr hk dX11_type_36) <| z_aln (pc := 10) C dX11_type_10 rfl <| z_bi (pc := 11) C dX11_type_11 (by decide +kernel) <| z_cV (pc := 13) C dX11_type_13 S_X11_refuse rfl (zl4 w_311 w_313 wp_0 w_1) w_314 ds_X11_refuse (zrm rfl rfl (by decide) (by decide)) <| z_ir C hr hk dX11_type_16)
  | b + 1 => exact fun _ _ _ h => h.elim
theorem dX11_clear_0 : decode cX11_clear 0 = .ok (.aload_n 0, 1) := by decide +kernel
theorem dX11_clear_1 : decode cX11_clear 1 = .ok (.getfield 30, 3) := by decide +kernel
theorem dX11_clear_4 : decode cX11_clear 4 = .ok (.getfield 101, 3) := by decide +kernel
theorem dX11_clear_7 : decode cX11_clear 7 = .ok (.istore_n 1, 1) := by decide +kernel
theorem dX11_clear_8 : decode cX11_clear 8 = .ok (.aload_n 0, 1) := by decide +kernel
theorem dX11_clear_9 : decode cX11_clear 9 = .ok (.getfield 30, 3) := by decide +kernel
theorem dX11_clear_12 : decode cX11_clear 12 = .ok (.iconst 0, 1) := by decide +kernel
theorem dX11_clear_13 : decode cX11_clear 13 = .ok (.putfield 101, 3) := by decide +kernel
theorem dX11_clear_16 : decode cX11_clear 16 = .ok (.iload_n 1, 1) := by decide +kernel
theorem dX11_clear_17 : decode cX11_clear 17 = .ok (.ireturn, 1) := by decide +kernel
def P_X11_clear : Nat → Nat
  | _ => 0
set_option maxRecDepth 100000 in
set_option maxHeartbeats 4000000 in
theorem S_X11_clear : zSd yX11_clear cX11_clear 2 (some .int) { frames := 0, cells := 0, slots := 0, locals := 0 } T_X11_clear := by
  refine zMet (pcs := P_X11_clear) (F := F_X11_clear) (by decide) rfl ?_
  intro p l e s m args below meth c D ids ad A Q Y C hr hk hY b
  match b with
  | 0 => exact (z_aln (pc := 0) C dX11_clear_0 rfl <| z_gf (pc := 1) C dX11_clear_1 fl_11_30 <| z_gf (pc := 4) C dX11_clear_4 fl_11_101 <| z_isn (pc := 7) C dX11_clear_7 rfl (by decide) <| z_aln (pc := 8) C dX11_clear_8 rfl <| z_gf (pc := 9) C dX11_clear_9 fl_11_30 <| z_ic (pc := 12) C dX11_clear_12 (by decide +kernel) <| z_pf (pc := 13) C dX11_clear_13 fp_11_101 <| z_iln (pc := 16) C dX11_clear_16 rfl <| z_ir C hr hk dX11_clear_17)
  | b + 1 => exact fun _ _ _ h => h.elim
theorem dX11_read_0 : decode cX11_read 0 = .ok (.aload_n 0, 1) := by decide +kernel
theorem dX11_read_1 : decode cX11_read 1 = .ok (.getfield 30, 3) := by decide +kernel
theorem dX11_read_4 : decode cX11_read 4 = .ok (.aload_n 0, 1) := by decide +kernel
theorem dX11_read_5 : decode cX11_read 5 = .ok (.getfield 16, 3) := by decide +kernel
theorem dX11_read_8 : decode cX11_read 8 = .ok (.invokevirtual 107, 3) := by decide +kernel
theorem dX11_read_11 : decode cX11_read 11 = .ok (.istore_n 1, 1) := by decide +kernel
theorem dX11_read_12 : decode cX11_read 12 = .ok (.iload_n 1, 1) := by decide +kernel
theorem dX11_read_13 : decode cX11_read 13 = .ok (.ifCond .le 14, 3) := by decide +kernel
theorem dX11_read_16 : decode cX11_read 16 = .ok (.aload_n 0, 1) := by decide +kernel
theorem dX11_read_17 : decode cX11_read 17 = .ok (.getfield 12, 3) := by decide +kernel
theorem dX11_read_20 : decode cX11_read 20 = .ok (.aload_n 0, 1) := by decide +kernel
theorem dX11_read_21 : decode cX11_read 21 = .ok (.getfield 16, 3) := by decide +kernel
theorem dX11_read_24 : decode cX11_read 24 = .ok (.invokevirtual 111, 3) := by decide +kernel
theorem dX11_read_27 : decode cX11_read 27 = .ok (.iload_n 1, 1) := by decide +kernel
theorem dX11_read_28 : decode cX11_read 28 = .ok (.ireturn, 1) := by decide +kernel
def P_X11_read : Nat → Nat
  | _ => 0
set_option maxRecDepth 100000 in
set_option maxHeartbeats 4000000 in
theorem S_X11_read : zSd yX11_read cX11_read 2 (some .int) { frames := 7, cells := 0, slots := 0, locals := 150 } T_X11_read := by
  refine zMet (pcs := P_X11_read) (F := F_X11_read) (by decide) rfl ?_
  intro p l e s m args below meth c D ids ad A Q Y C hr hk hY b
  match b with
  | 0 => exact (z_aln (pc := 0) C dX11_read_0 rfl <| z_gf (pc := 1) C dX11_read_1 fl_11_30 <| z_aln (pc := 4) C dX11_read_4 rfl <| z_gf (pc := 5) C dX11_read_5 fl_11_16 <| z_cV (pc := 8) C dX11_read_8 S_X9_tell rfl (zl4 w_361 w_362 w_363 w_3) w_364 ds_X9_tell (zrm rfl rfl (by decide) (by decide)) <| z_isn (pc := 11) C dX11_read_11 rfl (by decide) <| z_iln (pc := 12) C dX11_read_12 rfl <| z_ifle (tgt := 27) (pc := 13) C dX11_read_13 (by decide) (z_iln (pc := 27) C dX11_read_27 rfl <| z_ir C hr hk dX11_read_28) <| z_aln (pc := 16) C dX11_read_16 rfl <| z_gf (pc := 17) C dX11_read_17 fl_11_12 <| z_aln (pc := 20) C dX11_read_20 rfl <| z_gf (pc := 21) C dX11_read_21 fl_11_16 <| z_cV (pc := 24) C dX11_read_24 S_X1_becomeLike rfl (zl4 w_465 w_466 w_467 w_2) w_468 ds_X1_becomeLike (zrm rfl rfl (by decide) (by decide)) <| z_iln (pc := 27) C dX11_read_27 rfl <| z_ir C hr hk dX11_read_28)
  | b + 1 => exact fun _ _ _ h => h.elim
theorem dX11_move_0 : decode cX11_move 0 = .ok (.aload_n 0, 1) := by decide +kernel
theorem dX11_move_1 : decode cX11_move 1 = .ok (.getfield 12, 3) := by decide +kernel
theorem dX11_move_4 : decode cX11_move 4 = .ok (.iload_n 1, 1) := by decide +kernel
theorem dX11_move_5 : decode cX11_move 5 = .ok (.invokevirtual 115, 3) := by decide +kernel
theorem dX11_move_8 : decode cX11_move 8 = .ok (.ifCond .eq 19, 3) := by decide +kernel
theorem dX11_move_11 : decode cX11_move 11 = .ok (.iload_n 2, 1) := by decide +kernel
theorem dX11_move_12 : decode cX11_move 12 = .ok (.aload_n 0, 1) := by decide +kernel
theorem dX11_move_13 : decode cX11_move 13 = .ok (.getfield 12, 3) := by decide +kernel
theorem dX11_move_16 : decode cX11_move 16 = .ok (.getfield 118, 3) := by decide +kernel
theorem dX11_move_19 : decode cX11_move 19 = .ok (.iload_n 1, 1) := by decide +kernel
theorem dX11_move_20 : decode cX11_move 20 = .ok (.iaload, 1) := by decide +kernel
theorem dX11_move_21 : decode cX11_move 21 = .ok (.invokestatic 90, 3) := by decide +kernel
theorem dX11_move_24 : decode cX11_move 24 = .ok (.ifCond .ne 10, 3) := by decide +kernel
theorem dX11_move_27 : decode cX11_move 27 = .ok (.aload_n 0, 1) := by decide +kernel
theorem dX11_move_28 : decode cX11_move 28 = .ok (.bipush (-2), 2) := by decide +kernel
theorem dX11_move_30 : decode cX11_move 30 = .ok (.invokevirtual 70, 3) := by decide +kernel
theorem dX11_move_33 : decode cX11_move 33 = .ok (.ireturn, 1) := by decide +kernel
theorem dX11_move_34 : decode cX11_move 34 = .ok (.aload_n 0, 1) := by decide +kernel
theorem dX11_move_35 : decode cX11_move 35 = .ok (.getfield 12, 3) := by decide +kernel
theorem dX11_move_38 : decode cX11_move 38 = .ok (.iload_n 2, 1) := by decide +kernel
theorem dX11_move_39 : decode cX11_move 39 = .ok (.invokevirtual 94, 3) := by decide +kernel
theorem dX11_move_42 : decode cX11_move 42 = .ok (.ifCond .eq 10, 3) := by decide +kernel
theorem dX11_move_45 : decode cX11_move 45 = .ok (.aload_n 0, 1) := by decide +kernel
theorem dX11_move_46 : decode cX11_move 46 = .ok (.bipush (-3), 2) := by decide +kernel
theorem dX11_move_48 : decode cX11_move 48 = .ok (.invokevirtual 70, 3) := by decide +kernel
theorem dX11_move_51 : decode cX11_move 51 = .ok (.ireturn, 1) := by decide +kernel
theorem dX11_move_52 : decode cX11_move 52 = .ok (.aload_n 0, 1) := by decide +kernel
theorem dX11_move_53 : decode cX11_move 53 = .ok (.getfield 12, 3) := by decide +kernel
theorem dX11_move_56 : decode cX11_move 56 = .ok (.getfield 121, 3) := by decide +kernel
theorem dX11_move_59 : decode cX11_move 59 = .ok (.iload_n 1, 1) := by decide +kernel
theorem dX11_move_60 : decode cX11_move 60 = .ok (.iaload, 1) := by decide +kernel
theorem dX11_move_61 : decode cX11_move 61 = .ok (.istore_n 3, 1) := by decide +kernel
theorem dX11_move_62 : decode cX11_move 62 = .ok (.aload_n 0, 1) := by decide +kernel
theorem dX11_move_63 : decode cX11_move 63 = .ok (.getfield 12, 3) := by decide +kernel
theorem dX11_move_66 : decode cX11_move 66 = .ok (.invokevirtual 124, 3) := by decide +kernel
theorem dX11_move_69 : decode cX11_move 69 = .ok (.aload_n 0, 1) := by decide +kernel
theorem dX11_move_70 : decode cX11_move 70 = .ok (.getfield 12, 3) := by decide +kernel
theorem dX11_move_73 : decode cX11_move 73 = .ok (.getfield 121, 3) := by decide +kernel
theorem dX11_move_76 : decode cX11_move 76 = .ok (.iload_n 1, 1) := by decide +kernel
theorem dX11_move_77 : decode cX11_move 77 = .ok (.iload_n 2, 1) := by decide +kernel
theorem dX11_move_78 : decode cX11_move 78 = .ok (.iastore, 1) := by decide +kernel
theorem dX11_move_79 : decode cX11_move 79 = .ok (.iload_n 3, 1) := by decide +kernel
theorem dX11_move_80 : decode cX11_move 80 = .ok (.ireturn, 1) := by decide +kernel
def P_X11_move : Nat → Nat
  | 1 => 27
  | _ => 0
set_option maxRecDepth 100000 in
set_option maxHeartbeats 4000000 in
theorem S_X11_move : zSd yX11_move cX11_move 4 (some .int) { frames := 2, cells := 0, slots := 0, locals := 46 } T_X11_move := by
  refine zMet (pcs := P_X11_move) (F := F_X11_move) (by decide) rfl ?_
  intro p l e s m args below meth c D ids ad A Q Y C hr hk hY b
  match b with
  | 0 => exact (z_aln (pc := 0) C dX11_move_0 rfl <| z_gf (pc := 1) C dX11_move_1 fl_11_12 <| z_iln (pc := 4) C dX11_move_4 rfl <| z_cV (pc := 5) C dX11_move_5 S_X1_hasFamily rfl (zl4 w_483 w_484 w_485 w_2) w_486 ds_X1_hasFamily (zrm rfl rfl (by decide) (by decide)) <| z_ifeq (tgt := 27) (pc := 8) C dX11_move_8 (by decide) (z_jmp (hY 1)) <| z_iln (pc := 11) C dX11_move_11 rfl <| z_aln (pc := 12) C dX11_move_12 rfl <| z_gf (pc := 13) C dX11_move_13 fl_11_12 <| z_gf (pc := 16) C dX11_move_16 fl_11_118 <| z_iln (pc := 19) C dX11_move_19 rfl <| z_ia (pc := 20) C dX11_move_20 <| z_cS (pc := 21) C dX11_move_21 S_X11_isPewOf (zl3 w_334 w_335 w_1) w_336 ds_X11_isPewOf (zrm rfl rfl (by decide) (by decide)) <| z_ifne (tgt := 34) (pc := 24) C dX11_move_24 (by decide) (z_aln (pc := 34) C dX11_move_34 rfl <| z_gf (pc := 35) C dX11_move_35 fl_11_12 <| z_iln (pc := 38) C dX11_move_38 rfl <| z_cV (pc := 39) C dX11_move_39 S_X1_isTaken rfl (zl4 w_337 w_338 w_339 w_2) w_340 ds_X1_isTaken (zrm rfl rfl (by decide) (by decide)) <| z_ifeq (tgt := 52) (pc := 42) C dX11_move_42 (by decide) (z_aln (pc := 52) C dX11_move_52 rfl <| z_gf (pc := 53) C dX11_move_53 fl_11_12 <| z_gf (pc := 56) C dX11_move_56 fl_11_121 <| z_iln (pc := 59) C dX11_move_59 rfl <| z_ia (pc := 60) C dX11_move_60 <| z_isn (pc := 61) C dX11_move_61 rfl (by decide) <| z_aln (pc := 62) C dX11_move_62 rfl <| z_gf (pc := 63) C dX11_move_63 fl_11_12 <| z_cV (pc := 66) C dX11_move_66 S_X1_remember rfl (zl4 w_487 w_488 w_489 w_2) w_490 ds_X1_remember (zrm rfl rfl (by decide) (by decide)) <| z_aln (pc := 69) C dX11_move_69 rfl <| z_gf (pc := 70) C dX11_move_70 fl_11_12 <| z_gf (pc := 73) C dX11_move_73 fl_11_121 <| z_iln (pc := 76) C dX11_move_76 rfl <| z_iln (pc := 77) C dX11_move_77 rfl <| z_iast (pc := 78) C dX11_move_78 <| z_iln (pc := 79) C dX11_move_79 rfl <| z_ir C hr hk dX11_move_80) <| z_aln (pc := 45) C dX11_move_45 rfl <| z_bi (pc := 46) C dX11_move_46 (by decide +kernel) <| z_cV (pc := 48) C dX11_move_48 S_X11_refuse rfl (zl4 w_311 w_313 wp_0 w_1) w_314 ds_X11_refuse (zrm rfl rfl (by decide) (by decide)) <| z_ir C hr hk dX11_move_51) <| z_jmp (hY 1))
  | 1 => exact (z_aln (pc := 27) C dX11_move_27 rfl <| z_bi (pc := 28) C dX11_move_28 (by decide +kernel) <| z_cV (pc := 30) C dX11_move_30 S_X11_refuse rfl (zl4 w_311 w_313 wp_0 w_1) w_314 ds_X11_refuse (zrm rfl rfl (by decide) (by decide)) <| z_ir C hr hk dX11_move_33)
  | b + 2 => exact fun _ _ _ h => h.elim
theorem dX11_cold_0 : decode cX11_cold 0 = .ok (.aload_n 0, 1) := by decide +kernel
theorem dX11_cold_1 : decode cX11_cold 1 = .ok (.getfield 12, 3) := by decide +kernel
theorem dX11_cold_4 : decode cX11_cold 4 = .ok (.iload_n 1, 1) := by decide +kernel
theorem dX11_cold_5 : decode cX11_cold 5 = .ok (.invokevirtual 115, 3) := by decide +kernel
theorem dX11_cold_8 : decode cX11_cold 8 = .ok (.ifCond .eq 12, 3) := by decide +kernel
theorem dX11_cold_11 : decode cX11_cold 11 = .ok (.iload_n 2, 1) := by decide +kernel
theorem dX11_cold_12 : decode cX11_cold 12 = .ok (.iconst 0, 1) := by decide +kernel
theorem dX11_cold_13 : decode cX11_cold 13 = .ok (.iconst 1, 1) := by decide +kernel
theorem dX11_cold_14 : decode cX11_cold 14 = .ok (.invokestatic 66, 3) := by decide +kernel
theorem dX11_cold_17 : decode cX11_cold 17 = .ok (.ifCond .ne 10, 3) := by decide +kernel
theorem dX11_cold_20 : decode cX11_cold 20 = .ok (.aload_n 0, 1) := by decide +kernel
theorem dX11_cold_21 : decode cX11_cold 21 = .ok (.bipush (-2), 2) := by decide +kernel
theorem dX11_cold_23 : decode cX11_cold 23 = .ok (.invokevirtual 70, 3) := by decide +kernel
theorem dX11_cold_26 : decode cX11_cold 26 = .ok (.ireturn, 1) := by decide +kernel
theorem dX11_cold_27 : decode cX11_cold 27 = .ok (.aload_n 0, 1) := by decide +kernel
theorem dX11_cold_28 : decode cX11_cold 28 = .ok (.getfield 12, 3) := by decide +kernel
theorem dX11_cold_31 : decode cX11_cold 31 = .ok (.getfield 127, 3) := by decide +kernel
theorem dX11_cold_34 : decode cX11_cold 34 = .ok (.iload_n 1, 1) := by decide +kernel
theorem dX11_cold_35 : decode cX11_cold 35 = .ok (.invokestatic 130, 3) := by decide +kernel
theorem dX11_cold_38 : decode cX11_cold 38 = .ok (.istore_n 3, 1) := by decide +kernel
theorem dX11_cold_39 : decode cX11_cold 39 = .ok (.aload_n 0, 1) := by decide +kernel
theorem dX11_cold_40 : decode cX11_cold 40 = .ok (.getfield 12, 3) := by decide +kernel
theorem dX11_cold_43 : decode cX11_cold 43 = .ok (.invokevirtual 124, 3) := by decide +kernel
theorem dX11_cold_46 : decode cX11_cold 46 = .ok (.aload_n 0, 1) := by decide +kernel
theorem dX11_cold_47 : decode cX11_cold 47 = .ok (.getfield 12, 3) := by decide +kernel
theorem dX11_cold_50 : decode cX11_cold 50 = .ok (.aload_n 0, 1) := by decide +kernel
theorem dX11_cold_51 : decode cX11_cold 51 = .ok (.getfield 12, 3) := by decide +kernel
theorem dX11_cold_54 : decode cX11_cold 54 = .ok (.getfield 127, 3) := by decide +kernel
theorem dX11_cold_57 : decode cX11_cold 57 = .ok (.iconst 1, 1) := by decide +kernel
theorem dX11_cold_58 : decode cX11_cold 58 = .ok (.iload_n 1, 1) := by decide +kernel
theorem dX11_cold_59 : decode cX11_cold 59 = .ok (.ishl, 1) := by decide +kernel
theorem dX11_cold_60 : decode cX11_cold 60 = .ok (.iconst (-1), 1) := by decide +kernel
theorem dX11_cold_61 : decode cX11_cold 61 = .ok (.ixor, 1) := by decide +kernel
theorem dX11_cold_62 : decode cX11_cold 62 = .ok (.iand, 1) := by decide +kernel
theorem dX11_cold_63 : decode cX11_cold 63 = .ok (.iload_n 2, 1) := by decide +kernel
theorem dX11_cold_64 : decode cX11_cold 64 = .ok (.iload_n 1, 1) := by decide +kernel
theorem dX11_cold_65 : decode cX11_cold 65 = .ok (.ishl, 1) := by decide +kernel
theorem dX11_cold_66 : decode cX11_cold 66 = .ok (.ior, 1) := by decide +kernel
theorem dX11_cold_67 : decode cX11_cold 67 = .ok (.putfield 127, 3) := by decide +kernel
theorem dX11_cold_70 : decode cX11_cold 70 = .ok (.iload_n 3, 1) := by decide +kernel
theorem dX11_cold_71 : decode cX11_cold 71 = .ok (.ireturn, 1) := by decide +kernel
def P_X11_cold : Nat → Nat
  | 1 => 20
  | _ => 0
set_option maxRecDepth 100000 in
set_option maxHeartbeats 4000000 in
theorem S_X11_cold : zSd yX11_cold cX11_cold 4 (some .int) { frames := 2, cells := 0, slots := 0, locals := 46 } T_X11_cold := by
  refine zMet (pcs := P_X11_cold) (F := F_X11_cold) (by decide) rfl ?_
  intro p l e s m args below meth c D ids ad A Q Y C hr hk hY b
  match b with
  | 0 => exact (z_aln (pc := 0) C dX11_cold_0 rfl <| z_gf (pc := 1) C dX11_cold_1 fl_11_12 <| z_iln (pc := 4) C dX11_cold_4 rfl <| z_cV (pc := 5) C dX11_cold_5 S_X1_hasFamily rfl (zl4 w_483 w_484 w_485 w_2) w_486 ds_X1_hasFamily (zrm rfl rfl (by decide) (by decide)) <| z_ifeq (tgt := 20) (pc := 8) C dX11_cold_8 (by decide) (z_jmp (hY 1)) <| z_iln (pc := 11) C dX11_cold_11 rfl <| z_ic (pc := 12) C dX11_cold_12 (by decide +kernel) <| z_ic (pc := 13) C dX11_cold_13 (by decide +kernel) <| z_cS (pc := 14) C dX11_cold_14 S_X11_within (zl3 w_308 w_309 w_1) w_310 ds_X11_within (zrm rfl rfl (by decide) (by decide)) <| z_ifne (tgt := 27) (pc := 17) C dX11_cold_17 (by decide) (z_aln (pc := 27) C dX11_cold_27 rfl <| z_gf (pc := 28) C dX11_cold_28 fl_11_12 <| z_gf (pc := 31) C dX11_cold_31 fl_11_127 <| z_iln (pc := 34) C dX11_cold_34 rfl <| z_cS (pc := 35) C dX11_cold_35 S_X11_bit (zl3 w_495 w_496 w_1) w_497 ds_X11_bit (zrm rfl rfl (by decide) (by decide)) <| z_isn (pc := 38) C dX11_cold_38 rfl (by decide) <| z_aln (pc := 39) C dX11_cold_39 rfl <| z_gf (pc := 40) C dX11_cold_40 fl_11_12 <| z_cV (pc := 43) C dX11_cold_43 S_X1_remember rfl (zl4 w_487 w_488 w_489 w_2) w_490 ds_X1_remember (zrm rfl rfl (by decide) (by decide)) <| z_aln (pc := 46) C dX11_cold_46 rfl <| z_gf (pc := 47) C dX11_cold_47 fl_11_12 <| z_aln (pc := 50) C dX11_cold_50 rfl <| z_gf (pc := 51) C dX11_cold_51 fl_11_12 <| z_gf (pc := 54) C dX11_cold_54 fl_11_127 <| z_ic (pc := 57) C dX11_cold_57 (by decide +kernel) <| z_iln (pc := 58) C dX11_cold_58 rfl <| z_ishl (pc := 59) C dX11_cold_59 <| z_ic (pc := 60) C dX11_cold_60 (by decide +kernel) <| z_ixor (pc := 61) C dX11_cold_61 <| z_iand (pc := 62) C dX11_cold_62 <| z_iln (pc := 63) C dX11_cold_63 rfl <| z_iln (pc := 64) C dX11_cold_64 rfl <| z_ishl (pc := 65) C dX11_cold_65 <| z_ior (pc := 66) C dX11_cold_66 <| z_pf (pc := 67) C dX11_cold_67 fp_11_127 <| z_iln (pc := 70) C dX11_cold_70 rfl <| z_ir C hr hk dX11_cold_71) <| z_jmp (hY 1))
  | 1 => exact (z_aln (pc := 20) C dX11_cold_20 rfl <| z_bi (pc := 21) C dX11_cold_21 (by decide +kernel) <| z_cV (pc := 23) C dX11_cold_23 S_X11_refuse rfl (zl4 w_311 w_313 wp_0 w_1) w_314 ds_X11_refuse (zrm rfl rfl (by decide) (by decide)) <| z_ir C hr hk dX11_cold_26)
  | b + 2 => exact fun _ _ _ h => h.elim
theorem dJ6_bitCount_0f7a4_0 : decode cJ6_bitCount_0f7a4 0 = .ok (.iload_n 0, 1) := by decide +kernel
theorem dJ6_bitCount_0f7a4_1 : decode cJ6_bitCount_0f7a4 1 = .ok (.iload_n 0, 1) := by decide +kernel
theorem dJ6_bitCount_0f7a4_2 : decode cJ6_bitCount_0f7a4 2 = .ok (.iconst 1, 1) := by decide +kernel
theorem dJ6_bitCount_0f7a4_3 : decode cJ6_bitCount_0f7a4 3 = .ok (.iushr, 1) := by decide +kernel
theorem dJ6_bitCount_0f7a4_4 : decode cJ6_bitCount_0f7a4 4 = .ok (.ldc_w 265, 3) := by decide +kernel
theorem dJ6_bitCount_0f7a4_7 : decode cJ6_bitCount_0f7a4 7 = .ok (.iand, 1) := by decide +kernel
theorem dJ6_bitCount_0f7a4_8 : decode cJ6_bitCount_0f7a4 8 = .ok (.isub, 1) := by decide +kernel
theorem dJ6_bitCount_0f7a4_9 : decode cJ6_bitCount_0f7a4 9 = .ok (.istore_n 0, 1) := by decide +kernel
theorem dJ6_bitCount_0f7a4_10 : decode cJ6_bitCount_0f7a4 10 = .ok (.iload_n 0, 1) := by decide +kernel
theorem dJ6_bitCount_0f7a4_11 : decode cJ6_bitCount_0f7a4 11 = .ok (.ldc_w 266, 3) := by decide +kernel
theorem dJ6_bitCount_0f7a4_14 : decode cJ6_bitCount_0f7a4 14 = .ok (.iand, 1) := by decide +kernel
theorem dJ6_bitCount_0f7a4_15 : decode cJ6_bitCount_0f7a4 15 = .ok (.iload_n 0, 1) := by decide +kernel
theorem dJ6_bitCount_0f7a4_16 : decode cJ6_bitCount_0f7a4 16 = .ok (.iconst 2, 1) := by decide +kernel
theorem dJ6_bitCount_0f7a4_17 : decode cJ6_bitCount_0f7a4 17 = .ok (.iushr, 1) := by decide +kernel
theorem dJ6_bitCount_0f7a4_18 : decode cJ6_bitCount_0f7a4 18 = .ok (.ldc_w 266, 3) := by decide +kernel
theorem dJ6_bitCount_0f7a4_21 : decode cJ6_bitCount_0f7a4 21 = .ok (.iand, 1) := by decide +kernel
theorem dJ6_bitCount_0f7a4_22 : decode cJ6_bitCount_0f7a4 22 = .ok (.iadd, 1) := by decide +kernel
theorem dJ6_bitCount_0f7a4_23 : decode cJ6_bitCount_0f7a4 23 = .ok (.istore_n 0, 1) := by decide +kernel
theorem dJ6_bitCount_0f7a4_24 : decode cJ6_bitCount_0f7a4 24 = .ok (.iload_n 0, 1) := by decide +kernel
theorem dJ6_bitCount_0f7a4_25 : decode cJ6_bitCount_0f7a4 25 = .ok (.iload_n 0, 1) := by decide +kernel
theorem dJ6_bitCount_0f7a4_26 : decode cJ6_bitCount_0f7a4 26 = .ok (.iconst 4, 1) := by decide +kernel
theorem dJ6_bitCount_0f7a4_27 : decode cJ6_bitCount_0f7a4 27 = .ok (.iushr, 1) := by decide +kernel
theorem dJ6_bitCount_0f7a4_28 : decode cJ6_bitCount_0f7a4 28 = .ok (.iadd, 1) := by decide +kernel
theorem dJ6_bitCount_0f7a4_29 : decode cJ6_bitCount_0f7a4 29 = .ok (.ldc_w 267, 3) := by decide +kernel
theorem dJ6_bitCount_0f7a4_32 : decode cJ6_bitCount_0f7a4 32 = .ok (.iand, 1) := by decide +kernel
theorem dJ6_bitCount_0f7a4_33 : decode cJ6_bitCount_0f7a4 33 = .ok (.istore_n 0, 1) := by decide +kernel
theorem dJ6_bitCount_0f7a4_34 : decode cJ6_bitCount_0f7a4 34 = .ok (.iload_n 0, 1) := by decide +kernel
theorem dJ6_bitCount_0f7a4_35 : decode cJ6_bitCount_0f7a4 35 = .ok (.iload_n 0, 1) := by decide +kernel
theorem dJ6_bitCount_0f7a4_36 : decode cJ6_bitCount_0f7a4 36 = .ok (.bipush 8, 2) := by decide +kernel
theorem dJ6_bitCount_0f7a4_38 : decode cJ6_bitCount_0f7a4 38 = .ok (.iushr, 1) := by decide +kernel
theorem dJ6_bitCount_0f7a4_39 : decode cJ6_bitCount_0f7a4 39 = .ok (.iadd, 1) := by decide +kernel
theorem dJ6_bitCount_0f7a4_40 : decode cJ6_bitCount_0f7a4 40 = .ok (.istore_n 0, 1) := by decide +kernel
theorem dJ6_bitCount_0f7a4_41 : decode cJ6_bitCount_0f7a4 41 = .ok (.iload_n 0, 1) := by decide +kernel
theorem dJ6_bitCount_0f7a4_42 : decode cJ6_bitCount_0f7a4 42 = .ok (.iload_n 0, 1) := by decide +kernel
theorem dJ6_bitCount_0f7a4_43 : decode cJ6_bitCount_0f7a4 43 = .ok (.bipush 16, 2) := by decide +kernel
theorem dJ6_bitCount_0f7a4_45 : decode cJ6_bitCount_0f7a4 45 = .ok (.iushr, 1) := by decide +kernel
theorem dJ6_bitCount_0f7a4_46 : decode cJ6_bitCount_0f7a4 46 = .ok (.iadd, 1) := by decide +kernel
theorem dJ6_bitCount_0f7a4_47 : decode cJ6_bitCount_0f7a4 47 = .ok (.istore_n 0, 1) := by decide +kernel
theorem dJ6_bitCount_0f7a4_48 : decode cJ6_bitCount_0f7a4 48 = .ok (.iload_n 0, 1) := by decide +kernel
theorem dJ6_bitCount_0f7a4_49 : decode cJ6_bitCount_0f7a4 49 = .ok (.bipush 63, 2) := by decide +kernel
theorem dJ6_bitCount_0f7a4_51 : decode cJ6_bitCount_0f7a4 51 = .ok (.iand, 1) := by decide +kernel
theorem dJ6_bitCount_0f7a4_52 : decode cJ6_bitCount_0f7a4 52 = .ok (.ireturn, 1) := by decide +kernel
def P_J6_bitCount_0f7a4 : Nat → Nat
  | _ => 0
set_option maxRecDepth 100000 in
set_option maxHeartbeats 4000000 in
theorem S_J6_bitCount_0f7a4 : zSd yJ6_bitCount_0f7a4 cJ6_bitCount_0f7a4 1 (some .int) { frames := 0, cells := 0, slots := 0, locals := 0 } T_J6_bitCount_0f7a4 := by
  refine zMet (pcs := P_J6_bitCount_0f7a4) (F := F_J6_bitCount_0f7a4) (by decide) rfl ?_
  intro p l e s m args below meth c D ids ad A Q Y C hr hk hY b
  match b with
  | 0 => exact (z_iln (pc := 0) C dJ6_bitCount_0f7a4_0 rfl <| z_iln (pc := 1) C dJ6_bitCount_0f7a4_1 rfl <| z_ic (pc := 2) C dJ6_bitCount_0f7a4_2 (by decide +kernel) <| z_iushr (pc := 3) C dJ6_bitCount_0f7a4_3 <| z_ldcw (pc := 4) C dJ6_bitCount_0f7a4_4 w_509 <| z_iand (pc := 7) C dJ6_bitCount_0f7a4_7 <| z_isub (pc := 8) C dJ6_bitCount_0f7a4_8 <| z_isn (pc := 9) C dJ6_bitCount_0f7a4_9 rfl (by decide) <| z_iln (pc := 10) C dJ6_bitCount_0f7a4_10 rfl <| z_ldcw (pc := 11) C dJ6_bitCount_0f7a4_11 w_510 <| z_iand (pc := 14) C dJ6_bitCount_0f7a4_14 <| z_iln (pc := 15) C dJ6_bitCount_0f7a4_15 rfl <| z_ic (pc := 16) C dJ6_bitCount_0f7a4_16 (by decide +kernel) <| z_iushr (pc := 17) C dJ6_bitCount_0f7a4_17 <| z_ldcw (pc := 18) C dJ6_bitCount_0f7a4_18 w_510 <| z_iand (pc := 21) C dJ6_bitCount_0f7a4_21 <| z_iadd (pc := 22) C dJ6_bitCount_0f7a4_22 <| z_isn (pc := 23) C dJ6_bitCount_0f7a4_23 rfl (by decide) <| z_iln (pc := 24) C dJ6_bitCount_0f7a4_24 rfl <| z_iln (pc := 25) C dJ6_bitCount_0f7a4_25 rfl <| z_ic (pc := 26) C dJ6_bitCount_0f7a4_26 (by decide +kernel) <| z_iushr (pc := 27) C dJ6_bitCount_0f7a4_27 <| z_iadd (pc := 28) C dJ6_bitCount_0f7a4_28 <| z_ldcw (pc := 29) C dJ6_bitCount_0f7a4_29 w_511 <| z_iand (pc := 32) C dJ6_bitCount_0f7a4_32 <| z_isn (pc := 33) C dJ6_bitCount_0f7a4_33 rfl (by decide) <| z_iln (pc := 34) C dJ6_bitCount_0f7a4_34 rfl <| z_iln (pc := 35) C dJ6_bitCount_0f7a4_35 rfl <| z_bi (pc := 36) C dJ6_bitCount_0f7a4_36 (by decide +kernel) <| z_iushr (pc := 38) C dJ6_bitCount_0f7a4_38 <| z_iadd (pc := 39) C dJ6_bitCount_0f7a4_39 <| z_isn (pc := 40) C dJ6_bitCount_0f7a4_40 rfl (by decide) <| z_iln (pc := 41) C dJ6_bitCount_0f7a4_41 rfl <| z_iln (pc := 42) C dJ6_bitCount_0f7a4_42 rfl <| z_bi (pc := 43) C dJ6_bitCount_0f7a4_43 (by decide +kernel) <| z_iushr (pc := 45) C dJ6_bitCount_0f7a4_45 <| z_iadd (pc := 46) C dJ6_bitCount_0f7a4_46 <| z_isn (pc := 47) C dJ6_bitCount_0f7a4_47 rfl (by decide) <| z_iln (pc := 48) C dJ6_bitCount_0f7a4_48 rfl <| z_bi (pc := 49) C dJ6_bitCount_0f7a4_49 (by decide +kernel) <| z_iand (pc := 51) C dJ6_bitCount_0f7a4_51 <| z_ir C hr hk dJ6_bitCount_0f7a4_52)
  | b + 1 => exact fun _ _ _ h => h.elim
theorem dX11_undo_0 : decode cX11_undo 0 = .ok (.aload_n 0, 1) := by decide +kernel
theorem dX11_undo_1 : decode cX11_undo 1 = .ok (.getfield 12, 3) := by decide +kernel
theorem dX11_undo_4 : decode cX11_undo 4 = .ok (.getfield 134, 3) := by decide +kernel
theorem dX11_undo_7 : decode cX11_undo 7 = .ok (.ifCond .gt 10, 3) := by decide +kernel
theorem dX11_undo_10 : decode cX11_undo 10 = .ok (.aload_n 0, 1) := by decide +kernel
theorem dX11_undo_11 : decode cX11_undo 11 = .ok (.bipush (-3), 2) := by decide +kernel
theorem dX11_undo_13 : decode cX11_undo 13 = .ok (.invokevirtual 70, 3) := by decide +kernel
theorem dX11_undo_16 : decode cX11_undo 16 = .ok (.ireturn, 1) := by decide +kernel
theorem dX11_undo_17 : decode cX11_undo 17 = .ok (.aload_n 0, 1) := by decide +kernel
theorem dX11_undo_18 : decode cX11_undo 18 = .ok (.getfield 12, 3) := by decide +kernel
theorem dX11_undo_21 : decode cX11_undo 21 = .ok (.invokevirtual 137, 3) := by decide +kernel
theorem dX11_undo_24 : decode cX11_undo 24 = .ok (.aload_n 0, 1) := by decide +kernel
theorem dX11_undo_25 : decode cX11_undo 25 = .ok (.getfield 12, 3) := by decide +kernel
theorem dX11_undo_28 : decode cX11_undo 28 = .ok (.getfield 127, 3) := by decide +kernel
theorem dX11_undo_31 : decode cX11_undo 31 = .ok (.invokestatic 140, 3) := by decide +kernel
theorem dX11_undo_34 : decode cX11_undo 34 = .ok (.ireturn, 1) := by decide +kernel
def P_X11_undo : Nat → Nat
  | _ => 0
set_option maxRecDepth 100000 in
set_option maxHeartbeats 4000000 in
theorem S_X11_undo : zSd yX11_undo cX11_undo 1 (some .int) { frames := 2, cells := 0, slots := 0, locals := 46 } T_X11_undo := by
  refine zMet (pcs := P_X11_undo) (F := F_X11_undo) (by decide) rfl ?_
  intro p l e s m args below meth c D ids ad A Q Y C hr hk hY b
  match b with
  | 0 => exact (z_aln (pc := 0) C dX11_undo_0 rfl <| z_gf (pc := 1) C dX11_undo_1 fl_11_12 <| z_gf (pc := 4) C dX11_undo_4 fl_11_134 <| z_ifgt (tgt := 17) (pc := 7) C dX11_undo_7 (by decide) (z_aln (pc := 17) C dX11_undo_17 rfl <| z_gf (pc := 18) C dX11_undo_18 fl_11_12 <| z_cV (pc := 21) C dX11_undo_21 S_X1_goBack rfl (zl4 w_502 w_503 w_504 w_2) w_505 ds_X1_goBack (zrm rfl rfl (by decide) (by decide)) <| z_aln (pc := 24) C dX11_undo_24 rfl <| z_gf (pc := 25) C dX11_undo_25 fl_11_12 <| z_gf (pc := 28) C dX11_undo_28 fl_11_127 <| z_cS (pc := 31) C dX11_undo_31 S_J6_bitCount_0f7a4 (zl3 w_506 w_507 w_21) w_508 ds_J6_bitCount_0f7a4 (zrm rfl rfl (by decide) (by decide)) <| z_ir C hr hk dX11_undo_34) <| z_aln (pc := 10) C dX11_undo_10 rfl <| z_bi (pc := 11) C dX11_undo_11 (by decide +kernel) <| z_cV (pc := 13) C dX11_undo_13 S_X11_refuse rfl (zl4 w_311 w_313 wp_0 w_1) w_314 ds_X11_refuse (zrm rfl rfl (by decide) (by decide)) <| z_ir C hr hk dX11_undo_16)
  | b + 1 => exact fun _ _ _ h => h.elim
theorem dX11_of_0 : decode cX11_of 0 = .ok (.aload_n 0, 1) := by decide +kernel
theorem dX11_of_1 : decode cX11_of 1 = .ok (.getfield 12, 3) := by decide +kernel
theorem dX11_of_4 : decode cX11_of 4 = .ok (.iload_n 1, 1) := by decide +kernel
theorem dX11_of_5 : decode cX11_of 5 = .ok (.invokevirtual 115, 3) := by decide +kernel
theorem dX11_of_8 : decode cX11_of 8 = .ok (.ifCond .eq 12, 3) := by decide +kernel
theorem dX11_of_11 : decode cX11_of 11 = .ok (.iload_n 2, 1) := by decide +kernel
theorem dX11_of_12 : decode cX11_of 12 = .ok (.iconst 0, 1) := by decide +kernel
theorem dX11_of_13 : decode cX11_of 13 = .ok (.iconst 5, 1) := by decide +kernel
theorem dX11_of_14 : decode cX11_of 14 = .ok (.invokestatic 66, 3) := by decide +kernel
theorem dX11_of_17 : decode cX11_of 17 = .ok (.ifCond .ne 10, 3) := by decide +kernel
theorem dX11_of_20 : decode cX11_of 20 = .ok (.aload_n 0, 1) := by decide +kernel
theorem dX11_of_21 : decode cX11_of 21 = .ok (.bipush (-2), 2) := by decide +kernel
theorem dX11_of_23 : decode cX11_of 23 = .ok (.invokevirtual 70, 3) := by decide +kernel
theorem dX11_of_26 : decode cX11_of 26 = .ok (.ireturn, 1) := by decide +kernel
theorem dX11_of_27 : decode cX11_of 27 = .ok (.aload_n 0, 1) := by decide +kernel
theorem dX11_of_28 : decode cX11_of 28 = .ok (.getfield 12, 3) := by decide +kernel
theorem dX11_of_31 : decode cX11_of 31 = .ok (.iload_n 1, 1) := by decide +kernel
theorem dX11_of_32 : decode cX11_of 32 = .ok (.iload_n 2, 1) := by decide +kernel
theorem dX11_of_33 : decode cX11_of 33 = .ok (.invokevirtual 145, 3) := by decide +kernel
theorem dX11_of_36 : decode cX11_of 36 = .ok (.ireturn, 1) := by decide +kernel
def P_X11_of : Nat → Nat
  | 1 => 20
  | _ => 0
set_option maxRecDepth 100000 in
set_option maxHeartbeats 4000000 in
theorem S_X11_of : zSd yX11_of cX11_of 3 (some .int) { frames := 2, cells := 0, slots := 0, locals := 43 } T_X11_of := by
  refine zMet (pcs := P_X11_of) (F := F_X11_of) (by decide) rfl ?_
  intro p l e s m args below meth c D ids ad A Q Y C hr hk hY b
  match b with
  | 0 => exact (z_aln (pc := 0) C dX11_of_0 rfl <| z_gf (pc := 1) C dX11_of_1 fl_11_12 <| z_iln (pc := 4) C dX11_of_4 rfl <| z_cV (pc := 5) C dX11_of_5 S_X1_hasFamily rfl (zl4 w_483 w_484 w_485 w_2) w_486 ds_X1_hasFamily (zrm rfl rfl (by decide) (by decide)) <| z_ifeq (tgt := 20) (pc := 8) C dX11_of_8 (by decide) (z_jmp (hY 1)) <| z_iln (pc := 11) C dX11_of_11 rfl <| z_ic (pc := 12) C dX11_of_12 (by decide +kernel) <| z_ic (pc := 13) C dX11_of_13 (by decide +kernel) <| z_cS (pc := 14) C dX11_of_14 S_X11_within (zl3 w_308 w_309 w_1) w_310 ds_X11_within (zrm rfl rfl (by decide) (by decide)) <| z_ifne (tgt := 27) (pc := 17) C dX11_of_17 (by decide) (z_aln (pc := 27) C dX11_of_27 rfl <| z_gf (pc := 28) C dX11_of_28 fl_11_12 <| z_iln (pc := 31) C dX11_of_31 rfl <| z_iln (pc := 32) C dX11_of_32 rfl <| z_cV (pc := 33) C dX11_of_33 S_X1_trait rfl (zl4 w_516 w_517 w_518 w_2) w_519 ds_X1_trait (zrm rfl rfl (by decide) (by decide)) <| z_ir C hr hk dX11_of_36) <| z_jmp (hY 1))
  | 1 => exact (z_aln (pc := 20) C dX11_of_20 rfl <| z_bi (pc := 21) C dX11_of_21 (by decide +kernel) <| z_cV (pc := 23) C dX11_of_23 S_X11_refuse rfl (zl4 w_311 w_313 wp_0 w_1) w_314 ds_X11_refuse (zrm rfl rfl (by decide) (by decide)) <| z_ir C hr hk dX11_of_26)
  | b + 2 => exact fun _ _ _ h => h.elim
theorem dX11_isWord_0 : decode cX11_isWord 0 = .ok (.iload_n 0, 1) := by decide +kernel
theorem dX11_isWord_1 : decode cX11_isWord 1 = .ok (.iconst 0, 1) := by decide +kernel
theorem dX11_isWord_2 : decode cX11_isWord 2 = .ok (.bipush 15, 2) := by decide +kernel
theorem dX11_isWord_4 : decode cX11_isWord 4 = .ok (.invokestatic 66, 3) := by decide +kernel
theorem dX11_isWord_7 : decode cX11_isWord 7 = .ok (.ireturn, 1) := by decide +kernel
def P_X11_isWord : Nat → Nat
  | _ => 0
set_option maxRecDepth 100000 in
set_option maxHeartbeats 4000000 in
theorem S_X11_isWord : zSd yX11_isWord cX11_isWord 1 (some .boolean) { frames := 1, cells := 0, slots := 0, locals := 22 } T_X11_isWord := by
  refine zMet (pcs := P_X11_isWord) (F := F_X11_isWord) (by decide) rfl ?_
  intro p l e s m args below meth c D ids ad A Q Y C hr hk hY b
  match b with
  | 0 => exact (z_iln (pc := 0) C dX11_isWord_0 rfl <| z_ic (pc := 1) C dX11_isWord_1 (by decide +kernel) <| z_bi (pc := 2) C dX11_isWord_2 (by decide +kernel) <| z_cS (pc := 4) C dX11_isWord_4 S_X11_within (zl3 w_308 w_309 w_1) w_310 ds_X11_within (zrm rfl rfl (by decide) (by decide)) <| z_zr C hr hk dX11_isWord_7)
  | b + 1 => exact fun _ _ _ h => h.elim
theorem dX11_at_0 : decode cX11_at 0 = .ok (.aload_n 0, 1) := by decide +kernel
theorem dX11_at_1 : decode cX11_at 1 = .ok (.getfield 12, 3) := by decide +kernel
theorem dX11_at_4 : decode cX11_at 4 = .ok (.iload_n 1, 1) := by decide +kernel
theorem dX11_at_5 : decode cX11_at 5 = .ok (.invokevirtual 115, 3) := by decide +kernel
theorem dX11_at_8 : decode cX11_at 8 = .ok (.ifCond .eq 19, 3) := by decide +kernel
theorem dX11_at_11 : decode cX11_at 11 = .ok (.iload_n 2, 1) := by decide +kernel
theorem dX11_at_12 : decode cX11_at 12 = .ok (.invokestatic 148, 3) := by decide +kernel
theorem dX11_at_15 : decode cX11_at 15 = .ok (.ifCond .eq 12, 3) := by decide +kernel
theorem dX11_at_18 : decode cX11_at 18 = .ok (.iload_n 3, 1) := by decide +kernel
theorem dX11_at_19 : decode cX11_at 19 = .ok (.iconst 0, 1) := by decide +kernel
theorem dX11_at_20 : decode cX11_at 20 = .ok (.iconst 3, 1) := by decide +kernel
theorem dX11_at_21 : decode cX11_at 21 = .ok (.invokestatic 66, 3) := by decide +kernel
theorem dX11_at_24 : decode cX11_at 24 = .ok (.ifCond .ne 10, 3) := by decide +kernel
theorem dX11_at_27 : decode cX11_at 27 = .ok (.aload_n 0, 1) := by decide +kernel
theorem dX11_at_28 : decode cX11_at 28 = .ok (.bipush (-2), 2) := by decide +kernel
theorem dX11_at_30 : decode cX11_at 30 = .ok (.invokevirtual 70, 3) := by decide +kernel
theorem dX11_at_33 : decode cX11_at 33 = .ok (.ireturn, 1) := by decide +kernel
theorem dX11_at_34 : decode cX11_at 34 = .ok (.aload_n 0, 1) := by decide +kernel
theorem dX11_at_35 : decode cX11_at 35 = .ok (.getfield 37, 3) := by decide +kernel
theorem dX11_at_38 : decode cX11_at 38 = .ok (.aload_n 0, 1) := by decide +kernel
theorem dX11_at_39 : decode cX11_at 39 = .ok (.getfield 12, 3) := by decide +kernel
theorem dX11_at_42 : decode cX11_at 42 = .ok (.invokevirtual 151, 3) := by decide +kernel
theorem dX11_at_45 : decode cX11_at 45 = .ok (.iload_n 3, 1) := by decide +kernel
theorem dX11_at_46 : decode cX11_at 46 = .ok (.tableswitch 71 0 2 #[26, 44, 54], 26) := by decide +kernel
theorem dX11_at_72 : decode cX11_at 72 = .ok (.aload_n 0, 1) := by decide +kernel
theorem dX11_at_73 : decode cX11_at 73 = .ok (.getfield 37, 3) := by decide +kernel
theorem dX11_at_76 : decode cX11_at 76 = .ok (.iload_n 1, 1) := by decide +kernel
theorem dX11_at_77 : decode cX11_at 77 = .ok (.iload_n 2, 1) := by decide +kernel
theorem dX11_at_78 : decode cX11_at 78 = .ok (.invokevirtual 154, 3) := by decide +kernel
theorem dX11_at_81 : decode cX11_at 81 = .ok (.ifCond .eq 7, 3) := by decide +kernel
theorem dX11_at_84 : decode cX11_at 84 = .ok (.iconst 1, 1) := by decide +kernel
theorem dX11_at_85 : decode cX11_at 85 = .ok (.goto 4, 3) := by decide +kernel
theorem dX11_at_88 : decode cX11_at 88 = .ok (.iconst 0, 1) := by decide +kernel
theorem dX11_at_89 : decode cX11_at 89 = .ok (.ireturn, 1) := by decide +kernel
theorem dX11_at_90 : decode cX11_at 90 = .ok (.aload_n 0, 1) := by decide +kernel
theorem dX11_at_91 : decode cX11_at 91 = .ok (.getfield 37, 3) := by decide +kernel
theorem dX11_at_94 : decode cX11_at 94 = .ok (.iload_n 1, 1) := by decide +kernel
theorem dX11_at_95 : decode cX11_at 95 = .ok (.iload_n 2, 1) := by decide +kernel
theorem dX11_at_96 : decode cX11_at 96 = .ok (.invokevirtual 157, 3) := by decide +kernel
theorem dX11_at_99 : decode cX11_at 99 = .ok (.ireturn, 1) := by decide +kernel
theorem dX11_at_100 : decode cX11_at 100 = .ok (.aload_n 0, 1) := by decide +kernel
theorem dX11_at_101 : decode cX11_at 101 = .ok (.getfield 37, 3) := by decide +kernel
theorem dX11_at_104 : decode cX11_at 104 = .ok (.iload_n 1, 1) := by decide +kernel
theorem dX11_at_105 : decode cX11_at 105 = .ok (.iload_n 2, 1) := by decide +kernel
theorem dX11_at_106 : decode cX11_at 106 = .ok (.aload_n 0, 1) := by decide +kernel
theorem dX11_at_107 : decode cX11_at 107 = .ok (.getfield 12, 3) := by decide +kernel
theorem dX11_at_110 : decode cX11_at 110 = .ok (.getfield 127, 3) := by decide +kernel
theorem dX11_at_113 : decode cX11_at 113 = .ok (.invokevirtual 160, 3) := by decide +kernel
theorem dX11_at_116 : decode cX11_at 116 = .ok (.ireturn, 1) := by decide +kernel
theorem dX11_at_117 : decode cX11_at 117 = .ok (.aload_n 0, 1) := by decide +kernel
theorem dX11_at_118 : decode cX11_at 118 = .ok (.getfield 37, 3) := by decide +kernel
theorem dX11_at_121 : decode cX11_at 121 = .ok (.iload_n 1, 1) := by decide +kernel
theorem dX11_at_122 : decode cX11_at 122 = .ok (.iload_n 2, 1) := by decide +kernel
theorem dX11_at_123 : decode cX11_at 123 = .ok (.invokevirtual 164, 3) := by decide +kernel
theorem dX11_at_126 : decode cX11_at 126 = .ok (.ifCond .eq 7, 3) := by decide +kernel
theorem dX11_at_129 : decode cX11_at 129 = .ok (.iconst 1, 1) := by decide +kernel
theorem dX11_at_130 : decode cX11_at 130 = .ok (.goto 4, 3) := by decide +kernel
theorem dX11_at_133 : decode cX11_at 133 = .ok (.iconst 0, 1) := by decide +kernel
theorem dX11_at_134 : decode cX11_at 134 = .ok (.ireturn, 1) := by decide +kernel
def P_X11_at : Nat → Nat
  | 1 => 27
  | _ => 0
set_option maxRecDepth 100000 in
set_option maxHeartbeats 4000000 in
theorem S_X11_at : zSd yX11_at cX11_at 4 (some .int) { frames := 4, cells := 0, slots := 0, locals := 93 } T_X11_at := by
  refine zMet (pcs := P_X11_at) (F := F_X11_at) (by decide) rfl ?_
  intro p l e s m args below meth c D ids ad A Q Y C hr hk hY b
  match b with
  | 0 => exact (z_aln (pc := 0) C dX11_at_0 rfl <| z_gf (pc := 1) C dX11_at_1 fl_11_12 <| z_iln (pc := 4) C dX11_at_4 rfl <| z_cV (pc := 5) C dX11_at_5 S_X1_hasFamily rfl (zl4 w_483 w_484 w_485 w_2) w_486 ds_X1_hasFamily (zrm rfl rfl (by decide) (by decide)) <| z_ifeq (tgt := 27) (pc := 8) C dX11_at_8 (by decide) (z_jmp (hY 1)) <| z_iln (pc := 11) C dX11_at_11 rfl <| z_cS (pc := 12) C dX11_at_12 S_X11_isWord (zl3 w_525 w_526 w_1) w_527 ds_X11_isWord (zrm rfl rfl (by decide) (by decide)) <| z_ifeq (tgt := 27) (pc := 15) C dX11_at_15 (by decide) (z_jmp (hY 1)) <| z_iln (pc := 18) C dX11_at_18 rfl <| z_ic (pc := 19) C dX11_at_19 (by decide +kernel) <| z_ic (pc := 20) C dX11_at_20 (by decide +kernel) <| z_cS (pc := 21) C dX11_at_21 S_X11_within (zl3 w_308 w_309 w_1) w_310 ds_X11_within (zrm rfl rfl (by decide) (by decide)) <| z_ifne (tgt := 34) (pc := 24) C dX11_at_24 (by decide) (z_aln (pc := 34) C dX11_at_34 rfl <| z_gf (pc := 35) C dX11_at_35 fl_11_37 <| z_aln (pc := 38) C dX11_at_38 rfl <| z_gf (pc := 39) C dX11_at_39 fl_11_12 <| z_cV (pc := 42) C dX11_at_42 S_X8_hold rfl (zl4 w_528 w_529 w_530 w_4) w_531 ds_X8_hold (zrm rfl rfl (by decide) (by decide)) <| z_iln (pc := 45) C dX11_at_45 rfl <| z_table (pc := 46) (tgts := [72, 90, 100]) (td := 117) C dX11_at_46 (keys := [0, 1, 2]) rfl (by decide +kernel) rfl (by decide) (by decide +kernel) (by decide) (fun j q t h1 h2 => match j, q, t, h1, h2 with
  | 0, _, _, h1, h2 => by cases h1; cases h2; exact (z_aln (pc := 72) C dX11_at_72 rfl <| z_gf (pc := 73) C dX11_at_73 fl_11_37 <| z_iln (pc := 76) C dX11_at_76 rfl <| z_iln (pc := 77) C dX11_at_77 rfl <| z_cV (pc := 78) C dX11_at_78 S_X8_kneels rfl (zl4 w_594 w_595 w_596 w_4) w_597 ds_X8_kneels (zrm rfl rfl (by decide) (by decide)) <| z_ifeq (tgt := 88) (pc := 81) C dX11_at_81 (by decide) (z_ic (pc := 88) C dX11_at_88 (by decide +kernel) <| z_ir C hr hk dX11_at_89) <| z_ic (pc := 84) C dX11_at_84 (by decide +kernel) <| z_goto (tgt := 89) (pc := 85) C dX11_at_85 (by decide) <| z_ir C hr hk dX11_at_89)
  | 1, _, _, h1, h2 => by cases h1; cases h2; exact (z_aln (pc := 90) C dX11_at_90 rfl <| z_gf (pc := 91) C dX11_at_91 fl_11_37 <| z_iln (pc := 94) C dX11_at_94 rfl <| z_iln (pc := 95) C dX11_at_95 rfl <| z_cV (pc := 96) C dX11_at_96 S_X8_high rfl (zl4 w_598 w_599 w_600 w_4) w_601 ds_X8_high (zrm rfl rfl (by decide) (by decide)) <| z_ir C hr hk dX11_at_99)
  | 2, _, _, h1, h2 => by cases h1; cases h2; exact (z_aln (pc := 100) C dX11_at_100 rfl <| z_gf (pc := 101) C dX11_at_101 fl_11_37 <| z_iln (pc := 104) C dX11_at_104 rfl <| z_iln (pc := 105) C dX11_at_105 rfl <| z_aln (pc := 106) C dX11_at_106 rfl <| z_gf (pc := 107) C dX11_at_107 fl_11_12 <| z_gf (pc := 110) C dX11_at_110 fl_11_127 <| z_cV (pc := 113) C dX11_at_113 S_X8_voices rfl (zl4 w_602 w_603 w_604 w_4) w_605 ds_X8_voices (zrm rfl rfl (by decide) (by decide)) <| z_ir C hr hk dX11_at_116)
  | j + 3, _, _, h1, _ => by simp at h1) (z_aln (pc := 117) C dX11_at_117 rfl <| z_gf (pc := 118) C dX11_at_118 fl_11_37 <| z_iln (pc := 121) C dX11_at_121 rfl <| z_iln (pc := 122) C dX11_at_122 rfl <| z_cV (pc := 123) C dX11_at_123 S_X8_sees rfl (zl4 w_606 w_607 w_608 w_4) w_609 ds_X8_sees (zrm rfl rfl (by decide) (by decide)) <| z_ifeq (tgt := 133) (pc := 126) C dX11_at_126 (by decide) (z_ic (pc := 133) C dX11_at_133 (by decide +kernel) <| z_ir C hr hk dX11_at_134) <| z_ic (pc := 129) C dX11_at_129 (by decide +kernel) <| z_goto (tgt := 134) (pc := 130) C dX11_at_130 (by decide) <| z_ir C hr hk dX11_at_134)) <| z_jmp (hY 1))
  | 1 => exact (z_aln (pc := 27) C dX11_at_27 rfl <| z_bi (pc := 28) C dX11_at_28 (by decide +kernel) <| z_cV (pc := 30) C dX11_at_30 S_X11_refuse rfl (zl4 w_311 w_313 wp_0 w_1) w_314 ds_X11_refuse (zrm rfl rfl (by decide) (by decide)) <| z_ir C hr hk dX11_at_33)
  | b + 2 => exact fun _ _ _ h => h.elim
theorem dX11_up_0 : decode cX11_up 0 = .ok (.iload_n 1, 1) := by decide +kernel
theorem dX11_up_1 : decode cX11_up 1 = .ok (.invokestatic 148, 3) := by decide +kernel
theorem dX11_up_4 : decode cX11_up 4 = .ok (.ifCond .ne 10, 3) := by decide +kernel
theorem dX11_up_7 : decode cX11_up 7 = .ok (.aload_n 0, 1) := by decide +kernel
theorem dX11_up_8 : decode cX11_up 8 = .ok (.bipush (-2), 2) := by decide +kernel
theorem dX11_up_10 : decode cX11_up 10 = .ok (.invokevirtual 70, 3) := by decide +kernel
theorem dX11_up_13 : decode cX11_up 13 = .ok (.ireturn, 1) := by decide +kernel
theorem dX11_up_14 : decode cX11_up 14 = .ok (.aload_n 0, 1) := by decide +kernel
theorem dX11_up_15 : decode cX11_up 15 = .ok (.getfield 37, 3) := by decide +kernel
theorem dX11_up_18 : decode cX11_up 18 = .ok (.aload_n 0, 1) := by decide +kernel
theorem dX11_up_19 : decode cX11_up 19 = .ok (.getfield 12, 3) := by decide +kernel
theorem dX11_up_22 : decode cX11_up 22 = .ok (.invokevirtual 151, 3) := by decide +kernel
theorem dX11_up_25 : decode cX11_up 25 = .ok (.iconst 0, 1) := by decide +kernel
theorem dX11_up_26 : decode cX11_up 26 = .ok (.istore_n 2, 1) := by decide +kernel
theorem dX11_up_27 : decode cX11_up 27 = .ok (.iconst 0, 1) := by decide +kernel
theorem dX11_up_28 : decode cX11_up 28 = .ok (.istore_n 3, 1) := by decide +kernel
theorem dX11_up_29 : decode cX11_up 29 = .ok (.iload_n 3, 1) := by decide +kernel
theorem dX11_up_30 : decode cX11_up 30 = .ok (.aload_n 0, 1) := by decide +kernel
theorem dX11_up_31 : decode cX11_up 31 = .ok (.getfield 12, 3) := by decide +kernel
theorem dX11_up_34 : decode cX11_up 34 = .ok (.getfield 74, 3) := by decide +kernel
theorem dX11_up_37 : decode cX11_up 37 = .ok (.if_icmp .ge 27, 3) := by decide +kernel
theorem dX11_up_40 : decode cX11_up 40 = .ok (.aload_n 0, 1) := by decide +kernel
theorem dX11_up_41 : decode cX11_up 41 = .ok (.getfield 37, 3) := by decide +kernel
theorem dX11_up_44 : decode cX11_up 44 = .ok (.iload_n 3, 1) := by decide +kernel
theorem dX11_up_45 : decode cX11_up 45 = .ok (.iload_n 1, 1) := by decide +kernel
theorem dX11_up_46 : decode cX11_up 46 = .ok (.invokevirtual 154, 3) := by decide +kernel
theorem dX11_up_49 : decode cX11_up 49 = .ok (.ifCond .ne 9, 3) := by decide +kernel
theorem dX11_up_52 : decode cX11_up 52 = .ok (.iload_n 2, 1) := by decide +kernel
theorem dX11_up_53 : decode cX11_up 53 = .ok (.iconst 1, 1) := by decide +kernel
theorem dX11_up_54 : decode cX11_up 54 = .ok (.iload_n 3, 1) := by decide +kernel
theorem dX11_up_55 : decode cX11_up 55 = .ok (.ishl, 1) := by decide +kernel
theorem dX11_up_56 : decode cX11_up 56 = .ok (.ior, 1) := by decide +kernel
theorem dX11_up_57 : decode cX11_up 57 = .ok (.istore_n 2, 1) := by decide +kernel
theorem dX11_up_58 : decode cX11_up 58 = .ok (.iinc 3 1, 3) := by decide +kernel
theorem dX11_up_61 : decode cX11_up 61 = .ok (.goto (-32), 3) := by decide +kernel
theorem dX11_up_64 : decode cX11_up 64 = .ok (.iload_n 2, 1) := by decide +kernel
theorem dX11_up_65 : decode cX11_up 65 = .ok (.ireturn, 1) := by decide +kernel
def P_X11_up : Nat → Nat
  | 1 => 29
  | 2 => 58
  | _ => 0
set_option maxRecDepth 100000 in
set_option maxHeartbeats 4000000 in
theorem S_X11_up : zSd yX11_up cX11_up 4 (some .int) { frames := 4, cells := 0, slots := 0, locals := 93 } T_X11_up := by
  refine zMet (pcs := P_X11_up) (F := F_X11_up) (by decide) rfl ?_
  intro p l e s m args below meth c D ids ad A Q Y C hr hk hY b
  match b with
  | 0 => exact (z_iln (pc := 0) C dX11_up_0 rfl <| z_cS (pc := 1) C dX11_up_1 S_X11_isWord (zl3 w_525 w_526 w_1) w_527 ds_X11_isWord (zrm rfl rfl (by decide) (by decide)) <| z_ifne (tgt := 14) (pc := 4) C dX11_up_4 (by decide) (z_aln (pc := 14) C dX11_up_14 rfl <| z_gf (pc := 15) C dX11_up_15 fl_11_37 <| z_aln (pc := 18) C dX11_up_18 rfl <| z_gf (pc := 19) C dX11_up_19 fl_11_12 <| z_cV (pc := 22) C dX11_up_22 S_X8_hold rfl (zl4 w_528 w_529 w_530 w_4) w_531 ds_X8_hold (zrm rfl rfl (by decide) (by decide)) <| z_ic (pc := 25) C dX11_up_25 (by decide +kernel) <| z_isn (pc := 26) C dX11_up_26 rfl (by decide) <| z_ic (pc := 27) C dX11_up_27 (by decide +kernel) <| z_isn (pc := 28) C dX11_up_28 rfl (by decide) <| z_jmp (hY 1)) <| z_aln (pc := 7) C dX11_up_7 rfl <| z_bi (pc := 8) C dX11_up_8 (by decide +kernel) <| z_cV (pc := 10) C dX11_up_10 S_X11_refuse rfl (zl4 w_311 w_313 wp_0 w_1) w_314 ds_X11_refuse (zrm rfl rfl (by decide) (by decide)) <| z_ir C hr hk dX11_up_13)
  | 1 => exact (z_iln (pc := 29) C dX11_up_29 rfl <| z_aln (pc := 30) C dX11_up_30 rfl <| z_gf (pc := 31) C dX11_up_31 fl_11_12 <| z_gf (pc := 34) C dX11_up_34 fl_11_74 <| z_cmpge (tgt := 64) (pc := 37) C dX11_up_37 (by decide) (z_iln (pc := 64) C dX11_up_64 rfl <| z_ir C hr hk dX11_up_65) <| z_aln (pc := 40) C dX11_up_40 rfl <| z_gf (pc := 41) C dX11_up_41 fl_11_37 <| z_iln (pc := 44) C dX11_up_44 rfl <| z_iln (pc := 45) C dX11_up_45 rfl <| z_cV (pc := 46) C dX11_up_46 S_X8_kneels rfl (zl4 w_594 w_595 w_596 w_4) w_597 ds_X8_kneels (zrm rfl rfl (by decide) (by decide)) <| z_ifne (tgt := 58) (pc := 49) C dX11_up_49 (by decide) (z_jmp (hY 2)) <| z_iln (pc := 52) C dX11_up_52 rfl <| z_ic (pc := 53) C dX11_up_53 (by decide +kernel) <| z_iln (pc := 54) C dX11_up_54 rfl <| z_ishl (pc := 55) C dX11_up_55 <| z_ior (pc := 56) C dX11_up_56 <| z_isn (pc := 57) C dX11_up_57 rfl (by decide) <| z_jmp (hY 2))
  | 2 => exact (z_inc (pc := 58) C dX11_up_58 (by decide +kernel) (by decide) <| z_goto (tgt := 29) (pc := 61) C dX11_up_61 (by decide) <| z_jmp (hY 1))
  | b + 3 => exact fun _ _ _ h => h.elim
theorem dX11_seers_0 : decode cX11_seers 0 = .ok (.iload_n 1, 1) := by decide +kernel
theorem dX11_seers_1 : decode cX11_seers 1 = .ok (.invokestatic 148, 3) := by decide +kernel
theorem dX11_seers_4 : decode cX11_seers 4 = .ok (.ifCond .ne 10, 3) := by decide +kernel
theorem dX11_seers_7 : decode cX11_seers 7 = .ok (.aload_n 0, 1) := by decide +kernel
theorem dX11_seers_8 : decode cX11_seers 8 = .ok (.bipush (-2), 2) := by decide +kernel
theorem dX11_seers_10 : decode cX11_seers 10 = .ok (.invokevirtual 70, 3) := by decide +kernel
theorem dX11_seers_13 : decode cX11_seers 13 = .ok (.ireturn, 1) := by decide +kernel
theorem dX11_seers_14 : decode cX11_seers 14 = .ok (.aload_n 0, 1) := by decide +kernel
theorem dX11_seers_15 : decode cX11_seers 15 = .ok (.getfield 37, 3) := by decide +kernel
theorem dX11_seers_18 : decode cX11_seers 18 = .ok (.aload_n 0, 1) := by decide +kernel
theorem dX11_seers_19 : decode cX11_seers 19 = .ok (.getfield 12, 3) := by decide +kernel
theorem dX11_seers_22 : decode cX11_seers 22 = .ok (.invokevirtual 151, 3) := by decide +kernel
theorem dX11_seers_25 : decode cX11_seers 25 = .ok (.iconst 0, 1) := by decide +kernel
theorem dX11_seers_26 : decode cX11_seers 26 = .ok (.istore_n 2, 1) := by decide +kernel
theorem dX11_seers_27 : decode cX11_seers 27 = .ok (.iconst 0, 1) := by decide +kernel
theorem dX11_seers_28 : decode cX11_seers 28 = .ok (.istore_n 3, 1) := by decide +kernel
theorem dX11_seers_29 : decode cX11_seers 29 = .ok (.iload_n 3, 1) := by decide +kernel
theorem dX11_seers_30 : decode cX11_seers 30 = .ok (.aload_n 0, 1) := by decide +kernel
theorem dX11_seers_31 : decode cX11_seers 31 = .ok (.getfield 12, 3) := by decide +kernel
theorem dX11_seers_34 : decode cX11_seers 34 = .ok (.getfield 74, 3) := by decide +kernel
theorem dX11_seers_37 : decode cX11_seers 37 = .ok (.if_icmp .ge 27, 3) := by decide +kernel
theorem dX11_seers_40 : decode cX11_seers 40 = .ok (.aload_n 0, 1) := by decide +kernel
theorem dX11_seers_41 : decode cX11_seers 41 = .ok (.getfield 37, 3) := by decide +kernel
theorem dX11_seers_44 : decode cX11_seers 44 = .ok (.iload_n 3, 1) := by decide +kernel
theorem dX11_seers_45 : decode cX11_seers 45 = .ok (.iload_n 1, 1) := by decide +kernel
theorem dX11_seers_46 : decode cX11_seers 46 = .ok (.invokevirtual 164, 3) := by decide +kernel
theorem dX11_seers_49 : decode cX11_seers 49 = .ok (.ifCond .eq 9, 3) := by decide +kernel
theorem dX11_seers_52 : decode cX11_seers 52 = .ok (.iload_n 2, 1) := by decide +kernel
theorem dX11_seers_53 : decode cX11_seers 53 = .ok (.iconst 1, 1) := by decide +kernel
theorem dX11_seers_54 : decode cX11_seers 54 = .ok (.iload_n 3, 1) := by decide +kernel
theorem dX11_seers_55 : decode cX11_seers 55 = .ok (.ishl, 1) := by decide +kernel
theorem dX11_seers_56 : decode cX11_seers 56 = .ok (.ior, 1) := by decide +kernel
theorem dX11_seers_57 : decode cX11_seers 57 = .ok (.istore_n 2, 1) := by decide +kernel
theorem dX11_seers_58 : decode cX11_seers 58 = .ok (.iinc 3 1, 3) := by decide +kernel
theorem dX11_seers_61 : decode cX11_seers 61 = .ok (.goto (-32), 3) := by decide +kernel
theorem dX11_seers_64 : decode cX11_seers 64 = .ok (.iload_n 2, 1) := by decide +kernel
theorem dX11_seers_65 : decode cX11_seers 65 = .ok (.ireturn, 1) := by decide +kernel
def P_X11_seers : Nat → Nat
  | 1 => 29
  | 2 => 58
  | _ => 0
set_option maxRecDepth 100000 in
set_option maxHeartbeats 4000000 in
theorem S_X11_seers : zSd yX11_seers cX11_seers 4 (some .int) { frames := 4, cells := 0, slots := 0, locals := 93 } T_X11_seers := by
  refine zMet (pcs := P_X11_seers) (F := F_X11_seers) (by decide) rfl ?_
  intro p l e s m args below meth c D ids ad A Q Y C hr hk hY b
  match b with
  | 0 => exact (z_iln (pc := 0) C dX11_seers_0 rfl <| z_cS (pc := 1) C dX11_seers_1 S_X11_isWord (zl3 w_525 w_526 w_1) w_527 ds_X11_isWord (zrm rfl rfl (by decide) (by decide)) <| z_ifne (tgt := 14) (pc := 4) C dX11_seers_4 (by decide) (z_aln (pc := 14) C dX11_seers_14 rfl <| z_gf (pc := 15) C dX11_seers_15 fl_11_37 <| z_aln (pc := 18) C dX11_seers_18 rfl <| z_gf (pc := 19) C dX11_seers_19 fl_11_12 <| z_cV (pc := 22) C dX11_seers_22 S_X8_hold rfl (zl4 w_528 w_529 w_530 w_4) w_531 ds_X8_hold (zrm rfl rfl (by decide) (by decide)) <| z_ic (pc := 25) C dX11_seers_25 (by decide +kernel) <| z_isn (pc := 26) C dX11_seers_26 rfl (by decide) <| z_ic (pc := 27) C dX11_seers_27 (by decide +kernel) <| z_isn (pc := 28) C dX11_seers_28 rfl (by decide) <| z_jmp (hY 1)) <| z_aln (pc := 7) C dX11_seers_7 rfl <| z_bi (pc := 8) C dX11_seers_8 (by decide +kernel) <| z_cV (pc := 10) C dX11_seers_10 S_X11_refuse rfl (zl4 w_311 w_313 wp_0 w_1) w_314 ds_X11_refuse (zrm rfl rfl (by decide) (by decide)) <| z_ir C hr hk dX11_seers_13)
  | 1 => exact (z_iln (pc := 29) C dX11_seers_29 rfl <| z_aln (pc := 30) C dX11_seers_30 rfl <| z_gf (pc := 31) C dX11_seers_31 fl_11_12 <| z_gf (pc := 34) C dX11_seers_34 fl_11_74 <| z_cmpge (tgt := 64) (pc := 37) C dX11_seers_37 (by decide) (z_iln (pc := 64) C dX11_seers_64 rfl <| z_ir C hr hk dX11_seers_65) <| z_aln (pc := 40) C dX11_seers_40 rfl <| z_gf (pc := 41) C dX11_seers_41 fl_11_37 <| z_iln (pc := 44) C dX11_seers_44 rfl <| z_iln (pc := 45) C dX11_seers_45 rfl <| z_cV (pc := 46) C dX11_seers_46 S_X8_sees rfl (zl4 w_606 w_607 w_608 w_4) w_609 ds_X8_sees (zrm rfl rfl (by decide) (by decide)) <| z_ifeq (tgt := 58) (pc := 49) C dX11_seers_49 (by decide) (z_jmp (hY 2)) <| z_iln (pc := 52) C dX11_seers_52 rfl <| z_ic (pc := 53) C dX11_seers_53 (by decide +kernel) <| z_iln (pc := 54) C dX11_seers_54 rfl <| z_ishl (pc := 55) C dX11_seers_55 <| z_ior (pc := 56) C dX11_seers_56 <| z_isn (pc := 57) C dX11_seers_57 rfl (by decide) <| z_jmp (hY 2))
  | 2 => exact (z_inc (pc := 58) C dX11_seers_58 (by decide +kernel) (by decide) <| z_goto (tgt := 29) (pc := 61) C dX11_seers_61 (by decide) <| z_jmp (hY 1))
  | b + 3 => exact fun _ _ _ h => h.elim
theorem dX11_loud_0 : decode cX11_loud 0 = .ok (.iload_n 1, 1) := by decide +kernel
theorem dX11_loud_1 : decode cX11_loud 1 = .ok (.invokestatic 148, 3) := by decide +kernel
theorem dX11_loud_4 : decode cX11_loud 4 = .ok (.ifCond .eq 10, 3) := by decide +kernel
theorem dX11_loud_7 : decode cX11_loud 7 = .ok (.iload_n 2, 1) := by decide +kernel
theorem dX11_loud_8 : decode cX11_loud 8 = .ok (.invokestatic 82, 3) := by decide +kernel
theorem dX11_loud_11 : decode cX11_loud 11 = .ok (.ifCond .ne 10, 3) := by decide +kernel
theorem dX11_loud_14 : decode cX11_loud 14 = .ok (.aload_n 0, 1) := by decide +kernel
theorem dX11_loud_15 : decode cX11_loud 15 = .ok (.bipush (-2), 2) := by decide +kernel
theorem dX11_loud_17 : decode cX11_loud 17 = .ok (.invokevirtual 70, 3) := by decide +kernel
theorem dX11_loud_20 : decode cX11_loud 20 = .ok (.ireturn, 1) := by decide +kernel
theorem dX11_loud_21 : decode cX11_loud 21 = .ok (.aload_n 0, 1) := by decide +kernel
theorem dX11_loud_22 : decode cX11_loud 22 = .ok (.getfield 37, 3) := by decide +kernel
theorem dX11_loud_25 : decode cX11_loud 25 = .ok (.aload_n 0, 1) := by decide +kernel
theorem dX11_loud_26 : decode cX11_loud 26 = .ok (.getfield 12, 3) := by decide +kernel
theorem dX11_loud_29 : decode cX11_loud 29 = .ok (.invokevirtual 151, 3) := by decide +kernel
theorem dX11_loud_32 : decode cX11_loud 32 = .ok (.aload_n 0, 1) := by decide +kernel
theorem dX11_loud_33 : decode cX11_loud 33 = .ok (.getfield 37, 3) := by decide +kernel
theorem dX11_loud_36 : decode cX11_loud 36 = .ok (.iload_n 1, 1) := by decide +kernel
theorem dX11_loud_37 : decode cX11_loud 37 = .ok (.iload_n 2, 1) := by decide +kernel
theorem dX11_loud_38 : decode cX11_loud 38 = .ok (.aload_n 0, 1) := by decide +kernel
theorem dX11_loud_39 : decode cX11_loud 39 = .ok (.getfield 12, 3) := by decide +kernel
theorem dX11_loud_42 : decode cX11_loud 42 = .ok (.getfield 127, 3) := by decide +kernel
theorem dX11_loud_45 : decode cX11_loud 45 = .ok (.invokevirtual 167, 3) := by decide +kernel
theorem dX11_loud_48 : decode cX11_loud 48 = .ok (.ireturn, 1) := by decide +kernel
def P_X11_loud : Nat → Nat
  | 1 => 14
  | _ => 0
set_option maxRecDepth 100000 in
set_option maxHeartbeats 4000000 in
theorem S_X11_loud : zSd yX11_loud cX11_loud 3 (some .int) { frames := 4, cells := 0, slots := 0, locals := 93 } T_X11_loud := by
  refine zMet (pcs := P_X11_loud) (F := F_X11_loud) (by decide) rfl ?_
  intro p l e s m args below meth c D ids ad A Q Y C hr hk hY b
  match b with
  | 0 => exact (z_iln (pc := 0) C dX11_loud_0 rfl <| z_cS (pc := 1) C dX11_loud_1 S_X11_isWord (zl3 w_525 w_526 w_1) w_527 ds_X11_isWord (zrm rfl rfl (by decide) (by decide)) <| z_ifeq (tgt := 14) (pc := 4) C dX11_loud_4 (by decide) (z_jmp (hY 1)) <| z_iln (pc := 7) C dX11_loud_7 rfl <| z_cS (pc := 8) C dX11_loud_8 S_X11_isBook (zl3 w_326 w_327 w_1) w_328 ds_X11_isBook (zrm rfl rfl (by decide) (by decide)) <| z_ifne (tgt := 21) (pc := 11) C dX11_loud_11 (by decide) (z_aln (pc := 21) C dX11_loud_21 rfl <| z_gf (pc := 22) C dX11_loud_22 fl_11_37 <| z_aln (pc := 25) C dX11_loud_25 rfl <| z_gf (pc := 26) C dX11_loud_26 fl_11_12 <| z_cV (pc := 29) C dX11_loud_29 S_X8_hold rfl (zl4 w_528 w_529 w_530 w_4) w_531 ds_X8_hold (zrm rfl rfl (by decide) (by decide)) <| z_aln (pc := 32) C dX11_loud_32 rfl <| z_gf (pc := 33) C dX11_loud_33 fl_11_37 <| z_iln (pc := 36) C dX11_loud_36 rfl <| z_iln (pc := 37) C dX11_loud_37 rfl <| z_aln (pc := 38) C dX11_loud_38 rfl <| z_gf (pc := 39) C dX11_loud_39 fl_11_12 <| z_gf (pc := 42) C dX11_loud_42 fl_11_127 <| z_cV (pc := 45) C dX11_loud_45 S_X8_loudness rfl (zl4 w_623 w_624 w_625 w_4) w_626 ds_X8_loudness (zrm rfl rfl (by decide) (by decide)) <| z_ir C hr hk dX11_loud_48) <| z_jmp (hY 1))
  | 1 => exact (z_aln (pc := 14) C dX11_loud_14 rfl <| z_bi (pc := 15) C dX11_loud_15 (by decide +kernel) <| z_cV (pc := 17) C dX11_loud_17 S_X11_refuse rfl (zl4 w_311 w_313 wp_0 w_1) w_314 ds_X11_refuse (zrm rfl rfl (by decide) (by decide)) <| z_ir C hr hk dX11_loud_20)
  | b + 2 => exact fun _ _ _ h => h.elim
theorem dX11_breach_0 : decode cX11_breach 0 = .ok (.iload_n 1, 1) := by decide +kernel
theorem dX11_breach_1 : decode cX11_breach 1 = .ok (.invokestatic 148, 3) := by decide +kernel
theorem dX11_breach_4 : decode cX11_breach 4 = .ok (.ifCond .ne 10, 3) := by decide +kernel
theorem dX11_breach_7 : decode cX11_breach 7 = .ok (.aload_n 0, 1) := by decide +kernel
theorem dX11_breach_8 : decode cX11_breach 8 = .ok (.bipush (-2), 2) := by decide +kernel
theorem dX11_breach_10 : decode cX11_breach 10 = .ok (.invokevirtual 70, 3) := by decide +kernel
theorem dX11_breach_13 : decode cX11_breach 13 = .ok (.ireturn, 1) := by decide +kernel
theorem dX11_breach_14 : decode cX11_breach 14 = .ok (.aload_n 0, 1) := by decide +kernel
theorem dX11_breach_15 : decode cX11_breach 15 = .ok (.getfield 37, 3) := by decide +kernel
theorem dX11_breach_18 : decode cX11_breach 18 = .ok (.aload_n 0, 1) := by decide +kernel
theorem dX11_breach_19 : decode cX11_breach 19 = .ok (.getfield 12, 3) := by decide +kernel
theorem dX11_breach_22 : decode cX11_breach 22 = .ok (.invokevirtual 151, 3) := by decide +kernel
theorem dX11_breach_25 : decode cX11_breach 25 = .ok (.iload_n 1, 1) := by decide +kernel
theorem dX11_breach_26 : decode cX11_breach 26 = .ok (.istore_n 2, 1) := by decide +kernel
theorem dX11_breach_27 : decode cX11_breach 27 = .ok (.iload_n 2, 1) := by decide +kernel
theorem dX11_breach_28 : decode cX11_breach 28 = .ok (.bipush 16, 2) := by decide +kernel
theorem dX11_breach_30 : decode cX11_breach 30 = .ok (.if_icmp .ge 29, 3) := by decide +kernel
theorem dX11_breach_33 : decode cX11_breach 33 = .ok (.aload_n 0, 1) := by decide +kernel
theorem dX11_breach_34 : decode cX11_breach 34 = .ok (.getfield 37, 3) := by decide +kernel
theorem dX11_breach_37 : decode cX11_breach 37 = .ok (.iload_n 2, 1) := by decide +kernel
theorem dX11_breach_38 : decode cX11_breach 38 = .ok (.aload_n 0, 1) := by decide +kernel
theorem dX11_breach_39 : decode cX11_breach 39 = .ok (.getfield 12, 3) := by decide +kernel
theorem dX11_breach_42 : decode cX11_breach 42 = .ok (.getfield 127, 3) := by decide +kernel
theorem dX11_breach_45 : decode cX11_breach 45 = .ok (.invokevirtual 170, 3) := by decide +kernel
theorem dX11_breach_48 : decode cX11_breach 48 = .ok (.ifCond .ne 5, 3) := by decide +kernel
theorem dX11_breach_51 : decode cX11_breach 51 = .ok (.iload_n 2, 1) := by decide +kernel
theorem dX11_breach_52 : decode cX11_breach 52 = .ok (.ireturn, 1) := by decide +kernel
theorem dX11_breach_53 : decode cX11_breach 53 = .ok (.iinc 2 1, 3) := by decide +kernel
theorem dX11_breach_56 : decode cX11_breach 56 = .ok (.goto (-29), 3) := by decide +kernel
theorem dX11_breach_59 : decode cX11_breach 59 = .ok (.iconst (-1), 1) := by decide +kernel
theorem dX11_breach_60 : decode cX11_breach 60 = .ok (.ireturn, 1) := by decide +kernel
def P_X11_breach : Nat → Nat
  | 1 => 27
  | _ => 0
set_option maxRecDepth 100000 in
set_option maxHeartbeats 4000000 in
theorem S_X11_breach : zSd yX11_breach cX11_breach 3 (some .int) { frames := 4, cells := 0, slots := 0, locals := 93 } T_X11_breach := by
  refine zMet (pcs := P_X11_breach) (F := F_X11_breach) (by decide) rfl ?_
  intro p l e s m args below meth c D ids ad A Q Y C hr hk hY b
  match b with
  | 0 => exact (z_iln (pc := 0) C dX11_breach_0 rfl <| z_cS (pc := 1) C dX11_breach_1 S_X11_isWord (zl3 w_525 w_526 w_1) w_527 ds_X11_isWord (zrm rfl rfl (by decide) (by decide)) <| z_ifne (tgt := 14) (pc := 4) C dX11_breach_4 (by decide) (z_aln (pc := 14) C dX11_breach_14 rfl <| z_gf (pc := 15) C dX11_breach_15 fl_11_37 <| z_aln (pc := 18) C dX11_breach_18 rfl <| z_gf (pc := 19) C dX11_breach_19 fl_11_12 <| z_cV (pc := 22) C dX11_breach_22 S_X8_hold rfl (zl4 w_528 w_529 w_530 w_4) w_531 ds_X8_hold (zrm rfl rfl (by decide) (by decide)) <| z_iln (pc := 25) C dX11_breach_25 rfl <| z_isn (pc := 26) C dX11_breach_26 rfl (by decide) <| z_jmp (hY 1)) <| z_aln (pc := 7) C dX11_breach_7 rfl <| z_bi (pc := 8) C dX11_breach_8 (by decide +kernel) <| z_cV (pc := 10) C dX11_breach_10 S_X11_refuse rfl (zl4 w_311 w_313 wp_0 w_1) w_314 ds_X11_refuse (zrm rfl rfl (by decide) (by decide)) <| z_ir C hr hk dX11_breach_13)
  | 1 => exact (z_iln (pc := 27) C dX11_breach_27 rfl <| z_bi (pc := 28) C dX11_breach_28 (by decide +kernel) <| z_cmpge (tgt := 59) (pc := 30) C dX11_breach_30 (by decide) (z_ic (pc := 59) C dX11_breach_59 (by decide +kernel) <| z_ir C hr hk dX11_breach_60) <| z_aln (pc := 33) C dX11_breach_33 rfl <| z_gf (pc := 34) C dX11_breach_34 fl_11_37 <| z_iln (pc := 37) C dX11_breach_37 rfl <| z_aln (pc := 38) C dX11_breach_38 rfl <| z_gf (pc := 39) C dX11_breach_39 fl_11_12 <| z_gf (pc := 42) C dX11_breach_42 fl_11_127 <| z_cV (pc := 45) C dX11_breach_45 S_X8_isPeaceful rfl (zl4 w_635 w_636 w_637 w_4) w_638 ds_X8_isPeaceful (zrm rfl rfl (by decide) (by decide)) <| z_ifne (tgt := 53) (pc := 48) C dX11_breach_48 (by decide) (z_inc (pc := 53) C dX11_breach_53 (by decide +kernel) (by decide) <| z_goto (tgt := 27) (pc := 56) C dX11_breach_56 (by decide) <| z_jmp (hY 1)) <| z_iln (pc := 51) C dX11_breach_51 rfl <| z_ir C hr hk dX11_breach_52)
  | b + 2 => exact fun _ _ _ h => h.elim
theorem dX11_canNot_0 : decode cX11_canNot 0 = .ok (.aload_n 0, 1) := by decide +kernel
theorem dX11_canNot_1 : decode cX11_canNot 1 = .ok (.getfield 12, 3) := by decide +kernel
theorem dX11_canNot_4 : decode cX11_canNot 4 = .ok (.getfield 87, 3) := by decide +kernel
theorem dX11_canNot_7 : decode cX11_canNot 7 = .ok (.iconst 0, 1) := by decide +kernel
theorem dX11_canNot_8 : decode cX11_canNot 8 = .ok (.iaload, 1) := by decide +kernel
theorem dX11_canNot_9 : decode cX11_canNot 9 = .ok (.aload_n 0, 1) := by decide +kernel
theorem dX11_canNot_10 : decode cX11_canNot 10 = .ok (.getfield 12, 3) := by decide +kernel
theorem dX11_canNot_13 : decode cX11_canNot 13 = .ok (.getfield 87, 3) := by decide +kernel
theorem dX11_canNot_16 : decode cX11_canNot 16 = .ok (.iconst 1, 1) := by decide +kernel
theorem dX11_canNot_17 : decode cX11_canNot 17 = .ok (.iaload, 1) := by decide +kernel
theorem dX11_canNot_18 : decode cX11_canNot 18 = .ok (.ixor, 1) := by decide +kernel
theorem dX11_canNot_19 : decode cX11_canNot 19 = .ok (.ireturn, 1) := by decide +kernel
def P_X11_canNot : Nat → Nat
  | _ => 0
set_option maxRecDepth 100000 in
set_option maxHeartbeats 4000000 in
theorem S_X11_canNot : zSd yX11_canNot cX11_canNot 1 (some .int) { frames := 0, cells := 0, slots := 0, locals := 0 } T_X11_canNot := by
  refine zMet (pcs := P_X11_canNot) (F := F_X11_canNot) (by decide) rfl ?_
  intro p l e s m args below meth c D ids ad A Q Y C hr hk hY b
  match b with
  | 0 => exact (z_aln (pc := 0) C dX11_canNot_0 rfl <| z_gf (pc := 1) C dX11_canNot_1 fl_11_12 <| z_gf (pc := 4) C dX11_canNot_4 fl_11_87 <| z_ic (pc := 7) C dX11_canNot_7 (by decide +kernel) <| z_ia (pc := 8) C dX11_canNot_8 <| z_aln (pc := 9) C dX11_canNot_9 rfl <| z_gf (pc := 10) C dX11_canNot_10 fl_11_12 <| z_gf (pc := 13) C dX11_canNot_13 fl_11_87 <| z_ic (pc := 16) C dX11_canNot_16 (by decide +kernel) <| z_ia (pc := 17) C dX11_canNot_17 <| z_ixor (pc := 18) C dX11_canNot_18 <| z_ir C hr hk dX11_canNot_19)
  | b + 1 => exact fun _ _ _ h => h.elim
theorem dX11_seats_0 : decode cX11_seats 0 = .ok (.iload_n 1, 1) := by decide +kernel
theorem dX11_seats_1 : decode cX11_seats 1 = .ok (.iconst (-1), 1) := by decide +kernel
theorem dX11_seats_2 : decode cX11_seats 2 = .ok (.if_icmp .eq 24, 3) := by decide +kernel
theorem dX11_seats_5 : decode cX11_seats 5 = .ok (.aload_n 0, 1) := by decide +kernel
theorem dX11_seats_6 : decode cX11_seats 6 = .ok (.getfield 12, 3) := by decide +kernel
theorem dX11_seats_9 : decode cX11_seats 9 = .ok (.iload_n 1, 1) := by decide +kernel
theorem dX11_seats_10 : decode cX11_seats 10 = .ok (.invokevirtual 115, 3) := by decide +kernel
theorem dX11_seats_13 : decode cX11_seats 13 = .ok (.ifCond .ne 13, 3) := by decide +kernel
theorem dX11_seats_16 : decode cX11_seats 16 = .ok (.aload_n 0, 1) := by decide +kernel
theorem dX11_seats_17 : decode cX11_seats 17 = .ok (.bipush (-2), 2) := by decide +kernel
theorem dX11_seats_19 : decode cX11_seats 19 = .ok (.invokevirtual 70, 3) := by decide +kernel
theorem dX11_seats_22 : decode cX11_seats 22 = .ok (.pop, 1) := by decide +kernel
theorem dX11_seats_23 : decode cX11_seats 23 = .ok (.bipush (-10), 2) := by decide +kernel
theorem dX11_seats_25 : decode cX11_seats 25 = .ok (.ireturn, 1) := by decide +kernel
theorem dX11_seats_26 : decode cX11_seats 26 = .ok (.aload_n 0, 1) := by decide +kernel
theorem dX11_seats_27 : decode cX11_seats 27 = .ok (.getfield 37, 3) := by decide +kernel
theorem dX11_seats_30 : decode cX11_seats 30 = .ok (.aload_n 0, 1) := by decide +kernel
theorem dX11_seats_31 : decode cX11_seats 31 = .ok (.getfield 12, 3) := by decide +kernel
theorem dX11_seats_34 : decode cX11_seats 34 = .ok (.invokevirtual 151, 3) := by decide +kernel
theorem dX11_seats_37 : decode cX11_seats 37 = .ok (.aload_n 0, 1) := by decide +kernel
theorem dX11_seats_38 : decode cX11_seats 38 = .ok (.getfield 44, 3) := by decide +kernel
theorem dX11_seats_41 : decode cX11_seats 41 = .ok (.aload_n 0, 1) := by decide +kernel
theorem dX11_seats_42 : decode cX11_seats 42 = .ok (.getfield 37, 3) := by decide +kernel
theorem dX11_seats_45 : decode cX11_seats 45 = .ok (.invokevirtual 173, 3) := by decide +kernel
theorem dX11_seats_48 : decode cX11_seats 48 = .ok (.iload_n 1, 1) := by decide +kernel
theorem dX11_seats_49 : decode cX11_seats 49 = .ok (.iconst (-1), 1) := by decide +kernel
theorem dX11_seats_50 : decode cX11_seats 50 = .ok (.if_icmp .ne 13, 3) := by decide +kernel
theorem dX11_seats_53 : decode cX11_seats 53 = .ok (.aload_n 0, 1) := by decide +kernel
theorem dX11_seats_54 : decode cX11_seats 54 = .ok (.getfield 44, 3) := by decide +kernel
theorem dX11_seats_57 : decode cX11_seats 57 = .ok (.invokevirtual 177, 3) := by decide +kernel
theorem dX11_seats_60 : decode cX11_seats 60 = .ok (.goto 11, 3) := by decide +kernel
theorem dX11_seats_63 : decode cX11_seats 63 = .ok (.aload_n 0, 1) := by decide +kernel
theorem dX11_seats_64 : decode cX11_seats 64 = .ok (.getfield 44, 3) := by decide +kernel
theorem dX11_seats_67 : decode cX11_seats 67 = .ok (.iload_n 1, 1) := by decide +kernel
theorem dX11_seats_68 : decode cX11_seats 68 = .ok (.invokevirtual 181, 3) := by decide +kernel
theorem dX11_seats_71 : decode cX11_seats 71 = .ok (.ireturn, 1) := by decide +kernel
def P_X11_seats : Nat → Nat
  | 1 => 26
  | _ => 0
set_option maxRecDepth 100000 in
set_option maxHeartbeats 4000000 in
theorem S_X11_seats : zSd yX11_seats cX11_seats 2 (some .int) { frames := 4, cells := 0, slots := 0, locals := 93 } T_X11_seats := by
  refine zMet (pcs := P_X11_seats) (F := F_X11_seats) (by decide) rfl ?_
  intro p l e s m args below meth c D ids ad A Q Y C hr hk hY b
  match b with
  | 0 => exact (z_iln (pc := 0) C dX11_seats_0 rfl <| z_ic (pc := 1) C dX11_seats_1 (by decide +kernel) <| z_cmpeq (tgt := 26) (pc := 2) C dX11_seats_2 (by decide) (z_jmp (hY 1)) <| z_aln (pc := 5) C dX11_seats_5 rfl <| z_gf (pc := 6) C dX11_seats_6 fl_11_12 <| z_iln (pc := 9) C dX11_seats_9 rfl <| z_cV (pc := 10) C dX11_seats_10 S_X1_hasFamily rfl (zl4 w_483 w_484 w_485 w_2) w_486 ds_X1_hasFamily (zrm rfl rfl (by decide) (by decide)) <| z_ifne (tgt := 26) (pc := 13) C dX11_seats_13 (by decide) (z_jmp (hY 1)) <| z_aln (pc := 16) C dX11_seats_16 rfl <| z_bi (pc := 17) C dX11_seats_17 (by decide +kernel) <| z_cV (pc := 19) C dX11_seats_19 S_X11_refuse rfl (zl4 w_311 w_313 wp_0 w_1) w_314 ds_X11_refuse (zrm rfl rfl (by decide) (by decide)) <| z_pop (pc := 22) C dX11_seats_22 <| z_bi (pc := 23) C dX11_seats_23 (by decide +kernel) <| z_ir C hr hk dX11_seats_25)
  | 1 => exact (z_aln (pc := 26) C dX11_seats_26 rfl <| z_gf (pc := 27) C dX11_seats_27 fl_11_37 <| z_aln (pc := 30) C dX11_seats_30 rfl <| z_gf (pc := 31) C dX11_seats_31 fl_11_12 <| z_cV (pc := 34) C dX11_seats_34 S_X8_hold rfl (zl4 w_528 w_529 w_530 w_4) w_531 ds_X8_hold (zrm rfl rfl (by decide) (by decide)) <| z_aln (pc := 37) C dX11_seats_37 rfl <| z_gf (pc := 38) C dX11_seats_38 fl_11_44 <| z_aln (pc := 41) C dX11_seats_41 rfl <| z_gf (pc := 42) C dX11_seats_42 fl_11_37 <| z_cV (pc := 45) C dX11_seats_45 S_X7_find rfl (zl4 w_654 w_655 w_656 w_11) w_657 ds_X7_find (zrm rfl rfl (by decide) (by decide)) <| z_iln (pc := 48) C dX11_seats_48 rfl <| z_ic (pc := 49) C dX11_seats_49 (by decide +kernel) <| z_cmpne (tgt := 63) (pc := 50) C dX11_seats_50 (by decide) (z_aln (pc := 63) C dX11_seats_63 rfl <| z_gf (pc := 64) C dX11_seats_64 fl_11_44 <| z_iln (pc := 67) C dX11_seats_67 rfl <| z_cV (pc := 68) C dX11_seats_68 S_X7_pewOf rfl (zl4 w_683 w_684 w_685 w_11) w_686 ds_X7_pewOf (zrm rfl rfl (by decide) (by decide)) <| z_ir C hr hk dX11_seats_71) <| z_aln (pc := 53) C dX11_seats_53 rfl <| z_gf (pc := 54) C dX11_seats_54 fl_11_44 <| z_cV (pc := 57) C dX11_seats_57 S_X7_seen rfl (zl4 w_679 w_680 w_681 w_11) w_682 ds_X7_seen (zrm rfl rfl (by decide) (by decide)) <| z_goto (tgt := 71) (pc := 60) C dX11_seats_60 (by decide) <| z_ir C hr hk dX11_seats_71)
  | b + 2 => exact fun _ _ _ h => h.elim
theorem dX11_change_0 : decode cX11_change 0 = .ok (.iload_n 1, 1) := by decide +kernel
theorem dX11_change_1 : decode cX11_change 1 = .ok (.iconst 0, 1) := by decide +kernel
theorem dX11_change_2 : decode cX11_change 2 = .ok (.iconst 1, 1) := by decide +kernel
theorem dX11_change_3 : decode cX11_change 3 = .ok (.invokestatic 66, 3) := by decide +kernel
theorem dX11_change_6 : decode cX11_change 6 = .ok (.ifCond .ne 10, 3) := by decide +kernel
theorem dX11_change_9 : decode cX11_change 9 = .ok (.aload_n 0, 1) := by decide +kernel
theorem dX11_change_10 : decode cX11_change 10 = .ok (.bipush (-2), 2) := by decide +kernel
theorem dX11_change_12 : decode cX11_change 12 = .ok (.invokevirtual 70, 3) := by decide +kernel
theorem dX11_change_15 : decode cX11_change 15 = .ok (.ireturn, 1) := by decide +kernel
theorem dX11_change_16 : decode cX11_change 16 = .ok (.aload_n 0, 1) := by decide +kernel
theorem dX11_change_17 : decode cX11_change 17 = .ok (.getfield 37, 3) := by decide +kernel
theorem dX11_change_20 : decode cX11_change 20 = .ok (.aload_n 0, 1) := by decide +kernel
theorem dX11_change_21 : decode cX11_change 21 = .ok (.getfield 12, 3) := by decide +kernel
theorem dX11_change_24 : decode cX11_change 24 = .ok (.invokevirtual 151, 3) := by decide +kernel
theorem dX11_change_27 : decode cX11_change 27 = .ok (.bipush 7, 2) := by decide +kernel
theorem dX11_change_29 : decode cX11_change 29 = .ok (.istore_n 2, 1) := by decide +kernel
theorem dX11_change_30 : decode cX11_change 30 = .ok (.aload_n 0, 1) := by decide +kernel
theorem dX11_change_31 : decode cX11_change 31 = .ok (.getfield 37, 3) := by decide +kernel
theorem dX11_change_34 : decode cX11_change 34 = .ok (.aload_n 0, 1) := by decide +kernel
theorem dX11_change_35 : decode cX11_change 35 = .ok (.getfield 12, 3) := by decide +kernel
theorem dX11_change_38 : decode cX11_change 38 = .ok (.getfield 127, 3) := by decide +kernel
theorem dX11_change_41 : decode cX11_change 41 = .ok (.invokevirtual 184, 3) := by decide +kernel
theorem dX11_change_44 : decode cX11_change 44 = .ok (.istore_n 3, 1) := by decide +kernel
theorem dX11_change_45 : decode cX11_change 45 = .ok (.iconst 0, 1) := by decide +kernel
theorem dX11_change_46 : decode cX11_change 46 = .ok (.istore 4, 2) := by decide +kernel
theorem dX11_change_48 : decode cX11_change 48 = .ok (.iload 4, 2) := by decide +kernel
theorem dX11_change_50 : decode cX11_change 50 = .ok (.aload_n 0, 1) := by decide +kernel
theorem dX11_change_51 : decode cX11_change 51 = .ok (.getfield 12, 3) := by decide +kernel
theorem dX11_change_54 : decode cX11_change 54 = .ok (.getfield 74, 3) := by decide +kernel
theorem dX11_change_57 : decode cX11_change 57 = .ok (.if_icmp .ge 105, 3) := by decide +kernel
theorem dX11_change_60 : decode cX11_change 60 = .ok (.aload_n 0, 1) := by decide +kernel
theorem dX11_change_61 : decode cX11_change 61 = .ok (.getfield 37, 3) := by decide +kernel
theorem dX11_change_64 : decode cX11_change 64 = .ok (.aload_n 0, 1) := by decide +kernel
theorem dX11_change_65 : decode cX11_change 65 = .ok (.getfield 12, 3) := by decide +kernel
theorem dX11_change_68 : decode cX11_change 68 = .ok (.iload 4, 2) := by decide +kernel
theorem dX11_change_70 : decode cX11_change 70 = .ok (.aload_n 0, 1) := by decide +kernel
theorem dX11_change_71 : decode cX11_change 71 = .ok (.getfield 12, 3) := by decide +kernel
theorem dX11_change_74 : decode cX11_change 74 = .ok (.getfield 187, 3) := by decide +kernel
theorem dX11_change_77 : decode cX11_change 77 = .ok (.iload 4, 2) := by decide +kernel
theorem dX11_change_79 : decode cX11_change 79 = .ok (.iaload, 1) := by decide +kernel
theorem dX11_change_80 : decode cX11_change 80 = .ok (.iconst 1, 1) := by decide +kernel
theorem dX11_change_81 : decode cX11_change 81 = .ok (.aload_n 0, 1) := by decide +kernel
theorem dX11_change_82 : decode cX11_change 82 = .ok (.getfield 12, 3) := by decide +kernel
theorem dX11_change_85 : decode cX11_change 85 = .ok (.getfield 118, 3) := by decide +kernel
theorem dX11_change_88 : decode cX11_change 88 = .ok (.iload 4, 2) := by decide +kernel
theorem dX11_change_90 : decode cX11_change 90 = .ok (.iaload, 1) := by decide +kernel
theorem dX11_change_91 : decode cX11_change 91 = .ok (.isub, 1) := by decide +kernel
theorem dX11_change_92 : decode cX11_change 92 = .ok (.invokevirtual 190, 3) := by decide +kernel
theorem dX11_change_95 : decode cX11_change 95 = .ok (.aload_n 0, 1) := by decide +kernel
theorem dX11_change_96 : decode cX11_change 96 = .ok (.getfield 37, 3) := by decide +kernel
theorem dX11_change_99 : decode cX11_change 99 = .ok (.aload_n 0, 1) := by decide +kernel
theorem dX11_change_100 : decode cX11_change 100 = .ok (.getfield 12, 3) := by decide +kernel
theorem dX11_change_103 : decode cX11_change 103 = .ok (.getfield 127, 3) := by decide +kernel
theorem dX11_change_106 : decode cX11_change 106 = .ok (.invokevirtual 184, 3) := by decide +kernel
theorem dX11_change_109 : decode cX11_change 109 = .ok (.istore 5, 2) := by decide +kernel
theorem dX11_change_111 : decode cX11_change 111 = .ok (.aload_n 0, 1) := by decide +kernel
theorem dX11_change_112 : decode cX11_change 112 = .ok (.getfield 37, 3) := by decide +kernel
theorem dX11_change_115 : decode cX11_change 115 = .ok (.aload_n 0, 1) := by decide +kernel
theorem dX11_change_116 : decode cX11_change 116 = .ok (.getfield 12, 3) := by decide +kernel
theorem dX11_change_119 : decode cX11_change 119 = .ok (.iload 4, 2) := by decide +kernel
theorem dX11_change_121 : decode cX11_change 121 = .ok (.aload_n 0, 1) := by decide +kernel
theorem dX11_change_122 : decode cX11_change 122 = .ok (.getfield 12, 3) := by decide +kernel
theorem dX11_change_125 : decode cX11_change 125 = .ok (.getfield 187, 3) := by decide +kernel
theorem dX11_change_128 : decode cX11_change 128 = .ok (.iload 4, 2) := by decide +kernel
theorem dX11_change_130 : decode cX11_change 130 = .ok (.iaload, 1) := by decide +kernel
theorem dX11_change_131 : decode cX11_change 131 = .ok (.aload_n 0, 1) := by decide +kernel
theorem dX11_change_132 : decode cX11_change 132 = .ok (.getfield 12, 3) := by decide +kernel
theorem dX11_change_135 : decode cX11_change 135 = .ok (.getfield 118, 3) := by decide +kernel
theorem dX11_change_138 : decode cX11_change 138 = .ok (.iload 4, 2) := by decide +kernel
theorem dX11_change_140 : decode cX11_change 140 = .ok (.iaload, 1) := by decide +kernel
theorem dX11_change_141 : decode cX11_change 141 = .ok (.invokevirtual 190, 3) := by decide +kernel
theorem dX11_change_144 : decode cX11_change 144 = .ok (.iload 5, 2) := by decide +kernel
theorem dX11_change_146 : decode cX11_change 146 = .ok (.iload_n 3, 1) := by decide +kernel
theorem dX11_change_147 : decode cX11_change 147 = .ok (.if_icmp .le 9, 3) := by decide +kernel
theorem dX11_change_150 : decode cX11_change 150 = .ok (.iload 5, 2) := by decide +kernel
theorem dX11_change_152 : decode cX11_change 152 = .ok (.istore_n 3, 1) := by decide +kernel
theorem dX11_change_153 : decode cX11_change 153 = .ok (.iload 4, 2) := by decide +kernel
theorem dX11_change_155 : decode cX11_change 155 = .ok (.istore_n 2, 1) := by decide +kernel
theorem dX11_change_156 : decode cX11_change 156 = .ok (.iinc 4 1, 3) := by decide +kernel
theorem dX11_change_159 : decode cX11_change 159 = .ok (.goto (-111), 3) := by decide +kernel
theorem dX11_change_162 : decode cX11_change 162 = .ok (.iload_n 1, 1) := by decide +kernel
theorem dX11_change_163 : decode cX11_change 163 = .ok (.ifCond .ne 7, 3) := by decide +kernel
theorem dX11_change_166 : decode cX11_change 166 = .ok (.iload_n 2, 1) := by decide +kernel
theorem dX11_change_167 : decode cX11_change 167 = .ok (.goto 4, 3) := by decide +kernel
theorem dX11_change_170 : decode cX11_change 170 = .ok (.iload_n 3, 1) := by decide +kernel
theorem dX11_change_171 : decode cX11_change 171 = .ok (.ireturn, 1) := by decide +kernel
def P_X11_change : Nat → Nat
  | 1 => 48
  | 2 => 156
  | _ => 0
set_option maxRecDepth 100000 in
set_option maxHeartbeats 4000000 in
theorem S_X11_change : zSd yX11_change cX11_change 6 (some .int) { frames := 4, cells := 0, slots := 0, locals := 93 } T_X11_change := by
  refine zMet (pcs := P_X11_change) (F := F_X11_change) (by decide) rfl ?_
  intro p l e s m args below meth c D ids ad A Q Y C hr hk hY b
  match b with
  | 0 => exact (z_iln (pc := 0) C dX11_change_0 rfl <| z_ic (pc := 1) C dX11_change_1 (by decide +kernel) <| z_ic (pc := 2) C dX11_change_2 (by decide +kernel) <| z_cS (pc := 3) C dX11_change_3 S_X11_within (zl3 w_308 w_309 w_1) w_310 ds_X11_within (zrm rfl rfl (by decide) (by decide)) <| z_ifne (tgt := 16) (pc := 6) C dX11_change_6 (by decide) (z_aln (pc := 16) C dX11_change_16 rfl <| z_gf (pc := 17) C dX11_change_17 fl_11_37 <| z_aln (pc := 20) C dX11_change_20 rfl <| z_gf (pc := 21) C dX11_change_21 fl_11_12 <| z_cV (pc := 24) C dX11_change_24 S_X8_hold rfl (zl4 w_528 w_529 w_530 w_4) w_531 ds_X8_hold (zrm rfl rfl (by decide) (by decide)) <| z_bi (pc := 27) C dX11_change_27 (by decide +kernel) <| z_isn (pc := 29) C dX11_change_29 rfl (by decide) <| z_aln (pc := 30) C dX11_change_30 rfl <| z_gf (pc := 31) C dX11_change_31 fl_11_37 <| z_aln (pc := 34) C dX11_change_34 rfl <| z_gf (pc := 35) C dX11_change_35 fl_11_12 <| z_gf (pc := 38) C dX11_change_38 fl_11_127 <| z_cV (pc := 41) C dX11_change_41 S_X8_peacefulWords rfl (zl4 w_691 w_692 w_693 w_4) w_694 ds_X8_peacefulWords (zrm rfl rfl (by decide) (by decide)) <| z_isn (pc := 44) C dX11_change_44 rfl (by decide) <| z_ic (pc := 45) C dX11_change_45 (by decide +kernel) <| z_is (pc := 46) C dX11_change_46 (by decide) <| z_jmp (hY 1)) <| z_aln (pc := 9) C dX11_change_9 rfl <| z_bi (pc := 10) C dX11_change_10 (by decide +kernel) <| z_cV (pc := 12) C dX11_change_12 S_X11_refuse rfl (zl4 w_311 w_313 wp_0 w_1) w_314 ds_X11_refuse (zrm rfl rfl (by decide) (by decide)) <| z_ir C hr hk dX11_change_15)
  | 1 => exact (z_il (pc := 48) C dX11_change_48 <| z_aln (pc := 50) C dX11_change_50 rfl <| z_gf (pc := 51) C dX11_change_51 fl_11_12 <| z_gf (pc := 54) C dX11_change_54 fl_11_74 <| z_cmpge (tgt := 162) (pc := 57) C dX11_change_57 (by decide) (z_iln (pc := 162) C dX11_change_162 rfl <| z_ifne (tgt := 170) (pc := 163) C dX11_change_163 (by decide) (z_iln (pc := 170) C dX11_change_170 rfl <| z_ir C hr hk dX11_change_171) <| z_iln (pc := 166) C dX11_change_166 rfl <| z_goto (tgt := 171) (pc := 167) C dX11_change_167 (by decide) <| z_ir C hr hk dX11_change_171) <| z_aln (pc := 60) C dX11_change_60 rfl <| z_gf (pc := 61) C dX11_change_61 fl_11_37 <| z_aln (pc := 64) C dX11_change_64 rfl <| z_gf (pc := 65) C dX11_change_65 fl_11_12 <| z_il (pc := 68) C dX11_change_68 <| z_aln (pc := 70) C dX11_change_70 rfl <| z_gf (pc := 71) C dX11_change_71 fl_11_12 <| z_gf (pc := 74) C dX11_change_74 fl_11_187 <| z_il (pc := 77) C dX11_change_77 <| z_ia (pc := 79) C dX11_change_79 <| z_ic (pc := 80) C dX11_change_80 (by decide +kernel) <| z_aln (pc := 81) C dX11_change_81 rfl <| z_gf (pc := 82) C dX11_change_82 fl_11_12 <| z_gf (pc := 85) C dX11_change_85 fl_11_118 <| z_il (pc := 88) C dX11_change_88 <| z_ia (pc := 90) C dX11_change_90 <| z_isub (pc := 91) C dX11_change_91 <| z_cV (pc := 92) C dX11_change_92 S_X8_suppose rfl (zl4 w_695 w_535 w_536 w_4) w_537 ds_X8_suppose (zrm rfl rfl (by decide) (by decide)) <| z_aln (pc := 95) C dX11_change_95 rfl <| z_gf (pc := 96) C dX11_change_96 fl_11_37 <| z_aln (pc := 99) C dX11_change_99 rfl <| z_gf (pc := 100) C dX11_change_100 fl_11_12 <| z_gf (pc := 103) C dX11_change_103 fl_11_127 <| z_cV (pc := 106) C dX11_change_106 S_X8_peacefulWords rfl (zl4 w_691 w_692 w_693 w_4) w_694 ds_X8_peacefulWords (zrm rfl rfl (by decide) (by decide)) <| z_is (pc := 109) C dX11_change_109 (by decide) <| z_aln (pc := 111) C dX11_change_111 rfl <| z_gf (pc := 112) C dX11_change_112 fl_11_37 <| z_aln (pc := 115) C dX11_change_115 rfl <| z_gf (pc := 116) C dX11_change_116 fl_11_12 <| z_il (pc := 119) C dX11_change_119 <| z_aln (pc := 121) C dX11_change_121 rfl <| z_gf (pc := 122) C dX11_change_122 fl_11_12 <| z_gf (pc := 125) C dX11_change_125 fl_11_187 <| z_il (pc := 128) C dX11_change_128 <| z_ia (pc := 130) C dX11_change_130 <| z_aln (pc := 131) C dX11_change_131 rfl <| z_gf (pc := 132) C dX11_change_132 fl_11_12 <| z_gf (pc := 135) C dX11_change_135 fl_11_118 <| z_il (pc := 138) C dX11_change_138 <| z_ia (pc := 140) C dX11_change_140 <| z_cV (pc := 141) C dX11_change_141 S_X8_suppose rfl (zl4 w_695 w_535 w_536 w_4) w_537 ds_X8_suppose (zrm rfl rfl (by decide) (by decide)) <| z_il (pc := 144) C dX11_change_144 <| z_iln (pc := 146) C dX11_change_146 rfl <| z_cmple (tgt := 156) (pc := 147) C dX11_change_147 (by decide) (z_jmp (hY 2)) <| z_il (pc := 150) C dX11_change_150 <| z_isn (pc := 152) C dX11_change_152 rfl (by decide) <| z_il (pc := 153) C dX11_change_153 <| z_isn (pc := 155) C dX11_change_155 rfl (by decide) <| z_jmp (hY 2))
  | 2 => exact (z_inc (pc := 156) C dX11_change_156 (by decide +kernel) (by decide) <| z_goto (tgt := 48) (pc := 159) C dX11_change_159 (by decide) <| z_jmp (hY 1))
  | b + 3 => exact fun _ _ _ h => h.elim
theorem dX11_still_0 : decode cX11_still 0 = .ok (.aload_n 0, 1) := by decide +kernel
theorem dX11_still_1 : decode cX11_still 1 = .ok (.getfield 37, 3) := by decide +kernel
theorem dX11_still_4 : decode cX11_still 4 = .ok (.aload_n 0, 1) := by decide +kernel
theorem dX11_still_5 : decode cX11_still 5 = .ok (.getfield 12, 3) := by decide +kernel
theorem dX11_still_8 : decode cX11_still 8 = .ok (.invokevirtual 151, 3) := by decide +kernel
theorem dX11_still_11 : decode cX11_still 11 = .ok (.iconst (-1), 1) := by decide +kernel
theorem dX11_still_12 : decode cX11_still 12 = .ok (.istore_n 1, 1) := by decide +kernel
theorem dX11_still_13 : decode cX11_still 13 = .ok (.iconst 0, 1) := by decide +kernel
theorem dX11_still_14 : decode cX11_still 14 = .ok (.istore_n 2, 1) := by decide +kernel
theorem dX11_still_15 : decode cX11_still 15 = .ok (.iload_n 2, 1) := by decide +kernel
theorem dX11_still_16 : decode cX11_still 16 = .ok (.aload_n 0, 1) := by decide +kernel
theorem dX11_still_17 : decode cX11_still 17 = .ok (.getfield 12, 3) := by decide +kernel
theorem dX11_still_20 : decode cX11_still 20 = .ok (.invokevirtual 194, 3) := by decide +kernel
theorem dX11_still_23 : decode cX11_still 23 = .ok (.if_icmp .ge 68, 3) := by decide +kernel
theorem dX11_still_26 : decode cX11_still 26 = .ok (.iload_n 1, 1) := by decide +kernel
theorem dX11_still_27 : decode cX11_still 27 = .ok (.iconst (-1), 1) := by decide +kernel
theorem dX11_still_28 : decode cX11_still 28 = .ok (.if_icmp .eq 14, 3) := by decide +kernel
theorem dX11_still_31 : decode cX11_still 31 = .ok (.iload_n 2, 1) := by decide +kernel
theorem dX11_still_32 : decode cX11_still 32 = .ok (.invokestatic 140, 3) := by decide +kernel
theorem dX11_still_35 : decode cX11_still 35 = .ok (.iload_n 1, 1) := by decide +kernel
theorem dX11_still_36 : decode cX11_still 36 = .ok (.invokestatic 140, 3) := by decide +kernel
theorem dX11_still_39 : decode cX11_still 39 = .ok (.if_icmp .ge 7, 3) := by decide +kernel
theorem dX11_still_42 : decode cX11_still 42 = .ok (.iconst 1, 1) := by decide +kernel
theorem dX11_still_43 : decode cX11_still 43 = .ok (.goto 4, 3) := by decide +kernel
theorem dX11_still_46 : decode cX11_still 46 = .ok (.iconst 0, 1) := by decide +kernel
theorem dX11_still_47 : decode cX11_still 47 = .ok (.istore_n 3, 1) := by decide +kernel
theorem dX11_still_48 : decode cX11_still 48 = .ok (.iload_n 3, 1) := by decide +kernel
theorem dX11_still_49 : decode cX11_still 49 = .ok (.ifCond .eq 36, 3) := by decide +kernel
theorem dX11_still_52 : decode cX11_still 52 = .ok (.iload_n 2, 1) := by decide +kernel
theorem dX11_still_53 : decode cX11_still 53 = .ok (.aload_n 0, 1) := by decide +kernel
theorem dX11_still_54 : decode cX11_still 54 = .ok (.getfield 12, 3) := by decide +kernel
theorem dX11_still_57 : decode cX11_still 57 = .ok (.getfield 127, 3) := by decide +kernel
theorem dX11_still_60 : decode cX11_still 60 = .ok (.iand, 1) := by decide +kernel
theorem dX11_still_61 : decode cX11_still 61 = .ok (.ifCond .ne 24, 3) := by decide +kernel
theorem dX11_still_64 : decode cX11_still 64 = .ok (.aload_n 0, 1) := by decide +kernel
theorem dX11_still_65 : decode cX11_still 65 = .ok (.getfield 37, 3) := by decide +kernel
theorem dX11_still_68 : decode cX11_still 68 = .ok (.iload_n 2, 1) := by decide +kernel
theorem dX11_still_69 : decode cX11_still 69 = .ok (.aload_n 0, 1) := by decide +kernel
theorem dX11_still_70 : decode cX11_still 70 = .ok (.getfield 12, 3) := by decide +kernel
theorem dX11_still_73 : decode cX11_still 73 = .ok (.getfield 127, 3) := by decide +kernel
theorem dX11_still_76 : decode cX11_still 76 = .ok (.ior, 1) := by decide +kernel
theorem dX11_still_77 : decode cX11_still 77 = .ok (.invokevirtual 197, 3) := by decide +kernel
theorem dX11_still_80 : decode cX11_still 80 = .ok (.ifCond .eq 5, 3) := by decide +kernel
theorem dX11_still_83 : decode cX11_still 83 = .ok (.iload_n 2, 1) := by decide +kernel
theorem dX11_still_84 : decode cX11_still 84 = .ok (.istore_n 1, 1) := by decide +kernel
theorem dX11_still_85 : decode cX11_still 85 = .ok (.iinc 2 1, 3) := by decide +kernel
theorem dX11_still_88 : decode cX11_still 88 = .ok (.goto (-73), 3) := by decide +kernel
theorem dX11_still_91 : decode cX11_still 91 = .ok (.iload_n 1, 1) := by decide +kernel
theorem dX11_still_92 : decode cX11_still 92 = .ok (.ireturn, 1) := by decide +kernel
def P_X11_still : Nat → Nat
  | 1 => 15
  | 2 => 42
  | 3 => 47
  | 4 => 85
  | _ => 0
set_option maxRecDepth 100000 in
set_option maxHeartbeats 4000000 in
theorem S_X11_still : zSd yX11_still cX11_still 4 (some .int) { frames := 4, cells := 0, slots := 0, locals := 93 } T_X11_still := by
  refine zMet (pcs := P_X11_still) (F := F_X11_still) (by decide) rfl ?_
  intro p l e s m args below meth c D ids ad A Q Y C hr hk hY b
  match b with
  | 0 => exact (z_aln (pc := 0) C dX11_still_0 rfl <| z_gf (pc := 1) C dX11_still_1 fl_11_37 <| z_aln (pc := 4) C dX11_still_4 rfl <| z_gf (pc := 5) C dX11_still_5 fl_11_12 <| z_cV (pc := 8) C dX11_still_8 S_X8_hold rfl (zl4 w_528 w_529 w_530 w_4) w_531 ds_X8_hold (zrm rfl rfl (by decide) (by decide)) <| z_ic (pc := 11) C dX11_still_11 (by decide +kernel) <| z_isn (pc := 12) C dX11_still_12 rfl (by decide) <| z_ic (pc := 13) C dX11_still_13 (by decide +kernel) <| z_isn (pc := 14) C dX11_still_14 rfl (by decide) <| z_jmp (hY 1))
  | 1 => exact (z_iln (pc := 15) C dX11_still_15 rfl <| z_aln (pc := 16) C dX11_still_16 rfl <| z_gf (pc := 17) C dX11_still_17 fl_11_12 <| z_cV (pc := 20) C dX11_still_20 S_X1_sets rfl (zl4 w_700 w_701 w_702 w_2) w_703 ds_X1_sets (zrm rfl rfl (by decide) (by decide)) <| z_cmpge (tgt := 91) (pc := 23) C dX11_still_23 (by decide) (z_iln (pc := 91) C dX11_still_91 rfl <| z_ir C hr hk dX11_still_92) <| z_iln (pc := 26) C dX11_still_26 rfl <| z_ic (pc := 27) C dX11_still_27 (by decide +kernel) <| z_cmpeq (tgt := 42) (pc := 28) C dX11_still_28 (by decide) (z_jmp (hY 2)) <| z_iln (pc := 31) C dX11_still_31 rfl <| z_cS (pc := 32) C dX11_still_32 S_J6_bitCount_0f7a4 (zl3 w_506 w_507 w_21) w_508 ds_J6_bitCount_0f7a4 (zrm rfl rfl (by decide) (by decide)) <| z_iln (pc := 35) C dX11_still_35 rfl <| z_cS (pc := 36) C dX11_still_36 S_J6_bitCount_0f7a4 (zl3 w_506 w_507 w_21) w_508 ds_J6_bitCount_0f7a4 (zrm rfl rfl (by decide) (by decide)) <| z_cmpge (tgt := 46) (pc := 39) C dX11_still_39 (by decide) (z_ic (pc := 46) C dX11_still_46 (by decide +kernel) <| z_jmp (hY 3)) <| z_jmp (hY 2))
  | 2 => exact (z_ic (pc := 42) C dX11_still_42 (by decide +kernel) <| z_goto (tgt := 47) (pc := 43) C dX11_still_43 (by decide) <| z_jmp (hY 3))
  | 3 => exact (z_isn (pc := 47) C dX11_still_47 rfl (by decide) <| z_iln (pc := 48) C dX11_still_48 rfl <| z_ifeq (tgt := 85) (pc := 49) C dX11_still_49 (by decide) (z_jmp (hY 4)) <| z_iln (pc := 52) C dX11_still_52 rfl <| z_aln (pc := 53) C dX11_still_53 rfl <| z_gf (pc := 54) C dX11_still_54 fl_11_12 <| z_gf (pc := 57) C dX11_still_57 fl_11_127 <| z_iand (pc := 60) C dX11_still_60 <| z_ifne (tgt := 85) (pc := 61) C dX11_still_61 (by decide) (z_jmp (hY 4)) <| z_aln (pc := 64) C dX11_still_64 rfl <| z_gf (pc := 65) C dX11_still_65 fl_11_37 <| z_iln (pc := 68) C dX11_still_68 rfl <| z_aln (pc := 69) C dX11_still_69 rfl <| z_gf (pc := 70) C dX11_still_70 fl_11_12 <| z_gf (pc := 73) C dX11_still_73 fl_11_127 <| z_ior (pc := 76) C dX11_still_76 <| z_cV (pc := 77) C dX11_still_77 S_X8_isPeacefulThroughout rfl (zl4 w_704 w_705 w_706 w_4) w_707 ds_X8_isPeacefulThroughout (zrm rfl rfl (by decide) (by decide)) <| z_ifeq (tgt := 85) (pc := 80) C dX11_still_80 (by decide) (z_jmp (hY 4)) <| z_iln (pc := 83) C dX11_still_83 rfl <| z_isn (pc := 84) C dX11_still_84 rfl (by decide) <| z_jmp (hY 4))
  | 4 => exact (z_inc (pc := 85) C dX11_still_85 (by decide +kernel) (by decide) <| z_goto (tgt := 15) (pc := 88) C dX11_still_88 (by decide) <| z_jmp (hY 1))
  | b + 5 => exact fun _ _ _ h => h.elim
theorem dX11_heard_0 : decode cX11_heard 0 = .ok (.iload_n 1, 1) := by decide +kernel
theorem dX11_heard_1 : decode cX11_heard 1 = .ok (.invokestatic 148, 3) := by decide +kernel
theorem dX11_heard_4 : decode cX11_heard 4 = .ok (.ifCond .eq 21, 3) := by decide +kernel
theorem dX11_heard_7 : decode cX11_heard 7 = .ok (.iload_n 2, 1) := by decide +kernel
theorem dX11_heard_8 : decode cX11_heard 8 = .ok (.invokestatic 82, 3) := by decide +kernel
theorem dX11_heard_11 : decode cX11_heard 11 = .ok (.ifCond .eq 14, 3) := by decide +kernel
theorem dX11_heard_14 : decode cX11_heard 14 = .ok (.iload_n 3, 1) := by decide +kernel
theorem dX11_heard_15 : decode cX11_heard 15 = .ok (.iconst 0, 1) := by decide +kernel
theorem dX11_heard_16 : decode cX11_heard 16 = .ok (.sipush 140, 3) := by decide +kernel
theorem dX11_heard_19 : decode cX11_heard 19 = .ok (.invokestatic 66, 3) := by decide +kernel
theorem dX11_heard_22 : decode cX11_heard 22 = .ok (.ifCond .ne 10, 3) := by decide +kernel
theorem dX11_heard_25 : decode cX11_heard 25 = .ok (.aload_n 0, 1) := by decide +kernel
theorem dX11_heard_26 : decode cX11_heard 26 = .ok (.bipush (-2), 2) := by decide +kernel
theorem dX11_heard_28 : decode cX11_heard 28 = .ok (.invokevirtual 70, 3) := by decide +kernel
theorem dX11_heard_31 : decode cX11_heard 31 = .ok (.ireturn, 1) := by decide +kernel
theorem dX11_heard_32 : decode cX11_heard 32 = .ok (.aload_n 0, 1) := by decide +kernel
theorem dX11_heard_33 : decode cX11_heard 33 = .ok (.getfield 12, 3) := by decide +kernel
theorem dX11_heard_36 : decode cX11_heard 36 = .ok (.getfield 200, 3) := by decide +kernel
theorem dX11_heard_39 : decode cX11_heard 39 = .ok (.bipush 6, 2) := by decide +kernel
theorem dX11_heard_41 : decode cX11_heard 41 = .ok (.if_icmp .lt 10, 3) := by decide +kernel
theorem dX11_heard_44 : decode cX11_heard 44 = .ok (.aload_n 0, 1) := by decide +kernel
theorem dX11_heard_45 : decode cX11_heard 45 = .ok (.bipush (-4), 2) := by decide +kernel
theorem dX11_heard_47 : decode cX11_heard 47 = .ok (.invokevirtual 70, 3) := by decide +kernel
theorem dX11_heard_50 : decode cX11_heard 50 = .ok (.ireturn, 1) := by decide +kernel
theorem dX11_heard_51 : decode cX11_heard 51 = .ok (.aload_n 0, 1) := by decide +kernel
theorem dX11_heard_52 : decode cX11_heard 52 = .ok (.getfield 12, 3) := by decide +kernel
theorem dX11_heard_55 : decode cX11_heard 55 = .ok (.iload_n 1, 1) := by decide +kernel
theorem dX11_heard_56 : decode cX11_heard 56 = .ok (.iload_n 2, 1) := by decide +kernel
theorem dX11_heard_57 : decode cX11_heard 57 = .ok (.iload_n 3, 1) := by decide +kernel
theorem dX11_heard_58 : decode cX11_heard 58 = .ok (.invokevirtual 203, 3) := by decide +kernel
theorem dX11_heard_61 : decode cX11_heard 61 = .ok (.ireturn, 1) := by decide +kernel
def P_X11_heard : Nat → Nat
  | 1 => 25
  | _ => 0
set_option maxRecDepth 100000 in
set_option maxHeartbeats 4000000 in
theorem S_X11_heard : zSd yX11_heard cX11_heard 4 (some .int) { frames := 2, cells := 0, slots := 0, locals := 42 } T_X11_heard := by
  refine zMet (pcs := P_X11_heard) (F := F_X11_heard) (by decide) rfl ?_
  intro p l e s m args below meth c D ids ad A Q Y C hr hk hY b
  match b with
  | 0 => exact (z_iln (pc := 0) C dX11_heard_0 rfl <| z_cS (pc := 1) C dX11_heard_1 S_X11_isWord (zl3 w_525 w_526 w_1) w_527 ds_X11_isWord (zrm rfl rfl (by decide) (by decide)) <| z_ifeq (tgt := 25) (pc := 4) C dX11_heard_4 (by decide) (z_jmp (hY 1)) <| z_iln (pc := 7) C dX11_heard_7 rfl <| z_cS (pc := 8) C dX11_heard_8 S_X11_isBook (zl3 w_326 w_327 w_1) w_328 ds_X11_isBook (zrm rfl rfl (by decide) (by decide)) <| z_ifeq (tgt := 25) (pc := 11) C dX11_heard_11 (by decide) (z_jmp (hY 1)) <| z_iln (pc := 14) C dX11_heard_14 rfl <| z_ic (pc := 15) C dX11_heard_15 (by decide +kernel) <| z_si (pc := 16) C dX11_heard_16 (by decide +kernel) <| z_cS (pc := 19) C dX11_heard_19 S_X11_within (zl3 w_308 w_309 w_1) w_310 ds_X11_within (zrm rfl rfl (by decide) (by decide)) <| z_ifne (tgt := 32) (pc := 22) C dX11_heard_22 (by decide) (z_aln (pc := 32) C dX11_heard_32 rfl <| z_gf (pc := 33) C dX11_heard_33 fl_11_12 <| z_gf (pc := 36) C dX11_heard_36 fl_11_200 <| z_bi (pc := 39) C dX11_heard_39 (by decide +kernel) <| z_cmplt (tgt := 51) (pc := 41) C dX11_heard_41 (by decide) (z_aln (pc := 51) C dX11_heard_51 rfl <| z_gf (pc := 52) C dX11_heard_52 fl_11_12 <| z_iln (pc := 55) C dX11_heard_55 rfl <| z_iln (pc := 56) C dX11_heard_56 rfl <| z_iln (pc := 57) C dX11_heard_57 rfl <| z_cV (pc := 58) C dX11_heard_58 S_X1_hear rfl (zl4 w_712 w_713 w_714 w_2) w_715 ds_X1_hear (zrm rfl rfl (by decide) (by decide)) <| z_ir C hr hk dX11_heard_61) <| z_aln (pc := 44) C dX11_heard_44 rfl <| z_bi (pc := 45) C dX11_heard_45 (by decide +kernel) <| z_cV (pc := 47) C dX11_heard_47 S_X11_refuse rfl (zl4 w_311 w_313 wp_0 w_1) w_314 ds_X11_refuse (zrm rfl rfl (by decide) (by decide)) <| z_ir C hr hk dX11_heard_50) <| z_jmp (hY 1))
  | 1 => exact (z_aln (pc := 25) C dX11_heard_25 rfl <| z_bi (pc := 26) C dX11_heard_26 (by decide +kernel) <| z_cV (pc := 28) C dX11_heard_28 S_X11_refuse rfl (zl4 w_311 w_313 wp_0 w_1) w_314 ds_X11_refuse (zrm rfl rfl (by decide) (by decide)) <| z_ir C hr hk dX11_heard_31)
  | b + 2 => exact fun _ _ _ h => h.elim
