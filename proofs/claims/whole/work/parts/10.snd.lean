/-! Soundness of methods: by program. -/
theorem dX6_height_0 : decode cX6_height 0 = .ok (.iload_n 2, 1) := by decide +kernel
theorem dX6_height_1 : decode cX6_height 1 = .ok (.ifCond .eq 9, 3) := by decide +kernel
theorem dX6_height_4 : decode cX6_height 4 = .ok (.iload_n 1, 1) := by decide +kernel
theorem dX6_height_5 : decode cX6_height 5 = .ok (.iconst 2, 1) := by decide +kernel
theorem dX6_height_6 : decode cX6_height 6 = .ok (.idiv, 1) := by decide +kernel
theorem dX6_height_7 : decode cX6_height 7 = .ok (.goto 4, 3) := by decide +kernel
theorem dX6_height_10 : decode cX6_height 10 = .ok (.iload_n 1, 1) := by decide +kernel
theorem dX6_height_11 : decode cX6_height 11 = .ok (.ireturn, 1) := by decide +kernel
def P_X6_height : Nat → Nat
  | _ => 0
set_option maxRecDepth 100000 in
set_option maxHeartbeats 4000000 in
theorem S_X6_height : zSd yX6_height cX6_height 3 (some .int) { frames := 0, cells := 0, slots := 0, locals := 0 } T_X6_height := by
  refine zMet (pcs := P_X6_height) (F := F_X6_height) (by decide) rfl ?_
  intro p l e s m args below meth c D ids ad A Q Y C hr hk hY b
  match b with
  | 0 => exact (z_iln (pc := 0) C dX6_height_0 rfl <| z_ifeq (tgt := 10) (pc := 1) C dX6_height_1 (by decide) (z_iln (pc := 10) C dX6_height_10 rfl <| z_ir C hr hk dX6_height_11) <| z_iln (pc := 4) C dX6_height_4 rfl <| z_ic (pc := 5) C dX6_height_5 (by decide +kernel) <| z_idiv (pc := 6) C dX6_height_6 <| z_goto (tgt := 11) (pc := 7) C dX6_height_7 (by decide) <| z_ir C hr hk dX6_height_11)
  | b + 1 => exact fun _ _ _ h => h.elim
theorem dX0_height_0 : decode cX0_height 0 = .ok (.iconst 0, 1) := by decide +kernel
theorem dX0_height_1 : decode cX0_height 1 = .ok (.aload_n 0, 1) := by decide +kernel
theorem dX0_height_2 : decode cX0_height 2 = .ok (.iload_n 1, 1) := by decide +kernel
theorem dX0_height_3 : decode cX0_height 3 = .ok (.iload_n 2, 1) := by decide +kernel
theorem dX0_height_4 : decode cX0_height 4 = .ok (.invokespecial 7, 3) := by decide +kernel
theorem dX0_height_7 : decode cX0_height 7 = .ok (.iconst 2, 1) := by decide +kernel
theorem dX0_height_8 : decode cX0_height 8 = .ok (.isub, 1) := by decide +kernel
theorem dX0_height_9 : decode cX0_height 9 = .ok (.invokestatic 11, 3) := by decide +kernel
theorem dX0_height_12 : decode cX0_height 12 = .ok (.ireturn, 1) := by decide +kernel
def P_X0_height : Nat → Nat
  | _ => 0
set_option maxRecDepth 100000 in
set_option maxHeartbeats 4000000 in
theorem S_X0_height : zSd yX0_height cX0_height 3 (some .int) { frames := 1, cells := 0, slots := 0, locals := 22 } T_X0_height := by
  refine zMet (pcs := P_X0_height) (F := F_X0_height) (by decide) rfl ?_
  intro p l e s m args below meth c D ids ad A Q Y C hr hk hY b
  match b with
  | 0 => exact (z_ic (pc := 0) C dX0_height_0 (by decide +kernel) <| z_aln (pc := 1) C dX0_height_1 rfl <| z_iln (pc := 2) C dX0_height_2 rfl <| z_iln (pc := 3) C dX0_height_3 rfl <| z_cUU (pc := 4) C dX0_height_4 S_X6_height (sup := "EveryPew$Hoarse") (nm := "height") (ds := "(IZ)I") w_561 w_562 w_182 w_161 w_555 w_5 w_574 ⟨by decide, by decide +kernel⟩ (zrm rfl rfl (by decide) (by decide)) <| z_ic (pc := 7) C dX0_height_7 (by decide +kernel) <| z_isub (pc := 8) C dX0_height_8 <| z_mmax (pc := 9) C dX0_height_9 w_564 w_565 w_19 w_566 (by decide) <| z_ir C hr hk dX0_height_12)
  | b + 1 => exact fun _ _ _ h => h.elim
theorem dJ7_fill_53178_0 : decode cJ7_fill_53178 0 = .ok (.iconst 0, 1) := by decide +kernel
theorem dJ7_fill_53178_1 : decode cJ7_fill_53178 1 = .ok (.istore_n 2, 1) := by decide +kernel
theorem dJ7_fill_53178_2 : decode cJ7_fill_53178 2 = .ok (.aload_n 0, 1) := by decide +kernel
theorem dJ7_fill_53178_3 : decode cJ7_fill_53178 3 = .ok (.arraylength, 1) := by decide +kernel
theorem dJ7_fill_53178_4 : decode cJ7_fill_53178 4 = .ok (.istore_n 3, 1) := by decide +kernel
theorem dJ7_fill_53178_5 : decode cJ7_fill_53178 5 = .ok (.iload_n 2, 1) := by decide +kernel
theorem dJ7_fill_53178_6 : decode cJ7_fill_53178 6 = .ok (.iload_n 3, 1) := by decide +kernel
theorem dJ7_fill_53178_7 : decode cJ7_fill_53178 7 = .ok (.if_icmp .ge 13, 3) := by decide +kernel
theorem dJ7_fill_53178_10 : decode cJ7_fill_53178 10 = .ok (.aload_n 0, 1) := by decide +kernel
theorem dJ7_fill_53178_11 : decode cJ7_fill_53178 11 = .ok (.iload_n 2, 1) := by decide +kernel
theorem dJ7_fill_53178_12 : decode cJ7_fill_53178 12 = .ok (.iload_n 1, 1) := by decide +kernel
theorem dJ7_fill_53178_13 : decode cJ7_fill_53178 13 = .ok (.iastore, 1) := by decide +kernel
theorem dJ7_fill_53178_14 : decode cJ7_fill_53178 14 = .ok (.iinc 2 1, 3) := by decide +kernel
theorem dJ7_fill_53178_17 : decode cJ7_fill_53178 17 = .ok (.goto (-12), 3) := by decide +kernel
theorem dJ7_fill_53178_20 : decode cJ7_fill_53178 20 = .ok (.return_, 1) := by decide +kernel
def P_J7_fill_53178 : Nat → Nat
  | 1 => 5
  | _ => 0
set_option maxRecDepth 100000 in
set_option maxHeartbeats 4000000 in
theorem S_J7_fill_53178 : zSd yJ7_fill_53178 cJ7_fill_53178 4 none { frames := 0, cells := 0, slots := 0, locals := 0 } T_J7_fill_53178 := by
  refine zMet (pcs := P_J7_fill_53178) (F := F_J7_fill_53178) (by decide) rfl ?_
  intro p l e s m args below meth c D ids ad A Q Y C hr hk hY b
  match b with
  | 0 => exact (z_ic (pc := 0) C dJ7_fill_53178_0 (by decide +kernel) <| z_isn (pc := 1) C dJ7_fill_53178_1 rfl (by decide) <| z_aln (pc := 2) C dJ7_fill_53178_2 rfl <| z_len (pc := 3) C dJ7_fill_53178_3 <| z_isn (pc := 4) C dJ7_fill_53178_4 rfl (by decide) <| z_jmp (hY 1))
  | 1 => exact (z_iln (pc := 5) C dJ7_fill_53178_5 rfl <| z_iln (pc := 6) C dJ7_fill_53178_6 rfl <| z_cmpge (tgt := 20) (pc := 7) C dJ7_fill_53178_7 (by decide) (z_vr C hr hk dJ7_fill_53178_20) <| z_aln (pc := 10) C dJ7_fill_53178_10 rfl <| z_iln (pc := 11) C dJ7_fill_53178_11 rfl <| z_iln (pc := 12) C dJ7_fill_53178_12 rfl <| z_iast (pc := 13) C dJ7_fill_53178_13 <| z_inc (pc := 14) C dJ7_fill_53178_14 (by decide +kernel) (by decide) <| z_goto (tgt := 5) (pc := 17) C dJ7_fill_53178_17 (by decide) <| z_jmp (hY 1))
  | b + 2 => exact fun _ _ _ h => h.elim
theorem dX1_begin_0 : decode cX1_begin 0 = .ok (.aload_n 0, 1) := by decide +kernel
theorem dX1_begin_1 : decode cX1_begin 1 = .ok (.iload_n 1, 1) := by decide +kernel
theorem dX1_begin_2 : decode cX1_begin 2 = .ok (.putfield 9, 3) := by decide +kernel
theorem dX1_begin_5 : decode cX1_begin 5 = .ok (.aload_n 0, 1) := by decide +kernel
theorem dX1_begin_6 : decode cX1_begin 6 = .ok (.getfield 15, 3) := by decide +kernel
theorem dX1_begin_9 : decode cX1_begin 9 = .ok (.iconst 0, 1) := by decide +kernel
theorem dX1_begin_10 : decode cX1_begin 10 = .ok (.invokestatic 49, 3) := by decide +kernel
theorem dX1_begin_13 : decode cX1_begin 13 = .ok (.aload_n 0, 1) := by decide +kernel
theorem dX1_begin_14 : decode cX1_begin 14 = .ok (.iconst 0, 1) := by decide +kernel
theorem dX1_begin_15 : decode cX1_begin 15 = .ok (.putfield 55, 3) := by decide +kernel
theorem dX1_begin_18 : decode cX1_begin 18 = .ok (.aload_n 0, 1) := by decide +kernel
theorem dX1_begin_19 : decode cX1_begin 19 = .ok (.iconst 0, 1) := by decide +kernel
theorem dX1_begin_20 : decode cX1_begin 20 = .ok (.putfield 58, 3) := by decide +kernel
theorem dX1_begin_23 : decode cX1_begin 23 = .ok (.aload_n 0, 1) := by decide +kernel
theorem dX1_begin_24 : decode cX1_begin 24 = .ok (.iconst 0, 1) := by decide +kernel
theorem dX1_begin_25 : decode cX1_begin 25 = .ok (.putfield 61, 3) := by decide +kernel
theorem dX1_begin_28 : decode cX1_begin 28 = .ok (.aload_n 0, 1) := by decide +kernel
theorem dX1_begin_29 : decode cX1_begin 29 = .ok (.iconst 0, 1) := by decide +kernel
theorem dX1_begin_30 : decode cX1_begin 30 = .ok (.putfield 64, 3) := by decide +kernel
theorem dX1_begin_33 : decode cX1_begin 33 = .ok (.return_, 1) := by decide +kernel
def P_X1_begin : Nat → Nat
  | _ => 0
set_option maxRecDepth 100000 in
set_option maxHeartbeats 4000000 in
theorem S_X1_begin : zSd yX1_begin cX1_begin 2 none { frames := 1, cells := 0, slots := 0, locals := 23 } T_X1_begin := by
  refine zMet (pcs := P_X1_begin) (F := F_X1_begin) (by decide) rfl ?_
  intro p l e s m args below meth c D ids ad A Q Y C hr hk hY b
  match b with
  | 0 => exact (z_aln (pc := 0) C dX1_begin_0 rfl <| z_iln (pc := 1) C dX1_begin_1 rfl <| z_pf (pc := 2) C dX1_begin_2 fp_1_9 <| z_aln (pc := 5) C dX1_begin_5 rfl <| z_gf (pc := 6) C dX1_begin_6 fl_1_15 <| z_ic (pc := 9) C dX1_begin_9 (by decide +kernel) <| z_cS (pc := 10) C dX1_begin_10 S_J7_fill_53178 (zl3 w_319 w_320 w_14) w_321 ds_J7_fill_53178 (zrm rfl rfl (by decide) (by decide)) <| z_aln (pc := 13) C dX1_begin_13 rfl <| z_ic (pc := 14) C dX1_begin_14 (by decide +kernel) <| z_pf (pc := 15) C dX1_begin_15 fp_1_55 <| z_aln (pc := 18) C dX1_begin_18 rfl <| z_ic (pc := 19) C dX1_begin_19 (by decide +kernel) <| z_pf (pc := 20) C dX1_begin_20 fp_1_58 <| z_aln (pc := 23) C dX1_begin_23 rfl <| z_ic (pc := 24) C dX1_begin_24 (by decide +kernel) <| z_pf (pc := 25) C dX1_begin_25 fp_1_61 <| z_aln (pc := 28) C dX1_begin_28 rfl <| z_ic (pc := 29) C dX1_begin_29 (by decide +kernel) <| z_pf (pc := 30) C dX1_begin_30 fp_1_64 <| z_vr C hr hk dX1_begin_33)
  | b + 1 => exact fun _ _ _ h => h.elim
theorem dX1_copy_0 : decode cX1_copy 0 = .ok (.aload_n 0, 1) := by decide +kernel
theorem dX1_copy_1 : decode cX1_copy 1 = .ok (.iconst 0, 1) := by decide +kernel
theorem dX1_copy_2 : decode cX1_copy 2 = .ok (.aload_n 1, 1) := by decide +kernel
theorem dX1_copy_3 : decode cX1_copy 3 = .ok (.iconst 0, 1) := by decide +kernel
theorem dX1_copy_4 : decode cX1_copy 4 = .ok (.aload_n 0, 1) := by decide +kernel
theorem dX1_copy_5 : decode cX1_copy 5 = .ok (.arraylength, 1) := by decide +kernel
theorem dX1_copy_6 : decode cX1_copy 6 = .ok (.aload_n 1, 1) := by decide +kernel
theorem dX1_copy_7 : decode cX1_copy 7 = .ok (.arraylength, 1) := by decide +kernel
theorem dX1_copy_8 : decode cX1_copy 8 = .ok (.invokestatic 71, 3) := by decide +kernel
theorem dX1_copy_11 : decode cX1_copy 11 = .ok (.invokestatic 77, 3) := by decide +kernel
theorem dX1_copy_14 : decode cX1_copy 14 = .ok (.return_, 1) := by decide +kernel
def P_X1_copy : Nat → Nat
  | _ => 0
set_option maxRecDepth 100000 in
set_option maxHeartbeats 4000000 in
theorem S_X1_copy : zSd yX1_copy cX1_copy 2 none { frames := 1, cells := 0, slots := 0, locals := 26 } T_X1_copy := by
  refine zMet (pcs := P_X1_copy) (F := F_X1_copy) (by decide) rfl ?_
  intro p l e s m args below meth c D ids ad A Q Y C hr hk hY b
  match b with
  | 0 => exact (z_aln (pc := 0) C dX1_copy_0 rfl <| z_ic (pc := 1) C dX1_copy_1 (by decide +kernel) <| z_aln (pc := 2) C dX1_copy_2 rfl <| z_ic (pc := 3) C dX1_copy_3 (by decide +kernel) <| z_aln (pc := 4) C dX1_copy_4 rfl <| z_len (pc := 5) C dX1_copy_5 <| z_aln (pc := 6) C dX1_copy_6 rfl <| z_len (pc := 7) C dX1_copy_7 <| z_mmin (pc := 8) C dX1_copy_8 w_472 w_473 w_19 w_474 (by decide) <| z_cp (pc := 11) C dX1_copy_11 ⟨w_475, w_477, w_476, w_20⟩ (by decide) <| z_vr C hr hk dX1_copy_14)
  | b + 1 => exact fun _ _ _ h => h.elim
theorem dX1_becomeLike_0 : decode cX1_becomeLike 0 = .ok (.aload_n 0, 1) := by decide +kernel
theorem dX1_becomeLike_1 : decode cX1_becomeLike 1 = .ok (.aload_n 1, 1) := by decide +kernel
theorem dX1_becomeLike_2 : decode cX1_becomeLike 2 = .ok (.getfield 9, 3) := by decide +kernel
theorem dX1_becomeLike_5 : decode cX1_becomeLike 5 = .ok (.putfield 9, 3) := by decide +kernel
theorem dX1_becomeLike_8 : decode cX1_becomeLike 8 = .ok (.aload_n 0, 1) := by decide +kernel
theorem dX1_becomeLike_9 : decode cX1_becomeLike 9 = .ok (.aload_n 1, 1) := by decide +kernel
theorem dX1_becomeLike_10 : decode cX1_becomeLike 10 = .ok (.getfield 55, 3) := by decide +kernel
theorem dX1_becomeLike_13 : decode cX1_becomeLike 13 = .ok (.putfield 55, 3) := by decide +kernel
theorem dX1_becomeLike_16 : decode cX1_becomeLike 16 = .ok (.aload_n 0, 1) := by decide +kernel
theorem dX1_becomeLike_17 : decode cX1_becomeLike 17 = .ok (.aload_n 1, 1) := by decide +kernel
theorem dX1_becomeLike_18 : decode cX1_becomeLike 18 = .ok (.getfield 58, 3) := by decide +kernel
theorem dX1_becomeLike_21 : decode cX1_becomeLike 21 = .ok (.putfield 58, 3) := by decide +kernel
theorem dX1_becomeLike_24 : decode cX1_becomeLike 24 = .ok (.aload_n 0, 1) := by decide +kernel
theorem dX1_becomeLike_25 : decode cX1_becomeLike 25 = .ok (.aload_n 1, 1) := by decide +kernel
theorem dX1_becomeLike_26 : decode cX1_becomeLike 26 = .ok (.getfield 61, 3) := by decide +kernel
theorem dX1_becomeLike_29 : decode cX1_becomeLike 29 = .ok (.putfield 61, 3) := by decide +kernel
theorem dX1_becomeLike_32 : decode cX1_becomeLike 32 = .ok (.aload_n 0, 1) := by decide +kernel
theorem dX1_becomeLike_33 : decode cX1_becomeLike 33 = .ok (.aload_n 1, 1) := by decide +kernel
theorem dX1_becomeLike_34 : decode cX1_becomeLike 34 = .ok (.getfield 64, 3) := by decide +kernel
theorem dX1_becomeLike_37 : decode cX1_becomeLike 37 = .ok (.putfield 64, 3) := by decide +kernel
theorem dX1_becomeLike_40 : decode cX1_becomeLike 40 = .ok (.aload_n 1, 1) := by decide +kernel
theorem dX1_becomeLike_41 : decode cX1_becomeLike 41 = .ok (.getfield 15, 3) := by decide +kernel
theorem dX1_becomeLike_44 : decode cX1_becomeLike 44 = .ok (.aload_n 0, 1) := by decide +kernel
theorem dX1_becomeLike_45 : decode cX1_becomeLike 45 = .ok (.getfield 15, 3) := by decide +kernel
theorem dX1_becomeLike_48 : decode cX1_becomeLike 48 = .ok (.invokestatic 67, 3) := by decide +kernel
theorem dX1_becomeLike_51 : decode cX1_becomeLike 51 = .ok (.aload_n 1, 1) := by decide +kernel
theorem dX1_becomeLike_52 : decode cX1_becomeLike 52 = .ok (.getfield 19, 3) := by decide +kernel
theorem dX1_becomeLike_55 : decode cX1_becomeLike 55 = .ok (.aload_n 0, 1) := by decide +kernel
theorem dX1_becomeLike_56 : decode cX1_becomeLike 56 = .ok (.getfield 19, 3) := by decide +kernel
theorem dX1_becomeLike_59 : decode cX1_becomeLike 59 = .ok (.invokestatic 67, 3) := by decide +kernel
theorem dX1_becomeLike_62 : decode cX1_becomeLike 62 = .ok (.aload_n 1, 1) := by decide +kernel
theorem dX1_becomeLike_63 : decode cX1_becomeLike 63 = .ok (.getfield 22, 3) := by decide +kernel
theorem dX1_becomeLike_66 : decode cX1_becomeLike 66 = .ok (.aload_n 0, 1) := by decide +kernel
theorem dX1_becomeLike_67 : decode cX1_becomeLike 67 = .ok (.getfield 22, 3) := by decide +kernel
theorem dX1_becomeLike_70 : decode cX1_becomeLike 70 = .ok (.invokestatic 67, 3) := by decide +kernel
theorem dX1_becomeLike_73 : decode cX1_becomeLike 73 = .ok (.aload_n 1, 1) := by decide +kernel
theorem dX1_becomeLike_74 : decode cX1_becomeLike 74 = .ok (.getfield 25, 3) := by decide +kernel
theorem dX1_becomeLike_77 : decode cX1_becomeLike 77 = .ok (.aload_n 0, 1) := by decide +kernel
theorem dX1_becomeLike_78 : decode cX1_becomeLike 78 = .ok (.getfield 25, 3) := by decide +kernel
theorem dX1_becomeLike_81 : decode cX1_becomeLike 81 = .ok (.invokestatic 67, 3) := by decide +kernel
theorem dX1_becomeLike_84 : decode cX1_becomeLike 84 = .ok (.aload_n 1, 1) := by decide +kernel
theorem dX1_becomeLike_85 : decode cX1_becomeLike 85 = .ok (.getfield 28, 3) := by decide +kernel
theorem dX1_becomeLike_88 : decode cX1_becomeLike 88 = .ok (.aload_n 0, 1) := by decide +kernel
theorem dX1_becomeLike_89 : decode cX1_becomeLike 89 = .ok (.getfield 28, 3) := by decide +kernel
theorem dX1_becomeLike_92 : decode cX1_becomeLike 92 = .ok (.invokestatic 67, 3) := by decide +kernel
theorem dX1_becomeLike_95 : decode cX1_becomeLike 95 = .ok (.aload_n 1, 1) := by decide +kernel
theorem dX1_becomeLike_96 : decode cX1_becomeLike 96 = .ok (.getfield 31, 3) := by decide +kernel
theorem dX1_becomeLike_99 : decode cX1_becomeLike 99 = .ok (.aload_n 0, 1) := by decide +kernel
theorem dX1_becomeLike_100 : decode cX1_becomeLike 100 = .ok (.getfield 31, 3) := by decide +kernel
theorem dX1_becomeLike_103 : decode cX1_becomeLike 103 = .ok (.invokestatic 67, 3) := by decide +kernel
theorem dX1_becomeLike_106 : decode cX1_becomeLike 106 = .ok (.aload_n 1, 1) := by decide +kernel
theorem dX1_becomeLike_107 : decode cX1_becomeLike 107 = .ok (.getfield 34, 3) := by decide +kernel
theorem dX1_becomeLike_110 : decode cX1_becomeLike 110 = .ok (.aload_n 0, 1) := by decide +kernel
theorem dX1_becomeLike_111 : decode cX1_becomeLike 111 = .ok (.getfield 34, 3) := by decide +kernel
theorem dX1_becomeLike_114 : decode cX1_becomeLike 114 = .ok (.invokestatic 67, 3) := by decide +kernel
theorem dX1_becomeLike_117 : decode cX1_becomeLike 117 = .ok (.aload_n 1, 1) := by decide +kernel
theorem dX1_becomeLike_118 : decode cX1_becomeLike 118 = .ok (.getfield 37, 3) := by decide +kernel
theorem dX1_becomeLike_121 : decode cX1_becomeLike 121 = .ok (.aload_n 0, 1) := by decide +kernel
theorem dX1_becomeLike_122 : decode cX1_becomeLike 122 = .ok (.getfield 37, 3) := by decide +kernel
theorem dX1_becomeLike_125 : decode cX1_becomeLike 125 = .ok (.invokestatic 67, 3) := by decide +kernel
theorem dX1_becomeLike_128 : decode cX1_becomeLike 128 = .ok (.aload_n 1, 1) := by decide +kernel
theorem dX1_becomeLike_129 : decode cX1_becomeLike 129 = .ok (.getfield 40, 3) := by decide +kernel
theorem dX1_becomeLike_132 : decode cX1_becomeLike 132 = .ok (.aload_n 0, 1) := by decide +kernel
theorem dX1_becomeLike_133 : decode cX1_becomeLike 133 = .ok (.getfield 40, 3) := by decide +kernel
theorem dX1_becomeLike_136 : decode cX1_becomeLike 136 = .ok (.invokestatic 67, 3) := by decide +kernel
theorem dX1_becomeLike_139 : decode cX1_becomeLike 139 = .ok (.aload_n 1, 1) := by decide +kernel
theorem dX1_becomeLike_140 : decode cX1_becomeLike 140 = .ok (.getfield 43, 3) := by decide +kernel
theorem dX1_becomeLike_143 : decode cX1_becomeLike 143 = .ok (.aload_n 0, 1) := by decide +kernel
theorem dX1_becomeLike_144 : decode cX1_becomeLike 144 = .ok (.getfield 43, 3) := by decide +kernel
theorem dX1_becomeLike_147 : decode cX1_becomeLike 147 = .ok (.invokestatic 67, 3) := by decide +kernel
theorem dX1_becomeLike_150 : decode cX1_becomeLike 150 = .ok (.aload_n 1, 1) := by decide +kernel
theorem dX1_becomeLike_151 : decode cX1_becomeLike 151 = .ok (.getfield 46, 3) := by decide +kernel
theorem dX1_becomeLike_154 : decode cX1_becomeLike 154 = .ok (.aload_n 0, 1) := by decide +kernel
theorem dX1_becomeLike_155 : decode cX1_becomeLike 155 = .ok (.getfield 46, 3) := by decide +kernel
theorem dX1_becomeLike_158 : decode cX1_becomeLike 158 = .ok (.invokestatic 67, 3) := by decide +kernel
theorem dX1_becomeLike_161 : decode cX1_becomeLike 161 = .ok (.return_, 1) := by decide +kernel
def P_X1_becomeLike : Nat → Nat
  | _ => 0
set_option maxRecDepth 100000 in
set_option maxHeartbeats 4000000 in
theorem S_X1_becomeLike : zSd yX1_becomeLike cX1_becomeLike 2 none { frames := 2, cells := 0, slots := 0, locals := 47 } T_X1_becomeLike := by
  refine zMet (pcs := P_X1_becomeLike) (F := F_X1_becomeLike) (by decide) rfl ?_
  intro p l e s m args below meth c D ids ad A Q Y C hr hk hY b
  match b with
  | 0 => exact (z_aln (pc := 0) C dX1_becomeLike_0 rfl <| z_aln (pc := 1) C dX1_becomeLike_1 rfl <| z_gf (pc := 2) C dX1_becomeLike_2 fl_1_9 <| z_pf (pc := 5) C dX1_becomeLike_5 fp_1_9 <| z_aln (pc := 8) C dX1_becomeLike_8 rfl <| z_aln (pc := 9) C dX1_becomeLike_9 rfl <| z_gf (pc := 10) C dX1_becomeLike_10 fl_1_55 <| z_pf (pc := 13) C dX1_becomeLike_13 fp_1_55 <| z_aln (pc := 16) C dX1_becomeLike_16 rfl <| z_aln (pc := 17) C dX1_becomeLike_17 rfl <| z_gf (pc := 18) C dX1_becomeLike_18 fl_1_58 <| z_pf (pc := 21) C dX1_becomeLike_21 fp_1_58 <| z_aln (pc := 24) C dX1_becomeLike_24 rfl <| z_aln (pc := 25) C dX1_becomeLike_25 rfl <| z_gf (pc := 26) C dX1_becomeLike_26 fl_1_61 <| z_pf (pc := 29) C dX1_becomeLike_29 fp_1_61 <| z_aln (pc := 32) C dX1_becomeLike_32 rfl <| z_aln (pc := 33) C dX1_becomeLike_33 rfl <| z_gf (pc := 34) C dX1_becomeLike_34 fl_1_64 <| z_pf (pc := 37) C dX1_becomeLike_37 fp_1_64 <| z_aln (pc := 40) C dX1_becomeLike_40 rfl <| z_gf (pc := 41) C dX1_becomeLike_41 fl_1_15 <| z_aln (pc := 44) C dX1_becomeLike_44 rfl <| z_gf (pc := 45) C dX1_becomeLike_45 fl_1_15 <| z_cS (pc := 48) C dX1_becomeLike_48 S_X1_copy (zl3 w_469 w_470 w_2) w_471 ds_X1_copy (zrm rfl rfl (by decide) (by decide)) <| z_aln (pc := 51) C dX1_becomeLike_51 rfl <| z_gf (pc := 52) C dX1_becomeLike_52 fl_1_19 <| z_aln (pc := 55) C dX1_becomeLike_55 rfl <| z_gf (pc := 56) C dX1_becomeLike_56 fl_1_19 <| z_cS (pc := 59) C dX1_becomeLike_59 S_X1_copy (zl3 w_469 w_470 w_2) w_471 ds_X1_copy (zrm rfl rfl (by decide) (by decide)) <| z_aln (pc := 62) C dX1_becomeLike_62 rfl <| z_gf (pc := 63) C dX1_becomeLike_63 fl_1_22 <| z_aln (pc := 66) C dX1_becomeLike_66 rfl <| z_gf (pc := 67) C dX1_becomeLike_67 fl_1_22 <| z_cS (pc := 70) C dX1_becomeLike_70 S_X1_copy (zl3 w_469 w_470 w_2) w_471 ds_X1_copy (zrm rfl rfl (by decide) (by decide)) <| z_aln (pc := 73) C dX1_becomeLike_73 rfl <| z_gf (pc := 74) C dX1_becomeLike_74 fl_1_25 <| z_aln (pc := 77) C dX1_becomeLike_77 rfl <| z_gf (pc := 78) C dX1_becomeLike_78 fl_1_25 <| z_cS (pc := 81) C dX1_becomeLike_81 S_X1_copy (zl3 w_469 w_470 w_2) w_471 ds_X1_copy (zrm rfl rfl (by decide) (by decide)) <| z_aln (pc := 84) C dX1_becomeLike_84 rfl <| z_gf (pc := 85) C dX1_becomeLike_85 fl_1_28 <| z_aln (pc := 88) C dX1_becomeLike_88 rfl <| z_gf (pc := 89) C dX1_becomeLike_89 fl_1_28 <| z_cS (pc := 92) C dX1_becomeLike_92 S_X1_copy (zl3 w_469 w_470 w_2) w_471 ds_X1_copy (zrm rfl rfl (by decide) (by decide)) <| z_aln (pc := 95) C dX1_becomeLike_95 rfl <| z_gf (pc := 96) C dX1_becomeLike_96 fl_1_31 <| z_aln (pc := 99) C dX1_becomeLike_99 rfl <| z_gf (pc := 100) C dX1_becomeLike_100 fl_1_31 <| z_cS (pc := 103) C dX1_becomeLike_103 S_X1_copy (zl3 w_469 w_470 w_2) w_471 ds_X1_copy (zrm rfl rfl (by decide) (by decide)) <| z_aln (pc := 106) C dX1_becomeLike_106 rfl <| z_gf (pc := 107) C dX1_becomeLike_107 fl_1_34 <| z_aln (pc := 110) C dX1_becomeLike_110 rfl <| z_gf (pc := 111) C dX1_becomeLike_111 fl_1_34 <| z_cS (pc := 114) C dX1_becomeLike_114 S_X1_copy (zl3 w_469 w_470 w_2) w_471 ds_X1_copy (zrm rfl rfl (by decide) (by decide)) <| z_aln (pc := 117) C dX1_becomeLike_117 rfl <| z_gf (pc := 118) C dX1_becomeLike_118 fl_1_37 <| z_aln (pc := 121) C dX1_becomeLike_121 rfl <| z_gf (pc := 122) C dX1_becomeLike_122 fl_1_37 <| z_cS (pc := 125) C dX1_becomeLike_125 S_X1_copy (zl3 w_469 w_470 w_2) w_471 ds_X1_copy (zrm rfl rfl (by decide) (by decide)) <| z_aln (pc := 128) C dX1_becomeLike_128 rfl <| z_gf (pc := 129) C dX1_becomeLike_129 fl_1_40 <| z_aln (pc := 132) C dX1_becomeLike_132 rfl <| z_gf (pc := 133) C dX1_becomeLike_133 fl_1_40 <| z_cS (pc := 136) C dX1_becomeLike_136 S_X1_copy (zl3 w_469 w_470 w_2) w_471 ds_X1_copy (zrm rfl rfl (by decide) (by decide)) <| z_aln (pc := 139) C dX1_becomeLike_139 rfl <| z_gf (pc := 140) C dX1_becomeLike_140 fl_1_43 <| z_aln (pc := 143) C dX1_becomeLike_143 rfl <| z_gf (pc := 144) C dX1_becomeLike_144 fl_1_43 <| z_cS (pc := 147) C dX1_becomeLike_147 S_X1_copy (zl3 w_469 w_470 w_2) w_471 ds_X1_copy (zrm rfl rfl (by decide) (by decide)) <| z_aln (pc := 150) C dX1_becomeLike_150 rfl <| z_gf (pc := 151) C dX1_becomeLike_151 fl_1_46 <| z_aln (pc := 154) C dX1_becomeLike_154 rfl <| z_gf (pc := 155) C dX1_becomeLike_155 fl_1_46 <| z_cS (pc := 158) C dX1_becomeLike_158 S_X1_copy (zl3 w_469 w_470 w_2) w_471 ds_X1_copy (zrm rfl rfl (by decide) (by decide)) <| z_vr C hr hk dX1_becomeLike_161)
  | b + 1 => exact fun _ _ _ h => h.elim
theorem dX1_hasFamily_0 : decode cX1_hasFamily 0 = .ok (.iload_n 1, 1) := by decide +kernel
theorem dX1_hasFamily_1 : decode cX1_hasFamily 1 = .ok (.ifCond .lt 15, 3) := by decide +kernel
theorem dX1_hasFamily_4 : decode cX1_hasFamily 4 = .ok (.iload_n 1, 1) := by decide +kernel
theorem dX1_hasFamily_5 : decode cX1_hasFamily 5 = .ok (.aload_n 0, 1) := by decide +kernel
theorem dX1_hasFamily_6 : decode cX1_hasFamily 6 = .ok (.getfield 55, 3) := by decide +kernel
theorem dX1_hasFamily_9 : decode cX1_hasFamily 9 = .ok (.if_icmp .ge 7, 3) := by decide +kernel
theorem dX1_hasFamily_12 : decode cX1_hasFamily 12 = .ok (.iconst 1, 1) := by decide +kernel
theorem dX1_hasFamily_13 : decode cX1_hasFamily 13 = .ok (.goto 4, 3) := by decide +kernel
theorem dX1_hasFamily_16 : decode cX1_hasFamily 16 = .ok (.iconst 0, 1) := by decide +kernel
theorem dX1_hasFamily_17 : decode cX1_hasFamily 17 = .ok (.ireturn, 1) := by decide +kernel
def P_X1_hasFamily : Nat → Nat
  | _ => 0
set_option maxRecDepth 100000 in
set_option maxHeartbeats 4000000 in
theorem S_X1_hasFamily : zSd yX1_hasFamily cX1_hasFamily 2 (some .boolean) { frames := 0, cells := 0, slots := 0, locals := 0 } T_X1_hasFamily := by
  refine zMet (pcs := P_X1_hasFamily) (F := F_X1_hasFamily) (by decide) rfl ?_
  intro p l e s m args below meth c D ids ad A Q Y C hr hk hY b
  match b with
  | 0 => exact (z_iln (pc := 0) C dX1_hasFamily_0 rfl <| z_iflt (tgt := 16) (pc := 1) C dX1_hasFamily_1 (by decide) (z_ic (pc := 16) C dX1_hasFamily_16 (by decide +kernel) <| z_zr C hr hk dX1_hasFamily_17) <| z_iln (pc := 4) C dX1_hasFamily_4 rfl <| z_aln (pc := 5) C dX1_hasFamily_5 rfl <| z_gf (pc := 6) C dX1_hasFamily_6 fl_1_55 <| z_cmpge (tgt := 16) (pc := 9) C dX1_hasFamily_9 (by decide) (z_ic (pc := 16) C dX1_hasFamily_16 (by decide +kernel) <| z_zr C hr hk dX1_hasFamily_17) <| z_ic (pc := 12) C dX1_hasFamily_12 (by decide +kernel) <| z_goto (tgt := 17) (pc := 13) C dX1_hasFamily_13 (by decide) <| z_zr C hr hk dX1_hasFamily_17)
  | b + 1 => exact fun _ _ _ h => h.elim
theorem dX1_sets_0 : decode cX1_sets 0 = .ok (.iconst 1, 1) := by decide +kernel
theorem dX1_sets_1 : decode cX1_sets 1 = .ok (.aload_n 0, 1) := by decide +kernel
theorem dX1_sets_2 : decode cX1_sets 2 = .ok (.getfield 55, 3) := by decide +kernel
theorem dX1_sets_5 : decode cX1_sets 5 = .ok (.ishl, 1) := by decide +kernel
theorem dX1_sets_6 : decode cX1_sets 6 = .ok (.ireturn, 1) := by decide +kernel
def P_X1_sets : Nat → Nat
  | _ => 0
set_option maxRecDepth 100000 in
set_option maxHeartbeats 4000000 in
theorem S_X1_sets : zSd yX1_sets cX1_sets 1 (some .int) { frames := 0, cells := 0, slots := 0, locals := 0 } T_X1_sets := by
  refine zMet (pcs := P_X1_sets) (F := F_X1_sets) (by decide) rfl ?_
  intro p l e s m args below meth c D ids ad A Q Y C hr hk hY b
  match b with
  | 0 => exact (z_ic (pc := 0) C dX1_sets_0 (by decide +kernel) <| z_aln (pc := 1) C dX1_sets_1 rfl <| z_gf (pc := 2) C dX1_sets_2 fl_1_55 <| z_ishl (pc := 5) C dX1_sets_5 <| z_ir C hr hk dX1_sets_6)
  | b + 1 => exact fun _ _ _ h => h.elim
theorem dX1_isTaken_0 : decode cX1_isTaken 0 = .ok (.iconst 0, 1) := by decide +kernel
theorem dX1_isTaken_1 : decode cX1_isTaken 1 = .ok (.istore_n 2, 1) := by decide +kernel
theorem dX1_isTaken_2 : decode cX1_isTaken 2 = .ok (.iload_n 2, 1) := by decide +kernel
theorem dX1_isTaken_3 : decode cX1_isTaken 3 = .ok (.aload_n 0, 1) := by decide +kernel
theorem dX1_isTaken_4 : decode cX1_isTaken 4 = .ok (.getfield 55, 3) := by decide +kernel
theorem dX1_isTaken_7 : decode cX1_isTaken 7 = .ok (.if_icmp .ge 21, 3) := by decide +kernel
theorem dX1_isTaken_10 : decode cX1_isTaken 10 = .ok (.aload_n 0, 1) := by decide +kernel
theorem dX1_isTaken_11 : decode cX1_isTaken 11 = .ok (.getfield 31, 3) := by decide +kernel
theorem dX1_isTaken_14 : decode cX1_isTaken 14 = .ok (.iload_n 2, 1) := by decide +kernel
theorem dX1_isTaken_15 : decode cX1_isTaken 15 = .ok (.iaload, 1) := by decide +kernel
theorem dX1_isTaken_16 : decode cX1_isTaken 16 = .ok (.iload_n 1, 1) := by decide +kernel
theorem dX1_isTaken_17 : decode cX1_isTaken 17 = .ok (.if_icmp .ne 5, 3) := by decide +kernel
theorem dX1_isTaken_20 : decode cX1_isTaken 20 = .ok (.iconst 1, 1) := by decide +kernel
theorem dX1_isTaken_21 : decode cX1_isTaken 21 = .ok (.ireturn, 1) := by decide +kernel
theorem dX1_isTaken_22 : decode cX1_isTaken 22 = .ok (.iinc 2 1, 3) := by decide +kernel
theorem dX1_isTaken_25 : decode cX1_isTaken 25 = .ok (.goto (-23), 3) := by decide +kernel
theorem dX1_isTaken_28 : decode cX1_isTaken 28 = .ok (.iconst 0, 1) := by decide +kernel
theorem dX1_isTaken_29 : decode cX1_isTaken 29 = .ok (.ireturn, 1) := by decide +kernel
def P_X1_isTaken : Nat → Nat
  | 1 => 2
  | _ => 0
set_option maxRecDepth 100000 in
set_option maxHeartbeats 4000000 in
theorem S_X1_isTaken : zSd yX1_isTaken cX1_isTaken 3 (some .boolean) { frames := 0, cells := 0, slots := 0, locals := 0 } T_X1_isTaken := by
  refine zMet (pcs := P_X1_isTaken) (F := F_X1_isTaken) (by decide) rfl ?_
  intro p l e s m args below meth c D ids ad A Q Y C hr hk hY b
  match b with
  | 0 => exact (z_ic (pc := 0) C dX1_isTaken_0 (by decide +kernel) <| z_isn (pc := 1) C dX1_isTaken_1 rfl (by decide) <| z_jmp (hY 1))
  | 1 => exact (z_iln (pc := 2) C dX1_isTaken_2 rfl <| z_aln (pc := 3) C dX1_isTaken_3 rfl <| z_gf (pc := 4) C dX1_isTaken_4 fl_1_55 <| z_cmpge (tgt := 28) (pc := 7) C dX1_isTaken_7 (by decide) (z_ic (pc := 28) C dX1_isTaken_28 (by decide +kernel) <| z_zr C hr hk dX1_isTaken_29) <| z_aln (pc := 10) C dX1_isTaken_10 rfl <| z_gf (pc := 11) C dX1_isTaken_11 fl_1_31 <| z_iln (pc := 14) C dX1_isTaken_14 rfl <| z_ia (pc := 15) C dX1_isTaken_15 <| z_iln (pc := 16) C dX1_isTaken_16 rfl <| z_cmpne (tgt := 22) (pc := 17) C dX1_isTaken_17 (by decide) (z_inc (pc := 22) C dX1_isTaken_22 (by decide +kernel) (by decide) <| z_goto (tgt := 2) (pc := 25) C dX1_isTaken_25 (by decide) <| z_jmp (hY 1)) <| z_ic (pc := 20) C dX1_isTaken_20 (by decide +kernel) <| z_zr C hr hk dX1_isTaken_21)
  | b + 2 => exact fun _ _ _ h => h.elim
theorem dX1_admit_0 : decode cX1_admit 0 = .ok (.aload_n 0, 1) := by decide +kernel
theorem dX1_admit_1 : decode cX1_admit 1 = .ok (.getfield 55, 3) := by decide +kernel
theorem dX1_admit_4 : decode cX1_admit 4 = .ok (.istore 6, 2) := by decide +kernel
theorem dX1_admit_6 : decode cX1_admit 6 = .ok (.aload_n 0, 1) := by decide +kernel
theorem dX1_admit_7 : decode cX1_admit 7 = .ok (.getfield 19, 3) := by decide +kernel
theorem dX1_admit_10 : decode cX1_admit 10 = .ok (.iload 6, 2) := by decide +kernel
theorem dX1_admit_12 : decode cX1_admit 12 = .ok (.iload_n 1, 1) := by decide +kernel
theorem dX1_admit_13 : decode cX1_admit 13 = .ok (.iastore, 1) := by decide +kernel
theorem dX1_admit_14 : decode cX1_admit 14 = .ok (.aload_n 0, 1) := by decide +kernel
theorem dX1_admit_15 : decode cX1_admit 15 = .ok (.getfield 22, 3) := by decide +kernel
theorem dX1_admit_18 : decode cX1_admit 18 = .ok (.iload 6, 2) := by decide +kernel
theorem dX1_admit_20 : decode cX1_admit 20 = .ok (.iload_n 2, 1) := by decide +kernel
theorem dX1_admit_21 : decode cX1_admit 21 = .ok (.iastore, 1) := by decide +kernel
theorem dX1_admit_22 : decode cX1_admit 22 = .ok (.aload_n 0, 1) := by decide +kernel
theorem dX1_admit_23 : decode cX1_admit 23 = .ok (.getfield 25, 3) := by decide +kernel
theorem dX1_admit_26 : decode cX1_admit 26 = .ok (.iload 6, 2) := by decide +kernel
theorem dX1_admit_28 : decode cX1_admit 28 = .ok (.iload_n 3, 1) := by decide +kernel
theorem dX1_admit_29 : decode cX1_admit 29 = .ok (.iastore, 1) := by decide +kernel
theorem dX1_admit_30 : decode cX1_admit 30 = .ok (.aload_n 0, 1) := by decide +kernel
theorem dX1_admit_31 : decode cX1_admit 31 = .ok (.getfield 28, 3) := by decide +kernel
theorem dX1_admit_34 : decode cX1_admit 34 = .ok (.iload 6, 2) := by decide +kernel
theorem dX1_admit_36 : decode cX1_admit 36 = .ok (.iload 4, 2) := by decide +kernel
theorem dX1_admit_38 : decode cX1_admit 38 = .ok (.iastore, 1) := by decide +kernel
theorem dX1_admit_39 : decode cX1_admit 39 = .ok (.aload_n 0, 1) := by decide +kernel
theorem dX1_admit_40 : decode cX1_admit 40 = .ok (.getfield 31, 3) := by decide +kernel
theorem dX1_admit_43 : decode cX1_admit 43 = .ok (.iload 6, 2) := by decide +kernel
theorem dX1_admit_45 : decode cX1_admit 45 = .ok (.iload 5, 2) := by decide +kernel
theorem dX1_admit_47 : decode cX1_admit 47 = .ok (.iastore, 1) := by decide +kernel
theorem dX1_admit_48 : decode cX1_admit 48 = .ok (.aload_n 0, 1) := by decide +kernel
theorem dX1_admit_49 : decode cX1_admit 49 = .ok (.dup, 1) := by decide +kernel
theorem dX1_admit_50 : decode cX1_admit 50 = .ok (.getfield 55, 3) := by decide +kernel
theorem dX1_admit_53 : decode cX1_admit 53 = .ok (.iconst 1, 1) := by decide +kernel
theorem dX1_admit_54 : decode cX1_admit 54 = .ok (.iadd, 1) := by decide +kernel
theorem dX1_admit_55 : decode cX1_admit 55 = .ok (.putfield 55, 3) := by decide +kernel
theorem dX1_admit_58 : decode cX1_admit 58 = .ok (.aload_n 0, 1) := by decide +kernel
theorem dX1_admit_59 : decode cX1_admit 59 = .ok (.iconst 0, 1) := by decide +kernel
theorem dX1_admit_60 : decode cX1_admit 60 = .ok (.putfield 64, 3) := by decide +kernel
theorem dX1_admit_63 : decode cX1_admit 63 = .ok (.iload 6, 2) := by decide +kernel
theorem dX1_admit_65 : decode cX1_admit 65 = .ok (.ireturn, 1) := by decide +kernel
def P_X1_admit : Nat → Nat
  | _ => 0
set_option maxRecDepth 100000 in
set_option maxHeartbeats 4000000 in
theorem S_X1_admit : zSd yX1_admit cX1_admit 7 (some .int) { frames := 0, cells := 0, slots := 0, locals := 0 } T_X1_admit := by
  refine zMet (pcs := P_X1_admit) (F := F_X1_admit) (by decide) rfl ?_
  intro p l e s m args below meth c D ids ad A Q Y C hr hk hY b
  match b with
  | 0 => exact (z_aln (pc := 0) C dX1_admit_0 rfl <| z_gf (pc := 1) C dX1_admit_1 fl_1_55 <| z_is (pc := 4) C dX1_admit_4 (by decide) <| z_aln (pc := 6) C dX1_admit_6 rfl <| z_gf (pc := 7) C dX1_admit_7 fl_1_19 <| z_il (pc := 10) C dX1_admit_10 <| z_iln (pc := 12) C dX1_admit_12 rfl <| z_iast (pc := 13) C dX1_admit_13 <| z_aln (pc := 14) C dX1_admit_14 rfl <| z_gf (pc := 15) C dX1_admit_15 fl_1_22 <| z_il (pc := 18) C dX1_admit_18 <| z_iln (pc := 20) C dX1_admit_20 rfl <| z_iast (pc := 21) C dX1_admit_21 <| z_aln (pc := 22) C dX1_admit_22 rfl <| z_gf (pc := 23) C dX1_admit_23 fl_1_25 <| z_il (pc := 26) C dX1_admit_26 <| z_iln (pc := 28) C dX1_admit_28 rfl <| z_iast (pc := 29) C dX1_admit_29 <| z_aln (pc := 30) C dX1_admit_30 rfl <| z_gf (pc := 31) C dX1_admit_31 fl_1_28 <| z_il (pc := 34) C dX1_admit_34 <| z_il (pc := 36) C dX1_admit_36 <| z_iast (pc := 38) C dX1_admit_38 <| z_aln (pc := 39) C dX1_admit_39 rfl <| z_gf (pc := 40) C dX1_admit_40 fl_1_31 <| z_il (pc := 43) C dX1_admit_43 <| z_il (pc := 45) C dX1_admit_45 <| z_iast (pc := 47) C dX1_admit_47 <| z_aln (pc := 48) C dX1_admit_48 rfl <| z_dup (pc := 49) C dX1_admit_49 <| z_gf (pc := 50) C dX1_admit_50 fl_1_55 <| z_ic (pc := 53) C dX1_admit_53 (by decide +kernel) <| z_iadd (pc := 54) C dX1_admit_54 <| z_pf (pc := 55) C dX1_admit_55 fp_1_55 <| z_aln (pc := 58) C dX1_admit_58 rfl <| z_ic (pc := 59) C dX1_admit_59 (by decide +kernel) <| z_pf (pc := 60) C dX1_admit_60 fp_1_64 <| z_il (pc := 63) C dX1_admit_63 <| z_ir C hr hk dX1_admit_65)
  | b + 1 => exact fun _ _ _ h => h.elim
theorem dX11_bit_0 : decode cX11_bit 0 = .ok (.iload_n 0, 1) := by decide +kernel
theorem dX11_bit_1 : decode cX11_bit 1 = .ok (.iload_n 1, 1) := by decide +kernel
theorem dX11_bit_2 : decode cX11_bit 2 = .ok (.ishr, 1) := by decide +kernel
theorem dX11_bit_3 : decode cX11_bit 3 = .ok (.iconst 1, 1) := by decide +kernel
theorem dX11_bit_4 : decode cX11_bit 4 = .ok (.iand, 1) := by decide +kernel
theorem dX11_bit_5 : decode cX11_bit 5 = .ok (.ireturn, 1) := by decide +kernel
def P_X11_bit : Nat → Nat
  | _ => 0
set_option maxRecDepth 100000 in
set_option maxHeartbeats 4000000 in
theorem S_X11_bit : zSd yX11_bit cX11_bit 2 (some .int) { frames := 0, cells := 0, slots := 0, locals := 0 } T_X11_bit := by
  refine zMet (pcs := P_X11_bit) (F := F_X11_bit) (by decide) rfl ?_
  intro p l e s m args below meth c D ids ad A Q Y C hr hk hY b
  match b with
  | 0 => exact (z_iln (pc := 0) C dX11_bit_0 rfl <| z_iln (pc := 1) C dX11_bit_1 rfl <| z_ishr (pc := 2) C dX11_bit_2 <| z_ic (pc := 3) C dX11_bit_3 (by decide +kernel) <| z_iand (pc := 4) C dX11_bit_4 <| z_ir C hr hk dX11_bit_5)
  | b + 1 => exact fun _ _ _ h => h.elim
theorem dX1_trait_0 : decode cX1_trait 0 = .ok (.iload_n 2, 1) := by decide +kernel
theorem dX1_trait_1 : decode cX1_trait 1 = .ok (.tableswitch 70 0 4 #[35, 42, 49, 56, 63], 35) := by decide +kernel
theorem dX1_trait_36 : decode cX1_trait 36 = .ok (.aload_n 0, 1) := by decide +kernel
theorem dX1_trait_37 : decode cX1_trait 37 = .ok (.getfield 19, 3) := by decide +kernel
theorem dX1_trait_40 : decode cX1_trait 40 = .ok (.iload_n 1, 1) := by decide +kernel
theorem dX1_trait_41 : decode cX1_trait 41 = .ok (.iaload, 1) := by decide +kernel
theorem dX1_trait_42 : decode cX1_trait 42 = .ok (.ireturn, 1) := by decide +kernel
theorem dX1_trait_43 : decode cX1_trait 43 = .ok (.aload_n 0, 1) := by decide +kernel
theorem dX1_trait_44 : decode cX1_trait 44 = .ok (.getfield 22, 3) := by decide +kernel
theorem dX1_trait_47 : decode cX1_trait 47 = .ok (.iload_n 1, 1) := by decide +kernel
theorem dX1_trait_48 : decode cX1_trait 48 = .ok (.iaload, 1) := by decide +kernel
theorem dX1_trait_49 : decode cX1_trait 49 = .ok (.ireturn, 1) := by decide +kernel
theorem dX1_trait_50 : decode cX1_trait 50 = .ok (.aload_n 0, 1) := by decide +kernel
theorem dX1_trait_51 : decode cX1_trait 51 = .ok (.getfield 25, 3) := by decide +kernel
theorem dX1_trait_54 : decode cX1_trait 54 = .ok (.iload_n 1, 1) := by decide +kernel
theorem dX1_trait_55 : decode cX1_trait 55 = .ok (.iaload, 1) := by decide +kernel
theorem dX1_trait_56 : decode cX1_trait 56 = .ok (.ireturn, 1) := by decide +kernel
theorem dX1_trait_57 : decode cX1_trait 57 = .ok (.aload_n 0, 1) := by decide +kernel
theorem dX1_trait_58 : decode cX1_trait 58 = .ok (.getfield 28, 3) := by decide +kernel
theorem dX1_trait_61 : decode cX1_trait 61 = .ok (.iload_n 1, 1) := by decide +kernel
theorem dX1_trait_62 : decode cX1_trait 62 = .ok (.iaload, 1) := by decide +kernel
theorem dX1_trait_63 : decode cX1_trait 63 = .ok (.ireturn, 1) := by decide +kernel
theorem dX1_trait_64 : decode cX1_trait 64 = .ok (.aload_n 0, 1) := by decide +kernel
theorem dX1_trait_65 : decode cX1_trait 65 = .ok (.getfield 31, 3) := by decide +kernel
theorem dX1_trait_68 : decode cX1_trait 68 = .ok (.iload_n 1, 1) := by decide +kernel
theorem dX1_trait_69 : decode cX1_trait 69 = .ok (.iaload, 1) := by decide +kernel
theorem dX1_trait_70 : decode cX1_trait 70 = .ok (.ireturn, 1) := by decide +kernel
theorem dX1_trait_71 : decode cX1_trait 71 = .ok (.aload_n 0, 1) := by decide +kernel
theorem dX1_trait_72 : decode cX1_trait 72 = .ok (.getfield 58, 3) := by decide +kernel
theorem dX1_trait_75 : decode cX1_trait 75 = .ok (.iload_n 1, 1) := by decide +kernel
theorem dX1_trait_76 : decode cX1_trait 76 = .ok (.invokestatic 83, 3) := by decide +kernel
theorem dX1_trait_79 : decode cX1_trait 79 = .ok (.ireturn, 1) := by decide +kernel
def P_X1_trait : Nat → Nat
  | _ => 0
set_option maxRecDepth 100000 in
set_option maxHeartbeats 4000000 in
theorem S_X1_trait : zSd yX1_trait cX1_trait 3 (some .int) { frames := 1, cells := 0, slots := 0, locals := 21 } T_X1_trait := by
  refine zMet (pcs := P_X1_trait) (F := F_X1_trait) (by decide) rfl ?_
  intro p l e s m args below meth c D ids ad A Q Y C hr hk hY b
  match b with
  | 0 => exact (z_iln (pc := 0) C dX1_trait_0 rfl <| z_table (pc := 1) (tgts := [36, 43, 50, 57, 64]) (td := 71) C dX1_trait_1 (keys := [0, 1, 2, 3, 4]) rfl (by decide +kernel) rfl (by decide) (by decide +kernel) (by decide) (fun j q t h1 h2 => match j, q, t, h1, h2 with
  | 0, _, _, h1, h2 => by cases h1; cases h2; exact (z_aln (pc := 36) C dX1_trait_36 rfl <| z_gf (pc := 37) C dX1_trait_37 fl_1_19 <| z_iln (pc := 40) C dX1_trait_40 rfl <| z_ia (pc := 41) C dX1_trait_41 <| z_ir C hr hk dX1_trait_42)
  | 1, _, _, h1, h2 => by cases h1; cases h2; exact (z_aln (pc := 43) C dX1_trait_43 rfl <| z_gf (pc := 44) C dX1_trait_44 fl_1_22 <| z_iln (pc := 47) C dX1_trait_47 rfl <| z_ia (pc := 48) C dX1_trait_48 <| z_ir C hr hk dX1_trait_49)
  | 2, _, _, h1, h2 => by cases h1; cases h2; exact (z_aln (pc := 50) C dX1_trait_50 rfl <| z_gf (pc := 51) C dX1_trait_51 fl_1_25 <| z_iln (pc := 54) C dX1_trait_54 rfl <| z_ia (pc := 55) C dX1_trait_55 <| z_ir C hr hk dX1_trait_56)
  | 3, _, _, h1, h2 => by cases h1; cases h2; exact (z_aln (pc := 57) C dX1_trait_57 rfl <| z_gf (pc := 58) C dX1_trait_58 fl_1_28 <| z_iln (pc := 61) C dX1_trait_61 rfl <| z_ia (pc := 62) C dX1_trait_62 <| z_ir C hr hk dX1_trait_63)
  | 4, _, _, h1, h2 => by cases h1; cases h2; exact (z_aln (pc := 64) C dX1_trait_64 rfl <| z_gf (pc := 65) C dX1_trait_65 fl_1_31 <| z_iln (pc := 68) C dX1_trait_68 rfl <| z_ia (pc := 69) C dX1_trait_69 <| z_ir C hr hk dX1_trait_70)
  | j + 5, _, _, h1, _ => by simp at h1) (z_aln (pc := 71) C dX1_trait_71 rfl <| z_gf (pc := 72) C dX1_trait_72 fl_1_58 <| z_iln (pc := 75) C dX1_trait_75 rfl <| z_cSN (pc := 76) C dX1_trait_76 S_X11_bit (host := "EveryPew") (by decide +kernel) (zl2 w_496 w_1) w_497 ds_X11_bit (zrm rfl rfl (by decide) (by decide)) <| z_ir C hr hk dX1_trait_79))
  | b + 1 => exact fun _ _ _ h => h.elim
theorem dX1_hear_0 : decode cX1_hear 0 = .ok (.aload_n 0, 1) := by decide +kernel
theorem dX1_hear_1 : decode cX1_hear 1 = .ok (.getfield 34, 3) := by decide +kernel
theorem dX1_hear_4 : decode cX1_hear 4 = .ok (.aload_n 0, 1) := by decide +kernel
theorem dX1_hear_5 : decode cX1_hear 5 = .ok (.getfield 61, 3) := by decide +kernel
theorem dX1_hear_8 : decode cX1_hear 8 = .ok (.iload_n 1, 1) := by decide +kernel
theorem dX1_hear_9 : decode cX1_hear 9 = .ok (.iastore, 1) := by decide +kernel
theorem dX1_hear_10 : decode cX1_hear 10 = .ok (.aload_n 0, 1) := by decide +kernel
theorem dX1_hear_11 : decode cX1_hear 11 = .ok (.getfield 37, 3) := by decide +kernel
theorem dX1_hear_14 : decode cX1_hear 14 = .ok (.aload_n 0, 1) := by decide +kernel
theorem dX1_hear_15 : decode cX1_hear 15 = .ok (.getfield 61, 3) := by decide +kernel
theorem dX1_hear_18 : decode cX1_hear 18 = .ok (.iload_n 2, 1) := by decide +kernel
theorem dX1_hear_19 : decode cX1_hear 19 = .ok (.iastore, 1) := by decide +kernel
theorem dX1_hear_20 : decode cX1_hear 20 = .ok (.aload_n 0, 1) := by decide +kernel
theorem dX1_hear_21 : decode cX1_hear 21 = .ok (.getfield 40, 3) := by decide +kernel
theorem dX1_hear_24 : decode cX1_hear 24 = .ok (.aload_n 0, 1) := by decide +kernel
theorem dX1_hear_25 : decode cX1_hear 25 = .ok (.getfield 61, 3) := by decide +kernel
theorem dX1_hear_28 : decode cX1_hear 28 = .ok (.iload_n 3, 1) := by decide +kernel
theorem dX1_hear_29 : decode cX1_hear 29 = .ok (.iastore, 1) := by decide +kernel
theorem dX1_hear_30 : decode cX1_hear 30 = .ok (.aload_n 0, 1) := by decide +kernel
theorem dX1_hear_31 : decode cX1_hear 31 = .ok (.dup, 1) := by decide +kernel
theorem dX1_hear_32 : decode cX1_hear 32 = .ok (.getfield 61, 3) := by decide +kernel
theorem dX1_hear_35 : decode cX1_hear 35 = .ok (.iconst 1, 1) := by decide +kernel
theorem dX1_hear_36 : decode cX1_hear 36 = .ok (.iadd, 1) := by decide +kernel
theorem dX1_hear_37 : decode cX1_hear 37 = .ok (.putfield 61, 3) := by decide +kernel
theorem dX1_hear_40 : decode cX1_hear 40 = .ok (.aload_n 0, 1) := by decide +kernel
theorem dX1_hear_41 : decode cX1_hear 41 = .ok (.getfield 61, 3) := by decide +kernel
theorem dX1_hear_44 : decode cX1_hear 44 = .ok (.ireturn, 1) := by decide +kernel
def P_X1_hear : Nat → Nat
  | _ => 0
set_option maxRecDepth 100000 in
set_option maxHeartbeats 4000000 in
theorem S_X1_hear : zSd yX1_hear cX1_hear 4 (some .int) { frames := 0, cells := 0, slots := 0, locals := 0 } T_X1_hear := by
  refine zMet (pcs := P_X1_hear) (F := F_X1_hear) (by decide) rfl ?_
  intro p l e s m args below meth c D ids ad A Q Y C hr hk hY b
  match b with
  | 0 => exact (z_aln (pc := 0) C dX1_hear_0 rfl <| z_gf (pc := 1) C dX1_hear_1 fl_1_34 <| z_aln (pc := 4) C dX1_hear_4 rfl <| z_gf (pc := 5) C dX1_hear_5 fl_1_61 <| z_iln (pc := 8) C dX1_hear_8 rfl <| z_iast (pc := 9) C dX1_hear_9 <| z_aln (pc := 10) C dX1_hear_10 rfl <| z_gf (pc := 11) C dX1_hear_11 fl_1_37 <| z_aln (pc := 14) C dX1_hear_14 rfl <| z_gf (pc := 15) C dX1_hear_15 fl_1_61 <| z_iln (pc := 18) C dX1_hear_18 rfl <| z_iast (pc := 19) C dX1_hear_19 <| z_aln (pc := 20) C dX1_hear_20 rfl <| z_gf (pc := 21) C dX1_hear_21 fl_1_40 <| z_aln (pc := 24) C dX1_hear_24 rfl <| z_gf (pc := 25) C dX1_hear_25 fl_1_61 <| z_iln (pc := 28) C dX1_hear_28 rfl <| z_iast (pc := 29) C dX1_hear_29 <| z_aln (pc := 30) C dX1_hear_30 rfl <| z_dup (pc := 31) C dX1_hear_31 <| z_gf (pc := 32) C dX1_hear_32 fl_1_61 <| z_ic (pc := 35) C dX1_hear_35 (by decide +kernel) <| z_iadd (pc := 36) C dX1_hear_36 <| z_pf (pc := 37) C dX1_hear_37 fp_1_61 <| z_aln (pc := 40) C dX1_hear_40 rfl <| z_gf (pc := 41) C dX1_hear_41 fl_1_61 <| z_ir C hr hk dX1_hear_44)
  | b + 1 => exact fun _ _ _ h => h.elim
theorem dX1_remember_0 : decode cX1_remember 0 = .ok (.aload_n 0, 1) := by decide +kernel
theorem dX1_remember_1 : decode cX1_remember 1 = .ok (.getfield 64, 3) := by decide +kernel
theorem dX1_remember_4 : decode cX1_remember 4 = .ok (.bipush 8, 2) := by decide +kernel
theorem dX1_remember_6 : decode cX1_remember 6 = .ok (.if_icmp .lt 40, 3) := by decide +kernel
theorem dX1_remember_9 : decode cX1_remember 9 = .ok (.aload_n 0, 1) := by decide +kernel
theorem dX1_remember_10 : decode cX1_remember 10 = .ok (.getfield 43, 3) := by decide +kernel
theorem dX1_remember_13 : decode cX1_remember 13 = .ok (.bipush 7, 2) := by decide +kernel
theorem dX1_remember_15 : decode cX1_remember 15 = .ok (.aload_n 0, 1) := by decide +kernel
theorem dX1_remember_16 : decode cX1_remember 16 = .ok (.getfield 43, 3) := by decide +kernel
theorem dX1_remember_19 : decode cX1_remember 19 = .ok (.iconst 0, 1) := by decide +kernel
theorem dX1_remember_20 : decode cX1_remember 20 = .ok (.bipush 49, 2) := by decide +kernel
theorem dX1_remember_22 : decode cX1_remember 22 = .ok (.invokestatic 77, 3) := by decide +kernel
theorem dX1_remember_25 : decode cX1_remember 25 = .ok (.aload_n 0, 1) := by decide +kernel
theorem dX1_remember_26 : decode cX1_remember 26 = .ok (.getfield 46, 3) := by decide +kernel
theorem dX1_remember_29 : decode cX1_remember 29 = .ok (.iconst 1, 1) := by decide +kernel
theorem dX1_remember_30 : decode cX1_remember 30 = .ok (.aload_n 0, 1) := by decide +kernel
theorem dX1_remember_31 : decode cX1_remember 31 = .ok (.getfield 46, 3) := by decide +kernel
theorem dX1_remember_34 : decode cX1_remember 34 = .ok (.iconst 0, 1) := by decide +kernel
theorem dX1_remember_35 : decode cX1_remember 35 = .ok (.bipush 7, 2) := by decide +kernel
theorem dX1_remember_37 : decode cX1_remember 37 = .ok (.invokestatic 77, 3) := by decide +kernel
theorem dX1_remember_40 : decode cX1_remember 40 = .ok (.aload_n 0, 1) := by decide +kernel
theorem dX1_remember_41 : decode cX1_remember 41 = .ok (.bipush 7, 2) := by decide +kernel
theorem dX1_remember_43 : decode cX1_remember 43 = .ok (.putfield 64, 3) := by decide +kernel
theorem dX1_remember_46 : decode cX1_remember 46 = .ok (.aload_n 0, 1) := by decide +kernel
theorem dX1_remember_47 : decode cX1_remember 47 = .ok (.getfield 31, 3) := by decide +kernel
theorem dX1_remember_50 : decode cX1_remember 50 = .ok (.iconst 0, 1) := by decide +kernel
theorem dX1_remember_51 : decode cX1_remember 51 = .ok (.aload_n 0, 1) := by decide +kernel
theorem dX1_remember_52 : decode cX1_remember 52 = .ok (.getfield 43, 3) := by decide +kernel
theorem dX1_remember_55 : decode cX1_remember 55 = .ok (.aload_n 0, 1) := by decide +kernel
theorem dX1_remember_56 : decode cX1_remember 56 = .ok (.getfield 64, 3) := by decide +kernel
theorem dX1_remember_59 : decode cX1_remember 59 = .ok (.bipush 7, 2) := by decide +kernel
theorem dX1_remember_61 : decode cX1_remember 61 = .ok (.imul, 1) := by decide +kernel
theorem dX1_remember_62 : decode cX1_remember 62 = .ok (.bipush 7, 2) := by decide +kernel
theorem dX1_remember_64 : decode cX1_remember 64 = .ok (.invokestatic 77, 3) := by decide +kernel
theorem dX1_remember_67 : decode cX1_remember 67 = .ok (.aload_n 0, 1) := by decide +kernel
theorem dX1_remember_68 : decode cX1_remember 68 = .ok (.getfield 46, 3) := by decide +kernel
theorem dX1_remember_71 : decode cX1_remember 71 = .ok (.aload_n 0, 1) := by decide +kernel
theorem dX1_remember_72 : decode cX1_remember 72 = .ok (.getfield 64, 3) := by decide +kernel
theorem dX1_remember_75 : decode cX1_remember 75 = .ok (.aload_n 0, 1) := by decide +kernel
theorem dX1_remember_76 : decode cX1_remember 76 = .ok (.getfield 58, 3) := by decide +kernel
theorem dX1_remember_79 : decode cX1_remember 79 = .ok (.iastore, 1) := by decide +kernel
theorem dX1_remember_80 : decode cX1_remember 80 = .ok (.aload_n 0, 1) := by decide +kernel
theorem dX1_remember_81 : decode cX1_remember 81 = .ok (.dup, 1) := by decide +kernel
theorem dX1_remember_82 : decode cX1_remember 82 = .ok (.getfield 64, 3) := by decide +kernel
theorem dX1_remember_85 : decode cX1_remember 85 = .ok (.iconst 1, 1) := by decide +kernel
theorem dX1_remember_86 : decode cX1_remember 86 = .ok (.iadd, 1) := by decide +kernel
theorem dX1_remember_87 : decode cX1_remember 87 = .ok (.putfield 64, 3) := by decide +kernel
theorem dX1_remember_90 : decode cX1_remember 90 = .ok (.return_, 1) := by decide +kernel
def P_X1_remember : Nat → Nat
  | 1 => 46
  | _ => 0
set_option maxRecDepth 100000 in
set_option maxHeartbeats 4000000 in
theorem S_X1_remember : zSd yX1_remember cX1_remember 1 none { frames := 1, cells := 0, slots := 0, locals := 26 } T_X1_remember := by
  refine zMet (pcs := P_X1_remember) (F := F_X1_remember) (by decide) rfl ?_
  intro p l e s m args below meth c D ids ad A Q Y C hr hk hY b
  match b with
  | 0 => exact (z_aln (pc := 0) C dX1_remember_0 rfl <| z_gf (pc := 1) C dX1_remember_1 fl_1_64 <| z_bi (pc := 4) C dX1_remember_4 (by decide +kernel) <| z_cmplt (tgt := 46) (pc := 6) C dX1_remember_6 (by decide) (z_jmp (hY 1)) <| z_aln (pc := 9) C dX1_remember_9 rfl <| z_gf (pc := 10) C dX1_remember_10 fl_1_43 <| z_bi (pc := 13) C dX1_remember_13 (by decide +kernel) <| z_aln (pc := 15) C dX1_remember_15 rfl <| z_gf (pc := 16) C dX1_remember_16 fl_1_43 <| z_ic (pc := 19) C dX1_remember_19 (by decide +kernel) <| z_bi (pc := 20) C dX1_remember_20 (by decide +kernel) <| z_cp (pc := 22) C dX1_remember_22 ⟨w_475, w_477, w_476, w_20⟩ (by decide) <| z_aln (pc := 25) C dX1_remember_25 rfl <| z_gf (pc := 26) C dX1_remember_26 fl_1_46 <| z_ic (pc := 29) C dX1_remember_29 (by decide +kernel) <| z_aln (pc := 30) C dX1_remember_30 rfl <| z_gf (pc := 31) C dX1_remember_31 fl_1_46 <| z_ic (pc := 34) C dX1_remember_34 (by decide +kernel) <| z_bi (pc := 35) C dX1_remember_35 (by decide +kernel) <| z_cp (pc := 37) C dX1_remember_37 ⟨w_475, w_477, w_476, w_20⟩ (by decide) <| z_aln (pc := 40) C dX1_remember_40 rfl <| z_bi (pc := 41) C dX1_remember_41 (by decide +kernel) <| z_pf (pc := 43) C dX1_remember_43 fp_1_64 <| z_jmp (hY 1))
  | 1 => exact (z_aln (pc := 46) C dX1_remember_46 rfl <| z_gf (pc := 47) C dX1_remember_47 fl_1_31 <| z_ic (pc := 50) C dX1_remember_50 (by decide +kernel) <| z_aln (pc := 51) C dX1_remember_51 rfl <| z_gf (pc := 52) C dX1_remember_52 fl_1_43 <| z_aln (pc := 55) C dX1_remember_55 rfl <| z_gf (pc := 56) C dX1_remember_56 fl_1_64 <| z_bi (pc := 59) C dX1_remember_59 (by decide +kernel) <| z_imul (pc := 61) C dX1_remember_61 <| z_bi (pc := 62) C dX1_remember_62 (by decide +kernel) <| z_cp (pc := 64) C dX1_remember_64 ⟨w_475, w_477, w_476, w_20⟩ (by decide) <| z_aln (pc := 67) C dX1_remember_67 rfl <| z_gf (pc := 68) C dX1_remember_68 fl_1_46 <| z_aln (pc := 71) C dX1_remember_71 rfl <| z_gf (pc := 72) C dX1_remember_72 fl_1_64 <| z_aln (pc := 75) C dX1_remember_75 rfl <| z_gf (pc := 76) C dX1_remember_76 fl_1_58 <| z_iast (pc := 79) C dX1_remember_79 <| z_aln (pc := 80) C dX1_remember_80 rfl <| z_dup (pc := 81) C dX1_remember_81 <| z_gf (pc := 82) C dX1_remember_82 fl_1_64 <| z_ic (pc := 85) C dX1_remember_85 (by decide +kernel) <| z_iadd (pc := 86) C dX1_remember_86 <| z_pf (pc := 87) C dX1_remember_87 fp_1_64 <| z_vr C hr hk dX1_remember_90)
  | b + 2 => exact fun _ _ _ h => h.elim
theorem dX1_goBack_0 : decode cX1_goBack 0 = .ok (.aload_n 0, 1) := by decide +kernel
theorem dX1_goBack_1 : decode cX1_goBack 1 = .ok (.dup, 1) := by decide +kernel
theorem dX1_goBack_2 : decode cX1_goBack 2 = .ok (.getfield 64, 3) := by decide +kernel
theorem dX1_goBack_5 : decode cX1_goBack 5 = .ok (.iconst 1, 1) := by decide +kernel
theorem dX1_goBack_6 : decode cX1_goBack 6 = .ok (.isub, 1) := by decide +kernel
theorem dX1_goBack_7 : decode cX1_goBack 7 = .ok (.putfield 64, 3) := by decide +kernel
theorem dX1_goBack_10 : decode cX1_goBack 10 = .ok (.aload_n 0, 1) := by decide +kernel
theorem dX1_goBack_11 : decode cX1_goBack 11 = .ok (.getfield 43, 3) := by decide +kernel
theorem dX1_goBack_14 : decode cX1_goBack 14 = .ok (.aload_n 0, 1) := by decide +kernel
theorem dX1_goBack_15 : decode cX1_goBack 15 = .ok (.getfield 64, 3) := by decide +kernel
theorem dX1_goBack_18 : decode cX1_goBack 18 = .ok (.bipush 7, 2) := by decide +kernel
theorem dX1_goBack_20 : decode cX1_goBack 20 = .ok (.imul, 1) := by decide +kernel
theorem dX1_goBack_21 : decode cX1_goBack 21 = .ok (.aload_n 0, 1) := by decide +kernel
theorem dX1_goBack_22 : decode cX1_goBack 22 = .ok (.getfield 31, 3) := by decide +kernel
theorem dX1_goBack_25 : decode cX1_goBack 25 = .ok (.iconst 0, 1) := by decide +kernel
theorem dX1_goBack_26 : decode cX1_goBack 26 = .ok (.bipush 7, 2) := by decide +kernel
theorem dX1_goBack_28 : decode cX1_goBack 28 = .ok (.invokestatic 77, 3) := by decide +kernel
theorem dX1_goBack_31 : decode cX1_goBack 31 = .ok (.aload_n 0, 1) := by decide +kernel
theorem dX1_goBack_32 : decode cX1_goBack 32 = .ok (.aload_n 0, 1) := by decide +kernel
theorem dX1_goBack_33 : decode cX1_goBack 33 = .ok (.getfield 46, 3) := by decide +kernel
theorem dX1_goBack_36 : decode cX1_goBack 36 = .ok (.aload_n 0, 1) := by decide +kernel
theorem dX1_goBack_37 : decode cX1_goBack 37 = .ok (.getfield 64, 3) := by decide +kernel
theorem dX1_goBack_40 : decode cX1_goBack 40 = .ok (.iaload, 1) := by decide +kernel
theorem dX1_goBack_41 : decode cX1_goBack 41 = .ok (.putfield 58, 3) := by decide +kernel
theorem dX1_goBack_44 : decode cX1_goBack 44 = .ok (.return_, 1) := by decide +kernel
def P_X1_goBack : Nat → Nat
  | _ => 0
set_option maxRecDepth 100000 in
set_option maxHeartbeats 4000000 in
theorem S_X1_goBack : zSd yX1_goBack cX1_goBack 1 none { frames := 1, cells := 0, slots := 0, locals := 26 } T_X1_goBack := by
  refine zMet (pcs := P_X1_goBack) (F := F_X1_goBack) (by decide) rfl ?_
  intro p l e s m args below meth c D ids ad A Q Y C hr hk hY b
  match b with
  | 0 => exact (z_aln (pc := 0) C dX1_goBack_0 rfl <| z_dup (pc := 1) C dX1_goBack_1 <| z_gf (pc := 2) C dX1_goBack_2 fl_1_64 <| z_ic (pc := 5) C dX1_goBack_5 (by decide +kernel) <| z_isub (pc := 6) C dX1_goBack_6 <| z_pf (pc := 7) C dX1_goBack_7 fp_1_64 <| z_aln (pc := 10) C dX1_goBack_10 rfl <| z_gf (pc := 11) C dX1_goBack_11 fl_1_43 <| z_aln (pc := 14) C dX1_goBack_14 rfl <| z_gf (pc := 15) C dX1_goBack_15 fl_1_64 <| z_bi (pc := 18) C dX1_goBack_18 (by decide +kernel) <| z_imul (pc := 20) C dX1_goBack_20 <| z_aln (pc := 21) C dX1_goBack_21 rfl <| z_gf (pc := 22) C dX1_goBack_22 fl_1_31 <| z_ic (pc := 25) C dX1_goBack_25 (by decide +kernel) <| z_bi (pc := 26) C dX1_goBack_26 (by decide +kernel) <| z_cp (pc := 28) C dX1_goBack_28 ⟨w_475, w_477, w_476, w_20⟩ (by decide) <| z_aln (pc := 31) C dX1_goBack_31 rfl <| z_aln (pc := 32) C dX1_goBack_32 rfl <| z_gf (pc := 33) C dX1_goBack_33 fl_1_46 <| z_aln (pc := 36) C dX1_goBack_36 rfl <| z_gf (pc := 37) C dX1_goBack_37 fl_1_64 <| z_ia (pc := 40) C dX1_goBack_40 <| z_pf (pc := 41) C dX1_goBack_41 fp_1_58 <| z_vr C hr hk dX1_goBack_44)
  | b + 1 => exact fun _ _ _ h => h.elim
theorem dX1_mostVoiced_0 : decode cX1_mostVoiced 0 = .ok (.iconst (-1), 1) := by decide +kernel
theorem dX1_mostVoiced_1 : decode cX1_mostVoiced 1 = .ok (.istore_n 2, 1) := by decide +kernel
theorem dX1_mostVoiced_2 : decode cX1_mostVoiced 2 = .ok (.iconst 0, 1) := by decide +kernel
theorem dX1_mostVoiced_3 : decode cX1_mostVoiced 3 = .ok (.istore_n 3, 1) := by decide +kernel
theorem dX1_mostVoiced_4 : decode cX1_mostVoiced 4 = .ok (.iload_n 3, 1) := by decide +kernel
theorem dX1_mostVoiced_5 : decode cX1_mostVoiced 5 = .ok (.aload_n 0, 1) := by decide +kernel
theorem dX1_mostVoiced_6 : decode cX1_mostVoiced 6 = .ok (.getfield 55, 3) := by decide +kernel
theorem dX1_mostVoiced_9 : decode cX1_mostVoiced 9 = .ok (.if_icmp .ge 41, 3) := by decide +kernel
theorem dX1_mostVoiced_12 : decode cX1_mostVoiced 12 = .ok (.aload_n 0, 1) := by decide +kernel
theorem dX1_mostVoiced_13 : decode cX1_mostVoiced 13 = .ok (.getfield 22, 3) := by decide +kernel
theorem dX1_mostVoiced_16 : decode cX1_mostVoiced 16 = .ok (.iload_n 3, 1) := by decide +kernel
theorem dX1_mostVoiced_17 : decode cX1_mostVoiced 17 = .ok (.iaload, 1) := by decide +kernel
theorem dX1_mostVoiced_18 : decode cX1_mostVoiced 18 = .ok (.iload_n 1, 1) := by decide +kernel
theorem dX1_mostVoiced_19 : decode cX1_mostVoiced 19 = .ok (.if_icmp .ne 25, 3) := by decide +kernel
theorem dX1_mostVoiced_22 : decode cX1_mostVoiced 22 = .ok (.iload_n 2, 1) := by decide +kernel
theorem dX1_mostVoiced_23 : decode cX1_mostVoiced 23 = .ok (.iconst (-1), 1) := by decide +kernel
theorem dX1_mostVoiced_24 : decode cX1_mostVoiced 24 = .ok (.if_icmp .eq 18, 3) := by decide +kernel
theorem dX1_mostVoiced_27 : decode cX1_mostVoiced 27 = .ok (.aload_n 0, 1) := by decide +kernel
theorem dX1_mostVoiced_28 : decode cX1_mostVoiced 28 = .ok (.getfield 28, 3) := by decide +kernel
theorem dX1_mostVoiced_31 : decode cX1_mostVoiced 31 = .ok (.iload_n 3, 1) := by decide +kernel
theorem dX1_mostVoiced_32 : decode cX1_mostVoiced 32 = .ok (.iaload, 1) := by decide +kernel
theorem dX1_mostVoiced_33 : decode cX1_mostVoiced 33 = .ok (.aload_n 0, 1) := by decide +kernel
theorem dX1_mostVoiced_34 : decode cX1_mostVoiced 34 = .ok (.getfield 28, 3) := by decide +kernel
theorem dX1_mostVoiced_37 : decode cX1_mostVoiced 37 = .ok (.iload_n 2, 1) := by decide +kernel
theorem dX1_mostVoiced_38 : decode cX1_mostVoiced 38 = .ok (.iaload, 1) := by decide +kernel
theorem dX1_mostVoiced_39 : decode cX1_mostVoiced 39 = .ok (.if_icmp .le 5, 3) := by decide +kernel
theorem dX1_mostVoiced_42 : decode cX1_mostVoiced 42 = .ok (.iload_n 3, 1) := by decide +kernel
theorem dX1_mostVoiced_43 : decode cX1_mostVoiced 43 = .ok (.istore_n 2, 1) := by decide +kernel
theorem dX1_mostVoiced_44 : decode cX1_mostVoiced 44 = .ok (.iinc 3 1, 3) := by decide +kernel
theorem dX1_mostVoiced_47 : decode cX1_mostVoiced 47 = .ok (.goto (-43), 3) := by decide +kernel
theorem dX1_mostVoiced_50 : decode cX1_mostVoiced 50 = .ok (.iload_n 2, 1) := by decide +kernel
theorem dX1_mostVoiced_51 : decode cX1_mostVoiced 51 = .ok (.ireturn, 1) := by decide +kernel
def P_X1_mostVoiced : Nat → Nat
  | 1 => 4
  | 2 => 42
  | 3 => 44
  | _ => 0
set_option maxRecDepth 100000 in
set_option maxHeartbeats 4000000 in
theorem S_X1_mostVoiced : zSd yX1_mostVoiced cX1_mostVoiced 4 (some .int) { frames := 0, cells := 0, slots := 0, locals := 0 } T_X1_mostVoiced := by
  refine zMet (pcs := P_X1_mostVoiced) (F := F_X1_mostVoiced) (by decide) rfl ?_
  intro p l e s m args below meth c D ids ad A Q Y C hr hk hY b
  match b with
  | 0 => exact (z_ic (pc := 0) C dX1_mostVoiced_0 (by decide +kernel) <| z_isn (pc := 1) C dX1_mostVoiced_1 rfl (by decide) <| z_ic (pc := 2) C dX1_mostVoiced_2 (by decide +kernel) <| z_isn (pc := 3) C dX1_mostVoiced_3 rfl (by decide) <| z_jmp (hY 1))
  | 1 => exact (z_iln (pc := 4) C dX1_mostVoiced_4 rfl <| z_aln (pc := 5) C dX1_mostVoiced_5 rfl <| z_gf (pc := 6) C dX1_mostVoiced_6 fl_1_55 <| z_cmpge (tgt := 50) (pc := 9) C dX1_mostVoiced_9 (by decide) (z_iln (pc := 50) C dX1_mostVoiced_50 rfl <| z_ir C hr hk dX1_mostVoiced_51) <| z_aln (pc := 12) C dX1_mostVoiced_12 rfl <| z_gf (pc := 13) C dX1_mostVoiced_13 fl_1_22 <| z_iln (pc := 16) C dX1_mostVoiced_16 rfl <| z_ia (pc := 17) C dX1_mostVoiced_17 <| z_iln (pc := 18) C dX1_mostVoiced_18 rfl <| z_cmpne (tgt := 44) (pc := 19) C dX1_mostVoiced_19 (by decide) (z_jmp (hY 3)) <| z_iln (pc := 22) C dX1_mostVoiced_22 rfl <| z_ic (pc := 23) C dX1_mostVoiced_23 (by decide +kernel) <| z_cmpeq (tgt := 42) (pc := 24) C dX1_mostVoiced_24 (by decide) (z_jmp (hY 2)) <| z_aln (pc := 27) C dX1_mostVoiced_27 rfl <| z_gf (pc := 28) C dX1_mostVoiced_28 fl_1_28 <| z_iln (pc := 31) C dX1_mostVoiced_31 rfl <| z_ia (pc := 32) C dX1_mostVoiced_32 <| z_aln (pc := 33) C dX1_mostVoiced_33 rfl <| z_gf (pc := 34) C dX1_mostVoiced_34 fl_1_28 <| z_iln (pc := 37) C dX1_mostVoiced_37 rfl <| z_ia (pc := 38) C dX1_mostVoiced_38 <| z_cmple (tgt := 44) (pc := 39) C dX1_mostVoiced_39 (by decide) (z_jmp (hY 3)) <| z_jmp (hY 2))
  | 2 => exact (z_iln (pc := 42) C dX1_mostVoiced_42 rfl <| z_isn (pc := 43) C dX1_mostVoiced_43 rfl (by decide) <| z_jmp (hY 3))
  | 3 => exact (z_inc (pc := 44) C dX1_mostVoiced_44 (by decide +kernel) (by decide) <| z_goto (tgt := 4) (pc := 47) C dX1_mostVoiced_47 (by decide) <| z_jmp (hY 1))
  | b + 4 => exact fun _ _ _ h => h.elim
theorem dX2_kneelsAt_0 : decode cX2_kneelsAt 0 = .ok (.iload_n 1, 1) := by decide +kernel
theorem dX2_kneelsAt_1 : decode cX2_kneelsAt 1 = .ok (.ifCond .ne 7, 3) := by decide +kernel
theorem dX2_kneelsAt_4 : decode cX2_kneelsAt 4 = .ok (.iload_n 2, 1) := by decide +kernel
theorem dX2_kneelsAt_5 : decode cX2_kneelsAt 5 = .ok (.ifCond .eq 7, 3) := by decide +kernel
theorem dX2_kneelsAt_8 : decode cX2_kneelsAt 8 = .ok (.iconst 1, 1) := by decide +kernel
theorem dX2_kneelsAt_9 : decode cX2_kneelsAt 9 = .ok (.goto 4, 3) := by decide +kernel
theorem dX2_kneelsAt_12 : decode cX2_kneelsAt 12 = .ok (.iconst 0, 1) := by decide +kernel
theorem dX2_kneelsAt_13 : decode cX2_kneelsAt 13 = .ok (.ireturn, 1) := by decide +kernel
def P_X2_kneelsAt : Nat → Nat
  | 1 => 8
  | _ => 0
set_option maxRecDepth 100000 in
set_option maxHeartbeats 4000000 in
theorem S_X2_kneelsAt : zSd yX2_kneelsAt cX2_kneelsAt 3 (some .boolean) { frames := 0, cells := 0, slots := 0, locals := 0 } T_X2_kneelsAt := by
  refine zMet (pcs := P_X2_kneelsAt) (F := F_X2_kneelsAt) (by decide) rfl ?_
  intro p l e s m args below meth c D ids ad A Q Y C hr hk hY b
  match b with
  | 0 => exact (z_iln (pc := 0) C dX2_kneelsAt_0 rfl <| z_ifne (tgt := 8) (pc := 1) C dX2_kneelsAt_1 (by decide) (z_jmp (hY 1)) <| z_iln (pc := 4) C dX2_kneelsAt_4 rfl <| z_ifeq (tgt := 12) (pc := 5) C dX2_kneelsAt_5 (by decide) (z_ic (pc := 12) C dX2_kneelsAt_12 (by decide +kernel) <| z_zr C hr hk dX2_kneelsAt_13) <| z_jmp (hY 1))
  | 1 => exact (z_ic (pc := 8) C dX2_kneelsAt_8 (by decide +kernel) <| z_goto (tgt := 13) (pc := 9) C dX2_kneelsAt_9 (by decide) <| z_zr C hr hk dX2_kneelsAt_13)
  | b + 2 => exact fun _ _ _ h => h.elim
theorem dX8_loudnessInCase_0 : decode cX8_loudnessInCase 0 = .ok (.iconst 0, 1) := by decide +kernel
theorem dX8_loudnessInCase_1 : decode cX8_loudnessInCase 1 = .ok (.istore 4, 2) := by decide +kernel
theorem dX8_loudnessInCase_3 : decode cX8_loudnessInCase 3 = .ok (.iconst 0, 1) := by decide +kernel
theorem dX8_loudnessInCase_4 : decode cX8_loudnessInCase 4 = .ok (.istore 5, 2) := by decide +kernel
theorem dX8_loudnessInCase_6 : decode cX8_loudnessInCase 6 = .ok (.iload 5, 2) := by decide +kernel
theorem dX8_loudnessInCase_8 : decode cX8_loudnessInCase 8 = .ok (.aload_n 0, 1) := by decide +kernel
theorem dX8_loudnessInCase_9 : decode cX8_loudnessInCase 9 = .ok (.getfield 62, 3) := by decide +kernel
theorem dX8_loudnessInCase_12 : decode cX8_loudnessInCase 12 = .ok (.if_icmp .ge 45, 3) := by decide +kernel
theorem dX8_loudnessInCase_15 : decode cX8_loudnessInCase 15 = .ok (.aload_n 0, 1) := by decide +kernel
theorem dX8_loudnessInCase_16 : decode cX8_loudnessInCase 16 = .ok (.getfield 33, 3) := by decide +kernel
theorem dX8_loudnessInCase_19 : decode cX8_loudnessInCase 19 = .ok (.iload 5, 2) := by decide +kernel
theorem dX8_loudnessInCase_21 : decode cX8_loudnessInCase 21 = .ok (.iaload, 1) := by decide +kernel
theorem dX8_loudnessInCase_22 : decode cX8_loudnessInCase 22 = .ok (.iload_n 2, 1) := by decide +kernel
theorem dX8_loudnessInCase_23 : decode cX8_loudnessInCase 23 = .ok (.if_icmp .ne 28, 3) := by decide +kernel
theorem dX8_loudnessInCase_26 : decode cX8_loudnessInCase 26 = .ok (.iload_n 3, 1) := by decide +kernel
theorem dX8_loudnessInCase_27 : decode cX8_loudnessInCase 27 = .ok (.iload 5, 2) := by decide +kernel
theorem dX8_loudnessInCase_29 : decode cX8_loudnessInCase 29 = .ok (.invokestatic 76, 3) := by decide +kernel
theorem dX8_loudnessInCase_32 : decode cX8_loudnessInCase 32 = .ok (.ifCond .ne 19, 3) := by decide +kernel
theorem dX8_loudnessInCase_35 : decode cX8_loudnessInCase 35 = .ok (.iload 4, 2) := by decide +kernel
theorem dX8_loudnessInCase_37 : decode cX8_loudnessInCase 37 = .ok (.aload_n 0, 1) := by decide +kernel
theorem dX8_loudnessInCase_38 : decode cX8_loudnessInCase 38 = .ok (.getfield 47, 3) := by decide +kernel
theorem dX8_loudnessInCase_41 : decode cX8_loudnessInCase 41 = .ok (.iload 5, 2) := by decide +kernel
theorem dX8_loudnessInCase_43 : decode cX8_loudnessInCase 43 = .ok (.iconst 4, 1) := by decide +kernel
theorem dX8_loudnessInCase_44 : decode cX8_loudnessInCase 44 = .ok (.imul, 1) := by decide +kernel
theorem dX8_loudnessInCase_45 : decode cX8_loudnessInCase 45 = .ok (.iload_n 1, 1) := by decide +kernel
theorem dX8_loudnessInCase_46 : decode cX8_loudnessInCase 46 = .ok (.iadd, 1) := by decide +kernel
theorem dX8_loudnessInCase_47 : decode cX8_loudnessInCase 47 = .ok (.iaload, 1) := by decide +kernel
theorem dX8_loudnessInCase_48 : decode cX8_loudnessInCase 48 = .ok (.iadd, 1) := by decide +kernel
theorem dX8_loudnessInCase_49 : decode cX8_loudnessInCase 49 = .ok (.istore 4, 2) := by decide +kernel
theorem dX8_loudnessInCase_51 : decode cX8_loudnessInCase 51 = .ok (.iinc 5 1, 3) := by decide +kernel
theorem dX8_loudnessInCase_54 : decode cX8_loudnessInCase 54 = .ok (.goto (-48), 3) := by decide +kernel
theorem dX8_loudnessInCase_57 : decode cX8_loudnessInCase 57 = .ok (.iload 4, 2) := by decide +kernel
theorem dX8_loudnessInCase_59 : decode cX8_loudnessInCase 59 = .ok (.ireturn, 1) := by decide +kernel
def P_X8_loudnessInCase : Nat → Nat
  | 1 => 6
  | 2 => 51
  | _ => 0
set_option maxRecDepth 100000 in
set_option maxHeartbeats 4000000 in
theorem S_X8_loudnessInCase : zSd yX8_loudnessInCase cX8_loudnessInCase 6 (some .int) { frames := 1, cells := 0, slots := 0, locals := 21 } T_X8_loudnessInCase := by
  refine zMet (pcs := P_X8_loudnessInCase) (F := F_X8_loudnessInCase) (by decide) rfl ?_
  intro p l e s m args below meth c D ids ad A Q Y C hr hk hY b
  match b with
  | 0 => exact (z_ic (pc := 0) C dX8_loudnessInCase_0 (by decide +kernel) <| z_is (pc := 1) C dX8_loudnessInCase_1 (by decide) <| z_ic (pc := 3) C dX8_loudnessInCase_3 (by decide +kernel) <| z_is (pc := 4) C dX8_loudnessInCase_4 (by decide) <| z_jmp (hY 1))
  | 1 => exact (z_il (pc := 6) C dX8_loudnessInCase_6 <| z_aln (pc := 8) C dX8_loudnessInCase_8 rfl <| z_gf (pc := 9) C dX8_loudnessInCase_9 fl_8_62 <| z_cmpge (tgt := 57) (pc := 12) C dX8_loudnessInCase_12 (by decide) (z_il (pc := 57) C dX8_loudnessInCase_57 <| z_ir C hr hk dX8_loudnessInCase_59) <| z_aln (pc := 15) C dX8_loudnessInCase_15 rfl <| z_gf (pc := 16) C dX8_loudnessInCase_16 fl_8_33 <| z_il (pc := 19) C dX8_loudnessInCase_19 <| z_ia (pc := 21) C dX8_loudnessInCase_21 <| z_iln (pc := 22) C dX8_loudnessInCase_22 rfl <| z_cmpne (tgt := 51) (pc := 23) C dX8_loudnessInCase_23 (by decide) (z_jmp (hY 2)) <| z_iln (pc := 26) C dX8_loudnessInCase_26 rfl <| z_il (pc := 27) C dX8_loudnessInCase_27 <| z_cSN (pc := 29) C dX8_loudnessInCase_29 S_X11_bit (host := "EveryPew") (by decide +kernel) (zl2 w_496 w_1) w_497 ds_X11_bit (zrm rfl rfl (by decide) (by decide)) <| z_ifne (tgt := 51) (pc := 32) C dX8_loudnessInCase_32 (by decide) (z_jmp (hY 2)) <| z_il (pc := 35) C dX8_loudnessInCase_35 <| z_aln (pc := 37) C dX8_loudnessInCase_37 rfl <| z_gf (pc := 38) C dX8_loudnessInCase_38 fl_8_47 <| z_il (pc := 41) C dX8_loudnessInCase_41 <| z_ic (pc := 43) C dX8_loudnessInCase_43 (by decide +kernel) <| z_imul (pc := 44) C dX8_loudnessInCase_44 <| z_iln (pc := 45) C dX8_loudnessInCase_45 rfl <| z_iadd (pc := 46) C dX8_loudnessInCase_46 <| z_ia (pc := 47) C dX8_loudnessInCase_47 <| z_iadd (pc := 48) C dX8_loudnessInCase_48 <| z_is (pc := 49) C dX8_loudnessInCase_49 (by decide) <| z_jmp (hY 2))
  | 2 => exact (z_inc (pc := 51) C dX8_loudnessInCase_51 (by decide +kernel) (by decide) <| z_goto (tgt := 6) (pc := 54) C dX8_loudnessInCase_54 (by decide) <| z_jmp (hY 1))
  | b + 3 => exact fun _ _ _ h => h.elim
theorem dX8_loudness_0 : decode cX8_loudness 0 = .ok (.aload_n 0, 1) := by decide +kernel
theorem dX8_loudness_1 : decode cX8_loudness 1 = .ok (.aload_n 0, 1) := by decide +kernel
theorem dX8_loudness_2 : decode cX8_loudness 2 = .ok (.getfield 50, 3) := by decide +kernel
theorem dX8_loudness_5 : decode cX8_loudness 5 = .ok (.iload_n 1, 1) := by decide +kernel
theorem dX8_loudness_6 : decode cX8_loudness 6 = .ok (.iaload, 1) := by decide +kernel
theorem dX8_loudness_7 : decode cX8_loudness 7 = .ok (.iload_n 2, 1) := by decide +kernel
theorem dX8_loudness_8 : decode cX8_loudness 8 = .ok (.iload_n 3, 1) := by decide +kernel
theorem dX8_loudness_9 : decode cX8_loudness 9 = .ok (.invokevirtual 107, 3) := by decide +kernel
theorem dX8_loudness_12 : decode cX8_loudness 12 = .ok (.ireturn, 1) := by decide +kernel
def P_X8_loudness : Nat → Nat
  | _ => 0
set_option maxRecDepth 100000 in
set_option maxHeartbeats 4000000 in
theorem S_X8_loudness : zSd yX8_loudness cX8_loudness 4 (some .int) { frames := 2, cells := 0, slots := 0, locals := 46 } T_X8_loudness := by
  refine zMet (pcs := P_X8_loudness) (F := F_X8_loudness) (by decide) rfl ?_
  intro p l e s m args below meth c D ids ad A Q Y C hr hk hY b
  match b with
  | 0 => exact (z_aln (pc := 0) C dX8_loudness_0 rfl <| z_aln (pc := 1) C dX8_loudness_1 rfl <| z_gf (pc := 2) C dX8_loudness_2 fl_8_50 <| z_iln (pc := 5) C dX8_loudness_5 rfl <| z_ia (pc := 6) C dX8_loudness_6 <| z_iln (pc := 7) C dX8_loudness_7 rfl <| z_iln (pc := 8) C dX8_loudness_8 rfl <| z_cV (pc := 9) C dX8_loudness_9 S_X8_loudnessInCase rfl (zl4 w_627 w_628 w_629 w_4) w_630 ds_X8_loudnessInCase (zrm rfl rfl (by decide) (by decide)) <| z_ir C hr hk dX8_loudness_12)
  | b + 1 => exact fun _ _ _ h => h.elim
theorem dX8_agreesWith_0 : decode cX8_agreesWith 0 = .ok (.iconst 0, 1) := by decide +kernel
theorem dX8_agreesWith_1 : decode cX8_agreesWith 1 = .ok (.istore_n 3, 1) := by decide +kernel
theorem dX8_agreesWith_2 : decode cX8_agreesWith 2 = .ok (.iload_n 3, 1) := by decide +kernel
theorem dX8_agreesWith_3 : decode cX8_agreesWith 3 = .ok (.aload_n 1, 1) := by decide +kernel
theorem dX8_agreesWith_4 : decode cX8_agreesWith 4 = .ok (.getfield 121, 3) := by decide +kernel
theorem dX8_agreesWith_7 : decode cX8_agreesWith 7 = .ok (.if_icmp .ge 37, 3) := by decide +kernel
theorem dX8_agreesWith_10 : decode cX8_agreesWith 10 = .ok (.aload_n 0, 1) := by decide +kernel
theorem dX8_agreesWith_11 : decode cX8_agreesWith 11 = .ok (.aload_n 1, 1) := by decide +kernel
theorem dX8_agreesWith_12 : decode cX8_agreesWith 12 = .ok (.getfield 124, 3) := by decide +kernel
theorem dX8_agreesWith_15 : decode cX8_agreesWith 15 = .ok (.iload_n 3, 1) := by decide +kernel
theorem dX8_agreesWith_16 : decode cX8_agreesWith 16 = .ok (.iaload, 1) := by decide +kernel
theorem dX8_agreesWith_17 : decode cX8_agreesWith 17 = .ok (.aload_n 1, 1) := by decide +kernel
theorem dX8_agreesWith_18 : decode cX8_agreesWith 18 = .ok (.getfield 127, 3) := by decide +kernel
theorem dX8_agreesWith_21 : decode cX8_agreesWith 21 = .ok (.iload_n 3, 1) := by decide +kernel
theorem dX8_agreesWith_22 : decode cX8_agreesWith 22 = .ok (.iaload, 1) := by decide +kernel
theorem dX8_agreesWith_23 : decode cX8_agreesWith 23 = .ok (.iload_n 2, 1) := by decide +kernel
theorem dX8_agreesWith_24 : decode cX8_agreesWith 24 = .ok (.invokevirtual 130, 3) := by decide +kernel
theorem dX8_agreesWith_27 : decode cX8_agreesWith 27 = .ok (.aload_n 1, 1) := by decide +kernel
theorem dX8_agreesWith_28 : decode cX8_agreesWith 28 = .ok (.getfield 133, 3) := by decide +kernel
theorem dX8_agreesWith_31 : decode cX8_agreesWith 31 = .ok (.iload_n 3, 1) := by decide +kernel
theorem dX8_agreesWith_32 : decode cX8_agreesWith 32 = .ok (.iaload, 1) := by decide +kernel
theorem dX8_agreesWith_33 : decode cX8_agreesWith 33 = .ok (.if_icmp .eq 5, 3) := by decide +kernel
theorem dX8_agreesWith_36 : decode cX8_agreesWith 36 = .ok (.iconst 0, 1) := by decide +kernel
theorem dX8_agreesWith_37 : decode cX8_agreesWith 37 = .ok (.ireturn, 1) := by decide +kernel
theorem dX8_agreesWith_38 : decode cX8_agreesWith 38 = .ok (.iinc 3 1, 3) := by decide +kernel
theorem dX8_agreesWith_41 : decode cX8_agreesWith 41 = .ok (.goto (-39), 3) := by decide +kernel
theorem dX8_agreesWith_44 : decode cX8_agreesWith 44 = .ok (.iconst 1, 1) := by decide +kernel
theorem dX8_agreesWith_45 : decode cX8_agreesWith 45 = .ok (.ireturn, 1) := by decide +kernel
def P_X8_agreesWith : Nat → Nat
  | 1 => 2
  | _ => 0
set_option maxRecDepth 100000 in
set_option maxHeartbeats 4000000 in
theorem S_X8_agreesWith : zSd yX8_agreesWith cX8_agreesWith 4 (some .boolean) { frames := 3, cells := 0, slots := 0, locals := 69 } T_X8_agreesWith := by
  refine zMet (pcs := P_X8_agreesWith) (F := F_X8_agreesWith) (by decide) rfl ?_
  intro p l e s m args below meth c D ids ad A Q Y C hr hk hY b
  match b with
  | 0 => exact (z_ic (pc := 0) C dX8_agreesWith_0 (by decide +kernel) <| z_isn (pc := 1) C dX8_agreesWith_1 rfl (by decide) <| z_jmp (hY 1))
  | 1 => exact (z_iln (pc := 2) C dX8_agreesWith_2 rfl <| z_aln (pc := 3) C dX8_agreesWith_3 rfl <| z_gf (pc := 4) C dX8_agreesWith_4 fl_8_121 <| z_cmpge (tgt := 44) (pc := 7) C dX8_agreesWith_7 (by decide) (z_ic (pc := 44) C dX8_agreesWith_44 (by decide +kernel) <| z_zr C hr hk dX8_agreesWith_45) <| z_aln (pc := 10) C dX8_agreesWith_10 rfl <| z_aln (pc := 11) C dX8_agreesWith_11 rfl <| z_gf (pc := 12) C dX8_agreesWith_12 fl_8_124 <| z_iln (pc := 15) C dX8_agreesWith_15 rfl <| z_ia (pc := 16) C dX8_agreesWith_16 <| z_aln (pc := 17) C dX8_agreesWith_17 rfl <| z_gf (pc := 18) C dX8_agreesWith_18 fl_8_127 <| z_iln (pc := 21) C dX8_agreesWith_21 rfl <| z_ia (pc := 22) C dX8_agreesWith_22 <| z_iln (pc := 23) C dX8_agreesWith_23 rfl <| z_cV (pc := 24) C dX8_agreesWith_24 S_X8_loudness rfl (zl4 w_733 w_624 w_625 w_4) w_626 ds_X8_loudness (zrm rfl rfl (by decide) (by decide)) <| z_aln (pc := 27) C dX8_agreesWith_27 rfl <| z_gf (pc := 28) C dX8_agreesWith_28 fl_8_133 <| z_iln (pc := 31) C dX8_agreesWith_31 rfl <| z_ia (pc := 32) C dX8_agreesWith_32 <| z_cmpeq (tgt := 38) (pc := 33) C dX8_agreesWith_33 (by decide) (z_inc (pc := 38) C dX8_agreesWith_38 (by decide +kernel) (by decide) <| z_goto (tgt := 2) (pc := 41) C dX8_agreesWith_41 (by decide) <| z_jmp (hY 1)) <| z_ic (pc := 36) C dX8_agreesWith_36 (by decide +kernel) <| z_zr C hr hk dX8_agreesWith_37)
  | b + 2 => exact fun _ _ _ h => h.elim
theorem dX3_find_0 : decode cX3_find 0 = .ok (.aload_n 0, 1) := by decide +kernel
theorem dX3_find_1 : decode cX3_find 1 = .ok (.aload_n 1, 1) := by decide +kernel
theorem dX3_find_2 : decode cX3_find 2 = .ok (.invokevirtual 19, 3) := by decide +kernel
theorem dX3_find_5 : decode cX3_find 5 = .ok (.putfield 25, 3) := by decide +kernel
theorem dX3_find_8 : decode cX3_find 8 = .ok (.aload_n 0, 1) := by decide +kernel
theorem dX3_find_9 : decode cX3_find 9 = .ok (.iconst 0, 1) := by decide +kernel
theorem dX3_find_10 : decode cX3_find 10 = .ok (.putfield 28, 3) := by decide +kernel
theorem dX3_find_13 : decode cX3_find 13 = .ok (.aload_n 0, 1) := by decide +kernel
theorem dX3_find_14 : decode cX3_find 14 = .ok (.aload_n 0, 1) := by decide +kernel
theorem dX3_find_15 : decode cX3_find 15 = .ok (.getfield 25, 3) := by decide +kernel
theorem dX3_find_18 : decode cX3_find 18 = .ok (.iconst 1, 1) := by decide +kernel
theorem dX3_find_19 : decode cX3_find 19 = .ok (.isub, 1) := by decide +kernel
theorem dX3_find_20 : decode cX3_find 20 = .ok (.putfield 31, 3) := by decide +kernel
theorem dX3_find_23 : decode cX3_find 23 = .ok (.aload_n 0, 1) := by decide +kernel
theorem dX3_find_24 : decode cX3_find 24 = .ok (.iconst 0, 1) := by decide +kernel
theorem dX3_find_25 : decode cX3_find 25 = .ok (.putfield 34, 3) := by decide +kernel
theorem dX3_find_28 : decode cX3_find 28 = .ok (.iconst 0, 1) := by decide +kernel
theorem dX3_find_29 : decode cX3_find 29 = .ok (.istore_n 3, 1) := by decide +kernel
theorem dX3_find_30 : decode cX3_find 30 = .ok (.iload_n 3, 1) := by decide +kernel
theorem dX3_find_31 : decode cX3_find 31 = .ok (.aload_n 0, 1) := by decide +kernel
theorem dX3_find_32 : decode cX3_find 32 = .ok (.getfield 25, 3) := by decide +kernel
theorem dX3_find_35 : decode cX3_find 35 = .ok (.if_icmp .ge 60, 3) := by decide +kernel
theorem dX3_find_38 : decode cX3_find 38 = .ok (.aload_n 0, 1) := by decide +kernel
theorem dX3_find_39 : decode cX3_find 39 = .ok (.getfield 9, 3) := by decide +kernel
theorem dX3_find_42 : decode cX3_find 42 = .ok (.iload_n 3, 1) := by decide +kernel
theorem dX3_find_43 : decode cX3_find 43 = .ok (.aload_n 2, 1) := by decide +kernel
theorem dX3_find_44 : decode cX3_find 44 = .ok (.aload_n 1, 1) := by decide +kernel
theorem dX3_find_45 : decode cX3_find 45 = .ok (.iload_n 3, 1) := by decide +kernel
theorem dX3_find_46 : decode cX3_find 46 = .ok (.invokevirtual 37, 3) := by decide +kernel
theorem dX3_find_49 : decode cX3_find 49 = .ok (.bastore, 1) := by decide +kernel
theorem dX3_find_50 : decode cX3_find 50 = .ok (.aload_n 0, 1) := by decide +kernel
theorem dX3_find_51 : decode cX3_find 51 = .ok (.getfield 9, 3) := by decide +kernel
theorem dX3_find_54 : decode cX3_find 54 = .ok (.iload_n 3, 1) := by decide +kernel
theorem dX3_find_55 : decode cX3_find 55 = .ok (.baload, 1) := by decide +kernel
theorem dX3_find_56 : decode cX3_find 56 = .ok (.ifCond .eq 33, 3) := by decide +kernel
theorem dX3_find_59 : decode cX3_find 59 = .ok (.aload_n 0, 1) := by decide +kernel
theorem dX3_find_60 : decode cX3_find 60 = .ok (.dup, 1) := by decide +kernel
theorem dX3_find_61 : decode cX3_find 61 = .ok (.getfield 28, 3) := by decide +kernel
theorem dX3_find_64 : decode cX3_find 64 = .ok (.iconst 1, 1) := by decide +kernel
theorem dX3_find_65 : decode cX3_find 65 = .ok (.iadd, 1) := by decide +kernel
theorem dX3_find_66 : decode cX3_find 66 = .ok (.putfield 28, 3) := by decide +kernel
theorem dX3_find_69 : decode cX3_find 69 = .ok (.aload_n 0, 1) := by decide +kernel
theorem dX3_find_70 : decode cX3_find 70 = .ok (.dup, 1) := by decide +kernel
theorem dX3_find_71 : decode cX3_find 71 = .ok (.getfield 31, 3) := by decide +kernel
theorem dX3_find_74 : decode cX3_find 74 = .ok (.iload_n 3, 1) := by decide +kernel
theorem dX3_find_75 : decode cX3_find 75 = .ok (.iand, 1) := by decide +kernel
theorem dX3_find_76 : decode cX3_find 76 = .ok (.putfield 31, 3) := by decide +kernel
theorem dX3_find_79 : decode cX3_find 79 = .ok (.aload_n 0, 1) := by decide +kernel
theorem dX3_find_80 : decode cX3_find 80 = .ok (.dup, 1) := by decide +kernel
theorem dX3_find_81 : decode cX3_find 81 = .ok (.getfield 34, 3) := by decide +kernel
theorem dX3_find_84 : decode cX3_find 84 = .ok (.iload_n 3, 1) := by decide +kernel
theorem dX3_find_85 : decode cX3_find 85 = .ok (.ior, 1) := by decide +kernel
theorem dX3_find_86 : decode cX3_find 86 = .ok (.putfield 34, 3) := by decide +kernel
theorem dX3_find_89 : decode cX3_find 89 = .ok (.iinc 3 1, 3) := by decide +kernel
theorem dX3_find_92 : decode cX3_find 92 = .ok (.goto (-62), 3) := by decide +kernel
theorem dX3_find_95 : decode cX3_find 95 = .ok (.return_, 1) := by decide +kernel
def P_X3_find : Nat → Nat
  | 1 => 30
  | 2 => 89
  | _ => 0
set_option maxRecDepth 100000 in
set_option maxHeartbeats 4000000 in
theorem S_X3_find : zSd yX3_find cX3_find 4 none { frames := 4, cells := 0, slots := 0, locals := 92 } T_X3_find := by
  refine zMet (pcs := P_X3_find) (F := F_X3_find) (by decide) rfl ?_
  intro p l e s m args below meth c D ids ad A Q Y C hr hk hY b
  match b with
  | 0 => exact (z_aln (pc := 0) C dX3_find_0 rfl <| z_aln (pc := 1) C dX3_find_1 rfl <| z_cV (pc := 2) C dX3_find_2 S_X1_sets rfl (zl4 w_728 w_701 w_702 w_2) w_703 ds_X1_sets (zrm rfl rfl (by decide) (by decide)) <| z_pf (pc := 5) C dX3_find_5 fp_3_25 <| z_aln (pc := 8) C dX3_find_8 rfl <| z_ic (pc := 9) C dX3_find_9 (by decide +kernel) <| z_pf (pc := 10) C dX3_find_10 fp_3_28 <| z_aln (pc := 13) C dX3_find_13 rfl <| z_aln (pc := 14) C dX3_find_14 rfl <| z_gf (pc := 15) C dX3_find_15 fl_3_25 <| z_ic (pc := 18) C dX3_find_18 (by decide +kernel) <| z_isub (pc := 19) C dX3_find_19 <| z_pf (pc := 20) C dX3_find_20 fp_3_31 <| z_aln (pc := 23) C dX3_find_23 rfl <| z_ic (pc := 24) C dX3_find_24 (by decide +kernel) <| z_pf (pc := 25) C dX3_find_25 fp_3_34 <| z_ic (pc := 28) C dX3_find_28 (by decide +kernel) <| z_isn (pc := 29) C dX3_find_29 rfl (by decide) <| z_jmp (hY 1))
  | 1 => exact (z_iln (pc := 30) C dX3_find_30 rfl <| z_aln (pc := 31) C dX3_find_31 rfl <| z_gf (pc := 32) C dX3_find_32 fl_3_25 <| z_cmpge (tgt := 95) (pc := 35) C dX3_find_35 (by decide) (z_vr C hr hk dX3_find_95) <| z_aln (pc := 38) C dX3_find_38 rfl <| z_gf (pc := 39) C dX3_find_39 fl_3_9 <| z_iln (pc := 42) C dX3_find_42 rfl <| z_aln (pc := 43) C dX3_find_43 rfl <| z_aln (pc := 44) C dX3_find_44 rfl <| z_iln (pc := 45) C dX3_find_45 rfl <| z_cV (pc := 46) C dX3_find_46 S_X8_agreesWith rfl (zl4 w_729 w_730 w_731 w_4) w_732 ds_X8_agreesWith (zrm rfl rfl (by decide) (by decide)) <| z_bast (pc := 49) C dX3_find_49 <| z_aln (pc := 50) C dX3_find_50 rfl <| z_gf (pc := 51) C dX3_find_51 fl_3_9 <| z_iln (pc := 54) C dX3_find_54 rfl <| z_ba (pc := 55) C dX3_find_55 <| z_ifeq (tgt := 89) (pc := 56) C dX3_find_56 (by decide) (z_jmp (hY 2)) <| z_aln (pc := 59) C dX3_find_59 rfl <| z_dup (pc := 60) C dX3_find_60 <| z_gf (pc := 61) C dX3_find_61 fl_3_28 <| z_ic (pc := 64) C dX3_find_64 (by decide +kernel) <| z_iadd (pc := 65) C dX3_find_65 <| z_pf (pc := 66) C dX3_find_66 fp_3_28 <| z_aln (pc := 69) C dX3_find_69 rfl <| z_dup (pc := 70) C dX3_find_70 <| z_gf (pc := 71) C dX3_find_71 fl_3_31 <| z_iln (pc := 74) C dX3_find_74 rfl <| z_iand (pc := 75) C dX3_find_75 <| z_pf (pc := 76) C dX3_find_76 fp_3_31 <| z_aln (pc := 79) C dX3_find_79 rfl <| z_dup (pc := 80) C dX3_find_80 <| z_gf (pc := 81) C dX3_find_81 fl_3_34 <| z_iln (pc := 84) C dX3_find_84 rfl <| z_ior (pc := 85) C dX3_find_85 <| z_pf (pc := 86) C dX3_find_86 fp_3_34 <| z_jmp (hY 2))
  | 2 => exact (z_inc (pc := 89) C dX3_find_89 (by decide +kernel) (by decide) <| z_goto (tgt := 30) (pc := 92) C dX3_find_92 (by decide) <| z_jmp (hY 1))
  | b + 3 => exact fun _ _ _ h => h.elim
theorem dX3_firstWordOf_0 : decode cX3_firstWordOf 0 = .ok (.iconst 0, 1) := by decide +kernel
theorem dX3_firstWordOf_1 : decode cX3_firstWordOf 1 = .ok (.istore_n 2, 1) := by decide +kernel
theorem dX3_firstWordOf_2 : decode cX3_firstWordOf 2 = .ok (.iload_n 2, 1) := by decide +kernel
theorem dX3_firstWordOf_3 : decode cX3_firstWordOf 3 = .ok (.bipush 16, 2) := by decide +kernel
theorem dX3_firstWordOf_5 : decode cX3_firstWordOf 5 = .ok (.if_icmp .ge 21, 3) := by decide +kernel
theorem dX3_firstWordOf_8 : decode cX3_firstWordOf 8 = .ok (.aload_n 0, 1) := by decide +kernel
theorem dX3_firstWordOf_9 : decode cX3_firstWordOf 9 = .ok (.getfield 50, 3) := by decide +kernel
theorem dX3_firstWordOf_12 : decode cX3_firstWordOf 12 = .ok (.iload_n 2, 1) := by decide +kernel
theorem dX3_firstWordOf_13 : decode cX3_firstWordOf 13 = .ok (.iaload, 1) := by decide +kernel
theorem dX3_firstWordOf_14 : decode cX3_firstWordOf 14 = .ok (.iload_n 1, 1) := by decide +kernel
theorem dX3_firstWordOf_15 : decode cX3_firstWordOf 15 = .ok (.if_icmp .ne 5, 3) := by decide +kernel
theorem dX3_firstWordOf_18 : decode cX3_firstWordOf 18 = .ok (.iload_n 2, 1) := by decide +kernel
theorem dX3_firstWordOf_19 : decode cX3_firstWordOf 19 = .ok (.ireturn, 1) := by decide +kernel
theorem dX3_firstWordOf_20 : decode cX3_firstWordOf 20 = .ok (.iinc 2 1, 3) := by decide +kernel
theorem dX3_firstWordOf_23 : decode cX3_firstWordOf 23 = .ok (.goto (-21), 3) := by decide +kernel
theorem dX3_firstWordOf_26 : decode cX3_firstWordOf 26 = .ok (.iconst (-1), 1) := by decide +kernel
theorem dX3_firstWordOf_27 : decode cX3_firstWordOf 27 = .ok (.ireturn, 1) := by decide +kernel
def P_X3_firstWordOf : Nat → Nat
  | 1 => 2
  | _ => 0
set_option maxRecDepth 100000 in
set_option maxHeartbeats 4000000 in
theorem S_X3_firstWordOf : zSd yX3_firstWordOf cX3_firstWordOf 3 (some .int) { frames := 0, cells := 0, slots := 0, locals := 0 } T_X3_firstWordOf := by
  refine zMet (pcs := P_X3_firstWordOf) (F := F_X3_firstWordOf) (by decide) rfl ?_
  intro p l e s m args below meth c D ids ad A Q Y C hr hk hY b
  match b with
  | 0 => exact (z_ic (pc := 0) C dX3_firstWordOf_0 (by decide +kernel) <| z_isn (pc := 1) C dX3_firstWordOf_1 rfl (by decide) <| z_jmp (hY 1))
  | 1 => exact (z_iln (pc := 2) C dX3_firstWordOf_2 rfl <| z_bi (pc := 3) C dX3_firstWordOf_3 (by decide +kernel) <| z_cmpge (tgt := 26) (pc := 5) C dX3_firstWordOf_5 (by decide) (z_ic (pc := 26) C dX3_firstWordOf_26 (by decide +kernel) <| z_ir C hr hk dX3_firstWordOf_27) <| z_aln (pc := 8) C dX3_firstWordOf_8 rfl <| z_gf (pc := 9) C dX3_firstWordOf_9 fl_3_50 <| z_iln (pc := 12) C dX3_firstWordOf_12 rfl <| z_ia (pc := 13) C dX3_firstWordOf_13 <| z_iln (pc := 14) C dX3_firstWordOf_14 rfl <| z_cmpne (tgt := 20) (pc := 15) C dX3_firstWordOf_15 (by decide) (z_inc (pc := 20) C dX3_firstWordOf_20 (by decide +kernel) (by decide) <| z_goto (tgt := 2) (pc := 23) C dX3_firstWordOf_23 (by decide) <| z_jmp (hY 1)) <| z_iln (pc := 18) C dX3_firstWordOf_18 rfl <| z_ir C hr hk dX3_firstWordOf_19)
  | b + 2 => exact fun _ _ _ h => h.elim
theorem dX3_mostAlike_0 : decode cX3_mostAlike 0 = .ok (.aload_n 0, 1) := by decide +kernel
theorem dX3_mostAlike_1 : decode cX3_mostAlike 1 = .ok (.getfield 15, 3) := by decide +kernel
theorem dX3_mostAlike_4 : decode cX3_mostAlike 4 = .ok (.iconst 0, 1) := by decide +kernel
theorem dX3_mostAlike_5 : decode cX3_mostAlike 5 = .ok (.invokestatic 53, 3) := by decide +kernel
theorem dX3_mostAlike_8 : decode cX3_mostAlike 8 = .ok (.iconst 0, 1) := by decide +kernel
theorem dX3_mostAlike_9 : decode cX3_mostAlike 9 = .ok (.istore_n 3, 1) := by decide +kernel
theorem dX3_mostAlike_10 : decode cX3_mostAlike 10 = .ok (.iconst 0, 1) := by decide +kernel
theorem dX3_mostAlike_11 : decode cX3_mostAlike 11 = .ok (.istore 4, 2) := by decide +kernel
theorem dX3_mostAlike_13 : decode cX3_mostAlike 13 = .ok (.iload 4, 2) := by decide +kernel
theorem dX3_mostAlike_15 : decode cX3_mostAlike 15 = .ok (.aload_n 0, 1) := by decide +kernel
theorem dX3_mostAlike_16 : decode cX3_mostAlike 16 = .ok (.getfield 25, 3) := by decide +kernel
theorem dX3_mostAlike_19 : decode cX3_mostAlike 19 = .ok (.if_icmp .ge 52, 3) := by decide +kernel
theorem dX3_mostAlike_22 : decode cX3_mostAlike 22 = .ok (.aload_n 0, 1) := by decide +kernel
theorem dX3_mostAlike_23 : decode cX3_mostAlike 23 = .ok (.getfield 9, 3) := by decide +kernel
theorem dX3_mostAlike_26 : decode cX3_mostAlike 26 = .ok (.iload 4, 2) := by decide +kernel
theorem dX3_mostAlike_28 : decode cX3_mostAlike 28 = .ok (.baload, 1) := by decide +kernel
theorem dX3_mostAlike_29 : decode cX3_mostAlike 29 = .ok (.ifCond .eq 36, 3) := by decide +kernel
theorem dX3_mostAlike_32 : decode cX3_mostAlike 32 = .ok (.aload_n 1, 1) := by decide +kernel
theorem dX3_mostAlike_33 : decode cX3_mostAlike 33 = .ok (.iload_n 2, 1) := by decide +kernel
theorem dX3_mostAlike_34 : decode cX3_mostAlike 34 = .ok (.iconst 0, 1) := by decide +kernel
theorem dX3_mostAlike_35 : decode cX3_mostAlike 35 = .ok (.iload 4, 2) := by decide +kernel
theorem dX3_mostAlike_37 : decode cX3_mostAlike 37 = .ok (.invokevirtual 59, 3) := by decide +kernel
theorem dX3_mostAlike_40 : decode cX3_mostAlike 40 = .ok (.istore 5, 2) := by decide +kernel
theorem dX3_mostAlike_42 : decode cX3_mostAlike 42 = .ok (.aload_n 0, 1) := by decide +kernel
theorem dX3_mostAlike_43 : decode cX3_mostAlike 43 = .ok (.getfield 15, 3) := by decide +kernel
theorem dX3_mostAlike_46 : decode cX3_mostAlike 46 = .ok (.iload 5, 2) := by decide +kernel
theorem dX3_mostAlike_48 : decode cX3_mostAlike 48 = .ok (.dup2, 1) := by decide +kernel
theorem dX3_mostAlike_49 : decode cX3_mostAlike 49 = .ok (.iaload, 1) := by decide +kernel
theorem dX3_mostAlike_50 : decode cX3_mostAlike 50 = .ok (.iconst 1, 1) := by decide +kernel
theorem dX3_mostAlike_51 : decode cX3_mostAlike 51 = .ok (.iadd, 1) := by decide +kernel
theorem dX3_mostAlike_52 : decode cX3_mostAlike 52 = .ok (.iastore, 1) := by decide +kernel
theorem dX3_mostAlike_53 : decode cX3_mostAlike 53 = .ok (.iload_n 3, 1) := by decide +kernel
theorem dX3_mostAlike_54 : decode cX3_mostAlike 54 = .ok (.aload_n 0, 1) := by decide +kernel
theorem dX3_mostAlike_55 : decode cX3_mostAlike 55 = .ok (.getfield 15, 3) := by decide +kernel
theorem dX3_mostAlike_58 : decode cX3_mostAlike 58 = .ok (.iload 5, 2) := by decide +kernel
theorem dX3_mostAlike_60 : decode cX3_mostAlike 60 = .ok (.iaload, 1) := by decide +kernel
theorem dX3_mostAlike_61 : decode cX3_mostAlike 61 = .ok (.invokestatic 63, 3) := by decide +kernel
theorem dX3_mostAlike_64 : decode cX3_mostAlike 64 = .ok (.istore_n 3, 1) := by decide +kernel
theorem dX3_mostAlike_65 : decode cX3_mostAlike 65 = .ok (.iinc 4 1, 3) := by decide +kernel
theorem dX3_mostAlike_68 : decode cX3_mostAlike 68 = .ok (.goto (-55), 3) := by decide +kernel
theorem dX3_mostAlike_71 : decode cX3_mostAlike 71 = .ok (.iload_n 3, 1) := by decide +kernel
theorem dX3_mostAlike_72 : decode cX3_mostAlike 72 = .ok (.ireturn, 1) := by decide +kernel
def P_X3_mostAlike : Nat → Nat
  | 1 => 13
  | 2 => 65
  | _ => 0
set_option maxRecDepth 100000 in
set_option maxHeartbeats 4000000 in
theorem S_X3_mostAlike : zSd yX3_mostAlike cX3_mostAlike 6 (some .int) { frames := 2, cells := 0, slots := 0, locals := 46 } T_X3_mostAlike := by
  refine zMet (pcs := P_X3_mostAlike) (F := F_X3_mostAlike) (by decide) rfl ?_
  intro p l e s m args below meth c D ids ad A Q Y C hr hk hY b
  match b with
  | 0 => exact (z_aln (pc := 0) C dX3_mostAlike_0 rfl <| z_gf (pc := 1) C dX3_mostAlike_1 fl_3_15 <| z_ic (pc := 4) C dX3_mostAlike_4 (by decide +kernel) <| z_cS (pc := 5) C dX3_mostAlike_5 S_J7_fill_53178 (zl3 w_749 w_320 w_14) w_321 ds_J7_fill_53178 (zrm rfl rfl (by decide) (by decide)) <| z_ic (pc := 8) C dX3_mostAlike_8 (by decide +kernel) <| z_isn (pc := 9) C dX3_mostAlike_9 rfl (by decide) <| z_ic (pc := 10) C dX3_mostAlike_10 (by decide +kernel) <| z_is (pc := 11) C dX3_mostAlike_11 (by decide) <| z_jmp (hY 1))
  | 1 => exact (z_il (pc := 13) C dX3_mostAlike_13 <| z_aln (pc := 15) C dX3_mostAlike_15 rfl <| z_gf (pc := 16) C dX3_mostAlike_16 fl_3_25 <| z_cmpge (tgt := 71) (pc := 19) C dX3_mostAlike_19 (by decide) (z_iln (pc := 71) C dX3_mostAlike_71 rfl <| z_ir C hr hk dX3_mostAlike_72) <| z_aln (pc := 22) C dX3_mostAlike_22 rfl <| z_gf (pc := 23) C dX3_mostAlike_23 fl_3_9 <| z_il (pc := 26) C dX3_mostAlike_26 <| z_ba (pc := 28) C dX3_mostAlike_28 <| z_ifeq (tgt := 65) (pc := 29) C dX3_mostAlike_29 (by decide) (z_jmp (hY 2)) <| z_aln (pc := 32) C dX3_mostAlike_32 rfl <| z_iln (pc := 33) C dX3_mostAlike_33 rfl <| z_ic (pc := 34) C dX3_mostAlike_34 (by decide +kernel) <| z_il (pc := 35) C dX3_mostAlike_35 <| z_cV (pc := 37) C dX3_mostAlike_37 S_X8_loudnessInCase rfl (zl4 w_750 w_628 w_629 w_4) w_630 ds_X8_loudnessInCase (zrm rfl rfl (by decide) (by decide)) <| z_is (pc := 40) C dX3_mostAlike_40 (by decide) <| z_aln (pc := 42) C dX3_mostAlike_42 rfl <| z_gf (pc := 43) C dX3_mostAlike_43 fl_3_15 <| z_il (pc := 46) C dX3_mostAlike_46 <| z_dup2 (pc := 48) C dX3_mostAlike_48 <| z_ia (pc := 49) C dX3_mostAlike_49 <| z_ic (pc := 50) C dX3_mostAlike_50 (by decide +kernel) <| z_iadd (pc := 51) C dX3_mostAlike_51 <| z_iast (pc := 52) C dX3_mostAlike_52 <| z_iln (pc := 53) C dX3_mostAlike_53 rfl <| z_aln (pc := 54) C dX3_mostAlike_54 rfl <| z_gf (pc := 55) C dX3_mostAlike_55 fl_3_15 <| z_il (pc := 58) C dX3_mostAlike_58 <| z_ia (pc := 60) C dX3_mostAlike_60 <| z_mmax (pc := 61) C dX3_mostAlike_61 w_751 w_565 w_19 w_566 (by decide) <| z_isn (pc := 64) C dX3_mostAlike_64 rfl (by decide) <| z_jmp (hY 2))
  | 2 => exact (z_inc (pc := 65) C dX3_mostAlike_65 (by decide +kernel) (by decide) <| z_goto (tgt := 13) (pc := 68) C dX3_mostAlike_68 (by decide) <| z_jmp (hY 1))
  | b + 3 => exact fun _ _ _ h => h.elim
theorem dX3_bestWord_0 : decode cX3_bestWord 0 = .ok (.aload_n 0, 1) := by decide +kernel
theorem dX3_bestWord_1 : decode cX3_bestWord 1 = .ok (.getfield 28, 3) := by decide +kernel
theorem dX3_bestWord_4 : decode cX3_bestWord 4 = .ok (.ifCond .ne 5, 3) := by decide +kernel
theorem dX3_bestWord_7 : decode cX3_bestWord 7 = .ok (.iconst (-1), 1) := by decide +kernel
theorem dX3_bestWord_8 : decode cX3_bestWord 8 = .ok (.ireturn, 1) := by decide +kernel
theorem dX3_bestWord_9 : decode cX3_bestWord 9 = .ok (.iconst (-1), 1) := by decide +kernel
theorem dX3_bestWord_10 : decode cX3_bestWord 10 = .ok (.istore_n 2, 1) := by decide +kernel
theorem dX3_bestWord_11 : decode cX3_bestWord 11 = .ok (.iconst 0, 1) := by decide +kernel
theorem dX3_bestWord_12 : decode cX3_bestWord 12 = .ok (.istore_n 3, 1) := by decide +kernel
theorem dX3_bestWord_13 : decode cX3_bestWord 13 = .ok (.iconst 0, 1) := by decide +kernel
theorem dX3_bestWord_14 : decode cX3_bestWord 14 = .ok (.istore 4, 2) := by decide +kernel
theorem dX3_bestWord_16 : decode cX3_bestWord 16 = .ok (.iload 4, 2) := by decide +kernel
theorem dX3_bestWord_18 : decode cX3_bestWord 18 = .ok (.iconst 4, 1) := by decide +kernel
theorem dX3_bestWord_19 : decode cX3_bestWord 19 = .ok (.if_icmp .ge 83, 3) := by decide +kernel
theorem dX3_bestWord_22 : decode cX3_bestWord 22 = .ok (.aload_n 1, 1) := by decide +kernel
theorem dX3_bestWord_23 : decode cX3_bestWord 23 = .ok (.iload 4, 2) := by decide +kernel
theorem dX3_bestWord_25 : decode cX3_bestWord 25 = .ok (.invokestatic 43, 3) := by decide +kernel
theorem dX3_bestWord_28 : decode cX3_bestWord 28 = .ok (.istore 5, 2) := by decide +kernel
theorem dX3_bestWord_30 : decode cX3_bestWord 30 = .ok (.iload 5, 2) := by decide +kernel
theorem dX3_bestWord_32 : decode cX3_bestWord 32 = .ok (.iconst (-1), 1) := by decide +kernel
theorem dX3_bestWord_33 : decode cX3_bestWord 33 = .ok (.if_icmp .ne 7, 3) := by decide +kernel
theorem dX3_bestWord_36 : decode cX3_bestWord 36 = .ok (.iconst 0, 1) := by decide +kernel
theorem dX3_bestWord_37 : decode cX3_bestWord 37 = .ok (.goto 10, 3) := by decide +kernel
theorem dX3_bestWord_40 : decode cX3_bestWord 40 = .ok (.aload_n 0, 1) := by decide +kernel
theorem dX3_bestWord_41 : decode cX3_bestWord 41 = .ok (.aload_n 1, 1) := by decide +kernel
theorem dX3_bestWord_42 : decode cX3_bestWord 42 = .ok (.iload 4, 2) := by decide +kernel
theorem dX3_bestWord_44 : decode cX3_bestWord 44 = .ok (.invokevirtual 47, 3) := by decide +kernel
theorem dX3_bestWord_47 : decode cX3_bestWord 47 = .ok (.istore 6, 2) := by decide +kernel
theorem dX3_bestWord_49 : decode cX3_bestWord 49 = .ok (.iload_n 2, 1) := by decide +kernel
theorem dX3_bestWord_50 : decode cX3_bestWord 50 = .ok (.iconst (-1), 1) := by decide +kernel
theorem dX3_bestWord_51 : decode cX3_bestWord 51 = .ok (.if_icmp .eq 21, 3) := by decide +kernel
theorem dX3_bestWord_54 : decode cX3_bestWord 54 = .ok (.iload 6, 2) := by decide +kernel
theorem dX3_bestWord_56 : decode cX3_bestWord 56 = .ok (.iload_n 3, 1) := by decide +kernel
theorem dX3_bestWord_57 : decode cX3_bestWord 57 = .ok (.if_icmp .lt 15, 3) := by decide +kernel
theorem dX3_bestWord_60 : decode cX3_bestWord 60 = .ok (.iload 6, 2) := by decide +kernel
theorem dX3_bestWord_62 : decode cX3_bestWord 62 = .ok (.iload_n 3, 1) := by decide +kernel
theorem dX3_bestWord_63 : decode cX3_bestWord 63 = .ok (.if_icmp .ne 13, 3) := by decide +kernel
theorem dX3_bestWord_66 : decode cX3_bestWord 66 = .ok (.iload 5, 2) := by decide +kernel
theorem dX3_bestWord_68 : decode cX3_bestWord 68 = .ok (.iload_n 2, 1) := by decide +kernel
theorem dX3_bestWord_69 : decode cX3_bestWord 69 = .ok (.if_icmp .ge 7, 3) := by decide +kernel
theorem dX3_bestWord_72 : decode cX3_bestWord 72 = .ok (.iconst 1, 1) := by decide +kernel
theorem dX3_bestWord_73 : decode cX3_bestWord 73 = .ok (.goto 4, 3) := by decide +kernel
theorem dX3_bestWord_76 : decode cX3_bestWord 76 = .ok (.iconst 0, 1) := by decide +kernel
theorem dX3_bestWord_77 : decode cX3_bestWord 77 = .ok (.istore 7, 2) := by decide +kernel
theorem dX3_bestWord_79 : decode cX3_bestWord 79 = .ok (.iload 5, 2) := by decide +kernel
theorem dX3_bestWord_81 : decode cX3_bestWord 81 = .ok (.iconst (-1), 1) := by decide +kernel
theorem dX3_bestWord_82 : decode cX3_bestWord 82 = .ok (.if_icmp .eq 14, 3) := by decide +kernel
theorem dX3_bestWord_85 : decode cX3_bestWord 85 = .ok (.iload 7, 2) := by decide +kernel
theorem dX3_bestWord_87 : decode cX3_bestWord 87 = .ok (.ifCond .eq 9, 3) := by decide +kernel
theorem dX3_bestWord_90 : decode cX3_bestWord 90 = .ok (.iload 5, 2) := by decide +kernel
theorem dX3_bestWord_92 : decode cX3_bestWord 92 = .ok (.istore_n 2, 1) := by decide +kernel
theorem dX3_bestWord_93 : decode cX3_bestWord 93 = .ok (.iload 6, 2) := by decide +kernel
theorem dX3_bestWord_95 : decode cX3_bestWord 95 = .ok (.istore_n 3, 1) := by decide +kernel
theorem dX3_bestWord_96 : decode cX3_bestWord 96 = .ok (.iinc 4 1, 3) := by decide +kernel
theorem dX3_bestWord_99 : decode cX3_bestWord 99 = .ok (.goto (-83), 3) := by decide +kernel
theorem dX3_bestWord_102 : decode cX3_bestWord 102 = .ok (.iload_n 2, 1) := by decide +kernel
theorem dX3_bestWord_103 : decode cX3_bestWord 103 = .ok (.ireturn, 1) := by decide +kernel
def P_X3_bestWord : Nat → Nat
  | 1 => 16
  | 2 => 47
  | 3 => 72
  | 4 => 76
  | 5 => 77
  | 6 => 96
  | _ => 0
set_option maxRecDepth 100000 in
set_option maxHeartbeats 4000000 in
theorem S_X3_bestWord : zSd yX3_bestWord cX3_bestWord 8 (some .int) { frames := 3, cells := 0, slots := 0, locals := 71 } T_X3_bestWord := by
  refine zMet (pcs := P_X3_bestWord) (F := F_X3_bestWord) (by decide) rfl ?_
  intro p l e s m args below meth c D ids ad A Q Y C hr hk hY b
  match b with
  | 0 => exact (z_aln (pc := 0) C dX3_bestWord_0 rfl <| z_gf (pc := 1) C dX3_bestWord_1 fl_3_28 <| z_ifne (tgt := 9) (pc := 4) C dX3_bestWord_4 (by decide) (z_ic (pc := 9) C dX3_bestWord_9 (by decide +kernel) <| z_isn (pc := 10) C dX3_bestWord_10 rfl (by decide) <| z_ic (pc := 11) C dX3_bestWord_11 (by decide +kernel) <| z_isn (pc := 12) C dX3_bestWord_12 rfl (by decide) <| z_ic (pc := 13) C dX3_bestWord_13 (by decide +kernel) <| z_is (pc := 14) C dX3_bestWord_14 (by decide) <| z_jmp (hY 1)) <| z_ic (pc := 7) C dX3_bestWord_7 (by decide +kernel) <| z_ir C hr hk dX3_bestWord_8)
  | 1 => exact (z_il (pc := 16) C dX3_bestWord_16 <| z_ic (pc := 18) C dX3_bestWord_18 (by decide +kernel) <| z_cmpge (tgt := 102) (pc := 19) C dX3_bestWord_19 (by decide) (z_iln (pc := 102) C dX3_bestWord_102 rfl <| z_ir C hr hk dX3_bestWord_103) <| z_aln (pc := 22) C dX3_bestWord_22 rfl <| z_il (pc := 23) C dX3_bestWord_23 <| z_cS (pc := 25) C dX3_bestWord_25 S_X3_firstWordOf (zl3 w_742 w_743 w_12) w_744 ds_X3_firstWordOf (zrm rfl rfl (by decide) (by decide)) <| z_is (pc := 28) C dX3_bestWord_28 (by decide) <| z_il (pc := 30) C dX3_bestWord_30 <| z_ic (pc := 32) C dX3_bestWord_32 (by decide +kernel) <| z_cmpne (tgt := 40) (pc := 33) C dX3_bestWord_33 (by decide) (z_aln (pc := 40) C dX3_bestWord_40 rfl <| z_aln (pc := 41) C dX3_bestWord_41 rfl <| z_il (pc := 42) C dX3_bestWord_42 <| z_cV (pc := 44) C dX3_bestWord_44 S_X3_mostAlike rfl (zl4 w_745 w_747 wp_15 w_12) w_748 ds_X3_mostAlike (zrm rfl rfl (by decide) (by decide)) <| z_jmp (hY 2)) <| z_ic (pc := 36) C dX3_bestWord_36 (by decide +kernel) <| z_goto (tgt := 47) (pc := 37) C dX3_bestWord_37 (by decide) <| z_jmp (hY 2))
  | 2 => exact (z_is (pc := 47) C dX3_bestWord_47 (by decide) <| z_iln (pc := 49) C dX3_bestWord_49 rfl <| z_ic (pc := 50) C dX3_bestWord_50 (by decide +kernel) <| z_cmpeq (tgt := 72) (pc := 51) C dX3_bestWord_51 (by decide) (z_jmp (hY 3)) <| z_il (pc := 54) C dX3_bestWord_54 <| z_iln (pc := 56) C dX3_bestWord_56 rfl <| z_cmplt (tgt := 72) (pc := 57) C dX3_bestWord_57 (by decide) (z_jmp (hY 3)) <| z_il (pc := 60) C dX3_bestWord_60 <| z_iln (pc := 62) C dX3_bestWord_62 rfl <| z_cmpne (tgt := 76) (pc := 63) C dX3_bestWord_63 (by decide) (z_jmp (hY 4)) <| z_il (pc := 66) C dX3_bestWord_66 <| z_iln (pc := 68) C dX3_bestWord_68 rfl <| z_cmpge (tgt := 76) (pc := 69) C dX3_bestWord_69 (by decide) (z_jmp (hY 4)) <| z_jmp (hY 3))
  | 3 => exact (z_ic (pc := 72) C dX3_bestWord_72 (by decide +kernel) <| z_goto (tgt := 77) (pc := 73) C dX3_bestWord_73 (by decide) <| z_jmp (hY 5))
  | 4 => exact (z_ic (pc := 76) C dX3_bestWord_76 (by decide +kernel) <| z_jmp (hY 5))
  | 5 => exact (z_is (pc := 77) C dX3_bestWord_77 (by decide) <| z_il (pc := 79) C dX3_bestWord_79 <| z_ic (pc := 81) C dX3_bestWord_81 (by decide +kernel) <| z_cmpeq (tgt := 96) (pc := 82) C dX3_bestWord_82 (by decide) (z_jmp (hY 6)) <| z_il (pc := 85) C dX3_bestWord_85 <| z_ifeq (tgt := 96) (pc := 87) C dX3_bestWord_87 (by decide) (z_jmp (hY 6)) <| z_il (pc := 90) C dX3_bestWord_90 <| z_isn (pc := 92) C dX3_bestWord_92 rfl (by decide) <| z_il (pc := 93) C dX3_bestWord_93 <| z_isn (pc := 95) C dX3_bestWord_95 rfl (by decide) <| z_jmp (hY 6))
  | 6 => exact (z_inc (pc := 96) C dX3_bestWord_96 (by decide +kernel) (by decide) <| z_goto (tgt := 16) (pc := 99) C dX3_bestWord_99 (by decide) <| z_jmp (hY 1))
  | b + 7 => exact fun _ _ _ h => h.elim
