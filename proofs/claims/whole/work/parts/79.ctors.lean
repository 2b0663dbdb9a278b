set_option maxRecDepth 100000 in
set_option maxHeartbeats 4000000 in
theorem S_X8_init : qSd yX8_init cX8_init 1 { frames := 4, cells := 14, slots := 124, locals := 72 } 8 [.null, .int 0, .int 0, .null, .null, .null, .null, .null, .null, .null] 53 (fun ids u => qWo ids u [53, 54, 55, 56, 57, 58, 59, 60, 61, 62, 63, 64, 65, 66, 67]) := qMet (by decide) rfl (by decide) (fun {p l e s m args below meth c D ids A} h0 C hr hk hin => by
  refine q_al C dX8_init_0 rfl (List.mem_cons_self) ?_
  refine q_obj C dX8_init_1 w_146 w_28 w_29 (by decide) (by decide) ?_
  refine q_al C dX8_init_4 rfl (List.mem_cons_self) ?_
  refine q_bi (v := 6) C dX8_init_5 (by decide) ?_
  refine q_newp (N := 6) C dX8_init_7 w_147 (by decide) (by decide) (by decide) (by decide) (by decide) (fun q7 => ?_)
  refine q_dup C dX8_init_10 ?_
  refine q_ic (v := 0) C dX8_init_11 (by decide) ?_
  refine q_new (ci := 6) (Cn := RX6) (T := TX6) (N := 0) (ty := tyX6) (fs := []) C dX8_init_12 rfl tyX6_ok w_147 w_149 w_5 (fun j hj => absurd hj (Nat.not_lt_zero j)) (by decide) (by decide) (fun q12_2 => ?_)
  refine q_dup C dX8_init_15 ?_
  refine q_init C dX8_init_16 (S_X6_init 6) w_150 w_151 w_5 w_152 ds_X6_init rfl ⟨by decide, by decide⟩ (by decide) (by decide) (Nat.le_of_ble_eq_true rfl) (fun u16_2 hu16_2 => ?_)
  subst hu16_2
  refine q_ast (q0 := 1) (t0 := 3) (qk := 2) (ci := 6) (j := 0) (r := (RX6, TX6, 0)) C dX8_init_19 rfl rfl rfl rfl (vp_in_nI (n := 0) (by decide) (by decide)) (by decide) rfl ?_
  refine q_dup C dX8_init_20 ?_
  refine q_ic (v := 1) C dX8_init_21 (by decide) ?_
  refine q_new (ci := 5) (Cn := RX5) (T := TX5) (N := 0) (ty := tyX5) (fs := []) C dX8_init_22 rfl tyX5_ok w_155 w_156 w_6 (fun j hj => absurd hj (Nat.not_lt_zero j)) (by decide) (by decide) (fun q22_3 => ?_)
  refine q_dup C dX8_init_25 ?_
  refine q_init C dX8_init_26 (S_X5_init 5) w_157 w_158 w_6 w_159 ds_X5_init rfl ⟨by decide, by decide⟩ (by decide) (by decide) (Nat.le_of_ble_eq_true rfl) (fun u26_3 hu26_3 => ?_)
  subst hu26_3
  refine q_astO (q0 := 1) (t0 := 3) (qk := 3) (ci := 5) (j := 1) (E := "EveryPew$Plain") (r := (RX5, TX5, 0)) C dX8_init_29 rfl rfl (C.2.2.2.2.2.1.2.2.2 _ (by decide)) rfl rfl (vp_in_nI (n := 1) (by decide) (by decide)) (by decide) rfl ?_
  refine q_dup C dX8_init_30 ?_
  refine q_ic (v := 2) C dX8_init_31 (by decide) ?_
  refine q_new (ci := 2) (Cn := RX2) (T := TX2) (N := 0) (ty := tyX2) (fs := []) C dX8_init_32 rfl tyX2_ok w_162 w_163 w_7 (fun j hj => absurd hj (Nat.not_lt_zero j)) (by decide) (by decide) (fun q32_4 => ?_)
  refine q_dup C dX8_init_35 ?_
  refine q_init C dX8_init_36 (S_X2_init 2) w_164 w_165 w_7 w_166 ds_X2_init rfl ⟨by decide, by decide⟩ (by decide) (by decide) (Nat.le_of_ble_eq_true rfl) (fun u36_4 hu36_4 => ?_)
  subst hu36_4
  refine q_astO (q0 := 1) (t0 := 3) (qk := 4) (ci := 2) (j := 2) (E := "EveryPew$Plain") (r := (RX2, TX2, 0)) C dX8_init_39 rfl rfl (C.2.2.2.2.2.1.2.2.2 _ (by decide)) rfl rfl (vp_in_nI (n := 2) (by decide) (by decide)) (by decide) rfl ?_
  refine q_dup C dX8_init_40 ?_
  refine q_ic (v := 3) C dX8_init_41 (by decide) ?_
  refine q_new (ci := 4) (Cn := RX4) (T := TX4) (N := 0) (ty := tyX4) (fs := []) C dX8_init_42 rfl tyX4_ok w_169 w_170 w_8 (fun j hj => absurd hj (Nat.not_lt_zero j)) (by decide) (by decide) (fun q42_5 => ?_)
  refine q_dup C dX8_init_45 ?_
  refine q_init C dX8_init_46 (S_X4_init 4) w_171 w_172 w_8 w_173 ds_X4_init rfl ⟨by decide, by decide⟩ (by decide) (by decide) (Nat.le_of_ble_eq_true rfl) (fun u46_5 hu46_5 => ?_)
  subst hu46_5
  refine q_astO (q0 := 1) (t0 := 3) (qk := 5) (ci := 4) (j := 3) (E := "EveryPew$Plain") (r := (RX4, TX4, 0)) C dX8_init_49 rfl rfl (C.2.2.2.2.2.1.2.2.2 _ (by decide)) rfl rfl (vp_in_nI (n := 3) (by decide) (by decide)) (by decide) rfl ?_
  refine q_dup C dX8_init_50 ?_
  refine q_ic (v := 4) C dX8_init_51 (by decide) ?_
  refine q_new (ci := 0) (Cn := RX0) (T := TX0) (N := 0) (ty := tyX0) (fs := []) C dX8_init_52 rfl tyX0_ok w_176 w_177 w_9 (fun j hj => absurd hj (Nat.not_lt_zero j)) (by decide) (by decide) (fun q52_6 => ?_)
  refine q_dup C dX8_init_55 ?_
  refine q_init C dX8_init_56 (S_X0_init 0) w_178 w_179 w_9 w_180 ds_X0_init rfl ⟨by decide, by decide⟩ (by decide) (by decide) (Nat.le_of_ble_eq_true rfl) (fun u56_6 hu56_6 => ?_)
  subst hu56_6
  refine q_astO (q0 := 1) (t0 := 3) (qk := 6) (ci := 0) (j := 4) (E := "EveryPew$Plain") (r := (RX0, TX0, 0)) C dX8_init_59 rfl rfl (C.2.2.2.2.2.1.2.2.2 _ (by decide)) rfl rfl (vp_in_nI (n := 4) (by decide) (by decide)) (by decide) rfl ?_
  refine q_dup C dX8_init_60 ?_
  refine q_ic (v := 5) C dX8_init_61 (by decide) ?_
  refine q_new (ci := 10) (Cn := RX10) (T := TX10) (N := 0) (ty := tyX10) (fs := []) C dX8_init_62 rfl tyX10_ok w_183 w_184 w_10 (fun j hj => absurd hj (Nat.not_lt_zero j)) (by decide) (by decide) (fun q62_7 => ?_)
  refine q_dup C dX8_init_65 ?_
  refine q_init C dX8_init_66 (S_X10_init 10) w_185 w_186 w_10 w_187 ds_X10_init rfl ⟨by decide, by decide⟩ (by decide) (by decide) (Nat.le_of_ble_eq_true rfl) (fun u66_7 hu66_7 => ?_)
  subst hu66_7
  refine q_astO (q0 := 1) (t0 := 3) (qk := 7) (ci := 10) (j := 5) (E := "EveryPew$Plain") (r := (RX10, TX10, 0)) C dX8_init_69 rfl rfl (C.2.2.2.2.2.1.2.2.2 _ (by decide)) rfl rfl (vp_in_nI (n := 5) (by decide) (by decide)) (by decide) rfl ?_
  refine q_putF (ci := 8) (j := 0) (N := 10) (Cn := RX8) (T := TX8) (ty0 := tyX8) (ty := (.array (.object "EveryPew$Plain"))) C hin dX8_init_70 rfl tyX8_ok nmX8 (by decide) w_190 rfl rfl (by decide +kernel) rfl rfl (Nat.le_of_ble_eq_true rfl) ?_
  refine q_al C dX8_init_73 rfl (List.mem_cons_self) ?_
  refine q_bi (v := 7) C dX8_init_74 (by decide) ?_
  refine q_newi (N := 7) C dX8_init_76 w_112 (by decide) (by decide) (by decide) (by decide) (by decide) (fun q76 => ?_)
  refine q_putF (ci := 8) (j := 3) (N := 10) (Cn := RX8) (T := TX8) (ty0 := tyX8) (ty := (.array .int)) C hin dX8_init_78 rfl tyX8_ok nmX8 (by decide) w_194 rfl rfl (by decide +kernel) rfl rfl (Nat.le_of_ble_eq_true rfl) ?_
  refine q_al C dX8_init_81 rfl (List.mem_cons_self) ?_
  refine q_bi (v := 7) C dX8_init_82 (by decide) ?_
  refine q_newi (N := 7) C dX8_init_84 w_112 (by decide) (by decide) (by decide) (by decide) (by decide) (fun q84 => ?_)
  refine q_putF (ci := 8) (j := 4) (N := 10) (Cn := RX8) (T := TX8) (ty0 := tyX8) (ty := (.array .int)) C hin dX8_init_86 rfl tyX8_ok nmX8 (by decide) w_196 rfl rfl (by decide +kernel) rfl rfl (Nat.le_of_ble_eq_true rfl) ?_
  refine q_al C dX8_init_89 rfl (List.mem_cons_self) ?_
  refine q_bi (v := 28) C dX8_init_90 (by decide) ?_
  refine q_newz (N := 28) C dX8_init_92 w_140 (by decide) (by decide) (by decide) (by decide) (by decide) (fun q92 => ?_)
  refine q_putF (ci := 8) (j := 5) (N := 10) (Cn := RX8) (T := TX8) (ty0 := tyX8) (ty := (.array .boolean)) C hin dX8_init_94 rfl tyX8_ok nmX8 (by decide) w_197 rfl rfl (by decide +kernel) rfl rfl (Nat.le_of_ble_eq_true rfl) ?_
  refine q_al C dX8_init_97 rfl (List.mem_cons_self) ?_
  refine q_bi (v := 28) C dX8_init_98 (by decide) ?_
  refine q_newi (N := 28) C dX8_init_100 w_112 (by decide) (by decide) (by decide) (by decide) (by decide) (fun q100 => ?_)
  refine q_putF (ci := 8) (j := 6) (N := 10) (Cn := RX8) (T := TX8) (ty0 := tyX8) (ty := (.array .int)) C hin dX8_init_102 rfl tyX8_ok nmX8 (by decide) w_198 rfl rfl (by decide +kernel) rfl rfl (Nat.le_of_ble_eq_true rfl) ?_
  refine q_al C dX8_init_105 rfl (List.mem_cons_self) ?_
  refine q_bi (v := 28) C dX8_init_106 (by decide) ?_
  refine q_newi (N := 28) C dX8_init_108 w_112 (by decide) (by decide) (by decide) (by decide) (by decide) (fun q108 => ?_)
  refine q_putF (ci := 8) (j := 7) (N := 10) (Cn := RX8) (T := TX8) (ty0 := tyX8) (ty := (.array .int)) C hin dX8_init_110 rfl tyX8_ok nmX8 (by decide) w_200 rfl rfl (by decide +kernel) rfl rfl (Nat.le_of_ble_eq_true rfl) ?_
  refine q_al C dX8_init_113 rfl (List.mem_cons_self) ?_
  refine q_bi (v := 16) C dX8_init_114 (by decide) ?_
  refine q_newi (N := 16) C dX8_init_116 w_112 (by decide) (by decide) (by decide) (by decide) (by decide) (fun q116 => ?_)
  refine q_putF (ci := 8) (j := 8) (N := 10) (Cn := RX8) (T := TX8) (ty0 := tyX8) (ty := (.array .int)) C hin dX8_init_118 rfl tyX8_ok nmX8 (by decide) w_201 rfl rfl (by decide +kernel) rfl rfl (Nat.le_of_ble_eq_true rfl) ?_
  refine q_al C dX8_init_121 rfl (List.mem_cons_self) ?_
  refine q_ic (v := 4) C dX8_init_122 (by decide) ?_
  refine q_newi (N := 4) C dX8_init_123 w_112 (by decide) (by decide) (by decide) (by decide) (by decide) (fun q123 => ?_)
  refine q_putF (ci := 8) (j := 9) (N := 10) (Cn := RX8) (T := TX8) (ty0 := tyX8) (ty := (.array .int)) C hin dX8_init_125 rfl tyX8_ok nmX8 (by decide) w_203 rfl rfl (by decide +kernel) rfl rfl (Nat.le_of_ble_eq_true rfl) ?_
  refine q_vr C hr hk dX8_init_128 (by decide) (by decide) (q_at [h0, q7, u16_2 0, u26_3 0, u36_4 0, u46_5 0, u56_6 0, u66_7 0, q76, q84, q92, q100, q108, q116, q123] 53) rfl ?_
  rw [q_up6 (u := q_at [h0, q7, u16_2 0, u26_3 0, u36_4 0, u46_5 0, u56_6 0, u66_7 0, q76, q84, q92, q100, q108, q116, q123] 53) (a := u16_2 0) (b := u26_3 0) (c := u36_4 0) (d := u46_5 0) (e := u56_6 0) (f := u66_7 0) rfl rfl rfl rfl rfl rfl]
  rfl)
set_option maxRecDepth 100000 in
set_option maxHeartbeats 4000000 in
theorem S_X11_init : qSd yX11_init cX11_init 2 { frames := 5, cells := 74, slots := 1755, locals := 92 } 11 [.null, .null, .null, .null, .null, .null, .null, .null, .null, .long 0, .long 0] 0 (fun ids u => qWo ids u [0, 1, 2, 3, 4, 5, 6, 7, 8, 9, 10, 11, 12, 13, 14, 15, 16, 17, 18, 19, 20, 21, 22, 23, 24, 49, 50, 51, 52, 53, 54, 55, 56, 57, 58, 59, 60, 61, 62, 63, 64, 65, 66, 67, 68, 69, 70, 71, 72, 73, 74, 25, 26, 27, 28, 29, 30, 31, 32, 33, 34, 35, 36, 37, 38, 39, 40, 41, 42, 43, 44, 45, 46, 47, 48]) := qMet (by decide) rfl (by decide) (fun {p l e s m args below meth c D ids A} h0 C hr hk hin => by
  refine q_al C dX11_init_0 rfl (List.mem_cons_self) ?_
  refine q_obj C dX11_init_1 w_27 w_28 w_29 (by decide) (by decide) ?_
  refine q_al C dX11_init_4 rfl (List.mem_cons_self) ?_
  refine q_new (ci := 1) (Cn := RX1) (T := TX1) (N := 16) (ty := tyX1) (fs := [.int 0, .null, .int 0, .null, .null, .null, .null, .null, .int 0, .int 0, .null, .null, .null, .int 0, .null, .null]) C dX11_init_5 rfl tyX1_ok w_30 w_31 w_2 (fun j hj => by
    match j, hj with
    | 0, _ => rfl
    | 1, _ => rfl
    | 2, _ => rfl
    | 3, _ => rfl
    | 4, _ => rfl
    | 5, _ => rfl
    | 6, _ => rfl
    | 7, _ => rfl
    | 8, _ => rfl
    | 9, _ => rfl
    | 10, _ => rfl
    | 11, _ => rfl
    | 12, _ => rfl
    | 13, _ => rfl
    | 14, _ => rfl
    | 15, _ => rfl
    | j + 16, hj => exact absurd hj (by omega)) (by decide) (by decide) (fun q5_1 => ?_)
  refine q_dup C dX11_init_8 ?_
  refine q_init C dX11_init_9 S_X1_init w_32 w_33 w_2 w_34 ds_X1_init rfl ⟨by decide, by decide⟩ (by decide) (by decide) (Nat.le_of_ble_eq_true rfl) (fun u9_1 hu9_1 => ?_)
  subst hu9_1
  refine q_putF (ci := 11) (j := 0) (N := 11) (Cn := RX11) (T := TX11) (ty0 := tyX11) (ty := (.object "EveryPew$Church")) C hin dX11_init_12 rfl tyX11_ok nmX11 (by decide) w_270 rfl rfl (by decide +kernel) rfl rfl (Nat.le_of_ble_eq_true rfl) ?_
  refine q_al C dX11_init_15 rfl (List.mem_cons_self) ?_
  refine q_new (ci := 1) (Cn := RX1) (T := TX1) (N := 16) (ty := tyX1) (fs := [.int 0, .null, .int 0, .null, .null, .null, .null, .null, .int 0, .int 0, .null, .null, .null, .int 0, .null, .null]) C dX11_init_16 rfl tyX1_ok w_30 w_31 w_2 (fun j hj => by
    match j, hj with
    | 0, _ => rfl
    | 1, _ => rfl
    | 2, _ => rfl
    | 3, _ => rfl
    | 4, _ => rfl
    | 5, _ => rfl
    | 6, _ => rfl
    | 7, _ => rfl
    | 8, _ => rfl
    | 9, _ => rfl
    | 10, _ => rfl
    | 11, _ => rfl
    | 12, _ => rfl
    | 13, _ => rfl
    | 14, _ => rfl
    | 15, _ => rfl
    | j + 16, hj => exact absurd hj (by omega)) (by decide) (by decide) (fun q16_13 => ?_)
  refine q_dup C dX11_init_19 ?_
  refine q_init C dX11_init_20 S_X1_init w_32 w_33 w_2 w_34 ds_X1_init rfl ⟨by decide, by decide⟩ (by decide) (by decide) (Nat.le_of_ble_eq_true rfl) (fun u20_13 hu20_13 => ?_)
  subst hu20_13
  refine q_putF (ci := 11) (j := 1) (N := 11) (Cn := RX11) (T := TX11) (ty0 := tyX11) (ty := (.object "EveryPew$Church")) C hin dX11_init_23 rfl tyX11_ok nmX11 (by decide) w_271 rfl rfl (by decide +kernel) rfl rfl (Nat.le_of_ble_eq_true rfl) ?_
  refine q_al C dX11_init_26 rfl (List.mem_cons_self) ?_
  refine q_ic (v := 2) C dX11_init_27 (by decide) ?_
  refine q_newc (N := 2) C dX11_init_28 w_30 (by decide) (by decide) (by decide) (by decide) (by decide) (fun q28 => ?_)
  refine q_putF (ci := 11) (j := 2) (N := 11) (Cn := RX11) (T := TX11) (ty0 := tyX11) (ty := (.array (.object "EveryPew$Church"))) C hin dX11_init_31 rfl tyX11_ok nmX11 (by decide) w_272 rfl rfl (by decide +kernel) rfl rfl (Nat.le_of_ble_eq_true rfl) ?_
  refine q_al C dX11_init_34 rfl (List.mem_cons_self) ?_
  refine q_ic (v := 2) C dX11_init_35 (by decide) ?_
  refine q_newz (N := 2) C dX11_init_36 w_140 (by decide) (by decide) (by decide) (by decide) (by decide) (fun q36 => ?_)
  refine q_putF (ci := 11) (j := 3) (N := 11) (Cn := RX11) (T := TX11) (ty0 := tyX11) (ty := (.array .boolean)) C hin dX11_init_38 rfl tyX11_ok nmX11 (by decide) w_273 rfl rfl (by decide +kernel) rfl rfl (Nat.le_of_ble_eq_true rfl) ?_
  refine q_al C dX11_init_41 rfl (List.mem_cons_self) ?_
  refine q_new (ci := 9) (Cn := RX9) (T := TX9) (N := 6) (ty := tyX9) (fs := [.null, .int 0, .int 0, .int 0, .int 0, .int 0]) C dX11_init_42 rfl tyX9_ok w_114 w_115 w_3 (fun j hj => by
    match j, hj with
    | 0, _ => rfl
    | 1, _ => rfl
    | 2, _ => rfl
    | 3, _ => rfl
    | 4, _ => rfl
    | 5, _ => rfl
    | j + 6, hj => exact absurd hj (by omega)) (by decide) (by decide) (fun q42_27 => ?_)
  refine q_dup C dX11_init_45 ?_
  refine q_init C dX11_init_46 S_X9_init w_116 w_117 w_3 w_118 ds_X9_init rfl ⟨by decide, by decide⟩ (by decide) (by decide) (Nat.le_of_ble_eq_true rfl) (fun u46_27 hu46_27 => ?_)
  subst hu46_27
  refine q_putF (ci := 11) (j := 4) (N := 11) (Cn := RX11) (T := TX11) (ty0 := tyX11) (ty := (.object "EveryPew$TextOfChurch")) C hin dX11_init_49 rfl tyX11_ok nmX11 (by decide) w_274 rfl rfl (by decide +kernel) rfl rfl (Nat.le_of_ble_eq_true rfl) ?_
  refine q_al C dX11_init_52 rfl (List.mem_cons_self) ?_
  refine q_new (ci := 8) (Cn := RX8) (T := TX8) (N := 10) (ty := tyX8) (fs := [.null, .int 0, .int 0, .null, .null, .null, .null, .null, .null, .null]) C dX11_init_53 rfl tyX8_ok w_141 w_142 w_4 (fun j hj => by
    match j, hj with
    | 0, _ => rfl
    | 1, _ => rfl
    | 2, _ => rfl
    | 3, _ => rfl
    | 4, _ => rfl
    | 5, _ => rfl
    | 6, _ => rfl
    | 7, _ => rfl
    | 8, _ => rfl
    | 9, _ => rfl
    | j + 10, hj => exact absurd hj (by omega)) (by decide) (by decide) (fun q53_29 => ?_)
  refine q_dup C dX11_init_56 ?_
  refine q_init C dX11_init_57 S_X8_init w_143 w_144 w_4 w_145 ds_X8_init rfl ⟨by decide, by decide⟩ (by decide) (by decide) (Nat.le_of_ble_eq_true rfl) (fun u57_29 hu57_29 => ?_)
  subst hu57_29
  refine q_putF (ci := 11) (j := 5) (N := 11) (Cn := RX11) (T := TX11) (ty0 := tyX11) (ty := (.object "EveryPew$Service")) C hin dX11_init_60 rfl tyX11_ok nmX11 (by decide) w_275 rfl rfl (by decide +kernel) rfl rfl (Nat.le_of_ble_eq_true rfl) ?_
  refine q_al C dX11_init_63 rfl (List.mem_cons_self) ?_
  refine q_new (ci := 7) (Cn := RX7) (T := TX7) (N := 3) (ty := tyX7) (fs := [.null, .null, .int 0]) C dX11_init_64 rfl tyX7_ok w_226 w_227 w_11 (fun j hj => by
    match j, hj with
    | 0, _ => rfl
    | 1, _ => rfl
    | 2, _ => rfl
    | j + 3, hj => exact absurd hj (by omega)) (by decide) (by decide) (fun q64_44 => ?_)
  refine q_dup C dX11_init_67 ?_
  refine q_init C dX11_init_68 S_X7_init w_228 w_229 w_11 w_230 ds_X7_init rfl ⟨by decide, by decide⟩ (by decide) (by decide) (Nat.le_of_ble_eq_true rfl) (fun u68_44 hu68_44 => ?_)
  subst hu68_44
  refine q_putF (ci := 11) (j := 6) (N := 11) (Cn := RX11) (T := TX11) (ty0 := tyX11) (ty := (.object "EveryPew$Seating")) C hin dX11_init_71 rfl tyX11_ok nmX11 (by decide) w_276 rfl rfl (by decide +kernel) rfl rfl (Nat.le_of_ble_eq_true rfl) ?_
  refine q_al C dX11_init_74 rfl (List.mem_cons_self) ?_
  refine q_new (ci := 3) (Cn := RX3) (T := TX3) (N := 6) (ty := tyX3) (fs := [.null, .null, .int 0, .int 0, .int 0, .int 0]) C dX11_init_75 rfl tyX3_ok w_242 w_243 w_12 (fun j hj => by
    match j, hj with
    | 0, _ => rfl
    | 1, _ => rfl
    | 2, _ => rfl
    | 3, _ => rfl
    | 4, _ => rfl
    | 5, _ => rfl
    | j + 6, hj => exact absurd hj (by omega)) (by decide) (by decide) (fun q75_47 => ?_)
  refine q_dup C dX11_init_78 ?_
  refine q_init C dX11_init_79 S_X3_init w_244 w_245 w_12 w_246 ds_X3_init rfl ⟨by decide, by decide⟩ (by decide) (by decide) (Nat.le_of_ble_eq_true rfl) (fun u79_47 hu79_47 => ?_)
  subst hu79_47
  refine q_putF (ci := 11) (j := 7) (N := 11) (Cn := RX11) (T := TX11) (ty0 := tyX11) (ty := (.object "EveryPew$Coughs")) C hin dX11_init_82 rfl tyX11_ok nmX11 (by decide) w_277 rfl rfl (by decide +kernel) rfl rfl (Nat.le_of_ble_eq_true rfl) ?_
  refine q_al C dX11_init_85 rfl (List.mem_cons_self) ?_
  refine q_ic (v := 3) C dX11_init_86 (by decide) ?_
  refine q_newi (N := 3) C dX11_init_87 w_112 (by decide) (by decide) (by decide) (by decide) (by decide) (fun q87 => ?_)
  refine q_putF (ci := 11) (j := 8) (N := 11) (Cn := RX11) (T := TX11) (ty0 := tyX11) (ty := (.array .int)) C hin dX11_init_89 rfl tyX11_ok nmX11 (by decide) w_278 rfl rfl (by decide +kernel) rfl rfl (Nat.le_of_ble_eq_true rfl) ?_
  refine q_al C dX11_init_92 rfl (List.mem_cons_self) ?_
  refine q_lc (v := 0) C dX11_init_93 (by decide) ?_
  refine q_put (ci := 11) (j := 9) (N := 11) (Cn := RX11) (T := TX11) (ty0 := tyX11) (ty := .long) C dX11_init_94 rfl tyX11_ok nmX11 (by decide) w_279 rfl (by decide +kernel) rfl rfl (Nat.le_of_ble_eq_true rfl) ?_
  refine q_al C dX11_init_97 rfl (List.mem_cons_self) ?_
  refine q_lc (v := 1) C dX11_init_98 (by decide) ?_
  refine q_put (ci := 11) (j := 10) (N := 11) (Cn := RX11) (T := TX11) (ty0 := tyX11) (ty := .long) C dX11_init_99 rfl tyX11_ok nmX11 (by decide) w_280 rfl (by decide +kernel) rfl rfl (Nat.le_of_ble_eq_true rfl) ?_
  refine q_ic (v := 0) C dX11_init_102 (by decide) ?_
  refine q_is (lv' := [(1, .int 0), (0, .ref h0)]) C dX11_init_103 rfl (by decide) rfl ?_
  refine q_il (a := 0) C dX11_init_104 rfl (List.mem_cons_self) ?_
  refine q_ic (v := 2) C dX11_init_105 (by decide) ?_
  refine q_geF (tgt := 128) C dX11_init_106 (by decide) (by decide) ?_
  refine q_al C dX11_init_109 rfl (List.mem_cons_of_mem _ List.mem_cons_self) ?_
  refine q_get (ci := 11) (j := 2) (N := 11) (Cn := RX11) (T := TX11) (v := .ref (q28)) C dX11_init_110 rfl (by decide) w_272 rfl ?_
  refine q_il (a := 0) C dX11_init_113 rfl (List.mem_cons_self) ?_
  refine q_new (ci := 1) (Cn := RX1) (T := TX1) (N := 16) (ty := tyX1) (fs := [.int 0, .null, .int 0, .null, .null, .null, .null, .null, .int 0, .int 0, .null, .null, .null, .int 0, .null, .null]) C dX11_init_114 rfl tyX1_ok w_30 w_31 w_2 (fun j hj => by
    match j, hj with
    | 0, _ => rfl
    | 1, _ => rfl
    | 2, _ => rfl
    | 3, _ => rfl
    | 4, _ => rfl
    | 5, _ => rfl
    | 6, _ => rfl
    | 7, _ => rfl
    | 8, _ => rfl
    | 9, _ => rfl
    | 10, _ => rfl
    | 11, _ => rfl
    | 12, _ => rfl
    | 13, _ => rfl
    | 14, _ => rfl
    | 15, _ => rfl
    | j + 16, hj => exact absurd hj (by omega)) (by decide) (by decide) (fun q114_51 => ?_)
  refine q_dup C dX11_init_117 ?_
  refine q_init C dX11_init_118 S_X1_init w_32 w_33 w_2 w_34 ds_X1_init rfl ⟨by decide, by decide⟩ (by decide) (by decide) (Nat.le_of_ble_eq_true rfl) (fun u118_51 hu118_51 => ?_)
  subst hu118_51
  refine q_ast (q0 := 25) (t0 := 2) (qk := 51) (ci := 1) (j := 0) (r := (RX1, TX1, 16)) C dX11_init_121 rfl rfl rfl rfl (vp_in_nI (n := 0) (by decide) (by decide)) (by decide) rfl ?_
  refine q_inc (k := 0) (x := 0) (v := 1) (lv' := [(1, .int 1), (0, .ref h0)]) C dX11_init_122 rfl (by decide) (by decide) rfl ?_
  refine q_goto (tgt := 104) C dX11_init_125 (by decide) ?_
  refine q_il (a := 1) C dX11_init_104 rfl (List.mem_cons_self) ?_
  refine q_ic (v := 2) C dX11_init_105 (by decide) ?_
  refine q_geF (tgt := 128) C dX11_init_106 (by decide) (by decide) ?_
  refine q_al C dX11_init_109 rfl (List.mem_cons_of_mem _ List.mem_cons_self) ?_
  refine q_get (ci := 11) (j := 2) (N := 11) (Cn := RX11) (T := TX11) (v := .ref (q28)) C dX11_init_110 rfl (by decide) w_272 rfl ?_
  refine q_il (a := 1) C dX11_init_113 rfl (List.mem_cons_self) ?_
  refine q_new (ci := 1) (Cn := RX1) (T := TX1) (N := 16) (ty := tyX1) (fs := [.int 0, .null, .int 0, .null, .null, .null, .null, .null, .int 0, .int 0, .null, .null, .null, .int 0, .null, .null]) C dX11_init_114 rfl tyX1_ok w_30 w_31 w_2 (fun j hj => by
    match j, hj with
    | 0, _ => rfl
    | 1, _ => rfl
    | 2, _ => rfl
    | 3, _ => rfl
    | 4, _ => rfl
    | 5, _ => rfl
    | 6, _ => rfl
    | 7, _ => rfl
    | 8, _ => rfl
    | 9, _ => rfl
    | 10, _ => rfl
    | 11, _ => rfl
    | 12, _ => rfl
    | 13, _ => rfl
    | 14, _ => rfl
    | 15, _ => rfl
    | j + 16, hj => exact absurd hj (by omega)) (by decide) (by decide) (fun q114_63 => ?_)
  refine q_dup C dX11_init_117 ?_
  refine q_init C dX11_init_118 S_X1_init w_32 w_33 w_2 w_34 ds_X1_init rfl ⟨by decide, by decide⟩ (by decide) (by decide) (Nat.le_of_ble_eq_true rfl) (fun u118_63 hu118_63 => ?_)
  subst hu118_63
  refine q_ast (q0 := 25) (t0 := 2) (qk := 63) (ci := 1) (j := 1) (r := (RX1, TX1, 16)) C dX11_init_121 rfl rfl rfl rfl (vp_in_nI (n := 1) (by decide) (by decide)) (by decide) rfl ?_
  refine q_inc (k := 0) (x := 1) (v := 2) (lv' := [(1, .int 2), (0, .ref h0)]) C dX11_init_122 rfl (by decide) (by decide) rfl ?_
  refine q_goto (tgt := 104) C dX11_init_125 (by decide) ?_
  refine q_il (a := 2) C dX11_init_104 rfl (List.mem_cons_self) ?_
  refine q_ic (v := 2) C dX11_init_105 (by decide) ?_
  refine q_geT (tgt := 128) C dX11_init_106 (by decide) (by decide) ?_
  refine q_vr C hr hk dX11_init_128 (by decide) (by decide) (q_at [h0, u9_1 1, u9_1 2, u9_1 3, u9_1 4, u9_1 5, u9_1 6, u9_1 7, u9_1 8, u9_1 9, u9_1 10, u9_1 11, u9_1 12, u20_13 1, u20_13 2, u20_13 3, u20_13 4, u20_13 5, u20_13 6, u20_13 7, u20_13 8, u20_13 9, u20_13 10, u20_13 11, u20_13 12, u118_51 1, u118_51 2, u118_51 3, u118_51 4, u118_51 5, u118_51 6, u118_51 7, u118_51 8, u118_51 9, u118_51 10, u118_51 11, u118_51 12, u118_63 1, u118_63 2, u118_63 3, u118_63 4, u118_63 5, u118_63 6, u118_63 7, u118_63 8, u118_63 9, u118_63 10, u118_63 11, u118_63 12, q28, q36, u46_27 51, u46_27 52, u57_29 53, u57_29 54, u57_29 55, u57_29 56, u57_29 57, u57_29 58, u57_29 59, u57_29 60, u57_29 61, u57_29 62, u57_29 63, u57_29 64, u57_29 65, u57_29 66, u57_29 67, u68_44 68, u68_44 69, u68_44 70, u79_47 71, u79_47 72, u79_47 73, q87] 0) rfl ?_
  rw [q_up2 (u := q_at [h0, u9_1 1, u9_1 2, u9_1 3, u9_1 4, u9_1 5, u9_1 6, u9_1 7, u9_1 8, u9_1 9, u9_1 10, u9_1 11, u9_1 12, u20_13 1, u20_13 2, u20_13 3, u20_13 4, u20_13 5, u20_13 6, u20_13 7, u20_13 8, u20_13 9, u20_13 10, u20_13 11, u20_13 12, u118_51 1, u118_51 2, u118_51 3, u118_51 4, u118_51 5, u118_51 6, u118_51 7, u118_51 8, u118_51 9, u118_51 10, u118_51 11, u118_51 12, u118_63 1, u118_63 2, u118_63 3, u118_63 4, u118_63 5, u118_63 6, u118_63 7, u118_63 8, u118_63 9, u118_63 10, u118_63 11, u118_63 12, q28, q36, u46_27 51, u46_27 52, u57_29 53, u57_29 54, u57_29 55, u57_29 56, u57_29 57, u57_29 58, u57_29 59, u57_29 60, u57_29 61, u57_29 62, u57_29 63, u57_29 64, u57_29 65, u57_29 66, u57_29 67, u68_44 68, u68_44 69, u68_44 70, u79_47 71, u79_47 72, u79_47 73, q87] 0) (a := u118_51 1) (b := u118_63 1) rfl rfl]
  rw [qWo_ad (u := u57_29) (v := q_at [h0, u9_1 1, u9_1 2, u9_1 3, u9_1 4, u9_1 5, u9_1 6, u9_1 7, u9_1 8, u9_1 9, u9_1 10, u9_1 11, u9_1 12, u20_13 1, u20_13 2, u20_13 3, u20_13 4, u20_13 5, u20_13 6, u20_13 7, u20_13 8, u20_13 9, u20_13 10, u20_13 11, u20_13 12, u118_51 1, u118_51 2, u118_51 3, u118_51 4, u118_51 5, u118_51 6, u118_51 7, u118_51 8, u118_51 9, u118_51 10, u118_51 11, u118_51 12, u118_63 1, u118_63 2, u118_63 3, u118_63 4, u118_63 5, u118_63 6, u118_63 7, u118_63 8, u118_63 9, u118_63 10, u118_63 11, u118_63 12, q28, q36, u46_27 51, u46_27 52, u57_29 53, u57_29 54, u57_29 55, u57_29 56, u57_29 57, u57_29 58, u57_29 59, u57_29 60, u57_29 61, u57_29 62, u57_29 63, u57_29 64, u57_29 65, u57_29 66, u57_29 67, u68_44 68, u68_44 69, u68_44 70, u79_47 71, u79_47 72, u79_47 73, q87] 0) (ks := [53, 54, 55, 56, 57, 58, 59, 60, 61, 62, 63, 64, 65, 66, 67]) (by decide +kernel) (by repeat (first | exact fun _ h => absurd h List.not_mem_nil | refine List.forall_mem_cons.mpr ⟨rfl, ?_⟩))]
  rfl)
