/-! The claim's methods as terms of the small machine: by program (wip/whole/gen.py) out of the decode rows. -/
def i_no : zK := fun _ _ _ => False
def T_J0_checkIndex_df160 : zTy := fun vs σ Q => match vs with | [.int i, .int n] => ¬ i < 0 ∧ i < n ∧ Q none σ | _ => False
def k_X6_height_0 (X : Nat → zK) (Q : zQ) : zK := i_il 2 <| i_ifeq (i_il 1 <| i_ir Q) <| i_il 1 <| i_ic 2 <| i_idiv <| i_ir Q
def F_X6_height (Q : zQ) (X : Nat → zK) : Nat → zK
  | 0 => k_X6_height_0 X Q
  | _ => fun _ _ _ => False
def T_X6_height : zTy := fun vs σ Q => zok 3 vs = true ∧ zFix (F_X6_height Q) 0 (zlc vs) [] σ
def k_X0_height_0 (X : Nat → zK) (Q : zQ) : zK := i_ic 0 <| i_al 0 <| i_il 1 <| i_il 2 <| i_cu 3 T_X6_height <| i_ic 2 <| i_isub <| i_mmax <| i_ir Q
def F_X0_height (Q : zQ) (X : Nat → zK) : Nat → zK
  | 0 => k_X0_height_0 X Q
  | _ => fun _ _ _ => False
def T_X0_height : zTy := fun vs σ Q => zok 3 vs = true ∧ zFix (F_X0_height Q) 0 (zlc vs) [] σ
def k_J7_fill_53178_0 (X : Nat → zK) (Q : zQ) : zK := i_ic 0 <| i_is 2 <| i_al 0 <| i_len <| i_is 3 <| i_jmp X 1 [true, true, true, true]
def k_J7_fill_53178_1 (X : Nat → zK) (Q : zQ) : zK := i_il 2 <| i_il 3 <| i_cmpge (i_vr Q) <| i_al 0 <| i_il 2 <| i_il 1 <| i_iast <| i_inc 2 1 <| i_jmp X 1 [true, true, true, true]
def F_J7_fill_53178 (Q : zQ) (X : Nat → zK) : Nat → zK
  | 0 => k_J7_fill_53178_0 X Q
  | 1 => k_J7_fill_53178_1 X Q
  | _ => fun _ _ _ => False
def T_J7_fill_53178 : zTy := fun vs σ Q => zok 4 vs = true ∧ zFix (F_J7_fill_53178 Q) 0 (zlc vs) [] σ
def k_X1_begin_0 (X : Nat → zK) (Q : zQ) : zK := i_al 0 <| i_il 1 <| i_pf 1 0 <| i_al 0 <| i_gf 1 1 <| i_ic 0 <| i_call 2 T_J7_fill_53178 <| i_al 0 <| i_ic 0 <| i_pf 1 2 <| i_al 0 <| i_ic 0 <| i_pf 1 8 <| i_al 0 <| i_ic 0 <| i_pf 1 9 <| i_al 0 <| i_ic 0 <| i_pf 1 13 <| i_vr Q
def F_X1_begin (Q : zQ) (X : Nat → zK) : Nat → zK
  | 0 => k_X1_begin_0 X Q
  | _ => fun _ _ _ => False
def T_X1_begin : zTy := fun vs σ Q => zok 2 vs = true ∧ zFix (F_X1_begin Q) 0 (zlc vs) [] σ
def k_X1_copy_0 (X : Nat → zK) (Q : zQ) : zK := i_al 0 <| i_ic 0 <| i_al 1 <| i_ic 0 <| i_al 0 <| i_len <| i_al 1 <| i_len <| i_mmin <| i_cp <| i_vr Q
def F_X1_copy (Q : zQ) (X : Nat → zK) : Nat → zK
  | 0 => k_X1_copy_0 X Q
  | _ => fun _ _ _ => False
def T_X1_copy : zTy := fun vs σ Q => zok 2 vs = true ∧ zFix (F_X1_copy Q) 0 (zlc vs) [] σ
def k_X1_becomeLike_0 (X : Nat → zK) (Q : zQ) : zK := i_al 0 <| i_al 1 <| i_gf 1 0 <| i_pf 1 0 <| i_al 0 <| i_al 1 <| i_gf 1 2 <| i_pf 1 2 <| i_al 0 <| i_al 1 <| i_gf 1 8 <| i_pf 1 8 <| i_al 0 <| i_al 1 <| i_gf 1 9 <| i_pf 1 9 <| i_al 0 <| i_al 1 <| i_gf 1 13 <| i_pf 1 13 <| i_al 1 <| i_gf 1 1 <| i_al 0 <| i_gf 1 1 <| i_call 2 T_X1_copy <| i_al 1 <| i_gf 1 3 <| i_al 0 <| i_gf 1 3 <| i_call 2 T_X1_copy <| i_al 1 <| i_gf 1 4 <| i_al 0 <| i_gf 1 4 <| i_call 2 T_X1_copy <| i_al 1 <| i_gf 1 5 <| i_al 0 <| i_gf 1 5 <| i_call 2 T_X1_copy <| i_al 1 <| i_gf 1 6 <| i_al 0 <| i_gf 1 6 <| i_call 2 T_X1_copy <| i_al 1 <| i_gf 1 7 <| i_al 0 <| i_gf 1 7 <| i_call 2 T_X1_copy <| i_al 1 <| i_gf 1 10 <| i_al 0 <| i_gf 1 10 <| i_call 2 T_X1_copy <| i_al 1 <| i_gf 1 11 <| i_al 0 <| i_gf 1 11 <| i_call 2 T_X1_copy <| i_al 1 <| i_gf 1 12 <| i_al 0 <| i_gf 1 12 <| i_call 2 T_X1_copy <| i_al 1 <| i_gf 1 14 <| i_al 0 <| i_gf 1 14 <| i_call 2 T_X1_copy <| i_al 1 <| i_gf 1 15 <| i_al 0 <| i_gf 1 15 <| i_call 2 T_X1_copy <| i_vr Q
def F_X1_becomeLike (Q : zQ) (X : Nat → zK) : Nat → zK
  | 0 => k_X1_becomeLike_0 X Q
  | _ => fun _ _ _ => False
def T_X1_becomeLike : zTy := fun vs σ Q => zok 2 vs = true ∧ zFix (F_X1_becomeLike Q) 0 (zlc vs) [] σ
def k_X1_hasFamily_0 (X : Nat → zK) (Q : zQ) : zK := i_il 1 <| i_iflt (i_ic 0 <| i_zr Q) <| i_il 1 <| i_al 0 <| i_gf 1 2 <| i_cmpge (i_ic 0 <| i_zr Q) <| i_ic 1 <| i_zr Q
def F_X1_hasFamily (Q : zQ) (X : Nat → zK) : Nat → zK
  | 0 => k_X1_hasFamily_0 X Q
  | _ => fun _ _ _ => False
def T_X1_hasFamily : zTy := fun vs σ Q => zok 2 vs = true ∧ zFix (F_X1_hasFamily Q) 0 (zlc vs) [] σ
def k_X1_sets_0 (X : Nat → zK) (Q : zQ) : zK := i_ic 1 <| i_al 0 <| i_gf 1 2 <| i_ishl <| i_ir Q
def F_X1_sets (Q : zQ) (X : Nat → zK) : Nat → zK
  | 0 => k_X1_sets_0 X Q
  | _ => fun _ _ _ => False
def T_X1_sets : zTy := fun vs σ Q => zok 1 vs = true ∧ zFix (F_X1_sets Q) 0 (zlc vs) [] σ
def k_X1_isTaken_0 (X : Nat → zK) (Q : zQ) : zK := i_ic 0 <| i_is 2 <| i_jmp X 1 [true, true, true]
def k_X1_isTaken_1 (X : Nat → zK) (Q : zQ) : zK := i_il 2 <| i_al 0 <| i_gf 1 2 <| i_cmpge (i_ic 0 <| i_zr Q) <| i_al 0 <| i_gf 1 7 <| i_il 2 <| i_ia <| i_il 1 <| i_cmpne (i_inc 2 1 <| i_jmp X 1 [true, true, true]) <| i_ic 1 <| i_zr Q
def F_X1_isTaken (Q : zQ) (X : Nat → zK) : Nat → zK
  | 0 => k_X1_isTaken_0 X Q
  | 1 => k_X1_isTaken_1 X Q
  | _ => fun _ _ _ => False
def T_X1_isTaken : zTy := fun vs σ Q => zok 3 vs = true ∧ zFix (F_X1_isTaken Q) 0 (zlc vs) [] σ
def k_X1_admit_0 (X : Nat → zK) (Q : zQ) : zK := i_al 0 <| i_gf 1 2 <| i_is 6 <| i_al 0 <| i_gf 1 3 <| i_il 6 <| i_il 1 <| i_iast <| i_al 0 <| i_gf 1 4 <| i_il 6 <| i_il 2 <| i_iast <| i_al 0 <| i_gf 1 5 <| i_il 6 <| i_il 3 <| i_iast <| i_al 0 <| i_gf 1 6 <| i_il 6 <| i_il 4 <| i_iast <| i_al 0 <| i_gf 1 7 <| i_il 6 <| i_il 5 <| i_iast <| i_al 0 <| i_dup <| i_gf 1 2 <| i_ic 1 <| i_iadd <| i_pf 1 2 <| i_al 0 <| i_ic 0 <| i_pf 1 13 <| i_il 6 <| i_ir Q
def F_X1_admit (Q : zQ) (X : Nat → zK) : Nat → zK
  | 0 => k_X1_admit_0 X Q
  | _ => fun _ _ _ => False
def T_X1_admit : zTy := fun vs σ Q => zok 7 vs = true ∧ zFix (F_X1_admit Q) 0 (zlc vs) [] σ
def k_X11_bit_0 (X : Nat → zK) (Q : zQ) : zK := i_il 0 <| i_il 1 <| i_ishr <| i_ic 1 <| i_iand <| i_ir Q
def F_X11_bit (Q : zQ) (X : Nat → zK) : Nat → zK
  | 0 => k_X11_bit_0 X Q
  | _ => fun _ _ _ => False
def T_X11_bit : zTy := fun vs σ Q => zok 2 vs = true ∧ zFix (F_X11_bit Q) 0 (zlc vs) [] σ
def k_X1_trait_0 (X : Nat → zK) (Q : zQ) : zK := i_il 2 <| i_sw [(0, i_al 0 <| i_gf 1 3 <| i_il 1 <| i_ia <| i_ir Q), (1, i_al 0 <| i_gf 1 4 <| i_il 1 <| i_ia <| i_ir Q), (2, i_al 0 <| i_gf 1 5 <| i_il 1 <| i_ia <| i_ir Q), (3, i_al 0 <| i_gf 1 6 <| i_il 1 <| i_ia <| i_ir Q), (4, i_al 0 <| i_gf 1 7 <| i_il 1 <| i_ia <| i_ir Q)] (i_al 0 <| i_gf 1 8 <| i_il 1 <| i_call 2 T_X11_bit <| i_ir Q)
def F_X1_trait (Q : zQ) (X : Nat → zK) : Nat → zK
  | 0 => k_X1_trait_0 X Q
  | _ => fun _ _ _ => False
def T_X1_trait : zTy := fun vs σ Q => zok 3 vs = true ∧ zFix (F_X1_trait Q) 0 (zlc vs) [] σ
def k_X1_hear_0 (X : Nat → zK) (Q : zQ) : zK := i_al 0 <| i_gf 1 10 <| i_al 0 <| i_gf 1 9 <| i_il 1 <| i_iast <| i_al 0 <| i_gf 1 11 <| i_al 0 <| i_gf 1 9 <| i_il 2 <| i_iast <| i_al 0 <| i_gf 1 12 <| i_al 0 <| i_gf 1 9 <| i_il 3 <| i_iast <| i_al 0 <| i_dup <| i_gf 1 9 <| i_ic 1 <| i_iadd <| i_pf 1 9 <| i_al 0 <| i_gf 1 9 <| i_ir Q
def F_X1_hear (Q : zQ) (X : Nat → zK) : Nat → zK
  | 0 => k_X1_hear_0 X Q
  | _ => fun _ _ _ => False
def T_X1_hear : zTy := fun vs σ Q => zok 4 vs = true ∧ zFix (F_X1_hear Q) 0 (zlc vs) [] σ
def k_X1_remember_0 (X : Nat → zK) (Q : zQ) : zK := i_al 0 <| i_gf 1 13 <| i_ic 8 <| i_cmplt (i_jmp X 1 [true]) <| i_al 0 <| i_gf 1 14 <| i_ic 7 <| i_al 0 <| i_gf 1 14 <| i_ic 0 <| i_ic 49 <| i_cp <| i_al 0 <| i_gf 1 15 <| i_ic 1 <| i_al 0 <| i_gf 1 15 <| i_ic 0 <| i_ic 7 <| i_cp <| i_al 0 <| i_ic 7 <| i_pf 1 13 <| i_jmp X 1 [true]
def k_X1_remember_1 (X : Nat → zK) (Q : zQ) : zK := i_al 0 <| i_gf 1 7 <| i_ic 0 <| i_al 0 <| i_gf 1 14 <| i_al 0 <| i_gf 1 13 <| i_ic 7 <| i_imul <| i_ic 7 <| i_cp <| i_al 0 <| i_gf 1 15 <| i_al 0 <| i_gf 1 13 <| i_al 0 <| i_gf 1 8 <| i_iast <| i_al 0 <| i_dup <| i_gf 1 13 <| i_ic 1 <| i_iadd <| i_pf 1 13 <| i_vr Q
def F_X1_remember (Q : zQ) (X : Nat → zK) : Nat → zK
  | 0 => k_X1_remember_0 X Q
  | 1 => k_X1_remember_1 X Q
  | _ => fun _ _ _ => False
def T_X1_remember : zTy := fun vs σ Q => zok 1 vs = true ∧ zFix (F_X1_remember Q) 0 (zlc vs) [] σ
def k_X1_goBack_0 (X : Nat → zK) (Q : zQ) : zK := i_al 0 <| i_dup <| i_gf 1 13 <| i_ic 1 <| i_isub <| i_pf 1 13 <| i_al 0 <| i_gf 1 14 <| i_al 0 <| i_gf 1 13 <| i_ic 7 <| i_imul <| i_al 0 <| i_gf 1 7 <| i_ic 0 <| i_ic 7 <| i_cp <| i_al 0 <| i_al 0 <| i_gf 1 15 <| i_al 0 <| i_gf 1 13 <| i_ia <| i_pf 1 8 <| i_vr Q
def F_X1_goBack (Q : zQ) (X : Nat → zK) : Nat → zK
  | 0 => k_X1_goBack_0 X Q
  | _ => fun _ _ _ => False
def T_X1_goBack : zTy := fun vs σ Q => zok 1 vs = true ∧ zFix (F_X1_goBack Q) 0 (zlc vs) [] σ
def k_X1_mostVoiced_0 (X : Nat → zK) (Q : zQ) : zK := i_ic (-1) <| i_is 2 <| i_ic 0 <| i_is 3 <| i_jmp X 1 [true, true, true, true]
def k_X1_mostVoiced_1 (X : Nat → zK) (Q : zQ) : zK := i_il 3 <| i_al 0 <| i_gf 1 2 <| i_cmpge (i_il 2 <| i_ir Q) <| i_al 0 <| i_gf 1 4 <| i_il 3 <| i_ia <| i_il 1 <| i_cmpne (i_jmp X 3 [true, true, true, true]) <| i_il 2 <| i_ic (-1) <| i_cmpeq (i_jmp X 2 [true, true, false, true]) <| i_al 0 <| i_gf 1 6 <| i_il 3 <| i_ia <| i_al 0 <| i_gf 1 6 <| i_il 2 <| i_ia <| i_cmple (i_jmp X 3 [true, true, true, true]) <| i_jmp X 2 [true, true, false, true]
def k_X1_mostVoiced_2 (X : Nat → zK) (Q : zQ) : zK := i_il 3 <| i_is 2 <| i_jmp X 3 [true, true, true, true]
def k_X1_mostVoiced_3 (X : Nat → zK) (Q : zQ) : zK := i_inc 3 1 <| i_jmp X 1 [true, true, true, true]
def F_X1_mostVoiced (Q : zQ) (X : Nat → zK) : Nat → zK
  | 0 => k_X1_mostVoiced_0 X Q
  | 1 => k_X1_mostVoiced_1 X Q
  | 2 => k_X1_mostVoiced_2 X Q
  | 3 => k_X1_mostVoiced_3 X Q
  | _ => fun _ _ _ => False
def T_X1_mostVoiced : zTy := fun vs σ Q => zok 4 vs = true ∧ zFix (F_X1_mostVoiced Q) 0 (zlc vs) [] σ
def k_X2_kneelsAt_0 (X : Nat → zK) (Q : zQ) : zK := i_il 1 <| i_ifne (i_jmp X 1 []) <| i_il 2 <| i_ifeq (i_ic 0 <| i_zr Q) <| i_jmp X 1 []
def k_X2_kneelsAt_1 (X : Nat → zK) (Q : zQ) : zK := i_ic 1 <| i_zr Q
def F_X2_kneelsAt (Q : zQ) (X : Nat → zK) : Nat → zK
  | 0 => k_X2_kneelsAt_0 X Q
  | 1 => k_X2_kneelsAt_1 X Q
  | _ => fun _ _ _ => False
def T_X2_kneelsAt : zTy := fun vs σ Q => zok 3 vs = true ∧ zFix (F_X2_kneelsAt Q) 0 (zlc vs) [] σ
def k_X8_loudnessInCase_0 (X : Nat → zK) (Q : zQ) : zK := i_ic 0 <| i_is 4 <| i_ic 0 <| i_is 5 <| i_jmp X 1 [true, true, true, true, true, true]
def k_X8_loudnessInCase_1 (X : Nat → zK) (Q : zQ) : zK := i_il 5 <| i_al 0 <| i_gf 8 1 <| i_cmpge (i_il 4 <| i_ir Q) <| i_al 0 <| i_gf 8 3 <| i_il 5 <| i_ia <| i_il 2 <| i_cmpne (i_jmp X 2 [true, true, true, true, true, true]) <| i_il 3 <| i_il 5 <| i_call 2 T_X11_bit <| i_ifne (i_jmp X 2 [true, true, true, true, true, true]) <| i_il 4 <| i_al 0 <| i_gf 8 7 <| i_il 5 <| i_ic 4 <| i_imul <| i_il 1 <| i_iadd <| i_ia <| i_iadd <| i_is 4 <| i_jmp X 2 [true, true, true, true, true, true]
def k_X8_loudnessInCase_2 (X : Nat → zK) (Q : zQ) : zK := i_inc 5 1 <| i_jmp X 1 [true, true, true, true, true, true]
def F_X8_loudnessInCase (Q : zQ) (X : Nat → zK) : Nat → zK
  | 0 => k_X8_loudnessInCase_0 X Q
  | 1 => k_X8_loudnessInCase_1 X Q
  | 2 => k_X8_loudnessInCase_2 X Q
  | _ => fun _ _ _ => False
def T_X8_loudnessInCase : zTy := fun vs σ Q => zok 6 vs = true ∧ zFix (F_X8_loudnessInCase Q) 0 (zlc vs) [] σ
def k_X8_loudness_0 (X : Nat → zK) (Q : zQ) : zK := i_al 0 <| i_al 0 <| i_gf 8 8 <| i_il 1 <| i_ia <| i_il 2 <| i_il 3 <| i_cv 8 4 T_X8_loudnessInCase <| i_ir Q
def F_X8_loudness (Q : zQ) (X : Nat → zK) : Nat → zK
  | 0 => k_X8_loudness_0 X Q
  | _ => fun _ _ _ => False
def T_X8_loudness : zTy := fun vs σ Q => zok 4 vs = true ∧ zFix (F_X8_loudness Q) 0 (zlc vs) [] σ
def k_X8_agreesWith_0 (X : Nat → zK) (Q : zQ) : zK := i_ic 0 <| i_is 3 <| i_jmp X 1 [true, true, true, true]
def k_X8_agreesWith_1 (X : Nat → zK) (Q : zQ) : zK := i_il 3 <| i_al 1 <| i_gf 1 9 <| i_cmpge (i_ic 1 <| i_zr Q) <| i_al 0 <| i_al 1 <| i_gf 1 10 <| i_il 3 <| i_ia <| i_al 1 <| i_gf 1 11 <| i_il 3 <| i_ia <| i_il 2 <| i_cv 8 4 T_X8_loudness <| i_al 1 <| i_gf 1 12 <| i_il 3 <| i_ia <| i_cmpeq (i_inc 3 1 <| i_jmp X 1 [true, true, true, true]) <| i_ic 0 <| i_zr Q
def F_X8_agreesWith (Q : zQ) (X : Nat → zK) : Nat → zK
  | 0 => k_X8_agreesWith_0 X Q
  | 1 => k_X8_agreesWith_1 X Q
  | _ => fun _ _ _ => False
def T_X8_agreesWith : zTy := fun vs σ Q => zok 4 vs = true ∧ zFix (F_X8_agreesWith Q) 0 (zlc vs) [] σ
def k_X3_find_0 (X : Nat → zK) (Q : zQ) : zK := i_al 0 <| i_al 1 <| i_cv 1 1 T_X1_sets <| i_pf 3 2 <| i_al 0 <| i_ic 0 <| i_pf 3 3 <| i_al 0 <| i_al 0 <| i_gf 3 2 <| i_ic 1 <| i_isub <| i_pf 3 4 <| i_al 0 <| i_ic 0 <| i_pf 3 5 <| i_ic 0 <| i_is 3 <| i_jmp X 1 [true, true, true, true]
def k_X3_find_1 (X : Nat → zK) (Q : zQ) : zK := i_il 3 <| i_al 0 <| i_gf 3 2 <| i_cmpge (i_vr Q) <| i_al 0 <| i_gf 3 0 <| i_il 3 <| i_al 2 <| i_al 1 <| i_il 3 <| i_cv 8 3 T_X8_agreesWith <| i_bast <| i_al 0 <| i_gf 3 0 <| i_il 3 <| i_ba <| i_ifeq (i_jmp X 2 [true, true, true, true]) <| i_al 0 <| i_dup <| i_gf 3 3 <| i_ic 1 <| i_iadd <| i_pf 3 3 <| i_al 0 <| i_dup <| i_gf 3 4 <| i_il 3 <| i_iand <| i_pf 3 4 <| i_al 0 <| i_dup <| i_gf 3 5 <| i_il 3 <| i_ior <| i_pf 3 5 <| i_jmp X 2 [true, true, true, true]
def k_X3_find_2 (X : Nat → zK) (Q : zQ) : zK := i_inc 3 1 <| i_jmp X 1 [true, true, true, true]
def F_X3_find (Q : zQ) (X : Nat → zK) : Nat → zK
  | 0 => k_X3_find_0 X Q
  | 1 => k_X3_find_1 X Q
  | 2 => k_X3_find_2 X Q
  | _ => fun _ _ _ => False
def T_X3_find : zTy := fun vs σ Q => zok 4 vs = true ∧ zFix (F_X3_find Q) 0 (zlc vs) [] σ
def k_X3_firstWordOf_0 (X : Nat → zK) (Q : zQ) : zK := i_ic 0 <| i_is 2 <| i_jmp X 1 [true, true, true]
def k_X3_firstWordOf_1 (X : Nat → zK) (Q : zQ) : zK := i_il 2 <| i_ic 16 <| i_cmpge (i_ic (-1) <| i_ir Q) <| i_al 0 <| i_gf 8 8 <| i_il 2 <| i_ia <| i_il 1 <| i_cmpne (i_inc 2 1 <| i_jmp X 1 [true, true, true]) <| i_il 2 <| i_ir Q
def F_X3_firstWordOf (Q : zQ) (X : Nat → zK) : Nat → zK
  | 0 => k_X3_firstWordOf_0 X Q
  | 1 => k_X3_firstWordOf_1 X Q
  | _ => fun _ _ _ => False
def T_X3_firstWordOf : zTy := fun vs σ Q => zok 3 vs = true ∧ zFix (F_X3_firstWordOf Q) 0 (zlc vs) [] σ
def k_X3_mostAlike_0 (X : Nat → zK) (Q : zQ) : zK := i_al 0 <| i_gf 3 1 <| i_ic 0 <| i_call 2 T_J7_fill_53178 <| i_ic 0 <| i_is 3 <| i_ic 0 <| i_is 4 <| i_jmp X 1 [true, true, true, true, true]
def k_X3_mostAlike_1 (X : Nat → zK) (Q : zQ) : zK := i_il 4 <| i_al 0 <| i_gf 3 2 <| i_cmpge (i_il 3 <| i_ir Q) <| i_al 0 <| i_gf 3 0 <| i_il 4 <| i_ba <| i_ifeq (i_jmp X 2 [true, true, true, true, true]) <| i_al 1 <| i_il 2 <| i_ic 0 <| i_il 4 <| i_cv 8 4 T_X8_loudnessInCase <| i_is 5 <| i_al 0 <| i_gf 3 1 <| i_il 5 <| i_dup2 <| i_ia <| i_ic 1 <| i_iadd <| i_iast <| i_il 3 <| i_al 0 <| i_gf 3 1 <| i_il 5 <| i_ia <| i_mmax <| i_is 3 <| i_jmp X 2 [true, true, true, true, true]
def k_X3_mostAlike_2 (X : Nat → zK) (Q : zQ) : zK := i_inc 4 1 <| i_jmp X 1 [true, true, true, true, true]
def F_X3_mostAlike (Q : zQ) (X : Nat → zK) : Nat → zK
  | 0 => k_X3_mostAlike_0 X Q
  | 1 => k_X3_mostAlike_1 X Q
  | 2 => k_X3_mostAlike_2 X Q
  | _ => fun _ _ _ => False
def T_X3_mostAlike : zTy := fun vs σ Q => zok 6 vs = true ∧ zFix (F_X3_mostAlike Q) 0 (zlc vs) [] σ
def k_X3_bestWord_0 (X : Nat → zK) (Q : zQ) : zK := i_al 0 <| i_gf 3 3 <| i_ifne (i_ic (-1) <| i_is 2 <| i_ic 0 <| i_is 3 <| i_ic 0 <| i_is 4 <| i_jmp X 1 [true, true, true, true, true]) <| i_ic (-1) <| i_ir Q
def k_X3_bestWord_1 (X : Nat → zK) (Q : zQ) : zK := i_il 4 <| i_ic 4 <| i_cmpge (i_il 2 <| i_ir Q) <| i_al 1 <| i_il 4 <| i_call 2 T_X3_firstWordOf <| i_is 5 <| i_il 5 <| i_ic (-1) <| i_cmpne (i_al 0 <| i_al 1 <| i_il 4 <| i_cv 3 3 T_X3_mostAlike <| i_jmp X 2 [true, true, true, true, true, true]) <| i_ic 0 <| i_jmp X 2 [true, true, true, true, true, true]
def k_X3_bestWord_2 (X : Nat → zK) (Q : zQ) : zK := i_is 6 <| i_il 2 <| i_ic (-1) <| i_cmpeq (i_jmp X 3 [true, true, true, true, true, true, true]) <| i_il 6 <| i_il 3 <| i_cmplt (i_jmp X 3 [true, true, true, true, true, true, true]) <| i_il 6 <| i_il 3 <| i_cmpne (i_jmp X 4 [true, true, true, true, true, true, true]) <| i_il 5 <| i_il 2 <| i_cmpge (i_jmp X 4 [true, true, true, true, true, true, true]) <| i_jmp X 3 [true, true, true, true, true, true, true]
def k_X3_bestWord_3 (X : Nat → zK) (Q : zQ) : zK := i_ic 1 <| i_jmp X 5 [true, true, true, true, true, true, true]
def k_X3_bestWord_4 (X : Nat → zK) (Q : zQ) : zK := i_ic 0 <| i_jmp X 5 [true, true, true, true, true, true, true]
def k_X3_bestWord_5 (X : Nat → zK) (Q : zQ) : zK := i_is 7 <| i_il 5 <| i_ic (-1) <| i_cmpeq (i_jmp X 6 [true, true, true, true, true]) <| i_il 7 <| i_ifeq (i_jmp X 6 [true, true, true, true, true]) <| i_il 5 <| i_is 2 <| i_il 6 <| i_is 3 <| i_jmp X 6 [true, true, true, true, true]
def k_X3_bestWord_6 (X : Nat → zK) (Q : zQ) : zK := i_inc 4 1 <| i_jmp X 1 [true, true, true, true, true]
def F_X3_bestWord (Q : zQ) (X : Nat → zK) : Nat → zK
  | 0 => k_X3_bestWord_0 X Q
  | 1 => k_X3_bestWord_1 X Q
  | 2 => k_X3_bestWord_2 X Q
  | 3 => k_X3_bestWord_3 X Q
  | 4 => k_X3_bestWord_4 X Q
  | 5 => k_X3_bestWord_5 X Q
  | 6 => k_X3_bestWord_6 X Q
  | _ => fun _ _ _ => False
def T_X3_bestWord : zTy := fun vs σ Q => zok 8 vs = true ∧ zFix (F_X3_bestWord Q) 0 (zlc vs) [] σ
def k_X4_kneelsAt_0 (X : Nat → zK) (Q : zQ) : zK := i_ic 0 <| i_zr Q
def F_X4_kneelsAt (Q : zQ) (X : Nat → zK) : Nat → zK
  | 0 => k_X4_kneelsAt_0 X Q
  | _ => fun _ _ _ => False
def T_X4_kneelsAt : zTy := fun vs σ Q => zok 3 vs = true ∧ zFix (F_X4_kneelsAt Q) 0 (zlc vs) [] σ
def k_X4_height_0 (X : Nat → zK) (Q : zQ) : zK := i_al 0 <| i_il 1 <| i_il 2 <| i_cu 3 T_X6_height <| i_ic 1 <| i_iadd <| i_ir Q
def F_X4_height (Q : zQ) (X : Nat → zK) : Nat → zK
  | 0 => k_X4_height_0 X Q
  | _ => fun _ _ _ => False
def T_X4_height : zTy := fun vs σ Q => zok 3 vs = true ∧ zFix (F_X4_height Q) 0 (zlc vs) [] σ
def k_X6_sound_0 (X : Nat → zK) (Q : zQ) : zK := i_il 2 <| i_ifeq (i_il 1 <| i_ir Q) <| i_ic 0 <| i_ir Q
def F_X6_sound (Q : zQ) (X : Nat → zK) : Nat → zK
  | 0 => k_X6_sound_0 X Q
  | _ => fun _ _ _ => False
def T_X6_sound : zTy := fun vs σ Q => zok 3 vs = true ∧ zFix (F_X6_sound Q) 0 (zlc vs) [] σ
def k_X5_sound_0 (X : Nat → zK) (Q : zQ) : zK := i_al 0 <| i_il 1 <| i_il 2 <| i_cu 3 T_X6_sound <| i_ic 2 <| i_idiv <| i_ir Q
def F_X5_sound (Q : zQ) (X : Nat → zK) : Nat → zK
  | 0 => k_X5_sound_0 X Q
  | _ => fun _ _ _ => False
def T_X5_sound : zTy := fun vs σ Q => zok 3 vs = true ∧ zFix (F_X5_sound Q) 0 (zlc vs) [] σ
def k_X6_kneelsAt_0 (X : Nat → zK) (Q : zQ) : zK := i_il 1 <| i_zr Q
def F_X6_kneelsAt (Q : zQ) (X : Nat → zK) : Nat → zK
  | 0 => k_X6_kneelsAt_0 X Q
  | _ => fun _ _ _ => False
def T_X6_kneelsAt : zTy := fun vs σ Q => zok 3 vs = true ∧ zFix (F_X6_kneelsAt Q) 0 (zlc vs) [] σ
def k_X7_worth_0 (X : Nat → zK) (Q : zQ) : zK := i_ic 0 <| i_is 5 <| i_ic 0 <| i_is 6 <| i_jmp X 1 [true, true, true, true, true, true, true]
def k_X7_worth_1 (X : Nat → zK) (Q : zQ) : zK := i_il 6 <| i_ic 4 <| i_cmpge (i_il 5 <| i_ic 10000000 <| i_imul <| i_ic 9 <| i_il 4 <| i_isub <| i_gfig <| i_il 2 <| i_fig <| i_imul <| i_iadd <| i_ir Q) <| i_al 1 <| i_gf 8 6 <| i_il 2 <| i_ic 4 <| i_imul <| i_il 6 <| i_iadd <| i_ia <| i_al 0 <| i_gf 7 1 <| i_il 3 <| i_ic 4 <| i_imul <| i_il 6 <| i_iadd <| i_ia <| i_cmple (i_jmp X 2 [true, true, true, true, true, true, true]) <| i_il 5 <| i_al 1 <| i_gf 8 9 <| i_il 6 <| i_ia <| i_iadd <| i_is 5 <| i_jmp X 2 [true, true, true, true, true, true, true]
def k_X7_worth_2 (X : Nat → zK) (Q : zQ) : zK := i_inc 6 1 <| i_jmp X 1 [true, true, true, true, true, true, true]
def F_X7_worth (Q : zQ) (X : Nat → zK) : Nat → zK
  | 0 => k_X7_worth_0 X Q
  | 1 => k_X7_worth_1 X Q
  | 2 => k_X7_worth_2 X Q
  | _ => fun _ _ _ => False
def T_X7_worth : zTy := fun vs σ Q => zok 7 vs = true ∧ zFix (F_X7_worth Q) 0 (zlc vs) [] σ
def k_X7_fillPew_0 (X : Nat → zK) (Q : zQ) : zK := i_il 2 <| i_ic 1 <| i_isub <| i_is 4 <| i_jmp X 1 [true, true, false, true, true]
def k_X7_fillPew_1 (X : Nat → zK) (Q : zQ) : zK := i_il 4 <| i_ifle (i_vr Q) <| i_ic 0 <| i_is 5 <| i_jmp X 2 [true, true, false, true, true, true]
def k_X7_fillPew_2 (X : Nat → zK) (Q : zQ) : zK := i_il 5 <| i_al 1 <| i_gf 8 1 <| i_cmpge (i_inc 4 (-1) <| i_jmp X 1 [true, true, false, true, true]) <| i_il 4 <| i_ic 1 <| i_il 5 <| i_ishl <| i_ic (-1) <| i_ixor <| i_iand <| i_is 6 <| i_il 6 <| i_il 4 <| i_cmpeq (i_jmp X 3 [true, true, false, true, true, true]) <| i_al 1 <| i_gf 8 3 <| i_il 5 <| i_ia <| i_il 3 <| i_ic 2 <| i_irem <| i_cmpne (i_jmp X 3 [true, true, false, true, true, true]) <| i_al 0 <| i_gf 7 0 <| i_il 6 <| i_ia <| i_ic (-1) <| i_cmpeq (i_jmp X 3 [true, true, false, true, true, true]) <| i_al 0 <| i_gf 7 0 <| i_il 4 <| i_al 0 <| i_gf 7 0 <| i_il 4 <| i_ia <| i_al 0 <| i_gf 7 0 <| i_il 6 <| i_ia <| i_al 0 <| i_al 1 <| i_il 5 <| i_il 6 <| i_il 3 <| i_cv 7 5 T_X7_worth <| i_iadd <| i_mmax <| i_iast <| i_jmp X 3 [true, true, false, true, true, true]
def k_X7_fillPew_3 (X : Nat → zK) (Q : zQ) : zK := i_inc 5 1 <| i_jmp X 2 [true, true, false, true, true, true]
def F_X7_fillPew (Q : zQ) (X : Nat → zK) : Nat → zK
  | 0 => k_X7_fillPew_0 X Q
  | 1 => k_X7_fillPew_1 X Q
  | 2 => k_X7_fillPew_2 X Q
  | 3 => k_X7_fillPew_3 X Q
  | _ => fun _ _ _ => False
def T_X7_fillPew : zTy := fun vs σ Q => zok 7 vs = true ∧ zFix (F_X7_fillPew Q) 0 (zlc vs) [] σ
def k_X7_firstOf_0 (X : Nat → zK) (Q : zQ) : zK := i_ic 0 <| i_is 1 <| i_jmp X 1 [true, true]
def k_X7_firstOf_1 (X : Nat → zK) (Q : zQ) : zK := i_il 1 <| i_ic 6 <| i_cmpge (i_il 1 <| i_ir Q) <| i_il 0 <| i_il 1 <| i_call 2 T_X11_bit <| i_ifne (i_il 1 <| i_ir Q) <| i_inc 1 1 <| i_jmp X 1 [true, true]
def F_X7_firstOf (Q : zQ) (X : Nat → zK) : Nat → zK
  | 0 => k_X7_firstOf_0 X Q
  | 1 => k_X7_firstOf_1 X Q
  | _ => fun _ _ _ => False
def T_X7_firstOf : zTy := fun vs σ Q => zok 2 vs = true ∧ zFix (F_X7_firstOf Q) 0 (zlc vs) [] σ
def k_X7_findTallest_0 (X : Nat → zK) (Q : zQ) : zK := i_ic 0 <| i_is 3 <| i_jmp X 1 [true, true, true, true]
def k_X7_findTallest_1 (X : Nat → zK) (Q : zQ) : zK := i_il 3 <| i_ic 4 <| i_cmpge (i_ic 1 <| i_is 3 <| i_jmp X 2 [true, true, true, true]) <| i_al 0 <| i_gf 7 1 <| i_il 3 <| i_ic (-1) <| i_iast <| i_inc 3 1 <| i_jmp X 1 [true, true, true, true]
def k_X7_findTallest_2 (X : Nat → zK) (Q : zQ) : zK := i_il 3 <| i_il 2 <| i_cmpge (i_vr Q) <| i_il 3 <| i_call 1 T_X7_firstOf <| i_is 4 <| i_il 3 <| i_ic 1 <| i_il 4 <| i_ishl <| i_ic (-1) <| i_ixor <| i_iand <| i_is 5 <| i_ic 0 <| i_is 6 <| i_jmp X 3 [true, true, true, true, true, true, true]
def k_X7_findTallest_3 (X : Nat → zK) (Q : zQ) : zK := i_il 6 <| i_ic 4 <| i_cmpge (i_inc 3 1 <| i_jmp X 2 [true, true, true, true]) <| i_al 0 <| i_gf 7 1 <| i_il 3 <| i_ic 4 <| i_imul <| i_il 6 <| i_iadd <| i_al 0 <| i_gf 7 1 <| i_il 5 <| i_ic 4 <| i_imul <| i_il 6 <| i_iadd <| i_ia <| i_al 1 <| i_gf 8 6 <| i_il 4 <| i_ic 4 <| i_imul <| i_il 6 <| i_iadd <| i_ia <| i_mmax <| i_iast <| i_inc 6 1 <| i_jmp X 3 [true, true, true, true, true, true, true]
def F_X7_findTallest (Q : zQ) (X : Nat → zK) : Nat → zK
  | 0 => k_X7_findTallest_0 X Q
  | 1 => k_X7_findTallest_1 X Q
  | 2 => k_X7_findTallest_2 X Q
  | 3 => k_X7_findTallest_3 X Q
  | _ => fun _ _ _ => False
def T_X7_findTallest : zTy := fun vs σ Q => zok 7 vs = true ∧ zFix (F_X7_findTallest Q) 0 (zlc vs) [] σ
def k_X7_find_0 (X : Nat → zK) (Q : zQ) : zK := i_ic 1 <| i_al 1 <| i_gf 8 1 <| i_ishl <| i_is 2 <| i_al 0 <| i_al 1 <| i_il 2 <| i_cv 7 3 T_X7_findTallest <| i_al 0 <| i_gf 7 0 <| i_ic (-1) <| i_call 2 T_J7_fill_53178 <| i_al 0 <| i_gf 7 0 <| i_ic 0 <| i_ic 0 <| i_iast <| i_ic 0 <| i_is 3 <| i_jmp X 1 [true, true, true, true]
def k_X7_find_1 (X : Nat → zK) (Q : zQ) : zK := i_il 3 <| i_ic 10 <| i_cmpge (i_al 0 <| i_al 0 <| i_gf 7 0 <| i_il 2 <| i_ic 1 <| i_isub <| i_ia <| i_pf 7 2 <| i_vr Q) <| i_al 0 <| i_al 1 <| i_il 2 <| i_il 3 <| i_cv 7 4 T_X7_fillPew <| i_inc 3 1 <| i_jmp X 1 [true, true, true, true]
def F_X7_find (Q : zQ) (X : Nat → zK) : Nat → zK
  | 0 => k_X7_find_0 X Q
  | 1 => k_X7_find_1 X Q
  | _ => fun _ _ _ => False
def T_X7_find : zTy := fun vs σ Q => zok 4 vs = true ∧ zFix (F_X7_find Q) 0 (zlc vs) [] σ
def k_X7_seen_0 (X : Nat → zK) (Q : zQ) : zK := i_al 0 <| i_gf 7 2 <| i_ic 10000000 <| i_idiv <| i_ir Q
def F_X7_seen (Q : zQ) (X : Nat → zK) : Nat → zK
  | 0 => k_X7_seen_0 X Q
  | _ => fun _ _ _ => False
def T_X7_seen : zTy := fun vs σ Q => zok 1 vs = true ∧ zFix (F_X7_seen Q) 0 (zlc vs) [] σ
def k_X7_pewOf_0 (X : Nat → zK) (Q : zQ) : zK := i_ic 9 <| i_al 0 <| i_gf 7 2 <| i_gfig <| i_il 1 <| i_fig <| i_idiv <| i_ic 10 <| i_irem <| i_isub <| i_ir Q
def F_X7_pewOf (Q : zQ) (X : Nat → zK) : Nat → zK
  | 0 => k_X7_pewOf_0 X Q
  | _ => fun _ _ _ => False
def T_X7_pewOf : zTy := fun vs σ Q => zok 2 vs = true ∧ zFix (F_X7_pewOf Q) 0 (zlc vs) [] σ
def k_X10_kneelsAt_0 (X : Nat → zK) (Q : zQ) : zK := i_il 1 <| i_ifeq (i_ic 0 <| i_zr Q) <| i_il 2 <| i_ifeq (i_ic 0 <| i_zr Q) <| i_ic 1 <| i_zr Q
def F_X10_kneelsAt (Q : zQ) (X : Nat → zK) : Nat → zK
  | 0 => k_X10_kneelsAt_0 X Q
  | _ => fun _ _ _ => False
def T_X10_kneelsAt : zTy := fun vs σ Q => zok 3 vs = true ∧ zFix (F_X10_kneelsAt Q) 0 (zlc vs) [] σ
def k_X10_sound_0 (X : Nat → zK) (Q : zQ) : zK := i_ic 0 <| i_al 0 <| i_il 1 <| i_il 2 <| i_cu 3 T_X6_sound <| i_ic 1 <| i_isub <| i_mmax <| i_ir Q
def F_X10_sound (Q : zQ) (X : Nat → zK) : Nat → zK
  | 0 => k_X10_sound_0 X Q
  | _ => fun _ _ _ => False
def T_X10_sound : zTy := fun vs σ Q => zok 3 vs = true ∧ zFix (F_X10_sound Q) 0 (zlc vs) [] σ
def D_kneelsAt : Nat → zTy
  | 0 => T_X6_kneelsAt
  | 2 => T_X2_kneelsAt
  | 4 => T_X4_kneelsAt
  | 5 => T_X6_kneelsAt
  | 6 => T_X6_kneelsAt
  | 10 => T_X10_kneelsAt
  | _ => fun _ _ _ => False
def D_sound : Nat → zTy
  | 0 => T_X5_sound
  | 2 => T_X6_sound
  | 4 => T_X6_sound
  | 5 => T_X5_sound
  | 6 => T_X6_sound
  | 10 => T_X10_sound
  | _ => fun _ _ _ => False
def D_height : Nat → zTy
  | 0 => T_X0_height
  | 2 => T_X6_height
  | 4 => T_X4_height
  | 5 => T_X6_height
  | 6 => T_X6_height
  | 10 => T_X6_height
  | _ => fun _ _ _ => False
def k_X8_suppose_0 (X : Nat → zK) (Q : zQ) : zK := i_al 0 <| i_gf 8 0 <| i_il 3 <| i_aa <| i_as 5 <| i_al 0 <| i_gf 8 3 <| i_il 2 <| i_il 4 <| i_iast <| i_ic 0 <| i_is 6 <| i_jmp X 1 [true, true, true, false, true, true, true]
def k_X8_suppose_1 (X : Nat → zK) (Q : zQ) : zK := i_il 6 <| i_ic 4 <| i_cmpge (i_vr Q) <| i_il 2 <| i_ic 4 <| i_imul <| i_il 6 <| i_iadd <| i_is 7 <| i_al 0 <| i_gf 8 5 <| i_il 7 <| i_al 5 <| i_il 6 <| i_il 4 <| i_call 2 T_X11_bit <| i_ic 1 <| i_cmpne (i_ic 0 <| i_jmp X 2 [true, true, true, false, true, true, true, true]) <| i_ic 1 <| i_jmp X 2 [true, true, true, false, true, true, true, true]
def k_X8_suppose_2 (X : Nat → zK) (Q : zQ) : zK := i_il 6 <| i_ic 1 <| i_il 4 <| i_isub <| i_call 2 T_X11_bit <| i_ic 1 <| i_cmpne (i_ic 0 <| i_jmp X 3 [true, true, true, false, true, true, true, true]) <| i_ic 1 <| i_jmp X 3 [true, true, true, false, true, true, true, true]
def k_X8_suppose_3 (X : Nat → zK) (Q : zQ) : zK := i_cd 3 D_kneelsAt <| i_bast <| i_al 0 <| i_gf 8 6 <| i_il 7 <| i_al 5 <| i_al 1 <| i_gf 1 5 <| i_il 2 <| i_ia <| i_al 0 <| i_gf 8 5 <| i_il 7 <| i_ba <| i_cd 3 D_height <| i_iast <| i_al 0 <| i_gf 8 7 <| i_il 7 <| i_al 5 <| i_al 1 <| i_gf 1 6 <| i_il 2 <| i_ia <| i_al 0 <| i_gf 8 5 <| i_il 7 <| i_ba <| i_cd 3 D_sound <| i_iast <| i_inc 6 1 <| i_jmp X 1 [true, true, true, false, true, true, true]
def F_X8_suppose (Q : zQ) (X : Nat → zK) : Nat → zK
  | 0 => k_X8_suppose_0 X Q
  | 1 => k_X8_suppose_1 X Q
  | 2 => k_X8_suppose_2 X Q
  | 3 => k_X8_suppose_3 X Q
  | _ => fun _ _ _ => False
def T_X8_suppose : zTy := fun vs σ Q => zok 8 vs = true ∧ zFix (F_X8_suppose Q) 0 (zlc vs) [] σ
def k_X8_hold_0 (X : Nat → zK) (Q : zQ) : zK := i_al 0 <| i_al 1 <| i_gf 1 2 <| i_pf 8 1 <| i_al 0 <| i_al 1 <| i_gf 1 0 <| i_pf 8 2 <| i_al 0 <| i_gf 8 9 <| i_ic 0 <| i_call 2 T_J7_fill_53178 <| i_ic 0 <| i_is 2 <| i_jmp X 1 [true, true, true]
def k_X8_hold_1 (X : Nat → zK) (Q : zQ) : zK := i_il 2 <| i_ic 16 <| i_cmpge (i_ic 0 <| i_is 2 <| i_jmp X 2 [true, true, true]) <| i_al 0 <| i_gf 8 8 <| i_il 2 <| i_al 1 <| i_gf 1 1 <| i_ic 0 <| i_ia <| i_il 2 <| i_call 2 T_X11_bit <| i_al 1 <| i_gf 1 1 <| i_ic 1 <| i_ia <| i_il 2 <| i_call 2 T_X11_bit <| i_ic 1 <| i_ishl <| i_ior <| i_iast <| i_al 0 <| i_gf 8 9 <| i_al 0 <| i_gf 8 8 <| i_il 2 <| i_ia <| i_dup2 <| i_ia <| i_ic 1 <| i_iadd <| i_iast <| i_inc 2 1 <| i_jmp X 1 [true, true, true]
def k_X8_hold_2 (X : Nat → zK) (Q : zQ) : zK := i_il 2 <| i_al 0 <| i_gf 8 1 <| i_cmpge (i_vr Q) <| i_al 0 <| i_gf 8 4 <| i_il 2 <| i_al 1 <| i_gf 1 7 <| i_il 2 <| i_ia <| i_iast <| i_al 0 <| i_al 1 <| i_il 2 <| i_al 1 <| i_gf 1 3 <| i_il 2 <| i_ia <| i_al 1 <| i_gf 1 4 <| i_il 2 <| i_ia <| i_cv 8 5 T_X8_suppose <| i_inc 2 1 <| i_jmp X 2 [true, true, true]
def F_X8_hold (Q : zQ) (X : Nat → zK) : Nat → zK
  | 0 => k_X8_hold_0 X Q
  | 1 => k_X8_hold_1 X Q
  | 2 => k_X8_hold_2 X Q
  | _ => fun _ _ _ => False
def T_X8_hold : zTy := fun vs σ Q => zok 3 vs = true ∧ zFix (F_X8_hold Q) 0 (zlc vs) [] σ
def k_X8_kneels_0 (X : Nat → zK) (Q : zQ) : zK := i_al 0 <| i_gf 8 5 <| i_il 1 <| i_ic 4 <| i_imul <| i_al 0 <| i_gf 8 8 <| i_il 2 <| i_ia <| i_iadd <| i_ba <| i_zr Q
def F_X8_kneels (Q : zQ) (X : Nat → zK) : Nat → zK
  | 0 => k_X8_kneels_0 X Q
  | _ => fun _ _ _ => False
def T_X8_kneels : zTy := fun vs σ Q => zok 3 vs = true ∧ zFix (F_X8_kneels Q) 0 (zlc vs) [] σ
def k_X8_high_0 (X : Nat → zK) (Q : zQ) : zK := i_al 0 <| i_gf 8 6 <| i_il 1 <| i_ic 4 <| i_imul <| i_al 0 <| i_gf 8 8 <| i_il 2 <| i_ia <| i_iadd <| i_ia <| i_ir Q
def F_X8_high (Q : zQ) (X : Nat → zK) : Nat → zK
  | 0 => k_X8_high_0 X Q
  | _ => fun _ _ _ => False
def T_X8_high : zTy := fun vs σ Q => zok 3 vs = true ∧ zFix (F_X8_high Q) 0 (zlc vs) [] σ
def k_X8_voices_0 (X : Nat → zK) (Q : zQ) : zK := i_il 3 <| i_il 1 <| i_call 2 T_X11_bit <| i_ic 1 <| i_cmpne (i_al 0 <| i_gf 8 7 <| i_il 1 <| i_ic 4 <| i_imul <| i_al 0 <| i_gf 8 8 <| i_il 2 <| i_ia <| i_iadd <| i_ia <| i_ir Q) <| i_ic 0 <| i_ir Q
def F_X8_voices (Q : zQ) (X : Nat → zK) : Nat → zK
  | 0 => k_X8_voices_0 X Q
  | _ => fun _ _ _ => False
def T_X8_voices : zTy := fun vs σ Q => zok 4 vs = true ∧ zFix (F_X8_voices Q) 0 (zlc vs) [] σ
def k_X8_sees_0 (X : Nat → zK) (Q : zQ) : zK := i_ic 0 <| i_is 3 <| i_jmp X 1 [true, true, true, true]
def k_X8_sees_1 (X : Nat → zK) (Q : zQ) : zK := i_il 3 <| i_al 0 <| i_gf 8 1 <| i_cmpge (i_ic 1 <| i_zr Q) <| i_al 0 <| i_gf 8 4 <| i_il 3 <| i_ia <| i_al 0 <| i_gf 8 4 <| i_il 1 <| i_ia <| i_cmpge (i_jmp X 2 [true, true, true, true]) <| i_al 0 <| i_il 3 <| i_il 2 <| i_cv 8 3 T_X8_high <| i_al 0 <| i_il 1 <| i_il 2 <| i_cv 8 3 T_X8_high <| i_cmplt (i_jmp X 2 [true, true, true, true]) <| i_ic 0 <| i_zr Q
def k_X8_sees_2 (X : Nat → zK) (Q : zQ) : zK := i_inc 3 1 <| i_jmp X 1 [true, true, true, true]
def F_X8_sees (Q : zQ) (X : Nat → zK) : Nat → zK
  | 0 => k_X8_sees_0 X Q
  | 1 => k_X8_sees_1 X Q
  | 2 => k_X8_sees_2 X Q
  | _ => fun _ _ _ => False
def T_X8_sees : zTy := fun vs σ Q => zok 4 vs = true ∧ zFix (F_X8_sees Q) 0 (zlc vs) [] σ
def k_X8_isPeacefulInCase_0 (X : Nat → zK) (Q : zQ) : zK := i_al 0 <| i_il 1 <| i_ic 0 <| i_il 2 <| i_cv 8 4 T_X8_loudnessInCase <| i_al 0 <| i_il 1 <| i_ic 1 <| i_il 2 <| i_cv 8 4 T_X8_loudnessInCase <| i_isub <| i_mabs <| i_al 0 <| i_gf 8 2 <| i_cmpgt (i_ic 0 <| i_zr Q) <| i_ic 1 <| i_zr Q
def F_X8_isPeacefulInCase (Q : zQ) (X : Nat → zK) : Nat → zK
  | 0 => k_X8_isPeacefulInCase_0 X Q
  | _ => fun _ _ _ => False
def T_X8_isPeacefulInCase : zTy := fun vs σ Q => zok 3 vs = true ∧ zFix (F_X8_isPeacefulInCase Q) 0 (zlc vs) [] σ
def k_X8_isPeaceful_0 (X : Nat → zK) (Q : zQ) : zK := i_al 0 <| i_al 0 <| i_gf 8 8 <| i_il 1 <| i_ia <| i_il 2 <| i_cv 8 3 T_X8_isPeacefulInCase <| i_zr Q
def F_X8_isPeaceful (Q : zQ) (X : Nat → zK) : Nat → zK
  | 0 => k_X8_isPeaceful_0 X Q
  | _ => fun _ _ _ => False
def T_X8_isPeaceful : zTy := fun vs σ Q => zok 3 vs = true ∧ zFix (F_X8_isPeaceful Q) 0 (zlc vs) [] σ
def k_X8_peacefulWords_0 (X : Nat → zK) (Q : zQ) : zK := i_ic 0 <| i_is 2 <| i_ic 0 <| i_is 3 <| i_jmp X 1 [true, true, true, true]
def k_X8_peacefulWords_1 (X : Nat → zK) (Q : zQ) : zK := i_il 3 <| i_ic 4 <| i_cmpge (i_il 2 <| i_ir Q) <| i_al 0 <| i_gf 8 9 <| i_il 3 <| i_ia <| i_ifle (i_jmp X 2 [true, true, true, true]) <| i_al 0 <| i_il 3 <| i_il 1 <| i_cv 8 3 T_X8_isPeacefulInCase <| i_ifeq (i_jmp X 2 [true, true, true, true]) <| i_il 2 <| i_al 0 <| i_gf 8 9 <| i_il 3 <| i_ia <| i_iadd <| i_is 2 <| i_jmp X 2 [true, true, true, true]
def k_X8_peacefulWords_2 (X : Nat → zK) (Q : zQ) : zK := i_inc 3 1 <| i_jmp X 1 [true, true, true, true]
def F_X8_peacefulWords (Q : zQ) (X : Nat → zK) : Nat → zK
  | 0 => k_X8_peacefulWords_0 X Q
  | 1 => k_X8_peacefulWords_1 X Q
  | 2 => k_X8_peacefulWords_2 X Q
  | _ => fun _ _ _ => False
def T_X8_peacefulWords : zTy := fun vs σ Q => zok 4 vs = true ∧ zFix (F_X8_peacefulWords Q) 0 (zlc vs) [] σ
def k_X8_isPeacefulThroughout_0 (X : Nat → zK) (Q : zQ) : zK := i_ic 0 <| i_is 2 <| i_jmp X 1 [true, true, true]
def k_X8_isPeacefulThroughout_1 (X : Nat → zK) (Q : zQ) : zK := i_il 2 <| i_ic 4 <| i_cmpge (i_ic 1 <| i_zr Q) <| i_al 0 <| i_gf 8 9 <| i_il 2 <| i_ia <| i_ifle (i_jmp X 2 [true, true, true]) <| i_al 0 <| i_il 2 <| i_il 1 <| i_cv 8 3 T_X8_isPeacefulInCase <| i_ifne (i_jmp X 2 [true, true, true]) <| i_ic 0 <| i_zr Q
def k_X8_isPeacefulThroughout_2 (X : Nat → zK) (Q : zQ) : zK := i_inc 2 1 <| i_jmp X 1 [true, true, true]
def F_X8_isPeacefulThroughout (Q : zQ) (X : Nat → zK) : Nat → zK
  | 0 => k_X8_isPeacefulThroughout_0 X Q
  | 1 => k_X8_isPeacefulThroughout_1 X Q
  | 2 => k_X8_isPeacefulThroughout_2 X Q
  | _ => fun _ _ _ => False
def T_X8_isPeacefulThroughout : zTy := fun vs σ Q => zok 3 vs = true ∧ zFix (F_X8_isPeacefulThroughout Q) 0 (zlc vs) [] σ
def k_X9_append_0 (X : Nat → zK) (Q : zQ) : zK := i_al 0 <| i_gf 9 0 <| i_al 0 <| i_gf 9 1 <| i_il 1 <| i_iast <| i_al 0 <| i_dup <| i_gf 9 1 <| i_ic 1 <| i_iadd <| i_pf 9 1 <| i_al 0 <| i_gf 9 1 <| i_ir Q
def F_X9_append (Q : zQ) (X : Nat → zK) : Nat → zK
  | 0 => k_X9_append_0 X Q
  | _ => fun _ _ _ => False
def T_X9_append : zTy := fun vs σ Q => zok 2 vs = true ∧ zFix (F_X9_append Q) 0 (zlc vs) [] σ
def k_X9_figures_0 (X : Nat → zK) (Q : zQ) : zK := i_al 0 <| i_gf 9 4 <| i_al 0 <| i_gf 9 3 <| i_isub <| i_ic 2 <| i_cmple (i_ic 0 <| i_is 1 <| i_al 0 <| i_gf 9 3 <| i_is 2 <| i_jmp X 1 [true, true, true]) <| i_ic (-1) <| i_ir Q
def k_X9_figures_1 (X : Nat → zK) (Q : zQ) : zK := i_il 2 <| i_al 0 <| i_gf 9 4 <| i_cmpge (i_il 1 <| i_ir Q) <| i_il 1 <| i_ic 10 <| i_imul <| i_al 0 <| i_gf 9 0 <| i_il 2 <| i_ia <| i_iadd <| i_ic 48 <| i_isub <| i_is 1 <| i_inc 2 1 <| i_jmp X 1 [true, true, true]
def F_X9_figures (Q : zQ) (X : Nat → zK) : Nat → zK
  | 0 => k_X9_figures_0 X Q
  | 1 => k_X9_figures_1 X Q
  | _ => fun _ _ _ => False
def T_X9_figures : zTy := fun vs σ Q => zok 3 vs = true ∧ zFix (F_X9_figures Q) 0 (zlc vs) [] σ
def k_X9_sortOf_0 (X : Nat → zK) (Q : zQ) : zK := i_il 0 <| i_ic 97 <| i_cmplt (i_jmp X 1 [true]) <| i_il 0 <| i_ic 122 <| i_cmpgt (i_jmp X 1 [true]) <| i_ic 1 <| i_ir Q
def k_X9_sortOf_1 (X : Nat → zK) (Q : zQ) : zK := i_il 0 <| i_ic 48 <| i_cmplt (i_jmp X 2 [true]) <| i_il 0 <| i_ic 57 <| i_cmpgt (i_jmp X 2 [true]) <| i_ic 2 <| i_ir Q
def k_X9_sortOf_2 (X : Nat → zK) (Q : zQ) : zK := i_il 0 <| i_ic 59 <| i_cmpne (i_ic 4 <| i_ir Q) <| i_ic 3 <| i_ir Q
def F_X9_sortOf (Q : zQ) (X : Nat → zK) : Nat → zK
  | 0 => k_X9_sortOf_0 X Q
  | 1 => k_X9_sortOf_1 X Q
  | 2 => k_X9_sortOf_2 X Q
  | _ => fun _ _ _ => False
def T_X9_sortOf : zTy := fun vs σ Q => zok 1 vs = true ∧ zFix (F_X9_sortOf Q) 0 (zlc vs) [] σ
def k_X9_advance_0 (X : Nat → zK) (Q : zQ) : zK := i_al 0 <| i_al 0 <| i_gf 9 4 <| i_pf 9 3 <| i_jmp X 1 [true]
def k_X9_advance_1 (X : Nat → zK) (Q : zQ) : zK := i_al 0 <| i_gf 9 3 <| i_al 0 <| i_gf 9 1 <| i_cmpge (i_jmp X 2 [true]) <| i_al 0 <| i_gf 9 0 <| i_al 0 <| i_gf 9 3 <| i_ia <| i_ic 32 <| i_cmpne (i_jmp X 2 [true]) <| i_al 0 <| i_dup <| i_gf 9 3 <| i_ic 1 <| i_iadd <| i_pf 9 3 <| i_jmp X 1 [true]
def k_X9_advance_2 (X : Nat → zK) (Q : zQ) : zK := i_al 0 <| i_al 0 <| i_gf 9 3 <| i_pf 9 4 <| i_al 0 <| i_gf 9 3 <| i_al 0 <| i_gf 9 1 <| i_cmplt (i_al 0 <| i_al 0 <| i_gf 9 0 <| i_al 0 <| i_gf 9 3 <| i_ia <| i_call 1 T_X9_sortOf <| i_pf 9 2 <| i_al 0 <| i_dup <| i_gf 9 4 <| i_ic 1 <| i_iadd <| i_pf 9 4 <| i_al 0 <| i_gf 9 2 <| i_ic 1 <| i_cmpeq (i_jmp X 3 [true]) <| i_al 0 <| i_gf 9 2 <| i_ic 2 <| i_cmpne (i_ic 0 <| i_jmp X 4 [true]) <| i_jmp X 3 [true]) <| i_al 0 <| i_ic 0 <| i_pf 9 2 <| i_vr Q
def k_X9_advance_3 (X : Nat → zK) (Q : zQ) : zK := i_ic 1 <| i_jmp X 4 [true]
def k_X9_advance_4 (X : Nat → zK) (Q : zQ) : zK := i_is 1 <| i_jmp X 5 [true, true]
def k_X9_advance_5 (X : Nat → zK) (Q : zQ) : zK := i_il 1 <| i_ifeq (i_jmp X 6 [true]) <| i_al 0 <| i_gf 9 4 <| i_al 0 <| i_gf 9 1 <| i_cmpge (i_jmp X 6 [true]) <| i_al 0 <| i_gf 9 0 <| i_al 0 <| i_gf 9 4 <| i_ia <| i_call 1 T_X9_sortOf <| i_al 0 <| i_gf 9 2 <| i_cmpne (i_jmp X 6 [true]) <| i_al 0 <| i_dup <| i_gf 9 4 <| i_ic 1 <| i_iadd <| i_pf 9 4 <| i_jmp X 5 [true, true]
def k_X9_advance_6 (X : Nat → zK) (Q : zQ) : zK := i_al 0 <| i_al 0 <| i_gf 9 2 <| i_ic 2 <| i_cmpne (i_ic (-1) <| i_pf 9 5 <| i_vr Q) <| i_al 0 <| i_cv 9 1 T_X9_figures <| i_pf 9 5 <| i_vr Q
def F_X9_advance (Q : zQ) (X : Nat → zK) : Nat → zK
  | 0 => k_X9_advance_0 X Q
  | 1 => k_X9_advance_1 X Q
  | 2 => k_X9_advance_2 X Q
  | 3 => k_X9_advance_3 X Q
  | 4 => k_X9_advance_4 X Q
  | 5 => k_X9_advance_5 X Q
  | 6 => k_X9_advance_6 X Q
  | _ => fun _ _ _ => False
def T_X9_advance : zTy := fun vs σ Q => zok 2 vs = true ∧ zFix (F_X9_advance Q) 0 (zlc vs) [] σ
def k_J0_isLatin1_aae02_0 (X : Nat → zK) (Q : zQ) : zK := i_ic 1 <| i_ifeq (i_ic 0 <| i_zr Q) <| i_al 0 <| i_gcod <| i_ifne (i_ic 0 <| i_zr Q) <| i_ic 1 <| i_zr Q
def F_J0_isLatin1_aae02 (Q : zQ) (X : Nat → zK) : Nat → zK
  | 0 => k_J0_isLatin1_aae02_0 X Q
  | _ => fun _ _ _ => False
def T_J0_isLatin1_aae02 : zTy := fun vs σ Q => zok 1 vs = true ∧ zFix (F_J0_isLatin1_aae02 Q) 0 (zlc vs) [] σ
def k_J1_charAt_3b067_0 (X : Nat → zK) (Q : zQ) : zK := i_il 1 <| i_al 0 <| i_blen <| i_call 2 T_J0_checkIndex_df160 <| i_al 0 <| i_il 1 <| i_by <| i_ic 255 <| i_iand <| i_i2c <| i_nr .char Q
def F_J1_charAt_3b067 (Q : zQ) (X : Nat → zK) : Nat → zK
  | 0 => k_J1_charAt_3b067_0 X Q
  | _ => fun _ _ _ => False
def T_J1_charAt_3b067 : zTy := fun vs σ Q => zok 2 vs = true ∧ zFix (F_J1_charAt_3b067 Q) 0 (zlc vs) [] σ
def k_J0_charAt_5068e_0 (X : Nat → zK) (Q : zQ) : zK := i_al 0 <| i_cs 1 T_J0_isLatin1_aae02 <| i_ifeq (i_no) <| i_al 0 <| i_gval <| i_il 1 <| i_call 2 T_J1_charAt_3b067 <| i_nr .char Q
def F_J0_charAt_5068e (Q : zQ) (X : Nat → zK) : Nat → zK
  | 0 => k_J0_charAt_5068e_0 X Q
  | _ => fun _ _ _ => False
def T_J0_charAt_5068e : zTy := fun vs σ Q => zok 2 vs = true ∧ zFix (F_J0_charAt_5068e Q) 0 (zlc vs) [] σ
def k_J0_coder_7d493_0 (X : Nat → zK) (Q : zQ) : zK := i_ic 1 <| i_ifeq (i_ic 1 <| i_nr .byte Q) <| i_al 0 <| i_gcod <| i_nr .byte Q
def F_J0_coder_7d493 (Q : zQ) (X : Nat → zK) : Nat → zK
  | 0 => k_J0_coder_7d493_0 X Q
  | _ => fun _ _ _ => False
def T_J0_coder_7d493 : zTy := fun vs σ Q => zok 1 vs = true ∧ zFix (F_J0_coder_7d493 Q) 0 (zlc vs) [] σ
def k_J0_length_8abf5_0 (X : Nat → zK) (Q : zQ) : zK := i_al 0 <| i_gval <| i_blen <| i_al 0 <| i_cs 1 T_J0_coder_7d493 <| i_ishr <| i_ir Q
def F_J0_length_8abf5 (Q : zQ) (X : Nat → zK) : Nat → zK
  | 0 => k_J0_length_8abf5_0 X Q
  | _ => fun _ _ _ => False
def T_J0_length_8abf5 : zTy := fun vs σ Q => zok 1 vs = true ∧ zFix (F_J0_length_8abf5 Q) 0 (zlc vs) [] σ
def k_X9_says_0 (X : Nat → zK) (Q : zQ) : zK := i_al 0 <| i_gf 9 2 <| i_ic 1 <| i_cmpne (i_ic 0 <| i_zr Q) <| i_al 0 <| i_gf 9 4 <| i_al 0 <| i_gf 9 3 <| i_isub <| i_al 1 <| i_cs 1 T_J0_length_8abf5 <| i_cmpeq (i_ic 0 <| i_is 2 <| i_jmp X 1 [true, true, true]) <| i_ic 0 <| i_zr Q
def k_X9_says_1 (X : Nat → zK) (Q : zQ) : zK := i_il 2 <| i_al 1 <| i_cs 1 T_J0_length_8abf5 <| i_cmpge (i_ic 1 <| i_zr Q) <| i_al 0 <| i_gf 9 0 <| i_al 0 <| i_gf 9 3 <| i_il 2 <| i_iadd <| i_ia <| i_al 1 <| i_il 2 <| i_cs 2 T_J0_charAt_5068e <| i_cmpeq (i_inc 2 1 <| i_jmp X 1 [true, true, true]) <| i_ic 0 <| i_zr Q
def F_X9_says (Q : zQ) (X : Nat → zK) : Nat → zK
  | 0 => k_X9_says_0 X Q
  | 1 => k_X9_says_1 X Q
  | _ => fun _ _ _ => False
def T_X9_says : zTy := fun vs σ Q => zok 3 vs = true ∧ zFix (F_X9_says Q) 0 (zlc vs) [] σ
def k_X11_within_0 (X : Nat → zK) (Q : zQ) : zK := i_il 0 <| i_il 1 <| i_cmplt (i_ic 0 <| i_zr Q) <| i_il 0 <| i_il 2 <| i_cmpgt (i_ic 0 <| i_zr Q) <| i_ic 1 <| i_zr Q
def F_X11_within (Q : zQ) (X : Nat → zK) : Nat → zK
  | 0 => k_X11_within_0 X Q
  | _ => fun _ _ _ => False
def T_X11_within : zTy := fun vs σ Q => zok 3 vs = true ∧ zFix (F_X11_within Q) 0 (zlc vs) [] σ
def k_X9_isNumber_0 (X : Nat → zK) (Q : zQ) : zK := i_al 0 <| i_gf 9 2 <| i_ic 2 <| i_cmpne (i_ic 0 <| i_zr Q) <| i_al 0 <| i_gf 9 5 <| i_il 1 <| i_il 2 <| i_call 3 T_X11_within <| i_ifeq (i_ic 0 <| i_zr Q) <| i_ic 1 <| i_zr Q
def F_X9_isNumber (Q : zQ) (X : Nat → zK) : Nat → zK
  | 0 => k_X9_isNumber_0 X Q
  | _ => fun _ _ _ => False
def T_X9_isNumber : zTy := fun vs σ Q => zok 3 vs = true ∧ zFix (F_X9_isNumber Q) 0 (zlc vs) [] σ
def k_X9_takesNumber_0 (X : Nat → zK) (Q : zQ) : zK := i_al 0 <| i_cv 9 1 T_X9_advance <| i_al 0 <| i_il 1 <| i_il 2 <| i_cv 9 3 T_X9_isNumber <| i_zr Q
def F_X9_takesNumber (Q : zQ) (X : Nat → zK) : Nat → zK
  | 0 => k_X9_takesNumber_0 X Q
  | _ => fun _ _ _ => False
def T_X9_takesNumber : zTy := fun vs σ Q => zok 3 vs = true ∧ zFix (F_X9_takesNumber Q) 0 (zlc vs) [] σ
def k_X9_takesBook_0 (X : Nat → zK) (Q : zQ) : zK := i_al 0 <| i_ic 0 <| i_ic 1 <| i_cv 9 3 T_X9_takesNumber <| i_ifne (i_al 0 <| i_gf 9 5 <| i_is 2 <| i_ic 0 <| i_is 3 <| i_al 0 <| i_cv 9 1 T_X9_advance <| i_ic 0 <| i_is 4 <| i_jmp X 1 [true, true, true, true, true]) <| i_ic 0 <| i_zr Q
def k_X9_takesBook_1 (X : Nat → zK) (Q : zQ) : zK := i_il 4 <| i_ic 150 <| i_cmpge (i_jmp X 2 [true, true, true, true]) <| i_al 0 <| i_gf 9 2 <| i_ic 2 <| i_cmpne (i_jmp X 2 [true, true, true, true]) <| i_al 0 <| i_ic 0 <| i_ic 15 <| i_cv 9 3 T_X9_isNumber <| i_ifne (i_il 3 <| i_ic 1 <| i_al 0 <| i_gf 9 5 <| i_ishl <| i_ior <| i_is 3 <| i_al 0 <| i_cv 9 1 T_X9_advance <| i_inc 4 1 <| i_jmp X 1 [true, true, true, true, true]) <| i_ic 0 <| i_zr Q
def k_X9_takesBook_2 (X : Nat → zK) (Q : zQ) : zK := i_al 1 <| i_gf 1 1 <| i_il 2 <| i_il 3 <| i_iast <| i_al 0 <| i_gf 9 2 <| i_ic 3 <| i_cmpne (i_ic 0 <| i_zr Q) <| i_ic 1 <| i_zr Q
def F_X9_takesBook (Q : zQ) (X : Nat → zK) : Nat → zK
  | 0 => k_X9_takesBook_0 X Q
  | 1 => k_X9_takesBook_1 X Q
  | 2 => k_X9_takesBook_2 X Q
  | _ => fun _ _ _ => False
def T_X9_takesBook : zTy := fun vs σ Q => zok 5 vs = true ∧ zFix (F_X9_takesBook Q) 0 (zlc vs) [] σ
def k_X9_takesStop_0 (X : Nat → zK) (Q : zQ) : zK := i_al 0 <| i_cv 9 1 T_X9_advance <| i_al 0 <| i_gf 9 2 <| i_ic 3 <| i_cmpne (i_ic 0 <| i_zr Q) <| i_ic 1 <| i_zr Q
def F_X9_takesStop (Q : zQ) (X : Nat → zK) : Nat → zK
  | 0 => k_X9_takesStop_0 X Q
  | _ => fun _ _ _ => False
def T_X9_takesStop : zTy := fun vs σ Q => zok 1 vs = true ∧ zFix (F_X9_takesStop Q) 0 (zlc vs) [] σ
def k_X9_takesCold_0 (X : Nat → zK) (Q : zQ) : zK := i_al 0 <| i_ic 0 <| i_al 1 <| i_gf 1 2 <| i_ic 1 <| i_isub <| i_cv 9 3 T_X9_takesNumber <| i_ifne (i_al 1 <| i_dup <| i_gf 1 8 <| i_ic 1 <| i_al 0 <| i_gf 9 5 <| i_ishl <| i_ior <| i_pf 1 8 <| i_al 0 <| i_cv 9 1 T_X9_takesStop <| i_zr Q) <| i_ic 0 <| i_zr Q
def F_X9_takesCold (Q : zQ) (X : Nat → zK) : Nat → zK
  | 0 => k_X9_takesCold_0 X Q
  | _ => fun _ _ _ => False
def T_X9_takesCold : zTy := fun vs σ Q => zok 2 vs = true ∧ zFix (F_X9_takesCold Q) 0 (zlc vs) [] σ
def k_X11_isPewOf_0 (X : Nat → zK) (Q : zQ) : zK := i_il 0 <| i_ic 0 <| i_ic 9 <| i_call 3 T_X11_within <| i_ifeq (i_ic 0 <| i_zr Q) <| i_il 0 <| i_ic 2 <| i_irem <| i_il 1 <| i_cmpne (i_ic 0 <| i_zr Q) <| i_ic 1 <| i_zr Q
def F_X11_isPewOf (Q : zQ) (X : Nat → zK) : Nat → zK
  | 0 => k_X11_isPewOf_0 X Q
  | _ => fun _ _ _ => False
def T_X11_isPewOf : zTy := fun vs σ Q => zok 2 vs = true ∧ zFix (F_X11_isPewOf Q) 0 (zlc vs) [] σ
def k_X9_takesFamily_0 (X : Nat → zK) (Q : zQ) : zK := i_al 1 <| i_gf 1 2 <| i_ic 7 <| i_cmpge (i_ic 0 <| i_zr Q) <| i_al 0 <| i_ic 0 <| i_ic 5 <| i_cv 9 3 T_X9_takesNumber <| i_ifne (i_al 0 <| i_gf 9 5 <| i_is 2 <| i_al 0 <| i_ic 0 <| i_ic 1 <| i_cv 9 3 T_X9_takesNumber <| i_ifne (i_al 0 <| i_gf 9 5 <| i_is 3 <| i_al 0 <| i_ic 1 <| i_ic 9 <| i_cv 9 3 T_X9_takesNumber <| i_ifne (i_al 0 <| i_gf 9 5 <| i_is 4 <| i_al 0 <| i_ic 1 <| i_ic 20 <| i_cv 9 3 T_X9_takesNumber <| i_ifne (i_al 0 <| i_gf 9 5 <| i_is 5 <| i_al 0 <| i_ic 0 <| i_ic 9 <| i_cv 9 3 T_X9_takesNumber <| i_ifeq (i_ic 0 <| i_zr Q) <| i_al 0 <| i_gf 9 5 <| i_il 3 <| i_call 2 T_X11_isPewOf <| i_ifeq (i_ic 0 <| i_zr Q) <| i_al 1 <| i_al 0 <| i_gf 9 5 <| i_cv 1 2 T_X1_isTaken <| i_ifeq (i_al 1 <| i_il 2 <| i_il 3 <| i_il 4 <| i_il 5 <| i_al 0 <| i_gf 9 5 <| i_cv 1 6 T_X1_admit <| i_pop <| i_al 0 <| i_cv 9 1 T_X9_takesStop <| i_zr Q) <| i_ic 0 <| i_zr Q) <| i_ic 0 <| i_zr Q) <| i_ic 0 <| i_zr Q) <| i_ic 0 <| i_zr Q) <| i_ic 0 <| i_zr Q
def F_X9_takesFamily (Q : zQ) (X : Nat → zK) : Nat → zK
  | 0 => k_X9_takesFamily_0 X Q
  | _ => fun _ _ _ => False
def T_X9_takesFamily : zTy := fun vs σ Q => zok 6 vs = true ∧ zFix (F_X9_takesFamily Q) 0 (zlc vs) [] σ
def k_X9_takesItem_0 (X : Nat → zK) (Q : zQ) : zK := i_al 0 <| i_str 1 <| i_cv 9 2 T_X9_says <| i_ifeq (i_al 0 <| i_str 2 <| i_cv 9 2 T_X9_says <| i_ifeq (i_al 0 <| i_str 3 <| i_cv 9 2 T_X9_says <| i_ifeq (i_ic 0 <| i_zr Q) <| i_al 0 <| i_al 1 <| i_cv 9 2 T_X9_takesCold <| i_ifeq (i_ic 0 <| i_zr Q) <| i_ic 1 <| i_zr Q) <| i_al 0 <| i_al 1 <| i_cv 9 2 T_X9_takesFamily <| i_zr Q) <| i_al 0 <| i_al 1 <| i_cv 9 2 T_X9_takesBook <| i_zr Q
def F_X9_takesItem (Q : zQ) (X : Nat → zK) : Nat → zK
  | 0 => k_X9_takesItem_0 X Q
  | _ => fun _ _ _ => False
def T_X9_takesItem : zTy := fun vs σ Q => zok 2 vs = true ∧ zFix (F_X9_takesItem Q) 0 (zlc vs) [] σ
def k_X9_tell_0 (X : Nat → zK) (Q : zQ) : zK := i_al 0 <| i_ic 0 <| i_pf 9 4 <| i_al 0 <| i_cv 9 1 T_X9_advance <| i_al 0 <| i_str 0 <| i_cv 9 2 T_X9_says <| i_ifeq (i_jmp X 1 [true]) <| i_al 0 <| i_ic 0 <| i_ic 30 <| i_cv 9 3 T_X9_takesNumber <| i_ifne (i_al 1 <| i_al 0 <| i_gf 9 5 <| i_cv 1 2 T_X1_begin <| i_al 0 <| i_cv 9 1 T_X9_takesStop <| i_ifne (i_ic 1 <| i_is 2 <| i_al 0 <| i_cv 9 1 T_X9_advance <| i_jmp X 2 [true, true, true]) <| i_ic (-10) <| i_al 0 <| i_gf 9 3 <| i_isub <| i_ir Q) <| i_jmp X 1 [true]
def k_X9_tell_1 (X : Nat → zK) (Q : zQ) : zK := i_ic (-10) <| i_al 0 <| i_gf 9 3 <| i_isub <| i_ir Q
def k_X9_tell_2 (X : Nat → zK) (Q : zQ) : zK := i_al 0 <| i_gf 9 2 <| i_ifeq (i_il 2 <| i_ir Q) <| i_il 2 <| i_ic 150 <| i_cmpgt (i_il 2 <| i_ir Q) <| i_al 0 <| i_al 1 <| i_cv 9 2 T_X9_takesItem <| i_ifne (i_inc 2 1 <| i_al 0 <| i_cv 9 1 T_X9_advance <| i_jmp X 2 [true, true, true]) <| i_ic (-10) <| i_al 0 <| i_gf 9 3 <| i_isub <| i_ir Q
def F_X9_tell (Q : zQ) (X : Nat → zK) : Nat → zK
  | 0 => k_X9_tell_0 X Q
  | 1 => k_X9_tell_1 X Q
  | 2 => k_X9_tell_2 X Q
  | _ => fun _ _ _ => False
def T_X9_tell : zTy := fun vs σ Q => zok 3 vs = true ∧ zFix (F_X9_tell Q) 0 (zlc vs) [] σ
def k_X11_refuse_0 (X : Nat → zK) (Q : zQ) : zK := i_al 0 <| i_gf 11 8 <| i_ic (-2) <| i_il 1 <| i_isub <| i_dup2 <| i_ia <| i_ic 1 <| i_iadd <| i_iast <| i_il 1 <| i_ir Q
def F_X11_refuse (Q : zQ) (X : Nat → zK) : Nat → zK
  | 0 => k_X11_refuse_0 X Q
  | _ => fun _ _ _ => False
def T_X11_refuse : zTy := fun vs σ Q => zok 2 vs = true ∧ zFix (F_X11_refuse Q) 0 (zlc vs) [] σ
def k_X11_church_0 (X : Nat → zK) (Q : zQ) : zK := i_il 1 <| i_ic 0 <| i_ic 30 <| i_call 3 T_X11_within <| i_ifne (i_al 0 <| i_gf 11 0 <| i_gf 1 2 <| i_is 2 <| i_al 0 <| i_gf 11 0 <| i_il 1 <| i_cv 1 2 T_X1_begin <| i_il 2 <| i_ir Q) <| i_al 0 <| i_ic (-2) <| i_cv 11 2 T_X11_refuse <| i_ir Q
def F_X11_church (Q : zQ) (X : Nat → zK) : Nat → zK
  | 0 => k_X11_church_0 X Q
  | _ => fun _ _ _ => False
def T_X11_church : zTy := fun vs σ Q => zok 3 vs = true ∧ zFix (F_X11_church Q) 0 (zlc vs) [] σ
def k_X11_isBook_0 (X : Nat → zK) (Q : zQ) : zK := i_il 0 <| i_ic 0 <| i_ic 1 <| i_call 3 T_X11_within <| i_zr Q
def F_X11_isBook (Q : zQ) (X : Nat → zK) : Nat → zK
  | 0 => k_X11_isBook_0 X Q
  | _ => fun _ _ _ => False
def T_X11_isBook : zTy := fun vs σ Q => zok 1 vs = true ∧ zFix (F_X11_isBook Q) 0 (zlc vs) [] σ
def k_X11_book_0 (X : Nat → zK) (Q : zQ) : zK := i_il 1 <| i_call 1 T_X11_isBook <| i_ifeq (i_jmp X 1 [true]) <| i_il 2 <| i_ic 0 <| i_ic 65535 <| i_call 3 T_X11_within <| i_ifne (i_al 0 <| i_gf 11 0 <| i_gf 1 1 <| i_il 1 <| i_ia <| i_is 3 <| i_al 0 <| i_gf 11 0 <| i_gf 1 1 <| i_il 1 <| i_il 2 <| i_iast <| i_il 3 <| i_ir Q) <| i_jmp X 1 [true]
def k_X11_book_1 (X : Nat → zK) (Q : zQ) : zK := i_al 0 <| i_ic (-2) <| i_cv 11 2 T_X11_refuse <| i_ir Q
def F_X11_book (Q : zQ) (X : Nat → zK) : Nat → zK
  | 0 => k_X11_book_0 X Q
  | 1 => k_X11_book_1 X Q
  | _ => fun _ _ _ => False
def T_X11_book : zTy := fun vs σ Q => zok 4 vs = true ∧ zFix (F_X11_book Q) 0 (zlc vs) [] σ
def k_X11_family_0 (X : Nat → zK) (Q : zQ) : zK := i_il 1 <| i_ic 0 <| i_ic 5 <| i_call 3 T_X11_within <| i_ifeq (i_jmp X 1 [true]) <| i_il 2 <| i_call 1 T_X11_isBook <| i_ifeq (i_jmp X 1 [true]) <| i_il 3 <| i_ic 1 <| i_ic 9 <| i_call 3 T_X11_within <| i_ifeq (i_jmp X 1 [true]) <| i_il 4 <| i_ic 1 <| i_ic 20 <| i_call 3 T_X11_within <| i_ifeq (i_jmp X 1 [true]) <| i_il 5 <| i_il 2 <| i_call 2 T_X11_isPewOf <| i_ifne (i_al 0 <| i_gf 11 0 <| i_il 5 <| i_cv 1 2 T_X1_isTaken <| i_ifeq (i_al 0 <| i_gf 11 0 <| i_gf 1 2 <| i_ic 7 <| i_cmplt (i_al 0 <| i_gf 11 0 <| i_il 1 <| i_il 2 <| i_il 3 <| i_il 4 <| i_il 5 <| i_cv 1 6 T_X1_admit <| i_ir Q) <| i_al 0 <| i_ic (-4) <| i_cv 11 2 T_X11_refuse <| i_ir Q) <| i_al 0 <| i_ic (-3) <| i_cv 11 2 T_X11_refuse <| i_ir Q) <| i_jmp X 1 [true]
def k_X11_family_1 (X : Nat → zK) (Q : zQ) : zK := i_al 0 <| i_ic (-2) <| i_cv 11 2 T_X11_refuse <| i_ir Q
def F_X11_family (Q : zQ) (X : Nat → zK) : Nat → zK
  | 0 => k_X11_family_0 X Q
  | 1 => k_X11_family_1 X Q
  | _ => fun _ _ _ => False
def T_X11_family : zTy := fun vs σ Q => zok 6 vs = true ∧ zFix (F_X11_family Q) 0 (zlc vs) [] σ
def k_X11_type_0 (X : Nat → zK) (Q : zQ) : zK := i_il 1 <| i_ic 0 <| i_ic 127 <| i_call 3 T_X11_within <| i_ifne (i_al 0 <| i_gf 11 4 <| i_gf 9 1 <| i_ic 150 <| i_cmplt (i_al 0 <| i_gf 11 4 <| i_il 1 <| i_cv 9 2 T_X9_append <| i_ir Q) <| i_al 0 <| i_ic (-4) <| i_cv 11 2 T_X11_refuse <| i_ir Q) <| i_al 0 <| i_ic (-2) <| i_cv 11 2 T_X11_refuse <| i_ir Q
def F_X11_type (Q : zQ) (X : Nat → zK) : Nat → zK
  | 0 => k_X11_type_0 X Q
  | _ => fun _ _ _ => False
def T_X11_type : zTy := fun vs σ Q => zok 2 vs = true ∧ zFix (F_X11_type Q) 0 (zlc vs) [] σ
def k_X11_clear_0 (X : Nat → zK) (Q : zQ) : zK := i_al 0 <| i_gf 11 4 <| i_gf 9 1 <| i_is 1 <| i_al 0 <| i_gf 11 4 <| i_ic 0 <| i_pf 9 1 <| i_il 1 <| i_ir Q
def F_X11_clear (Q : zQ) (X : Nat → zK) : Nat → zK
  | 0 => k_X11_clear_0 X Q
  | _ => fun _ _ _ => False
def T_X11_clear : zTy := fun vs σ Q => zok 2 vs = true ∧ zFix (F_X11_clear Q) 0 (zlc vs) [] σ
def k_X11_read_0 (X : Nat → zK) (Q : zQ) : zK := i_al 0 <| i_gf 11 4 <| i_al 0 <| i_gf 11 1 <| i_cv 9 2 T_X9_tell <| i_is 1 <| i_il 1 <| i_ifle (i_il 1 <| i_ir Q) <| i_al 0 <| i_gf 11 0 <| i_al 0 <| i_gf 11 1 <| i_cv 1 2 T_X1_becomeLike <| i_il 1 <| i_ir Q
def F_X11_read (Q : zQ) (X : Nat → zK) : Nat → zK
  | 0 => k_X11_read_0 X Q
  | _ => fun _ _ _ => False
def T_X11_read : zTy := fun vs σ Q => zok 2 vs = true ∧ zFix (F_X11_read Q) 0 (zlc vs) [] σ
def k_X11_move_0 (X : Nat → zK) (Q : zQ) : zK := i_al 0 <| i_gf 11 0 <| i_il 1 <| i_cv 1 2 T_X1_hasFamily <| i_ifeq (i_jmp X 1 [true]) <| i_il 2 <| i_al 0 <| i_gf 11 0 <| i_gf 1 4 <| i_il 1 <| i_ia <| i_call 2 T_X11_isPewOf <| i_ifne (i_al 0 <| i_gf 11 0 <| i_il 2 <| i_cv 1 2 T_X1_isTaken <| i_ifeq (i_al 0 <| i_gf 11 0 <| i_gf 1 7 <| i_il 1 <| i_ia <| i_is 3 <| i_al 0 <| i_gf 11 0 <| i_cv 1 1 T_X1_remember <| i_al 0 <| i_gf 11 0 <| i_gf 1 7 <| i_il 1 <| i_il 2 <| i_iast <| i_il 3 <| i_ir Q) <| i_al 0 <| i_ic (-3) <| i_cv 11 2 T_X11_refuse <| i_ir Q) <| i_jmp X 1 [true]
def k_X11_move_1 (X : Nat → zK) (Q : zQ) : zK := i_al 0 <| i_ic (-2) <| i_cv 11 2 T_X11_refuse <| i_ir Q
def F_X11_move (Q : zQ) (X : Nat → zK) : Nat → zK
  | 0 => k_X11_move_0 X Q
  | 1 => k_X11_move_1 X Q
  | _ => fun _ _ _ => False
def T_X11_move : zTy := fun vs σ Q => zok 4 vs = true ∧ zFix (F_X11_move Q) 0 (zlc vs) [] σ
def k_X11_cold_0 (X : Nat → zK) (Q : zQ) : zK := i_al 0 <| i_gf 11 0 <| i_il 1 <| i_cv 1 2 T_X1_hasFamily <| i_ifeq (i_jmp X 1 [true]) <| i_il 2 <| i_ic 0 <| i_ic 1 <| i_call 3 T_X11_within <| i_ifne (i_al 0 <| i_gf 11 0 <| i_gf 1 8 <| i_il 1 <| i_call 2 T_X11_bit <| i_is 3 <| i_al 0 <| i_gf 11 0 <| i_cv 1 1 T_X1_remember <| i_al 0 <| i_gf 11 0 <| i_al 0 <| i_gf 11 0 <| i_gf 1 8 <| i_ic 1 <| i_il 1 <| i_ishl <| i_ic (-1) <| i_ixor <| i_iand <| i_il 2 <| i_il 1 <| i_ishl <| i_ior <| i_pf 1 8 <| i_il 3 <| i_ir Q) <| i_jmp X 1 [true]
def k_X11_cold_1 (X : Nat → zK) (Q : zQ) : zK := i_al 0 <| i_ic (-2) <| i_cv 11 2 T_X11_refuse <| i_ir Q
def F_X11_cold (Q : zQ) (X : Nat → zK) : Nat → zK
  | 0 => k_X11_cold_0 X Q
  | 1 => k_X11_cold_1 X Q
  | _ => fun _ _ _ => False
def T_X11_cold : zTy := fun vs σ Q => zok 4 vs = true ∧ zFix (F_X11_cold Q) 0 (zlc vs) [] σ
def k_J6_bitCount_0f7a4_0 (X : Nat → zK) (Q : zQ) : zK := i_il 0 <| i_il 0 <| i_ic 1 <| i_iushr <| i_ic 1431655765 <| i_iand <| i_isub <| i_is 0 <| i_il 0 <| i_ic 858993459 <| i_iand <| i_il 0 <| i_ic 2 <| i_iushr <| i_ic 858993459 <| i_iand <| i_iadd <| i_is 0 <| i_il 0 <| i_il 0 <| i_ic 4 <| i_iushr <| i_iadd <| i_ic 252645135 <| i_iand <| i_is 0 <| i_il 0 <| i_il 0 <| i_ic 8 <| i_iushr <| i_iadd <| i_is 0 <| i_il 0 <| i_il 0 <| i_ic 16 <| i_iushr <| i_iadd <| i_is 0 <| i_il 0 <| i_ic 63 <| i_iand <| i_ir Q
def F_J6_bitCount_0f7a4 (Q : zQ) (X : Nat → zK) : Nat → zK
  | 0 => k_J6_bitCount_0f7a4_0 X Q
  | _ => fun _ _ _ => False
def T_J6_bitCount_0f7a4 : zTy := fun vs σ Q => zok 1 vs = true ∧ zFix (F_J6_bitCount_0f7a4 Q) 0 (zlc vs) [] σ
def k_X11_undo_0 (X : Nat → zK) (Q : zQ) : zK := i_al 0 <| i_gf 11 0 <| i_gf 1 13 <| i_ifgt (i_al 0 <| i_gf 11 0 <| i_cv 1 1 T_X1_goBack <| i_al 0 <| i_gf 11 0 <| i_gf 1 8 <| i_call 1 T_J6_bitCount_0f7a4 <| i_ir Q) <| i_al 0 <| i_ic (-3) <| i_cv 11 2 T_X11_refuse <| i_ir Q
def F_X11_undo (Q : zQ) (X : Nat → zK) : Nat → zK
  | 0 => k_X11_undo_0 X Q
  | _ => fun _ _ _ => False
def T_X11_undo : zTy := fun vs σ Q => zok 1 vs = true ∧ zFix (F_X11_undo Q) 0 (zlc vs) [] σ
def k_X11_of_0 (X : Nat → zK) (Q : zQ) : zK := i_al 0 <| i_gf 11 0 <| i_il 1 <| i_cv 1 2 T_X1_hasFamily <| i_ifeq (i_jmp X 1 [true]) <| i_il 2 <| i_ic 0 <| i_ic 5 <| i_call 3 T_X11_within <| i_ifne (i_al 0 <| i_gf 11 0 <| i_il 1 <| i_il 2 <| i_cv 1 3 T_X1_trait <| i_ir Q) <| i_jmp X 1 [true]
def k_X11_of_1 (X : Nat → zK) (Q : zQ) : zK := i_al 0 <| i_ic (-2) <| i_cv 11 2 T_X11_refuse <| i_ir Q
def F_X11_of (Q : zQ) (X : Nat → zK) : Nat → zK
  | 0 => k_X11_of_0 X Q
  | 1 => k_X11_of_1 X Q
  | _ => fun _ _ _ => False
def T_X11_of : zTy := fun vs σ Q => zok 3 vs = true ∧ zFix (F_X11_of Q) 0 (zlc vs) [] σ
def k_X11_isWord_0 (X : Nat → zK) (Q : zQ) : zK := i_il 0 <| i_ic 0 <| i_ic 15 <| i_call 3 T_X11_within <| i_zr Q
def F_X11_isWord (Q : zQ) (X : Nat → zK) : Nat → zK
  | 0 => k_X11_isWord_0 X Q
  | _ => fun _ _ _ => False
def T_X11_isWord : zTy := fun vs σ Q => zok 1 vs = true ∧ zFix (F_X11_isWord Q) 0 (zlc vs) [] σ
def k_X11_at_0 (X : Nat → zK) (Q : zQ) : zK := i_al 0 <| i_gf 11 0 <| i_il 1 <| i_cv 1 2 T_X1_hasFamily <| i_ifeq (i_jmp X 1 [true]) <| i_il 2 <| i_call 1 T_X11_isWord <| i_ifeq (i_jmp X 1 [true]) <| i_il 3 <| i_ic 0 <| i_ic 3 <| i_call 3 T_X11_within <| i_ifne (i_al 0 <| i_gf 11 5 <| i_al 0 <| i_gf 11 0 <| i_cv 8 2 T_X8_hold <| i_il 3 <| i_sw [(0, i_al 0 <| i_gf 11 5 <| i_il 1 <| i_il 2 <| i_cv 8 3 T_X8_kneels <| i_ifeq (i_ic 0 <| i_ir Q) <| i_ic 1 <| i_ir Q), (1, i_al 0 <| i_gf 11 5 <| i_il 1 <| i_il 2 <| i_cv 8 3 T_X8_high <| i_ir Q), (2, i_al 0 <| i_gf 11 5 <| i_il 1 <| i_il 2 <| i_al 0 <| i_gf 11 0 <| i_gf 1 8 <| i_cv 8 4 T_X8_voices <| i_ir Q)] (i_al 0 <| i_gf 11 5 <| i_il 1 <| i_il 2 <| i_cv 8 3 T_X8_sees <| i_ifeq (i_ic 0 <| i_ir Q) <| i_ic 1 <| i_ir Q)) <| i_jmp X 1 [true]
def k_X11_at_1 (X : Nat → zK) (Q : zQ) : zK := i_al 0 <| i_ic (-2) <| i_cv 11 2 T_X11_refuse <| i_ir Q
def F_X11_at (Q : zQ) (X : Nat → zK) : Nat → zK
  | 0 => k_X11_at_0 X Q
  | 1 => k_X11_at_1 X Q
  | _ => fun _ _ _ => False
def T_X11_at : zTy := fun vs σ Q => zok 4 vs = true ∧ zFix (F_X11_at Q) 0 (zlc vs) [] σ
def k_X11_up_0 (X : Nat → zK) (Q : zQ) : zK := i_il 1 <| i_call 1 T_X11_isWord <| i_ifne (i_al 0 <| i_gf 11 5 <| i_al 0 <| i_gf 11 0 <| i_cv 8 2 T_X8_hold <| i_ic 0 <| i_is 2 <| i_ic 0 <| i_is 3 <| i_jmp X 1 [true, true, true, true]) <| i_al 0 <| i_ic (-2) <| i_cv 11 2 T_X11_refuse <| i_ir Q
def k_X11_up_1 (X : Nat → zK) (Q : zQ) : zK := i_il 3 <| i_al 0 <| i_gf 11 0 <| i_gf 1 2 <| i_cmpge (i_il 2 <| i_ir Q) <| i_al 0 <| i_gf 11 5 <| i_il 3 <| i_il 1 <| i_cv 8 3 T_X8_kneels <| i_ifne (i_jmp X 2 [true, true, true, true]) <| i_il 2 <| i_ic 1 <| i_il 3 <| i_ishl <| i_ior <| i_is 2 <| i_jmp X 2 [true, true, true, true]
def k_X11_up_2 (X : Nat → zK) (Q : zQ) : zK := i_inc 3 1 <| i_jmp X 1 [true, true, true, true]
def F_X11_up (Q : zQ) (X : Nat → zK) : Nat → zK
  | 0 => k_X11_up_0 X Q
  | 1 => k_X11_up_1 X Q
  | 2 => k_X11_up_2 X Q
  | _ => fun _ _ _ => False
def T_X11_up : zTy := fun vs σ Q => zok 4 vs = true ∧ zFix (F_X11_up Q) 0 (zlc vs) [] σ
def k_X11_seers_0 (X : Nat → zK) (Q : zQ) : zK := i_il 1 <| i_call 1 T_X11_isWord <| i_ifne (i_al 0 <| i_gf 11 5 <| i_al 0 <| i_gf 11 0 <| i_cv 8 2 T_X8_hold <| i_ic 0 <| i_is 2 <| i_ic 0 <| i_is 3 <| i_jmp X 1 [true, true, true, true]) <| i_al 0 <| i_ic (-2) <| i_cv 11 2 T_X11_refuse <| i_ir Q
def k_X11_seers_1 (X : Nat → zK) (Q : zQ) : zK := i_il 3 <| i_al 0 <| i_gf 11 0 <| i_gf 1 2 <| i_cmpge (i_il 2 <| i_ir Q) <| i_al 0 <| i_gf 11 5 <| i_il 3 <| i_il 1 <| i_cv 8 3 T_X8_sees <| i_ifeq (i_jmp X 2 [true, true, true, true]) <| i_il 2 <| i_ic 1 <| i_il 3 <| i_ishl <| i_ior <| i_is 2 <| i_jmp X 2 [true, true, true, true]
def k_X11_seers_2 (X : Nat → zK) (Q : zQ) : zK := i_inc 3 1 <| i_jmp X 1 [true, true, true, true]
def F_X11_seers (Q : zQ) (X : Nat → zK) : Nat → zK
  | 0 => k_X11_seers_0 X Q
  | 1 => k_X11_seers_1 X Q
  | 2 => k_X11_seers_2 X Q
  | _ => fun _ _ _ => False
def T_X11_seers : zTy := fun vs σ Q => zok 4 vs = true ∧ zFix (F_X11_seers Q) 0 (zlc vs) [] σ
def k_X11_loud_0 (X : Nat → zK) (Q : zQ) : zK := i_il 1 <| i_call 1 T_X11_isWord <| i_ifeq (i_jmp X 1 [true]) <| i_il 2 <| i_call 1 T_X11_isBook <| i_ifne (i_al 0 <| i_gf 11 5 <| i_al 0 <| i_gf 11 0 <| i_cv 8 2 T_X8_hold <| i_al 0 <| i_gf 11 5 <| i_il 1 <| i_il 2 <| i_al 0 <| i_gf 11 0 <| i_gf 1 8 <| i_cv 8 4 T_X8_loudness <| i_ir Q) <| i_jmp X 1 [true]
def k_X11_loud_1 (X : Nat → zK) (Q : zQ) : zK := i_al 0 <| i_ic (-2) <| i_cv 11 2 T_X11_refuse <| i_ir Q
def F_X11_loud (Q : zQ) (X : Nat → zK) : Nat → zK
  | 0 => k_X11_loud_0 X Q
  | 1 => k_X11_loud_1 X Q
  | _ => fun _ _ _ => False
def T_X11_loud : zTy := fun vs σ Q => zok 3 vs = true ∧ zFix (F_X11_loud Q) 0 (zlc vs) [] σ
def k_X11_breach_0 (X : Nat → zK) (Q : zQ) : zK := i_il 1 <| i_call 1 T_X11_isWord <| i_ifne (i_al 0 <| i_gf 11 5 <| i_al 0 <| i_gf 11 0 <| i_cv 8 2 T_X8_hold <| i_il 1 <| i_is 2 <| i_jmp X 1 [true, false, true]) <| i_al 0 <| i_ic (-2) <| i_cv 11 2 T_X11_refuse <| i_ir Q
def k_X11_breach_1 (X : Nat → zK) (Q : zQ) : zK := i_il 2 <| i_ic 16 <| i_cmpge (i_ic (-1) <| i_ir Q) <| i_al 0 <| i_gf 11 5 <| i_il 2 <| i_al 0 <| i_gf 11 0 <| i_gf 1 8 <| i_cv 8 3 T_X8_isPeaceful <| i_ifne (i_inc 2 1 <| i_jmp X 1 [true, false, true]) <| i_il 2 <| i_ir Q
def F_X11_breach (Q : zQ) (X : Nat → zK) : Nat → zK
  | 0 => k_X11_breach_0 X Q
  | 1 => k_X11_breach_1 X Q
  | _ => fun _ _ _ => False
def T_X11_breach : zTy := fun vs σ Q => zok 3 vs = true ∧ zFix (F_X11_breach Q) 0 (zlc vs) [] σ
def k_X11_canNot_0 (X : Nat → zK) (Q : zQ) : zK := i_al 0 <| i_gf 11 0 <| i_gf 1 1 <| i_ic 0 <| i_ia <| i_al 0 <| i_gf 11 0 <| i_gf 1 1 <| i_ic 1 <| i_ia <| i_ixor <| i_ir Q
def F_X11_canNot (Q : zQ) (X : Nat → zK) : Nat → zK
  | 0 => k_X11_canNot_0 X Q
  | _ => fun _ _ _ => False
def T_X11_canNot : zTy := fun vs σ Q => zok 1 vs = true ∧ zFix (F_X11_canNot Q) 0 (zlc vs) [] σ
def k_X11_seats_0 (X : Nat → zK) (Q : zQ) : zK := i_il 1 <| i_ic (-1) <| i_cmpeq (i_jmp X 1 [true, true]) <| i_al 0 <| i_gf 11 0 <| i_il 1 <| i_cv 1 2 T_X1_hasFamily <| i_ifne (i_jmp X 1 [true, true]) <| i_al 0 <| i_ic (-2) <| i_cv 11 2 T_X11_refuse <| i_pop <| i_ic (-10) <| i_ir Q
def k_X11_seats_1 (X : Nat → zK) (Q : zQ) : zK := i_al 0 <| i_gf 11 5 <| i_al 0 <| i_gf 11 0 <| i_cv 8 2 T_X8_hold <| i_al 0 <| i_gf 11 6 <| i_al 0 <| i_gf 11 5 <| i_cv 7 2 T_X7_find <| i_il 1 <| i_ic (-1) <| i_cmpne (i_al 0 <| i_gf 11 6 <| i_il 1 <| i_cv 7 2 T_X7_pewOf <| i_ir Q) <| i_al 0 <| i_gf 11 6 <| i_cv 7 1 T_X7_seen <| i_ir Q
def F_X11_seats (Q : zQ) (X : Nat → zK) : Nat → zK
  | 0 => k_X11_seats_0 X Q
  | 1 => k_X11_seats_1 X Q
  | _ => fun _ _ _ => False
def T_X11_seats : zTy := fun vs σ Q => zok 2 vs = true ∧ zFix (F_X11_seats Q) 0 (zlc vs) [] σ
def k_X11_change_0 (X : Nat → zK) (Q : zQ) : zK := i_il 1 <| i_ic 0 <| i_ic 1 <| i_call 3 T_X11_within <| i_ifne (i_al 0 <| i_gf 11 5 <| i_al 0 <| i_gf 11 0 <| i_cv 8 2 T_X8_hold <| i_ic 7 <| i_is 2 <| i_al 0 <| i_gf 11 5 <| i_al 0 <| i_gf 11 0 <| i_gf 1 8 <| i_cv 8 2 T_X8_peacefulWords <| i_is 3 <| i_ic 0 <| i_is 4 <| i_jmp X 1 [true, true, true, true, true]) <| i_al 0 <| i_ic (-2) <| i_cv 11 2 T_X11_refuse <| i_ir Q
def k_X11_change_1 (X : Nat → zK) (Q : zQ) : zK := i_il 4 <| i_al 0 <| i_gf 11 0 <| i_gf 1 2 <| i_cmpge (i_il 1 <| i_ifne (i_il 3 <| i_ir Q) <| i_il 2 <| i_ir Q) <| i_al 0 <| i_gf 11 5 <| i_al 0 <| i_gf 11 0 <| i_il 4 <| i_al 0 <| i_gf 11 0 <| i_gf 1 3 <| i_il 4 <| i_ia <| i_ic 1 <| i_al 0 <| i_gf 11 0 <| i_gf 1 4 <| i_il 4 <| i_ia <| i_isub <| i_cv 8 5 T_X8_suppose <| i_al 0 <| i_gf 11 5 <| i_al 0 <| i_gf 11 0 <| i_gf 1 8 <| i_cv 8 2 T_X8_peacefulWords <| i_is 5 <| i_al 0 <| i_gf 11 5 <| i_al 0 <| i_gf 11 0 <| i_il 4 <| i_al 0 <| i_gf 11 0 <| i_gf 1 3 <| i_il 4 <| i_ia <| i_al 0 <| i_gf 11 0 <| i_gf 1 4 <| i_il 4 <| i_ia <| i_cv 8 5 T_X8_suppose <| i_il 5 <| i_il 3 <| i_cmple (i_jmp X 2 [true, true, true, true, true]) <| i_il 5 <| i_is 3 <| i_il 4 <| i_is 2 <| i_jmp X 2 [true, true, true, true, true]
def k_X11_change_2 (X : Nat → zK) (Q : zQ) : zK := i_inc 4 1 <| i_jmp X 1 [true, true, true, true, true]
def F_X11_change (Q : zQ) (X : Nat → zK) : Nat → zK
  | 0 => k_X11_change_0 X Q
  | 1 => k_X11_change_1 X Q
  | 2 => k_X11_change_2 X Q
  | _ => fun _ _ _ => False
def T_X11_change : zTy := fun vs σ Q => zok 6 vs = true ∧ zFix (F_X11_change Q) 0 (zlc vs) [] σ
def k_X11_still_0 (X : Nat → zK) (Q : zQ) : zK := i_al 0 <| i_gf 11 5 <| i_al 0 <| i_gf 11 0 <| i_cv 8 2 T_X8_hold <| i_ic (-1) <| i_is 1 <| i_ic 0 <| i_is 2 <| i_jmp X 1 [true, true, true]
def k_X11_still_1 (X : Nat → zK) (Q : zQ) : zK := i_il 2 <| i_al 0 <| i_gf 11 0 <| i_cv 1 1 T_X1_sets <| i_cmpge (i_il 1 <| i_ir Q) <| i_il 1 <| i_ic (-1) <| i_cmpeq (i_jmp X 2 [true, true, true]) <| i_il 2 <| i_call 1 T_J6_bitCount_0f7a4 <| i_il 1 <| i_call 1 T_J6_bitCount_0f7a4 <| i_cmpge (i_ic 0 <| i_jmp X 3 [true, true, true]) <| i_jmp X 2 [true, true, true]
def k_X11_still_2 (X : Nat → zK) (Q : zQ) : zK := i_ic 1 <| i_jmp X 3 [true, true, true]
def k_X11_still_3 (X : Nat → zK) (Q : zQ) : zK := i_is 3 <| i_il 3 <| i_ifeq (i_jmp X 4 [true, true, true]) <| i_il 2 <| i_al 0 <| i_gf 11 0 <| i_gf 1 8 <| i_iand <| i_ifne (i_jmp X 4 [true, true, true]) <| i_al 0 <| i_gf 11 5 <| i_il 2 <| i_al 0 <| i_gf 11 0 <| i_gf 1 8 <| i_ior <| i_cv 8 2 T_X8_isPeacefulThroughout <| i_ifeq (i_jmp X 4 [true, true, true]) <| i_il 2 <| i_is 1 <| i_jmp X 4 [true, true, true]
def k_X11_still_4 (X : Nat → zK) (Q : zQ) : zK := i_inc 2 1 <| i_jmp X 1 [true, true, true]
def F_X11_still (Q : zQ) (X : Nat → zK) : Nat → zK
  | 0 => k_X11_still_0 X Q
  | 1 => k_X11_still_1 X Q
  | 2 => k_X11_still_2 X Q
  | 3 => k_X11_still_3 X Q
  | 4 => k_X11_still_4 X Q
  | _ => fun _ _ _ => False
def T_X11_still : zTy := fun vs σ Q => zok 4 vs = true ∧ zFix (F_X11_still Q) 0 (zlc vs) [] σ
def k_X11_heard_0 (X : Nat → zK) (Q : zQ) : zK := i_il 1 <| i_call 1 T_X11_isWord <| i_ifeq (i_jmp X 1 [true]) <| i_il 2 <| i_call 1 T_X11_isBook <| i_ifeq (i_jmp X 1 [true]) <| i_il 3 <| i_ic 0 <| i_ic 140 <| i_call 3 T_X11_within <| i_ifne (i_al 0 <| i_gf 11 0 <| i_gf 1 9 <| i_ic 6 <| i_cmplt (i_al 0 <| i_gf 11 0 <| i_il 1 <| i_il 2 <| i_il 3 <| i_cv 1 4 T_X1_hear <| i_ir Q) <| i_al 0 <| i_ic (-4) <| i_cv 11 2 T_X11_refuse <| i_ir Q) <| i_jmp X 1 [true]
def k_X11_heard_1 (X : Nat → zK) (Q : zQ) : zK := i_al 0 <| i_ic (-2) <| i_cv 11 2 T_X11_refuse <| i_ir Q
def F_X11_heard (Q : zQ) (X : Nat → zK) : Nat → zK
  | 0 => k_X11_heard_0 X Q
  | 1 => k_X11_heard_1 X Q
  | _ => fun _ _ _ => False
def T_X11_heard : zTy := fun vs σ Q => zok 4 vs = true ∧ zFix (F_X11_heard Q) 0 (zlc vs) [] σ
def k_X11_forget_0 (X : Nat → zK) (Q : zQ) : zK := i_al 0 <| i_gf 11 0 <| i_gf 1 9 <| i_is 1 <| i_al 0 <| i_gf 11 0 <| i_ic 0 <| i_pf 1 9 <| i_il 1 <| i_ir Q
def F_X11_forget (Q : zQ) (X : Nat → zK) : Nat → zK
  | 0 => k_X11_forget_0 X Q
  | _ => fun _ _ _ => False
def T_X11_forget : zTy := fun vs σ Q => zok 2 vs = true ∧ zFix (F_X11_forget Q) 0 (zlc vs) [] σ
def k_X11_coughed_0 (X : Nat → zK) (Q : zQ) : zK := i_il 1 <| i_ic 0 <| i_ic 2 <| i_call 3 T_X11_within <| i_ifne (i_al 0 <| i_gf 11 5 <| i_al 0 <| i_gf 11 0 <| i_cv 8 2 T_X8_hold <| i_al 0 <| i_gf 11 7 <| i_al 0 <| i_gf 11 0 <| i_al 0 <| i_gf 11 5 <| i_cv 3 3 T_X3_find <| i_il 1 <| i_sw [(0, i_al 0 <| i_gf 11 7 <| i_gf 3 3 <| i_ir Q), (1, i_al 0 <| i_gf 11 7 <| i_gf 3 3 <| i_ifle (i_ic (-1) <| i_ir Q) <| i_al 0 <| i_gf 11 7 <| i_gf 3 4 <| i_ir Q)] (i_al 0 <| i_gf 11 7 <| i_gf 3 5 <| i_ir Q)) <| i_al 0 <| i_ic (-2) <| i_cv 11 2 T_X11_refuse <| i_ir Q
def F_X11_coughed (Q : zQ) (X : Nat → zK) : Nat → zK
  | 0 => k_X11_coughed_0 X Q
  | _ => fun _ _ _ => False
def T_X11_coughed : zTy := fun vs σ Q => zok 2 vs = true ∧ zFix (F_X11_coughed Q) 0 (zlc vs) [] σ
def k_X11_next_0 (X : Nat → zK) (Q : zQ) : zK := i_al 0 <| i_gf 11 5 <| i_al 0 <| i_gf 11 0 <| i_cv 8 2 T_X8_hold <| i_al 0 <| i_gf 11 7 <| i_al 0 <| i_gf 11 0 <| i_al 0 <| i_gf 11 5 <| i_cv 3 3 T_X3_find <| i_al 0 <| i_gf 11 7 <| i_al 0 <| i_gf 11 5 <| i_cv 3 2 T_X3_bestWord <| i_ir Q
def F_X11_next (Q : zQ) (X : Nat → zK) : Nat → zK
  | 0 => k_X11_next_0 X Q
  | _ => fun _ _ _ => False
def T_X11_next : zTy := fun vs σ Q => zok 1 vs = true ∧ zFix (F_X11_next Q) 0 (zlc vs) [] σ
def k_X11_is_0 (X : Nat → zK) (Q : zQ) : zK := i_al 0 <| i_gf 11 0 <| i_il 1 <| i_cv 1 2 T_X1_hasFamily <| i_ifne (i_al 0 <| i_gf 11 5 <| i_al 0 <| i_gf 11 0 <| i_cv 8 2 T_X8_hold <| i_ic 0 <| i_is 2 <| i_ic 0 <| i_is 3 <| i_jmp X 1 [true, true, true, true]) <| i_al 0 <| i_ic (-2) <| i_cv 11 2 T_X11_refuse <| i_ir Q
def k_X11_is_1 (X : Nat → zK) (Q : zQ) : zK := i_il 3 <| i_ic 6 <| i_cmpge (i_il 2 <| i_ir Q) <| i_al 0 <| i_gf 11 5 <| i_al 0 <| i_gf 11 0 <| i_il 1 <| i_il 3 <| i_al 0 <| i_gf 11 0 <| i_gf 1 4 <| i_il 1 <| i_ia <| i_cv 8 5 T_X8_suppose <| i_al 0 <| i_gf 11 5 <| i_al 0 <| i_gf 11 0 <| i_al 0 <| i_gf 11 0 <| i_gf 1 8 <| i_cv 8 3 T_X8_agreesWith <| i_ifeq (i_jmp X 2 [true, true, true, true]) <| i_il 2 <| i_ic 1 <| i_il 3 <| i_ishl <| i_ior <| i_is 2 <| i_jmp X 2 [true, true, true, true]
def k_X11_is_2 (X : Nat → zK) (Q : zQ) : zK := i_inc 3 1 <| i_jmp X 1 [true, true, true, true]
def F_X11_is (Q : zQ) (X : Nat → zK) : Nat → zK
  | 0 => k_X11_is_0 X Q
  | 1 => k_X11_is_1 X Q
  | 2 => k_X11_is_2 X Q
  | _ => fun _ _ _ => False
def T_X11_is : zTy := fun vs σ Q => zok 4 vs = true ∧ zFix (F_X11_is Q) 0 (zlc vs) [] σ
def k_X11_leadOfBook0_0 (X : Nat → zK) (Q : zQ) : zK := i_al 0 <| i_gf 11 0 <| i_gf 1 8 <| i_is 3 <| i_ic 0 <| i_is 4 <| i_jmp X 1 [true, true, true, true, true]
def k_X11_leadOfBook0_1 (X : Nat → zK) (Q : zQ) : zK := i_il 4 <| i_ic 2 <| i_cmpge (i_al 0 <| i_gf 11 5 <| i_il 1 <| i_ic 0 <| i_il 3 <| i_cv 8 4 T_X8_loudness <| i_al 0 <| i_gf 11 5 <| i_il 1 <| i_ic 1 <| i_il 3 <| i_cv 8 4 T_X8_loudness <| i_isub <| i_ir Q) <| i_al 0 <| i_gf 11 0 <| i_il 4 <| i_cv 1 2 T_X1_mostVoiced <| i_is 5 <| i_il 2 <| i_il 4 <| i_call 2 T_X11_bit <| i_ic 1 <| i_cmpne (i_jmp X 2 [true, true, true, true, true]) <| i_il 5 <| i_ic (-1) <| i_cmpeq (i_jmp X 2 [true, true, true, true, true]) <| i_il 3 <| i_ic 1 <| i_il 5 <| i_ishl <| i_ior <| i_is 3 <| i_jmp X 2 [true, true, true, true, true]
def k_X11_leadOfBook0_2 (X : Nat → zK) (Q : zQ) : zK := i_inc 4 1 <| i_jmp X 1 [true, true, true, true, true]
def F_X11_leadOfBook0 (Q : zQ) (X : Nat → zK) : Nat → zK
  | 0 => k_X11_leadOfBook0_0 X Q
  | 1 => k_X11_leadOfBook0_1 X Q
  | 2 => k_X11_leadOfBook0_2 X Q
  | _ => fun _ _ _ => False
def T_X11_leadOfBook0 : zTy := fun vs σ Q => zok 6 vs = true ∧ zFix (F_X11_leadOfBook0 Q) 0 (zlc vs) [] σ
def k_X11_deacons_0 (X : Nat → zK) (Q : zQ) : zK := i_il 1 <| i_call 1 T_X11_isWord <| i_ifne (i_al 0 <| i_gf 11 5 <| i_al 0 <| i_gf 11 0 <| i_cv 8 2 T_X8_hold <| i_ic 0 <| i_is 2 <| i_ic 0 <| i_is 3 <| i_jmp X 1 [true, true, true, true]) <| i_al 0 <| i_ic (-2) <| i_cv 11 2 T_X11_refuse <| i_ir Q
def k_X11_deacons_1 (X : Nat → zK) (Q : zQ) : zK := i_il 3 <| i_ic 4 <| i_cmpge (i_il 2 <| i_ir Q) <| i_al 0 <| i_il 1 <| i_il 3 <| i_cv 11 3 T_X11_leadOfBook0 <| i_is 4 <| i_il 4 <| i_al 0 <| i_il 1 <| i_il 3 <| i_ic 1 <| i_ixor <| i_cv 11 3 T_X11_leadOfBook0 <| i_cmplt (i_jmp X 2 [true, true, true, true]) <| i_il 4 <| i_al 0 <| i_il 1 <| i_il 3 <| i_ic 2 <| i_ixor <| i_cv 11 3 T_X11_leadOfBook0 <| i_cmpgt (i_jmp X 2 [true, true, true, true]) <| i_il 2 <| i_ic 1 <| i_il 3 <| i_ishl <| i_ior <| i_is 2 <| i_jmp X 2 [true, true, true, true]
def k_X11_deacons_2 (X : Nat → zK) (Q : zQ) : zK := i_inc 3 1 <| i_jmp X 1 [true, true, true, true]
def F_X11_deacons (Q : zQ) (X : Nat → zK) : Nat → zK
  | 0 => k_X11_deacons_0 X Q
  | 1 => k_X11_deacons_1 X Q
  | 2 => k_X11_deacons_2 X Q
  | _ => fun _ _ _ => False
def T_X11_deacons : zTy := fun vs σ Q => zok 5 vs = true ∧ zFix (F_X11_deacons Q) 0 (zlc vs) [] σ
def k_X11_feasts_0 (X : Nat → zK) (Q : zQ) : zK := i_il 1 <| i_ic 1 <| i_ic 40 <| i_call 3 T_X11_within <| i_ifeq (i_jmp X 1 [true]) <| i_il 3 <| i_ic 1 <| i_ic 40 <| i_call 3 T_X11_within <| i_ifeq (i_jmp X 1 [true]) <| i_il 2 <| i_ic 0 <| i_ic 99 <| i_call 3 T_X11_within <| i_ifeq (i_jmp X 1 [true]) <| i_il 4 <| i_ic 0 <| i_ic 99 <| i_call 3 T_X11_within <| i_ifne (i_il 2 <| i_il 4 <| i_mmax <| i_il 1 <| i_il 3 <| i_imul <| i_iadd <| i_is 5 <| i_il 2 <| i_is 6 <| i_jmp X 2 [false, true, false, true, true, true, true]) <| i_jmp X 1 [true]
def k_X11_feasts_1 (X : Nat → zK) (Q : zQ) : zK := i_al 0 <| i_ic (-2) <| i_cv 11 2 T_X11_refuse <| i_ir Q
def k_X11_feasts_2 (X : Nat → zK) (Q : zQ) : zK := i_il 6 <| i_il 5 <| i_cmpgt (i_ic (-1) <| i_ir Q) <| i_il 6 <| i_il 4 <| i_cmplt (i_jmp X 3 [false, true, false, true, true, true, true]) <| i_il 6 <| i_il 4 <| i_isub <| i_il 3 <| i_irem <| i_ifne (i_jmp X 3 [false, true, false, true, true, true, true]) <| i_il 6 <| i_ir Q
def k_X11_feasts_3 (X : Nat → zK) (Q : zQ) : zK := i_il 6 <| i_il 1 <| i_iadd <| i_is 6 <| i_jmp X 2 [false, true, false, true, true, true, true]
def F_X11_feasts (Q : zQ) (X : Nat → zK) : Nat → zK
  | 0 => k_X11_feasts_0 X Q
  | 1 => k_X11_feasts_1 X Q
  | 2 => k_X11_feasts_2 X Q
  | 3 => k_X11_feasts_3 X Q
  | _ => fun _ _ _ => False
def T_X11_feasts : zTy := fun vs σ Q => zok 7 vs = true ∧ zFix (F_X11_feasts Q) 0 (zlc vs) [] σ
def k_X11_power_0 (X : Nat → zK) (Q : zQ) : zK := i_lc 1 <| i_lst 2 <| i_ic 0 <| i_is 4 <| i_jmp X 1 [true, true, true, false, true]
def k_X11_power_1 (X : Nat → zK) (Q : zQ) : zK := i_il 4 <| i_il 1 <| i_cmpge (i_ll 2 <| i_lr Q) <| i_ll 2 <| i_il 0 <| i_i2l <| i_lmul <| i_lst 2 <| i_inc 4 1 <| i_jmp X 1 [true, true, true, false, true]
def F_X11_power (Q : zQ) (X : Nat → zK) : Nat → zK
  | 0 => k_X11_power_0 X Q
  | 1 => k_X11_power_1 X Q
  | _ => fun _ _ _ => False
def T_X11_power : zTy := fun vs σ Q => zok 5 vs = true ∧ zFix (F_X11_power Q) 0 (zlc vs) [] σ
def k_X11_chancesOf_0 (X : Nat → zK) (Q : zQ) : zK := i_il 1 <| i_al 0 <| i_gf 11 0 <| i_gf 1 8 <| i_ic (-1) <| i_ixor <| i_iand <| i_call 1 T_J6_bitCount_0f7a4 <| i_is 3 <| i_al 0 <| i_gf 11 0 <| i_gf 1 2 <| i_il 1 <| i_call 1 T_J6_bitCount_0f7a4 <| i_isub <| i_is 4 <| i_il 2 <| i_il 3 <| i_call 2 T_X11_power <| i_ic 10 <| i_il 2 <| i_isub <| i_il 4 <| i_call 2 T_X11_power <| i_lmul <| i_lr Q
def F_X11_chancesOf (Q : zQ) (X : Nat → zK) : Nat → zK
  | 0 => k_X11_chancesOf_0 X Q
  | _ => fun _ _ _ => False
def T_X11_chancesOf : zTy := fun vs σ Q => zok 5 vs = true ∧ zFix (F_X11_chancesOf Q) 0 (zlc vs) [] σ
def k_X11_commonDivisor_0 (X : Nat → zK) (Q : zQ) : zK := i_ll 2 <| i_lst 4 <| i_ll 0 <| i_lst 6 <| i_ic 0 <| i_is 8 <| i_jmp X 1 [false, false, false, false, true, false, true, false, true]
def k_X11_commonDivisor_1 (X : Nat → zK) (Q : zQ) : zK := i_il 8 <| i_ic 128 <| i_cmpge (i_ll 4 <| i_lr Q) <| i_ll 6 <| i_lc 0 <| i_lcmp <| i_ifeq (i_ll 4 <| i_lr Q) <| i_ll 4 <| i_ll 6 <| i_lrem <| i_lst 9 <| i_ll 6 <| i_lst 4 <| i_ll 9 <| i_lst 6 <| i_inc 8 1 <| i_jmp X 1 [false, false, false, false, true, false, true, false, true]
def F_X11_commonDivisor (Q : zQ) (X : Nat → zK) : Nat → zK
  | 0 => k_X11_commonDivisor_0 X Q
  | 1 => k_X11_commonDivisor_1 X Q
  | _ => fun _ _ _ => False
def T_X11_commonDivisor : zTy := fun vs σ Q => zok 11 vs = true ∧ zFix (F_X11_commonDivisor Q) 0 (zlc vs) [] σ
def k_X11_keepFraction_0 (X : Nat → zK) (Q : zQ) : zK := i_ll 1 <| i_ll 3 <| i_call 2 T_X11_commonDivisor <| i_lst 5 <| i_ll 5 <| i_lc 0 <| i_lcmp <| i_ifle (i_vr Q) <| i_al 0 <| i_ll 1 <| i_ll 5 <| i_ldiv <| i_pfl 11 9 <| i_al 0 <| i_ll 3 <| i_ll 5 <| i_ldiv <| i_pfl 11 10 <| i_vr Q
def F_X11_keepFraction (Q : zQ) (X : Nat → zK) : Nat → zK
  | 0 => k_X11_keepFraction_0 X Q
  | _ => fun _ _ _ => False
def T_X11_keepFraction : zTy := fun vs σ Q => zok 7 vs = true ∧ zFix (F_X11_keepFraction Q) 0 (zlc vs) [] σ
def k_X11_colds_0 (X : Nat → zK) (Q : zQ) : zK := i_il 1 <| i_call 1 T_X11_isWord <| i_ifeq (i_jmp X 1 [true]) <| i_il 2 <| i_ic 0 <| i_ic 10 <| i_call 3 T_X11_within <| i_ifne (i_al 0 <| i_gf 11 5 <| i_al 0 <| i_gf 11 0 <| i_cv 8 2 T_X8_hold <| i_lc 0 <| i_lst 3 <| i_ic 0 <| i_is 5 <| i_jmp X 2 [true, true, true, true, false, true]) <| i_jmp X 1 [true]
def k_X11_colds_1 (X : Nat → zK) (Q : zQ) : zK := i_al 0 <| i_ic (-2) <| i_cv 11 2 T_X11_refuse <| i_ir Q
def k_X11_colds_2 (X : Nat → zK) (Q : zQ) : zK := i_il 5 <| i_al 0 <| i_gf 11 0 <| i_cv 1 1 T_X1_sets <| i_cmpge (i_al 0 <| i_ll 3 <| i_ic 10 <| i_al 0 <| i_gf 11 0 <| i_gf 1 2 <| i_al 0 <| i_gf 11 0 <| i_gf 1 8 <| i_call 1 T_J6_bitCount_0f7a4 <| i_isub <| i_call 2 T_X11_power <| i_cv 11 3 T_X11_keepFraction <| i_ic 1 <| i_ir Q) <| i_il 5 <| i_al 0 <| i_gf 11 0 <| i_gf 1 8 <| i_iand <| i_al 0 <| i_gf 11 0 <| i_gf 1 8 <| i_cmpne (i_jmp X 3 [true, true, true, true, false, true]) <| i_al 0 <| i_gf 11 5 <| i_il 1 <| i_il 5 <| i_cv 8 3 T_X8_isPeaceful <| i_ifeq (i_jmp X 3 [true, true, true, true, false, true]) <| i_ll 3 <| i_al 0 <| i_il 5 <| i_il 2 <| i_cv 11 3 T_X11_chancesOf <| i_ladd <| i_lst 3 <| i_jmp X 3 [true, true, true, true, false, true]
def k_X11_colds_3 (X : Nat → zK) (Q : zQ) : zK := i_inc 5 1 <| i_jmp X 2 [true, true, true, true, false, true]
def F_X11_colds (Q : zQ) (X : Nat → zK) : Nat → zK
  | 0 => k_X11_colds_0 X Q
  | 1 => k_X11_colds_1 X Q
  | 2 => k_X11_colds_2 X Q
  | 3 => k_X11_colds_3 X Q
  | _ => fun _ _ _ => False
def T_X11_colds : zTy := fun vs σ Q => zok 6 vs = true ∧ zFix (F_X11_colds Q) 0 (zlc vs) [] σ
def k_X11_sundays_0 (X : Nat → zK) (Q : zQ) : zK := i_il 1 <| i_ic 0 <| i_ic 999999 <| i_call 3 T_X11_within <| i_ifeq (i_jmp X 1 [true]) <| i_il 2 <| i_ic 0 <| i_ic 60 <| i_call 3 T_X11_within <| i_ifne (i_al 0 <| i_gf 11 5 <| i_al 0 <| i_gf 11 0 <| i_cv 8 2 T_X8_hold <| i_il 1 <| i_i2l <| i_lst 3 <| i_ic 0 <| i_is 5 <| i_ic 0 <| i_is 6 <| i_jmp X 2 [true, false, true, true, false, true, true]) <| i_jmp X 1 [true]
def k_X11_sundays_1 (X : Nat → zK) (Q : zQ) : zK := i_al 0 <| i_ic (-2) <| i_cv 11 2 T_X11_refuse <| i_ir Q
def k_X11_sundays_2 (X : Nat → zK) (Q : zQ) : zK := i_il 6 <| i_il 2 <| i_cmpge (i_il 5 <| i_ir Q) <| i_ic 0 <| i_is 7 <| i_ic 0 <| i_is 8 <| i_jmp X 3 [true, false, true, true, false, true, true, true, true]
def k_X11_sundays_3 (X : Nat → zK) (Q : zQ) : zK := i_il 8 <| i_al 0 <| i_gf 11 0 <| i_gf 1 2 <| i_cmpge (i_al 0 <| i_gf 11 5 <| i_il 7 <| i_cv 8 2 T_X8_isPeacefulThroughout <| i_ifeq (i_jmp X 5 [true, false, true, true, false, true, true]) <| i_inc 5 1 <| i_jmp X 5 [true, false, true, true, false, true, true]) <| i_ll 3 <| i_lc 1103515245 <| i_lmul <| i_lc 12345 <| i_ladd <| i_lc 2147483648 <| i_lrem <| i_lst 3 <| i_ll 3 <| i_lc 65536 <| i_ldiv <| i_lc 4 <| i_lrem <| i_lc 0 <| i_lcmp <| i_ifne (i_jmp X 4 [true, false, true, true, false, true, true, true, true]) <| i_il 7 <| i_ic 1 <| i_il 8 <| i_ishl <| i_ior <| i_is 7 <| i_jmp X 4 [true, false, true, true, false, true, true, true, true]
def k_X11_sundays_4 (X : Nat → zK) (Q : zQ) : zK := i_inc 8 1 <| i_jmp X 3 [true, false, true, true, false, true, true, true, true]
def k_X11_sundays_5 (X : Nat → zK) (Q : zQ) : zK := i_inc 6 1 <| i_jmp X 2 [true, false, true, true, false, true, true]
def F_X11_sundays (Q : zQ) (X : Nat → zK) : Nat → zK
  | 0 => k_X11_sundays_0 X Q
  | 1 => k_X11_sundays_1 X Q
  | 2 => k_X11_sundays_2 X Q
  | 3 => k_X11_sundays_3 X Q
  | 4 => k_X11_sundays_4 X Q
  | 5 => k_X11_sundays_5 X Q
  | _ => fun _ _ _ => False
def T_X11_sundays : zTy := fun vs σ Q => zok 9 vs = true ∧ zFix (F_X11_sundays Q) 0 (zlc vs) [] σ
def k_X11_part_0 (X : Nat → zK) (Q : zQ) : zK := i_il 1 <| i_ic 0 <| i_ic 1 <| i_call 3 T_X11_within <| i_ifne (i_il 1 <| i_ifne (i_al 0 <| i_gf 11 10 <| i_lr Q) <| i_al 0 <| i_gf 11 9 <| i_lr Q) <| i_al 0 <| i_ic (-2) <| i_cv 11 2 T_X11_refuse <| i_i2l <| i_lr Q
def F_X11_part (Q : zQ) (X : Nat → zK) : Nat → zK
  | 0 => k_X11_part_0 X Q
  | _ => fun _ _ _ => False
def T_X11_part : zTy := fun vs σ Q => zok 2 vs = true ∧ zFix (F_X11_part Q) 0 (zlc vs) [] σ
def k_X11_image_0 (X : Nat → zK) (Q : zQ) : zK := i_il 1 <| i_ic 0 <| i_ic 1 <| i_call 3 T_X11_within <| i_ifne (i_al 0 <| i_gf 11 2 <| i_il 1 <| i_aa <| i_al 0 <| i_gf 11 0 <| i_cv 1 2 T_X1_becomeLike <| i_al 0 <| i_gf 11 3 <| i_il 1 <| i_ic 1 <| i_bast <| i_ic 1 <| i_ir Q) <| i_al 0 <| i_ic (-2) <| i_cv 11 2 T_X11_refuse <| i_ir Q
def F_X11_image (Q : zQ) (X : Nat → zK) : Nat → zK
  | 0 => k_X11_image_0 X Q
  | _ => fun _ _ _ => False
def T_X11_image : zTy := fun vs σ Q => zok 2 vs = true ∧ zFix (F_X11_image Q) 0 (zlc vs) [] σ
def k_X11_from_0 (X : Nat → zK) (Q : zQ) : zK := i_il 1 <| i_ic 0 <| i_ic 1 <| i_call 3 T_X11_within <| i_ifne (i_al 0 <| i_gf 11 3 <| i_il 1 <| i_ba <| i_ifne (i_al 0 <| i_gf 11 0 <| i_al 0 <| i_gf 11 2 <| i_il 1 <| i_aa <| i_cv 1 2 T_X1_becomeLike <| i_ic 1 <| i_ir Q) <| i_al 0 <| i_ic (-3) <| i_cv 11 2 T_X11_refuse <| i_ir Q) <| i_al 0 <| i_ic (-2) <| i_cv 11 2 T_X11_refuse <| i_ir Q
def F_X11_from (Q : zQ) (X : Nat → zK) : Nat → zK
  | 0 => k_X11_from_0 X Q
  | _ => fun _ _ _ => False
def T_X11_from : zTy := fun vs σ Q => zok 2 vs = true ∧ zFix (F_X11_from Q) 0 (zlc vs) [] σ
def k_X11_status_0 (X : Nat → zK) (Q : zQ) : zK := i_il 1 <| i_ic 0 <| i_ic 2 <| i_call 3 T_X11_within <| i_ifne (i_al 0 <| i_gf 11 8 <| i_il 1 <| i_ia <| i_ir Q) <| i_al 0 <| i_ic (-2) <| i_cv 11 2 T_X11_refuse <| i_pop <| i_ic (-1) <| i_ir Q
def F_X11_status (Q : zQ) (X : Nat → zK) : Nat → zK
  | 0 => k_X11_status_0 X Q
  | _ => fun _ _ _ => False
def T_X11_status : zTy := fun vs σ Q => zok 2 vs = true ∧ zFix (F_X11_status Q) 0 (zlc vs) [] σ
def k_X11_howMany_0 (X : Nat → zK) (Q : zQ) : zK := i_il 1 <| i_sw [(0, i_al 0 <| i_gf 11 0 <| i_gf 1 2 <| i_ir Q), (1, i_al 0 <| i_gf 11 0 <| i_gf 1 0 <| i_ir Q), (2, i_al 0 <| i_gf 11 0 <| i_gf 1 8 <| i_call 1 T_J6_bitCount_0f7a4 <| i_ir Q), (3, i_al 0 <| i_gf 11 5 <| i_al 0 <| i_gf 11 0 <| i_cv 8 2 T_X8_hold <| i_al 0 <| i_gf 11 5 <| i_al 0 <| i_gf 11 0 <| i_gf 1 8 <| i_cv 8 2 T_X8_peacefulWords <| i_ir Q), (4, i_al 0 <| i_gf 11 0 <| i_gf 1 9 <| i_ir Q), (5, i_al 0 <| i_gf 11 0 <| i_gf 1 13 <| i_ir Q)] (i_al 0 <| i_gf 11 4 <| i_gf 9 1 <| i_ir Q)
def F_X11_howMany (Q : zQ) (X : Nat → zK) : Nat → zK
  | 0 => k_X11_howMany_0 X Q
  | _ => fun _ _ _ => False
def T_X11_howMany : zTy := fun vs σ Q => zok 2 vs = true ∧ zFix (F_X11_howMany Q) 0 (zlc vs) [] σ
def k_X11_count_0 (X : Nat → zK) (Q : zQ) : zK := i_il 1 <| i_ic 0 <| i_ic 6 <| i_call 3 T_X11_within <| i_ifne (i_al 0 <| i_il 1 <| i_cv 11 2 T_X11_howMany <| i_ir Q) <| i_al 0 <| i_ic (-2) <| i_cv 11 2 T_X11_refuse <| i_ir Q
def F_X11_count (Q : zQ) (X : Nat → zK) : Nat → zK
  | 0 => k_X11_count_0 X Q
  | _ => fun _ _ _ => False
def T_X11_count : zTy := fun vs σ Q => zok 2 vs = true ∧ zFix (F_X11_count Q) 0 (zlc vs) [] σ
def k_X11_digest_0 (X : Nat → zK) (Q : zQ) : zK := i_lc 1171 <| i_lst 1 <| i_ic 0 <| i_is 3 <| i_jmp X 1 [true, true, false, true]
def k_X11_digest_1 (X : Nat → zK) (Q : zQ) : zK := i_il 3 <| i_ic 6 <| i_cmpgt (i_ic 0 <| i_is 3 <| i_jmp X 2 [true, true, false, true]) <| i_lc 31 <| i_ll 1 <| i_lmul <| i_al 0 <| i_il 3 <| i_cv 11 2 T_X11_howMany <| i_i2l <| i_ladd <| i_lst 1 <| i_inc 3 1 <| i_jmp X 1 [true, true, false, true]
def k_X11_digest_2 (X : Nat → zK) (Q : zQ) : zK := i_il 3 <| i_ic 2 <| i_cmpge (i_ic 0 <| i_is 3 <| i_jmp X 3 [true, true, false, true]) <| i_lc 31 <| i_ll 1 <| i_lmul <| i_al 0 <| i_gf 11 0 <| i_gf 1 1 <| i_il 3 <| i_ia <| i_i2l <| i_ladd <| i_lst 1 <| i_inc 3 1 <| i_jmp X 2 [true, true, false, true]
def k_X11_digest_3 (X : Nat → zK) (Q : zQ) : zK := i_il 3 <| i_al 0 <| i_gf 11 0 <| i_gf 1 2 <| i_cmpge (i_ic 0 <| i_is 3 <| i_jmp X 5 [true, true, false, true]) <| i_ic 0 <| i_is 4 <| i_jmp X 4 [true, true, false, true, true]
def k_X11_digest_4 (X : Nat → zK) (Q : zQ) : zK := i_il 4 <| i_ic 5 <| i_cmpgt (i_inc 3 1 <| i_jmp X 3 [true, true, false, true]) <| i_lc 31 <| i_ll 1 <| i_lmul <| i_al 0 <| i_gf 11 0 <| i_il 3 <| i_il 4 <| i_cv 1 3 T_X1_trait <| i_i2l <| i_ladd <| i_lst 1 <| i_inc 4 1 <| i_jmp X 4 [true, true, false, true, true]
def k_X11_digest_5 (X : Nat → zK) (Q : zQ) : zK := i_il 3 <| i_al 0 <| i_gf 11 0 <| i_gf 1 9 <| i_cmpge (i_lc 31 <| i_ll 1 <| i_lmul <| i_al 0 <| i_gf 11 9 <| i_ladd <| i_lst 1 <| i_lc 31 <| i_ll 1 <| i_lmul <| i_al 0 <| i_gf 11 10 <| i_ladd <| i_lr Q) <| i_lc 31 <| i_ll 1 <| i_lmul <| i_al 0 <| i_gf 11 0 <| i_gf 1 10 <| i_il 3 <| i_ia <| i_i2l <| i_ladd <| i_lst 1 <| i_lc 31 <| i_ll 1 <| i_lmul <| i_al 0 <| i_gf 11 0 <| i_gf 1 11 <| i_il 3 <| i_ia <| i_i2l <| i_ladd <| i_lst 1 <| i_lc 31 <| i_ll 1 <| i_lmul <| i_al 0 <| i_gf 11 0 <| i_gf 1 12 <| i_il 3 <| i_ia <| i_i2l <| i_ladd <| i_lst 1 <| i_inc 3 1 <| i_jmp X 5 [true, true, false, true]
def F_X11_digest (Q : zQ) (X : Nat → zK) : Nat → zK
  | 0 => k_X11_digest_0 X Q
  | 1 => k_X11_digest_1 X Q
  | 2 => k_X11_digest_2 X Q
  | 3 => k_X11_digest_3 X Q
  | 4 => k_X11_digest_4 X Q
  | 5 => k_X11_digest_5 X Q
  | _ => fun _ _ _ => False
def T_X11_digest : zTy := fun vs σ Q => zok 5 vs = true ∧ zFix (F_X11_digest Q) 0 (zlc vs) [] σ
def k_X12_in_0 (X : Nat → zK) (Q : zQ) : zK := i_ll 0 <| i_ll 2 <| i_lcmp <| i_iflt (i_ic 0 <| i_zr Q) <| i_ll 0 <| i_ll 4 <| i_lcmp <| i_ifgt (i_ic 0 <| i_zr Q) <| i_ic 1 <| i_zr Q
def F_X12_in (Q : zQ) (X : Nat → zK) : Nat → zK
  | 0 => k_X12_in_0 X Q
  | _ => fun _ _ _ => False
def T_X12_in : zTy := fun vs σ Q => zok 6 vs = true ∧ zFix (F_X12_in Q) 0 (zlc vs) [] σ
def k_X12_bad_0 (X : Nat → zK) (Q : zQ) : zK := i_al 0 <| i_gf 12 3 <| i_ic 0 <| i_dup2 <| i_ia <| i_ic 1 <| i_iadd <| i_iast <| i_il 1 <| i_ir Q
def F_X12_bad (Q : zQ) (X : Nat → zK) : Nat → zK
  | 0 => k_X12_bad_0 X Q
  | _ => fun _ _ _ => False
def T_X12_bad : zTy := fun vs σ Q => zok 2 vs = true ∧ zFix (F_X12_bad Q) 0 (zlc vs) [] σ
def k_X12_no_0 (X : Nat → zK) (Q : zQ) : zK := i_al 0 <| i_gf 12 3 <| i_ic 1 <| i_dup2 <| i_ia <| i_ic 1 <| i_iadd <| i_iast <| i_ic (-3) <| i_ir Q
def F_X12_no (Q : zQ) (X : Nat → zK) : Nat → zK
  | 0 => k_X12_no_0 X Q
  | _ => fun _ _ _ => False
def T_X12_no : zTy := fun vs σ Q => zok 1 vs = true ∧ zFix (F_X12_no Q) 0 (zlc vs) [] σ
def k_X12_full_0 (X : Nat → zK) (Q : zQ) : zK := i_al 0 <| i_gf 12 3 <| i_ic 2 <| i_dup2 <| i_ia <| i_ic 1 <| i_iadd <| i_iast <| i_ic (-4) <| i_ir Q
def F_X12_full (Q : zQ) (X : Nat → zK) : Nat → zK
  | 0 => k_X12_full_0 X Q
  | _ => fun _ _ _ => False
def T_X12_full : zTy := fun vs σ Q => zok 1 vs = true ∧ zFix (F_X12_full Q) 0 (zlc vs) [] σ
def k_X12_bits_0 (X : Nat → zK) (Q : zQ) : zK := i_ic 0 <| i_is 1 <| i_il 0 <| i_is 2 <| i_jmp X 1 [false, true, true]
def k_X12_bits_1 (X : Nat → zK) (Q : zQ) : zK := i_il 2 <| i_ifle (i_il 1 <| i_ir Q) <| i_il 1 <| i_il 2 <| i_ic 1 <| i_iand <| i_iadd <| i_is 1 <| i_il 2 <| i_ic 1 <| i_ishr <| i_is 2 <| i_jmp X 1 [false, true, true]
def F_X12_bits (Q : zQ) (X : Nat → zK) : Nat → zK
  | 0 => k_X12_bits_0 X Q
  | 1 => k_X12_bits_1 X Q
  | _ => fun _ _ _ => False
def T_X12_bits : zTy := fun vs σ Q => zok 3 vs = true ∧ zFix (F_X12_bits Q) 0 (zlc vs) [] σ
def k_X12_has_0 (X : Nat → zK) (Q : zQ) : zK := i_il 0 <| i_il 1 <| i_ishr <| i_ic 1 <| i_iand <| i_ic 1 <| i_cmpne (i_ic 0 <| i_zr Q) <| i_ic 1 <| i_zr Q
def F_X12_has (Q : zQ) (X : Nat → zK) : Nat → zK
  | 0 => k_X12_has_0 X Q
  | _ => fun _ _ _ => False
def T_X12_has : zTy := fun vs σ Q => zok 2 vs = true ∧ zFix (F_X12_has Q) 0 (zlc vs) [] σ
def k_X12_begin_0 (X : Nat → zK) (Q : zQ) : zK := i_ic 0 <| i_is 2 <| i_jmp X 1 [true, true, true]
def k_X12_begin_1 (X : Nat → zK) (Q : zQ) : zK := i_il 2 <| i_ic 66 <| i_cmpge (i_al 0 <| i_ic 1 <| i_il 1 <| i_iast <| i_vr Q) <| i_al 0 <| i_il 2 <| i_ic 0 <| i_iast <| i_inc 2 1 <| i_jmp X 1 [true, true, true]
def F_X12_begin (Q : zQ) (X : Nat → zK) : Nat → zK
  | 0 => k_X12_begin_0 X Q
  | 1 => k_X12_begin_1 X Q
  | _ => fun _ _ _ => False
def T_X12_begin : zTy := fun vs σ Q => zok 3 vs = true ∧ zFix (F_X12_begin Q) 0 (zlc vs) [] σ
def k_X12_many_0 (X : Nat → zK) (Q : zQ) : zK := i_al 0 <| i_gf 12 0 <| i_ic 0 <| i_ia <| i_ir Q
def F_X12_many (Q : zQ) (X : Nat → zK) : Nat → zK
  | 0 => k_X12_many_0 X Q
  | _ => fun _ _ _ => False
def T_X12_many : zTy := fun vs σ Q => zok 1 vs = true ∧ zFix (F_X12_many Q) 0 (zlc vs) [] σ
def k_X12_isFamily_0 (X : Nat → zK) (Q : zQ) : zK := i_il 1 <| i_i2l <| i_lc 0 <| i_al 0 <| i_cv 12 1 T_X12_many <| i_ic 1 <| i_isub <| i_i2l <| i_call 3 T_X12_in <| i_zr Q
def F_X12_isFamily (Q : zQ) (X : Nat → zK) : Nat → zK
  | 0 => k_X12_isFamily_0 X Q
  | _ => fun _ _ _ => False
def T_X12_isFamily : zTy := fun vs σ Q => zok 2 vs = true ∧ zFix (F_X12_isFamily Q) 0 (zlc vs) [] σ
def k_X12_isWord_0 (X : Nat → zK) (Q : zQ) : zK := i_il 0 <| i_i2l <| i_lc 0 <| i_lc 15 <| i_call 3 T_X12_in <| i_zr Q
def F_X12_isWord (Q : zQ) (X : Nat → zK) : Nat → zK
  | 0 => k_X12_isWord_0 X Q
  | _ => fun _ _ _ => False
def T_X12_isWord : zTy := fun vs σ Q => zok 1 vs = true ∧ zFix (F_X12_isWord Q) 0 (zlc vs) [] σ
def k_X12_isBook_0 (X : Nat → zK) (Q : zQ) : zK := i_il 0 <| i_i2l <| i_lc 0 <| i_lc 1 <| i_call 3 T_X12_in <| i_zr Q
def F_X12_isBook (Q : zQ) (X : Nat → zK) : Nat → zK
  | 0 => k_X12_isBook_0 X Q
  | _ => fun _ _ _ => False
def T_X12_isBook : zTy := fun vs σ Q => zok 1 vs = true ∧ zFix (F_X12_isBook Q) 0 (zlc vs) [] σ
def k_X12_isPewOf_0 (X : Nat → zK) (Q : zQ) : zK := i_il 0 <| i_i2l <| i_lc 0 <| i_lc 9 <| i_call 3 T_X12_in <| i_ifeq (i_ic 0 <| i_zr Q) <| i_il 0 <| i_ic 2 <| i_irem <| i_il 1 <| i_cmpne (i_ic 0 <| i_zr Q) <| i_ic 1 <| i_zr Q
def F_X12_isPewOf (Q : zQ) (X : Nat → zK) : Nat → zK
  | 0 => k_X12_isPewOf_0 X Q
  | _ => fun _ _ _ => False
def T_X12_isPewOf : zTy := fun vs σ Q => zok 2 vs = true ∧ zFix (F_X12_isPewOf Q) 0 (zlc vs) [] σ
def k_X12_get_0 (X : Nat → zK) (Q : zQ) : zK := i_al 0 <| i_gf 12 0 <| i_ic 6 <| i_ic 6 <| i_il 1 <| i_imul <| i_iadd <| i_il 2 <| i_iadd <| i_ia <| i_ir Q
def F_X12_get (Q : zQ) (X : Nat → zK) : Nat → zK
  | 0 => k_X12_get_0 X Q
  | _ => fun _ _ _ => False
def T_X12_get : zTy := fun vs σ Q => zok 3 vs = true ∧ zFix (F_X12_get Q) 0 (zlc vs) [] σ
def k_X12_isTaken_0 (X : Nat → zK) (Q : zQ) : zK := i_ic 0 <| i_is 2 <| i_ic 0 <| i_is 3 <| i_jmp X 1 [true, true, true, true]
def k_X12_isTaken_1 (X : Nat → zK) (Q : zQ) : zK := i_il 3 <| i_al 0 <| i_ic 0 <| i_ia <| i_cmpge (i_il 2 <| i_zr Q) <| i_il 2 <| i_ifne (i_jmp X 2 [true, true, false, true]) <| i_al 0 <| i_ic 6 <| i_ic 6 <| i_il 3 <| i_imul <| i_iadd <| i_ic 4 <| i_iadd <| i_ia <| i_il 1 <| i_cmpne (i_ic 0 <| i_jmp X 3 [true, true, false, true]) <| i_jmp X 2 [true, true, false, true]
def k_X12_isTaken_2 (X : Nat → zK) (Q : zQ) : zK := i_ic 1 <| i_jmp X 3 [true, true, false, true]
def k_X12_isTaken_3 (X : Nat → zK) (Q : zQ) : zK := i_is 2 <| i_inc 3 1 <| i_jmp X 1 [true, true, true, true]
def F_X12_isTaken (Q : zQ) (X : Nat → zK) : Nat → zK
  | 0 => k_X12_isTaken_0 X Q
  | 1 => k_X12_isTaken_1 X Q
  | 2 => k_X12_isTaken_2 X Q
  | 3 => k_X12_isTaken_3 X Q
  | _ => fun _ _ _ => False
def T_X12_isTaken : zTy := fun vs σ Q => zok 4 vs = true ∧ zFix (F_X12_isTaken Q) 0 (zlc vs) [] σ
def k_X12_church_0 (X : Nat → zK) (Q : zQ) : zK := i_il 1 <| i_i2l <| i_lc 0 <| i_lc 30 <| i_call 3 T_X12_in <| i_ifne (i_al 0 <| i_cv 12 1 T_X12_many <| i_is 2 <| i_al 0 <| i_gf 12 0 <| i_il 1 <| i_call 2 T_X12_begin <| i_il 2 <| i_ir Q) <| i_al 0 <| i_ic (-2) <| i_cv 12 2 T_X12_bad <| i_ir Q
def F_X12_church (Q : zQ) (X : Nat → zK) : Nat → zK
  | 0 => k_X12_church_0 X Q
  | _ => fun _ _ _ => False
def T_X12_church : zTy := fun vs σ Q => zok 3 vs = true ∧ zFix (F_X12_church Q) 0 (zlc vs) [] σ
def k_X12_book_0 (X : Nat → zK) (Q : zQ) : zK := i_il 1 <| i_call 1 T_X12_isBook <| i_ifeq (i_jmp X 1 [true]) <| i_il 2 <| i_i2l <| i_lc 0 <| i_lc 65535 <| i_call 3 T_X12_in <| i_ifne (i_al 0 <| i_gf 12 0 <| i_ic 2 <| i_il 1 <| i_iadd <| i_ia <| i_is 3 <| i_al 0 <| i_gf 12 0 <| i_ic 2 <| i_il 1 <| i_iadd <| i_il 2 <| i_iast <| i_il 3 <| i_ir Q) <| i_jmp X 1 [true]
def k_X12_book_1 (X : Nat → zK) (Q : zQ) : zK := i_al 0 <| i_ic (-2) <| i_cv 12 2 T_X12_bad <| i_ir Q
def F_X12_book (Q : zQ) (X : Nat → zK) : Nat → zK
  | 0 => k_X12_book_0 X Q
  | 1 => k_X12_book_1 X Q
  | _ => fun _ _ _ => False
def T_X12_book : zTy := fun vs σ Q => zok 4 vs = true ∧ zFix (F_X12_book Q) 0 (zlc vs) [] σ
def k_X12_layFamily_0 (X : Nat → zK) (Q : zQ) : zK := i_ic 6 <| i_ic 6 <| i_al 0 <| i_ic 0 <| i_ia <| i_imul <| i_iadd <| i_is 6 <| i_al 0 <| i_il 6 <| i_ic 0 <| i_iadd <| i_il 1 <| i_iast <| i_al 0 <| i_il 6 <| i_ic 1 <| i_iadd <| i_il 2 <| i_iast <| i_al 0 <| i_il 6 <| i_ic 2 <| i_iadd <| i_il 3 <| i_iast <| i_al 0 <| i_il 6 <| i_ic 3 <| i_iadd <| i_il 4 <| i_iast <| i_al 0 <| i_il 6 <| i_ic 4 <| i_iadd <| i_il 5 <| i_iast <| i_al 0 <| i_il 6 <| i_ic 5 <| i_iadd <| i_ic 0 <| i_iast <| i_al 0 <| i_ic 0 <| i_dup2 <| i_ia <| i_ic 1 <| i_iadd <| i_iast <| i_vr Q
def F_X12_layFamily (Q : zQ) (X : Nat → zK) : Nat → zK
  | 0 => k_X12_layFamily_0 X Q
  | _ => fun _ _ _ => False
def T_X12_layFamily : zTy := fun vs σ Q => zok 7 vs = true ∧ zFix (F_X12_layFamily Q) 0 (zlc vs) [] σ
def k_X12_family_0 (X : Nat → zK) (Q : zQ) : zK := i_il 1 <| i_i2l <| i_lc 0 <| i_lc 5 <| i_call 3 T_X12_in <| i_ifeq (i_jmp X 1 [true]) <| i_il 2 <| i_call 1 T_X12_isBook <| i_ifeq (i_jmp X 1 [true]) <| i_il 3 <| i_i2l <| i_lc 1 <| i_lc 9 <| i_call 3 T_X12_in <| i_ifeq (i_jmp X 1 [true]) <| i_il 4 <| i_i2l <| i_lc 1 <| i_lc 20 <| i_call 3 T_X12_in <| i_ifeq (i_jmp X 1 [true]) <| i_il 5 <| i_il 2 <| i_call 2 T_X12_isPewOf <| i_ifne (i_al 0 <| i_gf 12 0 <| i_il 5 <| i_call 2 T_X12_isTaken <| i_ifeq (i_al 0 <| i_cv 12 1 T_X12_many <| i_ic 7 <| i_cmpne (i_al 0 <| i_gf 12 0 <| i_il 1 <| i_il 2 <| i_il 3 <| i_il 4 <| i_il 5 <| i_call 6 T_X12_layFamily <| i_al 0 <| i_gf 12 0 <| i_ic 5 <| i_ic 0 <| i_iast <| i_al 0 <| i_cv 12 1 T_X12_many <| i_ic 1 <| i_isub <| i_ir Q) <| i_al 0 <| i_cv 12 1 T_X12_full <| i_ir Q) <| i_al 0 <| i_cv 12 1 T_X12_no <| i_ir Q) <| i_jmp X 1 [true]
def k_X12_family_1 (X : Nat → zK) (Q : zQ) : zK := i_al 0 <| i_ic (-2) <| i_cv 12 2 T_X12_bad <| i_ir Q
def F_X12_family (Q : zQ) (X : Nat → zK) : Nat → zK
  | 0 => k_X12_family_0 X Q
  | 1 => k_X12_family_1 X Q
  | _ => fun _ _ _ => False
def T_X12_family : zTy := fun vs σ Q => zok 6 vs = true ∧ zFix (F_X12_family Q) 0 (zlc vs) [] σ
def k_X12_layHand_0 (X : Nat → zK) (Q : zQ) : zK := i_al 0 <| i_ic 0 <| i_pf 12 9 <| i_ic 0 <| i_is 1 <| i_jmp X 1 [true, true]
def k_X12_layHand_1 (X : Nat → zK) (Q : zQ) : zK := i_il 1 <| i_al 0 <| i_cv 12 1 T_X12_many <| i_cmpge (i_vr Q) <| i_al 0 <| i_gf 12 6 <| i_il 1 <| i_al 0 <| i_il 1 <| i_ic 0 <| i_cv 12 3 T_X12_get <| i_iast <| i_al 0 <| i_gf 12 7 <| i_il 1 <| i_al 0 <| i_il 1 <| i_ic 1 <| i_cv 12 3 T_X12_get <| i_iast <| i_al 0 <| i_gf 12 8 <| i_il 1 <| i_al 0 <| i_il 1 <| i_ic 4 <| i_cv 12 3 T_X12_get <| i_iast <| i_al 0 <| i_dup <| i_gf 12 9 <| i_al 0 <| i_il 1 <| i_ic 5 <| i_cv 12 3 T_X12_get <| i_il 1 <| i_ishl <| i_ior <| i_pf 12 9 <| i_inc 1 1 <| i_jmp X 1 [true, true]
def F_X12_layHand (Q : zQ) (X : Nat → zK) : Nat → zK
  | 0 => k_X12_layHand_0 X Q
  | 1 => k_X12_layHand_1 X Q
  | _ => fun _ _ _ => False
def T_X12_layHand : zTy := fun vs σ Q => zok 2 vs = true ∧ zFix (F_X12_layHand Q) 0 (zlc vs) [] σ
def k_X12_kneels_0 (X : Nat → zK) (Q : zQ) : zK := i_al 0 <| i_gf 12 0 <| i_ic 2 <| i_al 0 <| i_gf 12 7 <| i_il 1 <| i_ia <| i_iadd <| i_ia <| i_il 2 <| i_call 2 T_X12_has <| i_is 3 <| i_al 0 <| i_gf 12 0 <| i_ic 3 <| i_al 0 <| i_gf 12 7 <| i_il 1 <| i_ia <| i_isub <| i_ia <| i_il 2 <| i_call 2 T_X12_has <| i_is 4 <| i_al 0 <| i_gf 12 6 <| i_il 1 <| i_ia <| i_ic 2 <| i_cmpne (i_al 0 <| i_gf 12 6 <| i_il 1 <| i_ia <| i_ic 5 <| i_cmpne (i_al 0 <| i_gf 12 6 <| i_il 1 <| i_ia <| i_ic 3 <| i_cmpeq (i_ic 0 <| i_zr Q) <| i_il 3 <| i_ifeq (i_ic 0 <| i_zr Q) <| i_ic 1 <| i_zr Q) <| i_il 3 <| i_ifeq (i_jmp X 2 []) <| i_il 4 <| i_ifeq (i_jmp X 2 []) <| i_ic 1 <| i_zr Q) <| i_il 3 <| i_ifne (i_jmp X 1 []) <| i_il 4 <| i_ifeq (i_ic 0 <| i_zr Q) <| i_jmp X 1 []
def k_X12_kneels_1 (X : Nat → zK) (Q : zQ) : zK := i_ic 1 <| i_zr Q
def k_X12_kneels_2 (X : Nat → zK) (Q : zQ) : zK := i_ic 0 <| i_zr Q
def F_X12_kneels (Q : zQ) (X : Nat → zK) : Nat → zK
  | 0 => k_X12_kneels_0 X Q
  | 1 => k_X12_kneels_1 X Q
  | 2 => k_X12_kneels_2 X Q
  | _ => fun _ _ _ => False
def T_X12_kneels : zTy := fun vs σ Q => zok 5 vs = true ∧ zFix (F_X12_kneels Q) 0 (zlc vs) [] σ
def k_X12_high_0 (X : Nat → zK) (Q : zQ) : zK := i_al 0 <| i_il 1 <| i_il 2 <| i_cv 12 3 T_X12_kneels <| i_ifeq (i_al 0 <| i_il 1 <| i_ic 2 <| i_cv 12 3 T_X12_get <| i_jmp X 1 [true, true]) <| i_al 0 <| i_il 1 <| i_ic 2 <| i_cv 12 3 T_X12_get <| i_ic 2 <| i_idiv <| i_jmp X 1 [true, true]
def k_X12_high_1 (X : Nat → zK) (Q : zQ) : zK := i_is 3 <| i_il 3 <| i_ic 2 <| i_cmple (i_ic 0 <| i_jmp X 2 [true, true, false, true]) <| i_il 3 <| i_ic 2 <| i_isub <| i_jmp X 2 [true, true, false, true]
def k_X12_high_2 (X : Nat → zK) (Q : zQ) : zK := i_is 4 <| i_al 0 <| i_gf 12 6 <| i_il 1 <| i_ia <| i_ic 3 <| i_cmpne (i_al 0 <| i_gf 12 6 <| i_il 1 <| i_ia <| i_ic 4 <| i_cmpne (i_il 3 <| i_ir Q) <| i_il 4 <| i_ir Q) <| i_il 3 <| i_ic 1 <| i_iadd <| i_ir Q
def F_X12_high (Q : zQ) (X : Nat → zK) : Nat → zK
  | 0 => k_X12_high_0 X Q
  | 1 => k_X12_high_1 X Q
  | 2 => k_X12_high_2 X Q
  | _ => fun _ _ _ => False
def T_X12_high : zTy := fun vs σ Q => zok 5 vs = true ∧ zFix (F_X12_high Q) 0 (zlc vs) [] σ
def k_X12_voices_0 (X : Nat → zK) (Q : zQ) : zK := i_al 0 <| i_gf 12 9 <| i_il 1 <| i_call 2 T_X12_has <| i_ifne (i_jmp X 1 [true, true]) <| i_al 0 <| i_il 1 <| i_il 2 <| i_cv 12 3 T_X12_kneels <| i_ifeq (i_al 0 <| i_il 1 <| i_ic 3 <| i_cv 12 3 T_X12_get <| i_jmp X 2 [true, true]) <| i_jmp X 1 [true, true]
def k_X12_voices_1 (X : Nat → zK) (Q : zQ) : zK := i_ic 0 <| i_jmp X 2 [true, true]
def k_X12_voices_2 (X : Nat → zK) (Q : zQ) : zK := i_is 3 <| i_il 3 <| i_ifle (i_ic 0 <| i_jmp X 3 [true, true, false, true]) <| i_il 3 <| i_ic 1 <| i_isub <| i_jmp X 3 [true, true, false, true]
def k_X12_voices_3 (X : Nat → zK) (Q : zQ) : zK := i_is 4 <| i_al 0 <| i_gf 12 6 <| i_il 1 <| i_ia <| i_ic 1 <| i_cmpeq (i_jmp X 4 [false, false, false, true]) <| i_al 0 <| i_gf 12 6 <| i_il 1 <| i_ia <| i_ic 4 <| i_cmpne (i_al 0 <| i_gf 12 6 <| i_il 1 <| i_ia <| i_ic 5 <| i_cmpne (i_il 3 <| i_ir Q) <| i_il 4 <| i_ir Q) <| i_jmp X 4 [false, false, false, true]
def k_X12_voices_4 (X : Nat → zK) (Q : zQ) : zK := i_il 3 <| i_ic 2 <| i_idiv <| i_ir Q
def F_X12_voices (Q : zQ) (X : Nat → zK) : Nat → zK
  | 0 => k_X12_voices_0 X Q
  | 1 => k_X12_voices_1 X Q
  | 2 => k_X12_voices_2 X Q
  | 3 => k_X12_voices_3 X Q
  | 4 => k_X12_voices_4 X Q
  | _ => fun _ _ _ => False
def T_X12_voices : zTy := fun vs σ Q => zok 5 vs = true ∧ zFix (F_X12_voices Q) 0 (zlc vs) [] σ
def k_X12_sees_0 (X : Nat → zK) (Q : zQ) : zK := i_ic 1 <| i_is 3 <| i_ic 0 <| i_is 4 <| i_jmp X 1 [true, true, true, true, true]
def k_X12_sees_1 (X : Nat → zK) (Q : zQ) : zK := i_il 4 <| i_al 0 <| i_cv 12 1 T_X12_many <| i_cmpge (i_il 3 <| i_zr Q) <| i_il 3 <| i_ifeq (i_jmp X 3 [true, true, true, false, true]) <| i_al 0 <| i_gf 12 8 <| i_il 4 <| i_ia <| i_al 0 <| i_gf 12 8 <| i_il 1 <| i_ia <| i_cmpge (i_jmp X 2 [true, true, true, false, true]) <| i_al 0 <| i_il 4 <| i_il 2 <| i_cv 12 3 T_X12_high <| i_al 0 <| i_il 1 <| i_il 2 <| i_cv 12 3 T_X12_high <| i_cmpge (i_jmp X 3 [true, true, true, false, true]) <| i_jmp X 2 [true, true, true, false, true]
def k_X12_sees_2 (X : Nat → zK) (Q : zQ) : zK := i_ic 1 <| i_jmp X 4 [true, true, true, false, true]
def k_X12_sees_3 (X : Nat → zK) (Q : zQ) : zK := i_ic 0 <| i_jmp X 4 [true, true, true, false, true]
def k_X12_sees_4 (X : Nat → zK) (Q : zQ) : zK := i_is 3 <| i_inc 4 1 <| i_jmp X 1 [true, true, true, true, true]
def F_X12_sees (Q : zQ) (X : Nat → zK) : Nat → zK
  | 0 => k_X12_sees_0 X Q
  | 1 => k_X12_sees_1 X Q
  | 2 => k_X12_sees_2 X Q
  | 3 => k_X12_sees_3 X Q
  | 4 => k_X12_sees_4 X Q
  | _ => fun _ _ _ => False
def T_X12_sees : zTy := fun vs σ Q => zok 5 vs = true ∧ zFix (F_X12_sees Q) 0 (zlc vs) [] σ
def k_X12_loudOf_0 (X : Nat → zK) (Q : zQ) : zK := i_ic 0 <| i_is 3 <| i_ic 0 <| i_is 4 <| i_jmp X 1 [true, true, true, true, true]
def k_X12_loudOf_1 (X : Nat → zK) (Q : zQ) : zK := i_il 4 <| i_al 0 <| i_cv 12 1 T_X12_many <| i_cmpge (i_il 3 <| i_ir Q) <| i_il 3 <| i_al 0 <| i_gf 12 7 <| i_il 4 <| i_ia <| i_il 2 <| i_cmpne (i_ic 0 <| i_jmp X 2 [true, true, true, false, true]) <| i_al 0 <| i_il 4 <| i_il 1 <| i_cv 12 3 T_X12_voices <| i_jmp X 2 [true, true, true, false, true]
def k_X12_loudOf_2 (X : Nat → zK) (Q : zQ) : zK := i_iadd <| i_is 3 <| i_inc 4 1 <| i_jmp X 1 [true, true, true, true, true]
def F_X12_loudOf (Q : zQ) (X : Nat → zK) : Nat → zK
  | 0 => k_X12_loudOf_0 X Q
  | 1 => k_X12_loudOf_1 X Q
  | 2 => k_X12_loudOf_2 X Q
  | _ => fun _ _ _ => False
def T_X12_loudOf : zTy := fun vs σ Q => zok 5 vs = true ∧ zFix (F_X12_loudOf Q) 0 (zlc vs) [] σ
def k_X12_isPeace_0 (X : Nat → zK) (Q : zQ) : zK := i_al 0 <| i_il 1 <| i_ic 0 <| i_cv 12 3 T_X12_loudOf <| i_al 0 <| i_il 1 <| i_ic 1 <| i_cv 12 3 T_X12_loudOf <| i_isub <| i_is 2 <| i_il 2 <| i_i2l <| i_al 0 <| i_gf 12 0 <| i_ic 1 <| i_ia <| i_ineg <| i_i2l <| i_al 0 <| i_gf 12 0 <| i_ic 1 <| i_ia <| i_i2l <| i_call 3 T_X12_in <| i_zr Q
def F_X12_isPeace (Q : zQ) (X : Nat → zK) : Nat → zK
  | 0 => k_X12_isPeace_0 X Q
  | _ => fun _ _ _ => False
def T_X12_isPeace : zTy := fun vs σ Q => zok 3 vs = true ∧ zFix (F_X12_isPeace Q) 0 (zlc vs) [] σ
def k_X12_peaces_0 (X : Nat → zK) (Q : zQ) : zK := i_ic 0 <| i_is 1 <| i_ic 0 <| i_is 2 <| i_jmp X 1 [true, true, true]
def k_X12_peaces_1 (X : Nat → zK) (Q : zQ) : zK := i_il 2 <| i_ic 16 <| i_cmpge (i_il 1 <| i_ir Q) <| i_il 1 <| i_al 0 <| i_il 2 <| i_cv 12 2 T_X12_isPeace <| i_ifeq (i_ic 0 <| i_jmp X 2 [true, false, true]) <| i_ic 1 <| i_jmp X 2 [true, false, true]
def k_X12_peaces_2 (X : Nat → zK) (Q : zQ) : zK := i_iadd <| i_is 1 <| i_inc 2 1 <| i_jmp X 1 [true, true, true]
def F_X12_peaces (Q : zQ) (X : Nat → zK) : Nat → zK
  | 0 => k_X12_peaces_0 X Q
  | 1 => k_X12_peaces_1 X Q
  | 2 => k_X12_peaces_2 X Q
  | _ => fun _ _ _ => False
def T_X12_peaces : zTy := fun vs σ Q => zok 3 vs = true ∧ zFix (F_X12_peaces Q) 0 (zlc vs) [] σ
def k_X12_keep_0 (X : Nat → zK) (Q : zQ) : zK := i_al 0 <| i_gf 12 0 <| i_ic 5 <| i_ia <| i_ic 8 <| i_cmpne (i_jmp X 2 [true]) <| i_ic 0 <| i_is 1 <| i_jmp X 1 [true, true]
def k_X12_keep_1 (X : Nat → zK) (Q : zQ) : zK := i_il 1 <| i_ic 98 <| i_cmpge (i_al 0 <| i_gf 12 0 <| i_ic 5 <| i_ic 7 <| i_iast <| i_jmp X 2 [true]) <| i_al 0 <| i_gf 12 0 <| i_ic 66 <| i_il 1 <| i_iadd <| i_al 0 <| i_gf 12 0 <| i_ic 80 <| i_il 1 <| i_iadd <| i_ia <| i_iast <| i_inc 1 1 <| i_jmp X 1 [true, true]
def k_X12_keep_2 (X : Nat → zK) (Q : zQ) : zK := i_ic 66 <| i_ic 14 <| i_al 0 <| i_gf 12 0 <| i_ic 5 <| i_ia <| i_imul <| i_iadd <| i_is 1 <| i_ic 0 <| i_is 2 <| i_jmp X 3 [true, true, true]
def k_X12_keep_3 (X : Nat → zK) (Q : zQ) : zK := i_il 2 <| i_ic 7 <| i_cmpge (i_al 0 <| i_gf 12 0 <| i_ic 5 <| i_dup2 <| i_ia <| i_ic 1 <| i_iadd <| i_iast <| i_vr Q) <| i_al 0 <| i_gf 12 0 <| i_il 1 <| i_il 2 <| i_iadd <| i_al 0 <| i_il 2 <| i_ic 4 <| i_cv 12 3 T_X12_get <| i_iast <| i_al 0 <| i_gf 12 0 <| i_il 1 <| i_ic 7 <| i_iadd <| i_il 2 <| i_iadd <| i_al 0 <| i_il 2 <| i_ic 5 <| i_cv 12 3 T_X12_get <| i_iast <| i_inc 2 1 <| i_jmp X 3 [true, true, true]
def F_X12_keep (Q : zQ) (X : Nat → zK) : Nat → zK
  | 0 => k_X12_keep_0 X Q
  | 1 => k_X12_keep_1 X Q
  | 2 => k_X12_keep_2 X Q
  | 3 => k_X12_keep_3 X Q
  | _ => fun _ _ _ => False
def T_X12_keep : zTy := fun vs σ Q => zok 3 vs = true ∧ zFix (F_X12_keep Q) 0 (zlc vs) [] σ
def k_X12_move_0 (X : Nat → zK) (Q : zQ) : zK := i_al 0 <| i_il 1 <| i_cv 12 2 T_X12_isFamily <| i_ifeq (i_jmp X 1 [true]) <| i_il 2 <| i_al 0 <| i_il 1 <| i_ic 1 <| i_cv 12 3 T_X12_get <| i_call 2 T_X12_isPewOf <| i_ifne (i_al 0 <| i_gf 12 0 <| i_il 2 <| i_call 2 T_X12_isTaken <| i_ifeq (i_al 0 <| i_il 1 <| i_ic 4 <| i_cv 12 3 T_X12_get <| i_is 3 <| i_al 0 <| i_cv 12 1 T_X12_keep <| i_al 0 <| i_gf 12 0 <| i_ic 6 <| i_ic 6 <| i_il 1 <| i_imul <| i_iadd <| i_ic 4 <| i_iadd <| i_il 2 <| i_iast <| i_il 3 <| i_ir Q) <| i_al 0 <| i_cv 12 1 T_X12_no <| i_ir Q) <| i_jmp X 1 [true]
def k_X12_move_1 (X : Nat → zK) (Q : zQ) : zK := i_al 0 <| i_ic (-2) <| i_cv 12 2 T_X12_bad <| i_ir Q
def F_X12_move (Q : zQ) (X : Nat → zK) : Nat → zK
  | 0 => k_X12_move_0 X Q
  | 1 => k_X12_move_1 X Q
  | _ => fun _ _ _ => False
def T_X12_move : zTy := fun vs σ Q => zok 4 vs = true ∧ zFix (F_X12_move Q) 0 (zlc vs) [] σ
def k_X12_cold_0 (X : Nat → zK) (Q : zQ) : zK := i_al 0 <| i_il 1 <| i_cv 12 2 T_X12_isFamily <| i_ifeq (i_jmp X 1 [true]) <| i_il 2 <| i_i2l <| i_lc 0 <| i_lc 1 <| i_call 3 T_X12_in <| i_ifne (i_al 0 <| i_il 1 <| i_ic 5 <| i_cv 12 3 T_X12_get <| i_is 3 <| i_al 0 <| i_cv 12 1 T_X12_keep <| i_al 0 <| i_gf 12 0 <| i_ic 6 <| i_ic 6 <| i_il 1 <| i_imul <| i_iadd <| i_ic 5 <| i_iadd <| i_il 2 <| i_iast <| i_il 3 <| i_ir Q) <| i_jmp X 1 [true]
def k_X12_cold_1 (X : Nat → zK) (Q : zQ) : zK := i_al 0 <| i_ic (-2) <| i_cv 12 2 T_X12_bad <| i_ir Q
def F_X12_cold (Q : zQ) (X : Nat → zK) : Nat → zK
  | 0 => k_X12_cold_0 X Q
  | 1 => k_X12_cold_1 X Q
  | _ => fun _ _ _ => False
def T_X12_cold : zTy := fun vs σ Q => zok 4 vs = true ∧ zFix (F_X12_cold Q) 0 (zlc vs) [] σ
def k_X12_manyColds_0 (X : Nat → zK) (Q : zQ) : zK := i_ic 0 <| i_is 1 <| i_ic 0 <| i_is 2 <| i_jmp X 1 [true, true, true]
def k_X12_manyColds_1 (X : Nat → zK) (Q : zQ) : zK := i_il 2 <| i_al 0 <| i_cv 12 1 T_X12_many <| i_cmpge (i_il 1 <| i_ir Q) <| i_il 1 <| i_al 0 <| i_il 2 <| i_ic 5 <| i_cv 12 3 T_X12_get <| i_iadd <| i_is 1 <| i_inc 2 1 <| i_jmp X 1 [true, true, true]
def F_X12_manyColds (Q : zQ) (X : Nat → zK) : Nat → zK
  | 0 => k_X12_manyColds_0 X Q
  | 1 => k_X12_manyColds_1 X Q
  | _ => fun _ _ _ => False
def T_X12_manyColds : zTy := fun vs σ Q => zok 3 vs = true ∧ zFix (F_X12_manyColds Q) 0 (zlc vs) [] σ
def k_X12_undo_0 (X : Nat → zK) (Q : zQ) : zK := i_al 0 <| i_gf 12 0 <| i_ic 5 <| i_ia <| i_ifne (i_al 0 <| i_gf 12 0 <| i_ic 5 <| i_dup2 <| i_ia <| i_ic 1 <| i_isub <| i_iast <| i_ic 66 <| i_ic 14 <| i_al 0 <| i_gf 12 0 <| i_ic 5 <| i_ia <| i_imul <| i_iadd <| i_is 1 <| i_ic 0 <| i_is 2 <| i_jmp X 1 [true, true, true]) <| i_al 0 <| i_cv 12 1 T_X12_no <| i_ir Q
def k_X12_undo_1 (X : Nat → zK) (Q : zQ) : zK := i_il 2 <| i_ic 7 <| i_cmpge (i_al 0 <| i_cv 12 1 T_X12_manyColds <| i_ir Q) <| i_al 0 <| i_gf 12 0 <| i_ic 6 <| i_ic 6 <| i_il 2 <| i_imul <| i_iadd <| i_ic 4 <| i_iadd <| i_al 0 <| i_gf 12 0 <| i_il 1 <| i_il 2 <| i_iadd <| i_ia <| i_iast <| i_al 0 <| i_gf 12 0 <| i_ic 6 <| i_ic 6 <| i_il 2 <| i_imul <| i_iadd <| i_ic 5 <| i_iadd <| i_al 0 <| i_gf 12 0 <| i_il 1 <| i_ic 7 <| i_iadd <| i_il 2 <| i_iadd <| i_ia <| i_iast <| i_inc 2 1 <| i_jmp X 1 [true, true, true]
def F_X12_undo (Q : zQ) (X : Nat → zK) : Nat → zK
  | 0 => k_X12_undo_0 X Q
  | 1 => k_X12_undo_1 X Q
  | _ => fun _ _ _ => False
def T_X12_undo : zTy := fun vs σ Q => zok 3 vs = true ∧ zFix (F_X12_undo Q) 0 (zlc vs) [] σ
def k_X12_of_0 (X : Nat → zK) (Q : zQ) : zK := i_al 0 <| i_il 1 <| i_cv 12 2 T_X12_isFamily <| i_ifeq (i_jmp X 1 [true]) <| i_il 2 <| i_i2l <| i_lc 0 <| i_lc 5 <| i_call 3 T_X12_in <| i_ifeq (i_jmp X 1 [true]) <| i_al 0 <| i_il 1 <| i_il 2 <| i_cv 12 3 T_X12_get <| i_ir Q
def k_X12_of_1 (X : Nat → zK) (Q : zQ) : zK := i_al 0 <| i_ic (-2) <| i_cv 12 2 T_X12_bad <| i_ir Q
def F_X12_of (Q : zQ) (X : Nat → zK) : Nat → zK
  | 0 => k_X12_of_0 X Q
  | 1 => k_X12_of_1 X Q
  | _ => fun _ _ _ => False
def T_X12_of : zTy := fun vs σ Q => zok 3 vs = true ∧ zFix (F_X12_of Q) 0 (zlc vs) [] σ
def k_X12_at_0 (X : Nat → zK) (Q : zQ) : zK := i_al 0 <| i_il 1 <| i_cv 12 2 T_X12_isFamily <| i_ifeq (i_jmp X 1 [true]) <| i_il 2 <| i_call 1 T_X12_isWord <| i_ifeq (i_jmp X 1 [true]) <| i_il 3 <| i_i2l <| i_lc 0 <| i_lc 3 <| i_call 3 T_X12_in <| i_ifne (i_al 0 <| i_cv 12 1 T_X12_layHand <| i_il 3 <| i_sw [(0, i_al 0 <| i_il 1 <| i_il 2 <| i_cv 12 3 T_X12_kneels <| i_ifeq (i_ic 0 <| i_ir Q) <| i_ic 1 <| i_ir Q), (1, i_al 0 <| i_il 1 <| i_il 2 <| i_cv 12 3 T_X12_high <| i_ir Q), (2, i_al 0 <| i_il 1 <| i_il 2 <| i_cv 12 3 T_X12_voices <| i_ir Q)] (i_al 0 <| i_il 1 <| i_il 2 <| i_cv 12 3 T_X12_sees <| i_ifeq (i_ic 0 <| i_ir Q) <| i_ic 1 <| i_ir Q)) <| i_jmp X 1 [true]
def k_X12_at_1 (X : Nat → zK) (Q : zQ) : zK := i_al 0 <| i_ic (-2) <| i_cv 12 2 T_X12_bad <| i_ir Q
def F_X12_at (Q : zQ) (X : Nat → zK) : Nat → zK
  | 0 => k_X12_at_0 X Q
  | 1 => k_X12_at_1 X Q
  | _ => fun _ _ _ => False
def T_X12_at : zTy := fun vs σ Q => zok 4 vs = true ∧ zFix (F_X12_at Q) 0 (zlc vs) [] σ
def k_X12_up_0 (X : Nat → zK) (Q : zQ) : zK := i_il 1 <| i_call 1 T_X12_isWord <| i_ifne (i_ic 0 <| i_is 2 <| i_al 0 <| i_cv 12 1 T_X12_layHand <| i_ic 0 <| i_is 3 <| i_jmp X 1 [true, true, true, true]) <| i_al 0 <| i_ic (-2) <| i_cv 12 2 T_X12_bad <| i_ir Q
def k_X12_up_1 (X : Nat → zK) (Q : zQ) : zK := i_il 3 <| i_al 0 <| i_cv 12 1 T_X12_many <| i_cmpge (i_il 2 <| i_ir Q) <| i_il 2 <| i_al 0 <| i_il 3 <| i_il 1 <| i_cv 12 3 T_X12_kneels <| i_ifeq (i_ic 1 <| i_il 3 <| i_ishl <| i_jmp X 2 [true, true, false, true]) <| i_ic 0 <| i_jmp X 2 [true, true, false, true]
def k_X12_up_2 (X : Nat → zK) (Q : zQ) : zK := i_ior <| i_is 2 <| i_inc 3 1 <| i_jmp X 1 [true, true, true, true]
def F_X12_up (Q : zQ) (X : Nat → zK) : Nat → zK
  | 0 => k_X12_up_0 X Q
  | 1 => k_X12_up_1 X Q
  | 2 => k_X12_up_2 X Q
  | _ => fun _ _ _ => False
def T_X12_up : zTy := fun vs σ Q => zok 4 vs = true ∧ zFix (F_X12_up Q) 0 (zlc vs) [] σ
def k_X12_seers_0 (X : Nat → zK) (Q : zQ) : zK := i_il 1 <| i_call 1 T_X12_isWord <| i_ifne (i_ic 0 <| i_is 2 <| i_al 0 <| i_cv 12 1 T_X12_layHand <| i_ic 0 <| i_is 3 <| i_jmp X 1 [true, true, true, true]) <| i_al 0 <| i_ic (-2) <| i_cv 12 2 T_X12_bad <| i_ir Q
def k_X12_seers_1 (X : Nat → zK) (Q : zQ) : zK := i_il 3 <| i_al 0 <| i_cv 12 1 T_X12_many <| i_cmpge (i_il 2 <| i_ir Q) <| i_il 2 <| i_al 0 <| i_il 3 <| i_il 1 <| i_cv 12 3 T_X12_sees <| i_ifeq (i_ic 0 <| i_jmp X 2 [true, true, false, true]) <| i_ic 1 <| i_il 3 <| i_ishl <| i_jmp X 2 [true, true, false, true]
def k_X12_seers_2 (X : Nat → zK) (Q : zQ) : zK := i_ior <| i_is 2 <| i_inc 3 1 <| i_jmp X 1 [true, true, true, true]
def F_X12_seers (Q : zQ) (X : Nat → zK) : Nat → zK
  | 0 => k_X12_seers_0 X Q
  | 1 => k_X12_seers_1 X Q
  | 2 => k_X12_seers_2 X Q
  | _ => fun _ _ _ => False
def T_X12_seers : zTy := fun vs σ Q => zok 4 vs = true ∧ zFix (F_X12_seers Q) 0 (zlc vs) [] σ
def k_X12_loud_0 (X : Nat → zK) (Q : zQ) : zK := i_il 1 <| i_call 1 T_X12_isWord <| i_ifeq (i_jmp X 1 [true]) <| i_il 2 <| i_call 1 T_X12_isBook <| i_ifne (i_al 0 <| i_cv 12 1 T_X12_layHand <| i_al 0 <| i_il 1 <| i_il 2 <| i_cv 12 3 T_X12_loudOf <| i_ir Q) <| i_jmp X 1 [true]
def k_X12_loud_1 (X : Nat → zK) (Q : zQ) : zK := i_al 0 <| i_ic (-2) <| i_cv 12 2 T_X12_bad <| i_ir Q
def F_X12_loud (Q : zQ) (X : Nat → zK) : Nat → zK
  | 0 => k_X12_loud_0 X Q
  | 1 => k_X12_loud_1 X Q
  | _ => fun _ _ _ => False
def T_X12_loud : zTy := fun vs σ Q => zok 3 vs = true ∧ zFix (F_X12_loud Q) 0 (zlc vs) [] σ
def k_X12_breach_0 (X : Nat → zK) (Q : zQ) : zK := i_il 1 <| i_call 1 T_X12_isWord <| i_ifne (i_al 0 <| i_cv 12 1 T_X12_layHand <| i_il 1 <| i_is 2 <| i_jmp X 1 [true, false, true]) <| i_al 0 <| i_ic (-2) <| i_cv 12 2 T_X12_bad <| i_ir Q
def k_X12_breach_1 (X : Nat → zK) (Q : zQ) : zK := i_il 2 <| i_ic 16 <| i_cmpge (i_ic (-1) <| i_ir Q) <| i_al 0 <| i_il 2 <| i_cv 12 2 T_X12_isPeace <| i_ifne (i_inc 2 1 <| i_jmp X 1 [true, false, true]) <| i_il 2 <| i_ir Q
def F_X12_breach (Q : zQ) (X : Nat → zK) : Nat → zK
  | 0 => k_X12_breach_0 X Q
  | 1 => k_X12_breach_1 X Q
  | _ => fun _ _ _ => False
def T_X12_breach : zTy := fun vs σ Q => zok 3 vs = true ∧ zFix (F_X12_breach Q) 0 (zlc vs) [] σ
def k_X12_canNot_0 (X : Nat → zK) (Q : zQ) : zK := i_al 0 <| i_gf 12 0 <| i_ic 2 <| i_ia <| i_al 0 <| i_gf 12 0 <| i_ic 3 <| i_ia <| i_ixor <| i_ir Q
def F_X12_canNot (Q : zQ) (X : Nat → zK) : Nat → zK
  | 0 => k_X12_canNot_0 X Q
  | _ => fun _ _ _ => False
def T_X12_canNot : zTy := fun vs σ Q => zok 1 vs = true ∧ zFix (F_X12_canNot Q) 0 (zlc vs) [] σ
def k_X12_laySeats_0 (X : Nat → zK) (Q : zQ) : zK := i_il 1 <| i_is 2 <| i_ic 0 <| i_is 3 <| i_ic 1 <| i_is 4 <| i_al 0 <| i_cv 12 1 T_X12_many <| i_ic 1 <| i_isub <| i_is 5 <| i_jmp X 1 [true, false, true, true, true, true]
def k_X12_laySeats_1 (X : Nat → zK) (Q : zQ) : zK := i_il 5 <| i_iflt (i_il 4 <| i_zr Q) <| i_al 0 <| i_gf 12 8 <| i_il 5 <| i_ic 2 <| i_il 2 <| i_ic 5 <| i_irem <| i_imul <| i_al 0 <| i_gf 12 7 <| i_il 5 <| i_ia <| i_iadd <| i_iast <| i_il 2 <| i_ic 5 <| i_idiv <| i_is 2 <| i_il 4 <| i_ifeq (i_jmp X 2 [true, false, true, true, false, true]) <| i_il 3 <| i_al 0 <| i_gf 12 8 <| i_il 5 <| i_ia <| i_call 2 T_X12_has <| i_ifne (i_jmp X 2 [true, false, true, true, false, true]) <| i_ic 1 <| i_jmp X 3 [true, false, true, true, false, true]
def k_X12_laySeats_2 (X : Nat → zK) (Q : zQ) : zK := i_ic 0 <| i_jmp X 3 [true, false, true, true, false, true]
def k_X12_laySeats_3 (X : Nat → zK) (Q : zQ) : zK := i_is 4 <| i_il 3 <| i_ic 1 <| i_al 0 <| i_gf 12 8 <| i_il 5 <| i_ia <| i_ishl <| i_ior <| i_is 3 <| i_inc 5 (-1) <| i_jmp X 1 [true, false, true, true, true, true]
def F_X12_laySeats (Q : zQ) (X : Nat → zK) : Nat → zK
  | 0 => k_X12_laySeats_0 X Q
  | 1 => k_X12_laySeats_1 X Q
  | 2 => k_X12_laySeats_2 X Q
  | 3 => k_X12_laySeats_3 X Q
  | _ => fun _ _ _ => False
def T_X12_laySeats : zTy := fun vs σ Q => zok 6 vs = true ∧ zFix (F_X12_laySeats Q) 0 (zlc vs) [] σ
def k_X12_seeing_0 (X : Nat → zK) (Q : zQ) : zK := i_ic 0 <| i_is 1 <| i_ic 0 <| i_is 2 <| i_jmp X 1 [true, true, true]
def k_X12_seeing_1 (X : Nat → zK) (Q : zQ) : zK := i_il 2 <| i_al 0 <| i_cv 12 1 T_X12_many <| i_cmpge (i_il 1 <| i_ir Q) <| i_ic 0 <| i_is 3 <| i_jmp X 2 [true, true, true, true]
def k_X12_seeing_2 (X : Nat → zK) (Q : zQ) : zK := i_il 3 <| i_ic 16 <| i_cmpge (i_inc 2 1 <| i_jmp X 1 [true, true, true]) <| i_ic 1 <| i_is 4 <| i_ic 0 <| i_is 5 <| i_jmp X 3 [true, true, true, true, true, true]
def k_X12_seeing_3 (X : Nat → zK) (Q : zQ) : zK := i_il 5 <| i_al 0 <| i_cv 12 1 T_X12_many <| i_cmpge (i_jmp X 6 [true, true, true, true, true]) <| i_il 4 <| i_ifeq (i_jmp X 6 [true, true, true, true, true]) <| i_al 0 <| i_gf 12 8 <| i_il 5 <| i_ia <| i_al 0 <| i_gf 12 8 <| i_il 2 <| i_ia <| i_cmpge (i_jmp X 4 [true, true, true, true, false, true]) <| i_al 0 <| i_gf 12 10 <| i_ic 16 <| i_il 5 <| i_imul <| i_il 3 <| i_iadd <| i_ia <| i_al 0 <| i_gf 12 10 <| i_ic 16 <| i_il 2 <| i_imul <| i_il 3 <| i_iadd <| i_ia <| i_cmpge (i_ic 0 <| i_jmp X 5 [true, true, true, true, false, true]) <| i_jmp X 4 [true, true, true, true, false, true]
def k_X12_seeing_4 (X : Nat → zK) (Q : zQ) : zK := i_ic 1 <| i_jmp X 5 [true, true, true, true, false, true]
def k_X12_seeing_5 (X : Nat → zK) (Q : zQ) : zK := i_is 4 <| i_inc 5 1 <| i_jmp X 3 [true, true, true, true, true, true]
def k_X12_seeing_6 (X : Nat → zK) (Q : zQ) : zK := i_il 1 <| i_il 4 <| i_ifeq (i_ic 0 <| i_jmp X 7 [true, false, true, true]) <| i_ic 1 <| i_jmp X 7 [true, false, true, true]
def k_X12_seeing_7 (X : Nat → zK) (Q : zQ) : zK := i_iadd <| i_is 1 <| i_inc 3 1 <| i_jmp X 2 [true, true, true, true]
def F_X12_seeing (Q : zQ) (X : Nat → zK) : Nat → zK
  | 0 => k_X12_seeing_0 X Q
  | 1 => k_X12_seeing_1 X Q
  | 2 => k_X12_seeing_2 X Q
  | 3 => k_X12_seeing_3 X Q
  | 4 => k_X12_seeing_4 X Q
  | 5 => k_X12_seeing_5 X Q
  | 6 => k_X12_seeing_6 X Q
  | 7 => k_X12_seeing_7 X Q
  | _ => fun _ _ _ => False
def T_X12_seeing : zTy := fun vs σ Q => zok 6 vs = true ∧ zFix (F_X12_seeing Q) 0 (zlc vs) [] σ
def k_X12_laySeating_0 (X : Nat → zK) (Q : zQ) : zK := i_ic 1 <| i_is 1 <| i_al 0 <| i_ic (-1) <| i_pf 12 12 <| i_al 0 <| i_cv 12 1 T_X12_layHand <| i_ic 0 <| i_is 2 <| i_jmp X 1 [true, true, true]
def k_X12_laySeating_1 (X : Nat → zK) (Q : zQ) : zK := i_il 2 <| i_al 0 <| i_cv 12 1 T_X12_many <| i_cmpge (i_ic 0 <| i_is 2 <| i_jmp X 3 [true, true, true]) <| i_il 1 <| i_ic 5 <| i_imul <| i_is 1 <| i_ic 0 <| i_is 3 <| i_jmp X 2 [true, true, true, true]
def k_X12_laySeating_2 (X : Nat → zK) (Q : zQ) : zK := i_il 3 <| i_ic 16 <| i_cmpge (i_inc 2 1 <| i_jmp X 1 [true, true, true]) <| i_al 0 <| i_gf 12 10 <| i_ic 16 <| i_il 2 <| i_imul <| i_il 3 <| i_iadd <| i_al 0 <| i_il 2 <| i_il 3 <| i_cv 12 3 T_X12_high <| i_iast <| i_inc 3 1 <| i_jmp X 2 [true, true, true, true]
def k_X12_laySeating_3 (X : Nat → zK) (Q : zQ) : zK := i_il 2 <| i_il 1 <| i_cmpge (i_vr Q) <| i_al 0 <| i_il 2 <| i_cv 12 2 T_X12_laySeats <| i_ifeq (i_ic (-1) <| i_jmp X 4 [true, true, true]) <| i_al 0 <| i_cv 12 1 T_X12_seeing <| i_jmp X 4 [true, true, true]
def k_X12_laySeating_4 (X : Nat → zK) (Q : zQ) : zK := i_is 3 <| i_ic 0 <| i_is 4 <| i_jmp X 5 [true, true, true, true, true]
def k_X12_laySeating_5 (X : Nat → zK) (Q : zQ) : zK := i_il 4 <| i_al 0 <| i_cv 12 1 T_X12_many <| i_cmpge (i_jmp X 6 [true, true, true, true]) <| i_il 3 <| i_al 0 <| i_gf 12 12 <| i_cmple (i_jmp X 6 [true, true, true, true]) <| i_al 0 <| i_gf 12 11 <| i_il 4 <| i_al 0 <| i_gf 12 8 <| i_il 4 <| i_ia <| i_iast <| i_inc 4 1 <| i_jmp X 5 [true, true, true, true, true]
def k_X12_laySeating_6 (X : Nat → zK) (Q : zQ) : zK := i_al 0 <| i_il 3 <| i_al 0 <| i_gf 12 12 <| i_cmple (i_al 0 <| i_gf 12 12 <| i_jmp X 7 [true, true, true]) <| i_il 3 <| i_jmp X 7 [true, true, true]
def k_X12_laySeating_7 (X : Nat → zK) (Q : zQ) : zK := i_pf 12 12 <| i_inc 2 1 <| i_jmp X 3 [true, true, true]
def F_X12_laySeating (Q : zQ) (X : Nat → zK) : Nat → zK
  | 0 => k_X12_laySeating_0 X Q
  | 1 => k_X12_laySeating_1 X Q
  | 2 => k_X12_laySeating_2 X Q
  | 3 => k_X12_laySeating_3 X Q
  | 4 => k_X12_laySeating_4 X Q
  | 5 => k_X12_laySeating_5 X Q
  | 6 => k_X12_laySeating_6 X Q
  | 7 => k_X12_laySeating_7 X Q
  | _ => fun _ _ _ => False
def T_X12_laySeating : zTy := fun vs σ Q => zok 5 vs = true ∧ zFix (F_X12_laySeating Q) 0 (zlc vs) [] σ
def k_X12_seats_0 (X : Nat → zK) (Q : zQ) : zK := i_il 1 <| i_i2l <| i_lc (-1) <| i_al 0 <| i_cv 12 1 T_X12_many <| i_ic 1 <| i_isub <| i_i2l <| i_call 3 T_X12_in <| i_ifne (i_al 0 <| i_cv 12 1 T_X12_laySeating <| i_il 1 <| i_ic (-1) <| i_cmpne (i_al 0 <| i_gf 12 11 <| i_il 1 <| i_ia <| i_ir Q) <| i_al 0 <| i_gf 12 12 <| i_ir Q) <| i_al 0 <| i_ic (-10) <| i_cv 12 2 T_X12_bad <| i_ir Q
def F_X12_seats (Q : zQ) (X : Nat → zK) : Nat → zK
  | 0 => k_X12_seats_0 X Q
  | _ => fun _ _ _ => False
def T_X12_seats : zTy := fun vs σ Q => zok 2 vs = true ∧ zFix (F_X12_seats Q) 0 (zlc vs) [] σ
def k_X12_change_0 (X : Nat → zK) (Q : zQ) : zK := i_il 1 <| i_i2l <| i_lc 0 <| i_lc 1 <| i_call 3 T_X12_in <| i_ifne (i_al 0 <| i_cv 12 1 T_X12_layHand <| i_ic 7 <| i_is 2 <| i_al 0 <| i_cv 12 1 T_X12_peaces <| i_is 3 <| i_ic 0 <| i_is 4 <| i_jmp X 1 [true, true, true, true, true]) <| i_al 0 <| i_ic (-2) <| i_cv 12 2 T_X12_bad <| i_ir Q
def k_X12_change_1 (X : Nat → zK) (Q : zQ) : zK := i_il 4 <| i_al 0 <| i_cv 12 1 T_X12_many <| i_cmpge (i_il 1 <| i_ifne (i_il 3 <| i_ir Q) <| i_il 2 <| i_ir Q) <| i_al 0 <| i_gf 12 7 <| i_il 4 <| i_ic 1 <| i_al 0 <| i_gf 12 7 <| i_il 4 <| i_ia <| i_isub <| i_iast <| i_al 0 <| i_cv 12 1 T_X12_peaces <| i_is 5 <| i_al 0 <| i_gf 12 7 <| i_il 4 <| i_ic 1 <| i_al 0 <| i_gf 12 7 <| i_il 4 <| i_ia <| i_isub <| i_iast <| i_il 5 <| i_il 3 <| i_cmple (i_il 2 <| i_jmp X 2 [true, true, false, true, true, true]) <| i_il 4 <| i_jmp X 2 [true, true, false, true, true, true]
def k_X12_change_2 (X : Nat → zK) (Q : zQ) : zK := i_is 2 <| i_il 5 <| i_il 3 <| i_cmple (i_il 3 <| i_jmp X 3 [true, true, true, false, true]) <| i_il 5 <| i_jmp X 3 [true, true, true, false, true]
def k_X12_change_3 (X : Nat → zK) (Q : zQ) : zK := i_is 3 <| i_inc 4 1 <| i_jmp X 1 [true, true, true, true, true]
def F_X12_change (Q : zQ) (X : Nat → zK) : Nat → zK
  | 0 => k_X12_change_0 X Q
  | 1 => k_X12_change_1 X Q
  | 2 => k_X12_change_2 X Q
  | 3 => k_X12_change_3 X Q
  | _ => fun _ _ _ => False
def T_X12_change : zTy := fun vs σ Q => zok 6 vs = true ∧ zFix (F_X12_change Q) 0 (zlc vs) [] σ
def k_X12_still_0 (X : Nat → zK) (Q : zQ) : zK := i_ic (-1) <| i_is 1 <| i_al 0 <| i_cv 12 1 T_X12_layHand <| i_al 0 <| i_gf 12 9 <| i_is 2 <| i_ic 0 <| i_is 3 <| i_jmp X 1 [true, true, true, true]
def k_X12_still_1 (X : Nat → zK) (Q : zQ) : zK := i_il 3 <| i_ic 1 <| i_al 0 <| i_cv 12 1 T_X12_many <| i_ishl <| i_cmpge (i_il 1 <| i_ir Q) <| i_al 0 <| i_il 2 <| i_il 3 <| i_ior <| i_pf 12 9 <| i_il 3 <| i_il 2 <| i_iand <| i_ifne (i_jmp X 3 [true, true, true, true]) <| i_il 1 <| i_ic (-1) <| i_cmpeq (i_jmp X 2 [true, true, true, true]) <| i_il 3 <| i_call 1 T_X12_bits <| i_il 1 <| i_call 1 T_X12_bits <| i_cmpge (i_jmp X 3 [true, true, true, true]) <| i_jmp X 2 [true, true, true, true]
def k_X12_still_2 (X : Nat → zK) (Q : zQ) : zK := i_ic 1 <| i_jmp X 4 [true, true, true, true]
def k_X12_still_3 (X : Nat → zK) (Q : zQ) : zK := i_ic 0 <| i_jmp X 4 [true, true, true, true]
def k_X12_still_4 (X : Nat → zK) (Q : zQ) : zK := i_is 4 <| i_il 4 <| i_ifeq (i_jmp X 5 [true, true, true, true]) <| i_al 0 <| i_cv 12 1 T_X12_peaces <| i_ic 16 <| i_cmpne (i_jmp X 5 [true, true, true, true]) <| i_il 3 <| i_jmp X 6 [true, false, true, true]
def k_X12_still_5 (X : Nat → zK) (Q : zQ) : zK := i_il 1 <| i_jmp X 6 [true, false, true, true]
def k_X12_still_6 (X : Nat → zK) (Q : zQ) : zK := i_is 1 <| i_inc 3 1 <| i_jmp X 1 [true, true, true, true]
def F_X12_still (Q : zQ) (X : Nat → zK) : Nat → zK
  | 0 => k_X12_still_0 X Q
  | 1 => k_X12_still_1 X Q
  | 2 => k_X12_still_2 X Q
  | 3 => k_X12_still_3 X Q
  | 4 => k_X12_still_4 X Q
  | 5 => k_X12_still_5 X Q
  | 6 => k_X12_still_6 X Q
  | _ => fun _ _ _ => False
def T_X12_still : zTy := fun vs σ Q => zok 5 vs = true ∧ zFix (F_X12_still Q) 0 (zlc vs) [] σ
def k_X12_heard_0 (X : Nat → zK) (Q : zQ) : zK := i_il 1 <| i_call 1 T_X12_isWord <| i_ifeq (i_jmp X 1 [true]) <| i_il 2 <| i_call 1 T_X12_isBook <| i_ifeq (i_jmp X 1 [true]) <| i_il 3 <| i_i2l <| i_lc 0 <| i_lc 140 <| i_call 3 T_X12_in <| i_ifne (i_al 0 <| i_gf 12 0 <| i_ic 4 <| i_ia <| i_ic 6 <| i_cmpne (i_ic 48 <| i_ic 3 <| i_al 0 <| i_gf 12 0 <| i_ic 4 <| i_ia <| i_imul <| i_iadd <| i_is 4 <| i_al 0 <| i_gf 12 0 <| i_il 4 <| i_il 1 <| i_iast <| i_al 0 <| i_gf 12 0 <| i_il 4 <| i_ic 1 <| i_iadd <| i_il 2 <| i_iast <| i_al 0 <| i_gf 12 0 <| i_il 4 <| i_ic 2 <| i_iadd <| i_il 3 <| i_iast <| i_al 0 <| i_gf 12 0 <| i_ic 4 <| i_dup2 <| i_ia <| i_ic 1 <| i_iadd <| i_iast <| i_al 0 <| i_gf 12 0 <| i_ic 4 <| i_ia <| i_ir Q) <| i_al 0 <| i_cv 12 1 T_X12_full <| i_ir Q) <| i_jmp X 1 [true]
def k_X12_heard_1 (X : Nat → zK) (Q : zQ) : zK := i_al 0 <| i_ic (-2) <| i_cv 12 2 T_X12_bad <| i_ir Q
def F_X12_heard (Q : zQ) (X : Nat → zK) : Nat → zK
  | 0 => k_X12_heard_0 X Q
  | 1 => k_X12_heard_1 X Q
  | _ => fun _ _ _ => False
def T_X12_heard : zTy := fun vs σ Q => zok 5 vs = true ∧ zFix (F_X12_heard Q) 0 (zlc vs) [] σ
def k_X12_forget_0 (X : Nat → zK) (Q : zQ) : zK := i_al 0 <| i_gf 12 0 <| i_ic 4 <| i_ia <| i_is 1 <| i_al 0 <| i_gf 12 0 <| i_ic 4 <| i_ic 0 <| i_iast <| i_il 1 <| i_ir Q
def F_X12_forget (Q : zQ) (X : Nat → zK) : Nat → zK
  | 0 => k_X12_forget_0 X Q
  | _ => fun _ _ _ => False
def T_X12_forget : zTy := fun vs σ Q => zok 2 vs = true ∧ zFix (F_X12_forget Q) 0 (zlc vs) [] σ
def k_X12_isHeardSo_0 (X : Nat → zK) (Q : zQ) : zK := i_ic 1 <| i_is 1 <| i_ic 0 <| i_is 2 <| i_jmp X 1 [true, true, true]
def k_X12_isHeardSo_1 (X : Nat → zK) (Q : zQ) : zK := i_il 2 <| i_al 0 <| i_gf 12 0 <| i_ic 4 <| i_ia <| i_cmpge (i_il 1 <| i_zr Q) <| i_il 1 <| i_ifeq (i_il 1 <| i_zr Q) <| i_ic 48 <| i_ic 3 <| i_il 2 <| i_imul <| i_iadd <| i_is 3 <| i_al 0 <| i_al 0 <| i_gf 12 0 <| i_il 3 <| i_ia <| i_al 0 <| i_gf 12 0 <| i_il 3 <| i_ic 1 <| i_iadd <| i_ia <| i_cv 12 3 T_X12_loudOf <| i_al 0 <| i_gf 12 0 <| i_il 3 <| i_ic 2 <| i_iadd <| i_ia <| i_cmpne (i_ic 0 <| i_jmp X 2 [true, false, true]) <| i_ic 1 <| i_jmp X 2 [true, false, true]
def k_X12_isHeardSo_2 (X : Nat → zK) (Q : zQ) : zK := i_is 1 <| i_inc 2 1 <| i_jmp X 1 [true, true, true]
def F_X12_isHeardSo (Q : zQ) (X : Nat → zK) : Nat → zK
  | 0 => k_X12_isHeardSo_0 X Q
  | 1 => k_X12_isHeardSo_1 X Q
  | 2 => k_X12_isHeardSo_2 X Q
  | _ => fun _ _ _ => False
def T_X12_isHeardSo : zTy := fun vs σ Q => zok 4 vs = true ∧ zFix (F_X12_isHeardSo Q) 0 (zlc vs) [] σ
def k_X12_layMay_0 (X : Nat → zK) (Q : zQ) : zK := i_al 0 <| i_ic 0 <| i_pf 12 14 <| i_al 0 <| i_cv 12 1 T_X12_layHand <| i_ic 0 <| i_is 1 <| i_jmp X 1 [true, true]
def k_X12_layMay_1 (X : Nat → zK) (Q : zQ) : zK := i_il 1 <| i_ic 128 <| i_cmpge (i_vr Q) <| i_al 0 <| i_il 1 <| i_pf 12 9 <| i_al 0 <| i_gf 12 13 <| i_il 1 <| i_il 1 <| i_ic 1 <| i_al 0 <| i_cv 12 1 T_X12_many <| i_ishl <| i_cmpge (i_jmp X 2 [true, true]) <| i_al 0 <| i_cv 12 1 T_X12_isHeardSo <| i_ifeq (i_jmp X 2 [true, true]) <| i_ic 1 <| i_jmp X 3 [true, true]
def k_X12_layMay_2 (X : Nat → zK) (Q : zQ) : zK := i_ic 0 <| i_jmp X 3 [true, true]
def k_X12_layMay_3 (X : Nat → zK) (Q : zQ) : zK := i_bast <| i_al 0 <| i_dup <| i_gf 12 14 <| i_al 0 <| i_gf 12 13 <| i_il 1 <| i_ba <| i_ifeq (i_ic 0 <| i_jmp X 4 [true, true]) <| i_ic 1 <| i_jmp X 4 [true, true]
def k_X12_layMay_4 (X : Nat → zK) (Q : zQ) : zK := i_iadd <| i_pf 12 14 <| i_inc 1 1 <| i_jmp X 1 [true, true]
def F_X12_layMay (Q : zQ) (X : Nat → zK) : Nat → zK
  | 0 => k_X12_layMay_0 X Q
  | 1 => k_X12_layMay_1 X Q
  | 2 => k_X12_layMay_2 X Q
  | 3 => k_X12_layMay_3 X Q
  | 4 => k_X12_layMay_4 X Q
  | _ => fun _ _ _ => False
def T_X12_layMay : zTy := fun vs σ Q => zok 2 vs = true ∧ zFix (F_X12_layMay Q) 0 (zlc vs) [] σ
def k_X12_coughed_0 (X : Nat → zK) (Q : zQ) : zK := i_il 1 <| i_i2l <| i_lc 0 <| i_lc 2 <| i_call 3 T_X12_in <| i_ifne (i_al 0 <| i_cv 12 1 T_X12_layMay <| i_ic (-1) <| i_is 2 <| i_ic 0 <| i_is 3 <| i_ic 0 <| i_is 4 <| i_jmp X 1 [true, true, true, true, true]) <| i_al 0 <| i_ic (-2) <| i_cv 12 2 T_X12_bad <| i_ir Q
def k_X12_coughed_1 (X : Nat → zK) (Q : zQ) : zK := i_il 4 <| i_ic 128 <| i_cmpge (i_il 1 <| i_ifne (i_il 1 <| i_ic 2 <| i_cmpne (i_al 0 <| i_gf 12 14 <| i_ifne (i_il 2 <| i_ir Q) <| i_ic (-1) <| i_ir Q) <| i_il 3 <| i_ir Q) <| i_al 0 <| i_gf 12 14 <| i_ir Q) <| i_il 2 <| i_al 0 <| i_gf 12 13 <| i_il 4 <| i_ba <| i_ifeq (i_ic (-1) <| i_jmp X 2 [true, true, false, true, true]) <| i_il 4 <| i_jmp X 2 [true, true, false, true, true]
def k_X12_coughed_2 (X : Nat → zK) (Q : zQ) : zK := i_iand <| i_is 2 <| i_il 3 <| i_al 0 <| i_gf 12 13 <| i_il 4 <| i_ba <| i_ifeq (i_ic 0 <| i_jmp X 3 [true, true, true, false, true]) <| i_il 4 <| i_jmp X 3 [true, true, true, false, true]
def k_X12_coughed_3 (X : Nat → zK) (Q : zQ) : zK := i_ior <| i_is 3 <| i_inc 4 1 <| i_jmp X 1 [true, true, true, true, true]
def F_X12_coughed (Q : zQ) (X : Nat → zK) : Nat → zK
  | 0 => k_X12_coughed_0 X Q
  | 1 => k_X12_coughed_1 X Q
  | 2 => k_X12_coughed_2 X Q
  | 3 => k_X12_coughed_3 X Q
  | _ => fun _ _ _ => False
def T_X12_coughed : zTy := fun vs σ Q => zok 5 vs = true ∧ zFix (F_X12_coughed Q) 0 (zlc vs) [] σ
def k_X12_next_0 (X : Nat → zK) (Q : zQ) : zK := i_al 0 <| i_cv 12 1 T_X12_layMay <| i_ic (-1) <| i_is 1 <| i_ic 1000000 <| i_is 2 <| i_ic 0 <| i_is 3 <| i_jmp X 1 [true, true, true, true]
def k_X12_next_1 (X : Nat → zK) (Q : zQ) : zK := i_il 3 <| i_ic 16 <| i_cmpge (i_il 1 <| i_ir Q) <| i_al 0 <| i_gf 12 14 <| i_ifle (i_il 1 <| i_ir Q) <| i_ic 0 <| i_is 4 <| i_ic 0 <| i_is 5 <| i_jmp X 2 [true, true, true, true, true, true]
def k_X12_next_2 (X : Nat → zK) (Q : zQ) : zK := i_il 5 <| i_ic 140 <| i_cmpgt (i_ic 0 <| i_is 5 <| i_jmp X 3 [true, true, true, true, true, true]) <| i_al 0 <| i_gf 12 15 <| i_il 5 <| i_ic 0 <| i_iast <| i_inc 5 1 <| i_jmp X 2 [true, true, true, true, true, true]
def k_X12_next_3 (X : Nat → zK) (Q : zQ) : zK := i_il 5 <| i_ic 128 <| i_cmpge (i_il 4 <| i_il 2 <| i_cmpge (i_il 1 <| i_jmp X 6 [true, false, true, true, true]) <| i_il 3 <| i_jmp X 6 [true, false, true, true, true]) <| i_al 0 <| i_gf 12 13 <| i_il 5 <| i_ba <| i_ifeq (i_jmp X 5 [true, true, true, true, true, true]) <| i_al 0 <| i_il 5 <| i_pf 12 9 <| i_al 0 <| i_il 3 <| i_ic 0 <| i_cv 12 3 T_X12_loudOf <| i_is 6 <| i_al 0 <| i_gf 12 15 <| i_il 6 <| i_dup2 <| i_ia <| i_ic 1 <| i_iadd <| i_iast <| i_al 0 <| i_gf 12 15 <| i_il 6 <| i_ia <| i_il 4 <| i_cmple (i_il 4 <| i_jmp X 4 [true, true, true, true, false, true]) <| i_al 0 <| i_gf 12 15 <| i_il 6 <| i_ia <| i_jmp X 4 [true, true, true, true, false, true]
def k_X12_next_4 (X : Nat → zK) (Q : zQ) : zK := i_is 4 <| i_jmp X 5 [true, true, true, true, true, true]
def k_X12_next_5 (X : Nat → zK) (Q : zQ) : zK := i_inc 5 1 <| i_jmp X 3 [true, true, true, true, true, true]
def k_X12_next_6 (X : Nat → zK) (Q : zQ) : zK := i_is 1 <| i_il 4 <| i_il 2 <| i_cmpge (i_il 2 <| i_jmp X 7 [true, true, false, true]) <| i_il 4 <| i_jmp X 7 [true, true, false, true]
def k_X12_next_7 (X : Nat → zK) (Q : zQ) : zK := i_is 2 <| i_inc 3 1 <| i_jmp X 1 [true, true, true, true]
def F_X12_next (Q : zQ) (X : Nat → zK) : Nat → zK
  | 0 => k_X12_next_0 X Q
  | 1 => k_X12_next_1 X Q
  | 2 => k_X12_next_2 X Q
  | 3 => k_X12_next_3 X Q
  | 4 => k_X12_next_4 X Q
  | 5 => k_X12_next_5 X Q
  | 6 => k_X12_next_6 X Q
  | 7 => k_X12_next_7 X Q
  | _ => fun _ _ _ => False
def T_X12_next : zTy := fun vs σ Q => zok 7 vs = true ∧ zFix (F_X12_next Q) 0 (zlc vs) [] σ
def k_X12_is_0 (X : Nat → zK) (Q : zQ) : zK := i_al 0 <| i_il 1 <| i_cv 12 2 T_X12_isFamily <| i_ifne (i_ic 0 <| i_is 2 <| i_al 0 <| i_cv 12 1 T_X12_layHand <| i_ic 0 <| i_is 3 <| i_jmp X 1 [true, true, true, true]) <| i_al 0 <| i_ic (-2) <| i_cv 12 2 T_X12_bad <| i_ir Q
def k_X12_is_1 (X : Nat → zK) (Q : zQ) : zK := i_il 3 <| i_ic 6 <| i_cmpge (i_il 2 <| i_ir Q) <| i_al 0 <| i_gf 12 6 <| i_il 1 <| i_il 3 <| i_iast <| i_il 2 <| i_al 0 <| i_cv 12 1 T_X12_isHeardSo <| i_ifeq (i_ic 0 <| i_jmp X 2 [true, true, false, true]) <| i_ic 1 <| i_il 3 <| i_ishl <| i_jmp X 2 [true, true, false, true]
def k_X12_is_2 (X : Nat → zK) (Q : zQ) : zK := i_ior <| i_is 2 <| i_inc 3 1 <| i_jmp X 1 [true, true, true, true]
def F_X12_is (Q : zQ) (X : Nat → zK) : Nat → zK
  | 0 => k_X12_is_0 X Q
  | 1 => k_X12_is_1 X Q
  | 2 => k_X12_is_2 X Q
  | _ => fun _ _ _ => False
def T_X12_is : zTy := fun vs σ Q => zok 4 vs = true ∧ zFix (F_X12_is Q) 0 (zlc vs) [] σ
def k_X12_deaconOf_0 (X : Nat → zK) (Q : zQ) : zK := i_ic (-1) <| i_is 2 <| i_ic 0 <| i_is 3 <| i_jmp X 1 [true, true, true, true]
def k_X12_deaconOf_1 (X : Nat → zK) (Q : zQ) : zK := i_il 3 <| i_al 0 <| i_cv 12 1 T_X12_many <| i_cmpge (i_il 2 <| i_ic (-1) <| i_cmpne (i_ic 1 <| i_il 2 <| i_ishl <| i_ir Q) <| i_ic 0 <| i_ir Q) <| i_il 2 <| i_ic (-1) <| i_cmpeq (i_jmp X 2 [true, true, true, true]) <| i_al 0 <| i_il 3 <| i_ic 3 <| i_cv 12 3 T_X12_get <| i_al 0 <| i_il 2 <| i_ic 3 <| i_cv 12 3 T_X12_get <| i_cmple (i_ic 0 <| i_jmp X 3 [true, true, true, true]) <| i_jmp X 2 [true, true, true, true]
def k_X12_deaconOf_2 (X : Nat → zK) (Q : zQ) : zK := i_ic 1 <| i_jmp X 3 [true, true, true, true]
def k_X12_deaconOf_3 (X : Nat → zK) (Q : zQ) : zK := i_is 4 <| i_al 0 <| i_il 3 <| i_ic 1 <| i_cv 12 3 T_X12_get <| i_il 1 <| i_cmpne (i_jmp X 4 [true, true, true, true]) <| i_il 4 <| i_ifeq (i_jmp X 4 [true, true, true, true]) <| i_il 3 <| i_jmp X 5 [true, true, false, true]
def k_X12_deaconOf_4 (X : Nat → zK) (Q : zQ) : zK := i_il 2 <| i_jmp X 5 [true, true, false, true]
def k_X12_deaconOf_5 (X : Nat → zK) (Q : zQ) : zK := i_is 2 <| i_inc 3 1 <| i_jmp X 1 [true, true, true, true]
def F_X12_deaconOf (Q : zQ) (X : Nat → zK) : Nat → zK
  | 0 => k_X12_deaconOf_0 X Q
  | 1 => k_X12_deaconOf_1 X Q
  | 2 => k_X12_deaconOf_2 X Q
  | 3 => k_X12_deaconOf_3 X Q
  | 4 => k_X12_deaconOf_4 X Q
  | 5 => k_X12_deaconOf_5 X Q
  | _ => fun _ _ _ => False
def T_X12_deaconOf : zTy := fun vs σ Q => zok 5 vs = true ∧ zFix (F_X12_deaconOf Q) 0 (zlc vs) [] σ
def k_X12_deacons_0 (X : Nat → zK) (Q : zQ) : zK := i_il 1 <| i_call 1 T_X12_isWord <| i_ifne (i_al 0 <| i_cv 12 1 T_X12_layHand <| i_al 0 <| i_gf 12 9 <| i_is 2 <| i_ic 0 <| i_is 3 <| i_jmp X 1 [true, true, true, true]) <| i_al 0 <| i_ic (-2) <| i_cv 12 2 T_X12_bad <| i_ir Q
def k_X12_deacons_1 (X : Nat → zK) (Q : zQ) : zK := i_il 3 <| i_ic 4 <| i_cmpge (i_ic 0 <| i_is 3 <| i_ic 0 <| i_is 4 <| i_jmp X 4 [true, false, false, true, true]) <| i_al 0 <| i_il 2 <| i_il 3 <| i_ic 1 <| i_iand <| i_ic 1 <| i_cmpne (i_ic 0 <| i_jmp X 2 [true, true, true, true]) <| i_al 0 <| i_ic 0 <| i_cv 12 2 T_X12_deaconOf <| i_jmp X 2 [true, true, true, true]
def k_X12_deacons_2 (X : Nat → zK) (Q : zQ) : zK := i_ior <| i_il 3 <| i_ic 1 <| i_cmple (i_ic 0 <| i_jmp X 3 [true, true, true, true]) <| i_al 0 <| i_ic 1 <| i_cv 12 2 T_X12_deaconOf <| i_jmp X 3 [true, true, true, true]
def k_X12_deacons_3 (X : Nat → zK) (Q : zQ) : zK := i_ior <| i_pf 12 9 <| i_al 0 <| i_gf 12 16 <| i_il 3 <| i_al 0 <| i_il 1 <| i_ic 0 <| i_cv 12 3 T_X12_loudOf <| i_al 0 <| i_il 1 <| i_ic 1 <| i_cv 12 3 T_X12_loudOf <| i_isub <| i_iast <| i_inc 3 1 <| i_jmp X 1 [true, true, true, true]
def k_X12_deacons_4 (X : Nat → zK) (Q : zQ) : zK := i_il 4 <| i_ic 4 <| i_cmpge (i_il 3 <| i_ir Q) <| i_al 0 <| i_gf 12 16 <| i_il 4 <| i_ia <| i_al 0 <| i_gf 12 16 <| i_il 4 <| i_ic 1 <| i_ixor <| i_ia <| i_cmplt (i_jmp X 5 [true, false, false, true, true]) <| i_al 0 <| i_gf 12 16 <| i_il 4 <| i_ia <| i_al 0 <| i_gf 12 16 <| i_il 4 <| i_ic 2 <| i_ixor <| i_ia <| i_cmpgt (i_jmp X 5 [true, false, false, true, true]) <| i_ic 1 <| i_jmp X 6 [true, false, false, true, true]
def k_X12_deacons_5 (X : Nat → zK) (Q : zQ) : zK := i_ic 0 <| i_jmp X 6 [true, false, false, true, true]
def k_X12_deacons_6 (X : Nat → zK) (Q : zQ) : zK := i_is 5 <| i_il 3 <| i_il 5 <| i_ifeq (i_ic 0 <| i_jmp X 7 [true, false, false, false, true]) <| i_ic 1 <| i_il 4 <| i_ishl <| i_jmp X 7 [true, false, false, false, true]
def k_X12_deacons_7 (X : Nat → zK) (Q : zQ) : zK := i_ior <| i_is 3 <| i_inc 4 1 <| i_jmp X 4 [true, false, false, true, true]
def F_X12_deacons (Q : zQ) (X : Nat → zK) : Nat → zK
  | 0 => k_X12_deacons_0 X Q
  | 1 => k_X12_deacons_1 X Q
  | 2 => k_X12_deacons_2 X Q
  | 3 => k_X12_deacons_3 X Q
  | 4 => k_X12_deacons_4 X Q
  | 5 => k_X12_deacons_5 X Q
  | 6 => k_X12_deacons_6 X Q
  | 7 => k_X12_deacons_7 X Q
  | _ => fun _ _ _ => False
def T_X12_deacons : zTy := fun vs σ Q => zok 6 vs = true ∧ zFix (F_X12_deacons Q) 0 (zlc vs) [] σ
def k_X12_feasts_0 (X : Nat → zK) (Q : zQ) : zK := i_il 1 <| i_i2l <| i_lc 1 <| i_lc 40 <| i_call 3 T_X12_in <| i_ifeq (i_jmp X 1 [true]) <| i_il 2 <| i_i2l <| i_lc 0 <| i_lc 99 <| i_call 3 T_X12_in <| i_ifeq (i_jmp X 1 [true]) <| i_il 3 <| i_i2l <| i_lc 1 <| i_lc 40 <| i_call 3 T_X12_in <| i_ifeq (i_jmp X 1 [true]) <| i_il 4 <| i_i2l <| i_lc 0 <| i_lc 99 <| i_call 3 T_X12_in <| i_ifne (i_il 2 <| i_il 4 <| i_cmple (i_il 4 <| i_jmp X 2 [false, true, true, true, true]) <| i_il 2 <| i_jmp X 2 [false, true, true, true, true]) <| i_jmp X 1 [true]
def k_X12_feasts_1 (X : Nat → zK) (Q : zQ) : zK := i_al 0 <| i_ic (-2) <| i_cv 12 2 T_X12_bad <| i_ir Q
def k_X12_feasts_2 (X : Nat → zK) (Q : zQ) : zK := i_is 5 <| i_il 5 <| i_is 6 <| i_jmp X 3 [false, true, true, true, true, true, true]
def k_X12_feasts_3 (X : Nat → zK) (Q : zQ) : zK := i_il 6 <| i_il 5 <| i_ic 1600 <| i_iadd <| i_cmpge (i_ic (-1) <| i_ir Q) <| i_il 6 <| i_il 2 <| i_isub <| i_il 1 <| i_irem <| i_ifne (i_jmp X 4 [false, true, true, true, true, true, true]) <| i_il 6 <| i_il 4 <| i_isub <| i_il 3 <| i_irem <| i_ifne (i_jmp X 4 [false, true, true, true, true, true, true]) <| i_il 6 <| i_ir Q
def k_X12_feasts_4 (X : Nat → zK) (Q : zQ) : zK := i_inc 6 1 <| i_jmp X 3 [false, true, true, true, true, true, true]
def F_X12_feasts (Q : zQ) (X : Nat → zK) : Nat → zK
  | 0 => k_X12_feasts_0 X Q
  | 1 => k_X12_feasts_1 X Q
  | 2 => k_X12_feasts_2 X Q
  | 3 => k_X12_feasts_3 X Q
  | 4 => k_X12_feasts_4 X Q
  | _ => fun _ _ _ => False
def T_X12_feasts : zTy := fun vs σ Q => zok 7 vs = true ∧ zFix (F_X12_feasts Q) 0 (zlc vs) [] σ
def k_X12_fraction_0 (X : Nat → zK) (Q : zQ) : zK := i_ll 1 <| i_lst 5 <| i_ll 3 <| i_lst 7 <| i_jmp X 1 [true, true, false, true, false, true, false, true]
def k_X12_fraction_1 (X : Nat → zK) (Q : zQ) : zK := i_ll 7 <| i_lc 0 <| i_lcmp <| i_ifeq (i_al 0 <| i_ll 1 <| i_ll 5 <| i_ldiv <| i_pfl 12 4 <| i_al 0 <| i_ll 3 <| i_ll 5 <| i_ldiv <| i_pfl 12 5 <| i_vr Q) <| i_ll 5 <| i_ll 7 <| i_lrem <| i_lst 9 <| i_ll 7 <| i_lst 5 <| i_ll 9 <| i_lst 7 <| i_jmp X 1 [true, true, false, true, false, true, false, true]
def F_X12_fraction (Q : zQ) (X : Nat → zK) : Nat → zK
  | 0 => k_X12_fraction_0 X Q
  | 1 => k_X12_fraction_1 X Q
  | _ => fun _ _ _ => False
def T_X12_fraction : zTy := fun vs σ Q => zok 11 vs = true ∧ zFix (F_X12_fraction Q) 0 (zlc vs) [] σ
def k_X12_colds_0 (X : Nat → zK) (Q : zQ) : zK := i_il 1 <| i_call 1 T_X12_isWord <| i_ifeq (i_jmp X 1 [true]) <| i_il 2 <| i_i2l <| i_lc 0 <| i_lc 10 <| i_call 3 T_X12_in <| i_ifne (i_lc 0 <| i_lst 3 <| i_lc 1 <| i_lst 5 <| i_al 0 <| i_cv 12 1 T_X12_layHand <| i_al 0 <| i_gf 12 9 <| i_is 7 <| i_ic 0 <| i_is 8 <| i_jmp X 2 [true, true, true, true, false, true, false, true, true]) <| i_jmp X 1 [true]
def k_X12_colds_1 (X : Nat → zK) (Q : zQ) : zK := i_al 0 <| i_ic (-2) <| i_cv 12 2 T_X12_bad <| i_ir Q
def k_X12_colds_2 (X : Nat → zK) (Q : zQ) : zK := i_il 8 <| i_al 0 <| i_cv 12 1 T_X12_many <| i_il 7 <| i_call 1 T_X12_bits <| i_isub <| i_cmpge (i_ic 0 <| i_is 8 <| i_jmp X 3 [true, true, true, true, false, true, false, true, true]) <| i_ll 5 <| i_lc 10 <| i_lmul <| i_lst 5 <| i_inc 8 1 <| i_jmp X 2 [true, true, true, true, false, true, false, true, true]
def k_X12_colds_3 (X : Nat → zK) (Q : zQ) : zK := i_il 8 <| i_ic 1 <| i_al 0 <| i_cv 12 1 T_X12_many <| i_ishl <| i_cmpge (i_al 0 <| i_ll 3 <| i_ll 5 <| i_cv 12 3 T_X12_fraction <| i_ic 1 <| i_ir Q) <| i_il 8 <| i_il 7 <| i_iand <| i_ifne (i_lc 0 <| i_jmp X 4 [true, true, true, true, false, true, false, true, true]) <| i_lc 1 <| i_jmp X 4 [true, true, true, true, false, true, false, true, true]
def k_X12_colds_4 (X : Nat → zK) (Q : zQ) : zK := i_lst 9 <| i_ic 0 <| i_is 11 <| i_jmp X 5 [true, true, true, true, false, true, false, true, true, true, false, true]
def k_X12_colds_5 (X : Nat → zK) (Q : zQ) : zK := i_il 11 <| i_al 0 <| i_cv 12 1 T_X12_many <| i_cmpge (i_al 0 <| i_il 7 <| i_il 8 <| i_ior <| i_pf 12 9 <| i_ll 3 <| i_ll 9 <| i_lc 0 <| i_lcmp <| i_ifle (i_jmp X 7 [true, true, true, false, false, true, false, true, true]) <| i_al 0 <| i_il 1 <| i_cv 12 2 T_X12_isPeace <| i_ifeq (i_jmp X 7 [true, true, true, false, false, true, false, true, true]) <| i_ll 9 <| i_jmp X 8 [true, true, true, false, false, true, false, true, true]) <| i_ll 9 <| i_il 7 <| i_il 11 <| i_call 2 T_X12_has <| i_ifeq (i_il 8 <| i_il 11 <| i_call 2 T_X12_has <| i_ifeq (i_ic 10 <| i_il 2 <| i_isub <| i_i2l <| i_jmp X 6 [true, true, true, true, false, true, false, true, true, false, false, true]) <| i_il 2 <| i_i2l <| i_jmp X 6 [true, true, true, true, false, true, false, true, true, false, false, true]) <| i_lc 1 <| i_jmp X 6 [true, true, true, true, false, true, false, true, true, false, false, true]
def k_X12_colds_6 (X : Nat → zK) (Q : zQ) : zK := i_lmul <| i_lst 9 <| i_inc 11 1 <| i_jmp X 5 [true, true, true, true, false, true, false, true, true, true, false, true]
def k_X12_colds_7 (X : Nat → zK) (Q : zQ) : zK := i_lc 0 <| i_jmp X 8 [true, true, true, false, false, true, false, true, true]
def k_X12_colds_8 (X : Nat → zK) (Q : zQ) : zK := i_ladd <| i_lst 3 <| i_inc 8 1 <| i_jmp X 3 [true, true, true, true, false, true, false, true, true]
def F_X12_colds (Q : zQ) (X : Nat → zK) : Nat → zK
  | 0 => k_X12_colds_0 X Q
  | 1 => k_X12_colds_1 X Q
  | 2 => k_X12_colds_2 X Q
  | 3 => k_X12_colds_3 X Q
  | 4 => k_X12_colds_4 X Q
  | 5 => k_X12_colds_5 X Q
  | 6 => k_X12_colds_6 X Q
  | 7 => k_X12_colds_7 X Q
  | 8 => k_X12_colds_8 X Q
  | _ => fun _ _ _ => False
def T_X12_colds : zTy := fun vs σ Q => zok 12 vs = true ∧ zFix (F_X12_colds Q) 0 (zlc vs) [] σ
def k_X12_sundays_0 (X : Nat → zK) (Q : zQ) : zK := i_il 1 <| i_i2l <| i_lc 0 <| i_lc 999999 <| i_call 3 T_X12_in <| i_ifeq (i_jmp X 1 [true]) <| i_il 2 <| i_i2l <| i_lc 0 <| i_lc 60 <| i_call 3 T_X12_in <| i_ifne (i_il 1 <| i_i2l <| i_lst 3 <| i_ic 0 <| i_is 5 <| i_al 0 <| i_cv 12 1 T_X12_layHand <| i_ic 0 <| i_is 6 <| i_jmp X 2 [true, false, true, true, false, true, true]) <| i_jmp X 1 [true]
def k_X12_sundays_1 (X : Nat → zK) (Q : zQ) : zK := i_al 0 <| i_ic (-2) <| i_cv 12 2 T_X12_bad <| i_ir Q
def k_X12_sundays_2 (X : Nat → zK) (Q : zQ) : zK := i_il 6 <| i_il 2 <| i_cmpge (i_il 5 <| i_ir Q) <| i_al 0 <| i_ic 0 <| i_pf 12 9 <| i_ic 0 <| i_is 7 <| i_jmp X 3 [true, false, true, true, false, true, true, true]
def k_X12_sundays_3 (X : Nat → zK) (Q : zQ) : zK := i_il 7 <| i_al 0 <| i_cv 12 1 T_X12_many <| i_cmpge (i_il 5 <| i_al 0 <| i_cv 12 1 T_X12_peaces <| i_ic 16 <| i_cmpne (i_ic 0 <| i_jmp X 5 [true, false, true, true, false, false, true]) <| i_ic 1 <| i_jmp X 5 [true, false, true, true, false, false, true]) <| i_ll 3 <| i_lc 1103515245 <| i_lmul <| i_lc 12345 <| i_ladd <| i_lc 2147483648 <| i_lrem <| i_lst 3 <| i_al 0 <| i_dup <| i_gf 12 9 <| i_ll 3 <| i_lc 65536 <| i_ldiv <| i_lc 4 <| i_lrem <| i_lc 0 <| i_lcmp <| i_ifne (i_ic 0 <| i_jmp X 4 [true, false, true, true, false, true, true, true]) <| i_ic 1 <| i_il 7 <| i_ishl <| i_jmp X 4 [true, false, true, true, false, true, true, true]
def k_X12_sundays_4 (X : Nat → zK) (Q : zQ) : zK := i_ior <| i_pf 12 9 <| i_inc 7 1 <| i_jmp X 3 [true, false, true, true, false, true, true, true]
def k_X12_sundays_5 (X : Nat → zK) (Q : zQ) : zK := i_iadd <| i_is 5 <| i_inc 6 1 <| i_jmp X 2 [true, false, true, true, false, true, true]
def F_X12_sundays (Q : zQ) (X : Nat → zK) : Nat → zK
  | 0 => k_X12_sundays_0 X Q
  | 1 => k_X12_sundays_1 X Q
  | 2 => k_X12_sundays_2 X Q
  | 3 => k_X12_sundays_3 X Q
  | 4 => k_X12_sundays_4 X Q
  | 5 => k_X12_sundays_5 X Q
  | _ => fun _ _ _ => False
def T_X12_sundays : zTy := fun vs σ Q => zok 8 vs = true ∧ zFix (F_X12_sundays Q) 0 (zlc vs) [] σ
def k_X12_type_0 (X : Nat → zK) (Q : zQ) : zK := i_il 1 <| i_i2l <| i_lc 0 <| i_lc 127 <| i_call 3 T_X12_in <| i_ifne (i_al 0 <| i_gf 12 18 <| i_ic 150 <| i_cmpne (i_al 0 <| i_gf 12 17 <| i_al 0 <| i_gf 12 18 <| i_il 1 <| i_iast <| i_al 0 <| i_dup <| i_gf 12 18 <| i_ic 1 <| i_iadd <| i_pf 12 18 <| i_al 0 <| i_gf 12 18 <| i_ir Q) <| i_al 0 <| i_cv 12 1 T_X12_full <| i_ir Q) <| i_al 0 <| i_ic (-2) <| i_cv 12 2 T_X12_bad <| i_ir Q
def F_X12_type (Q : zQ) (X : Nat → zK) : Nat → zK
  | 0 => k_X12_type_0 X Q
  | _ => fun _ _ _ => False
def T_X12_type : zTy := fun vs σ Q => zok 2 vs = true ∧ zFix (F_X12_type Q) 0 (zlc vs) [] σ
def k_X12_clear_0 (X : Nat → zK) (Q : zQ) : zK := i_al 0 <| i_gf 12 18 <| i_is 1 <| i_al 0 <| i_ic 0 <| i_pf 12 18 <| i_il 1 <| i_ir Q
def F_X12_clear (Q : zQ) (X : Nat → zK) : Nat → zK
  | 0 => k_X12_clear_0 X Q
  | _ => fun _ _ _ => False
def T_X12_clear : zTy := fun vs σ Q => zok 2 vs = true ∧ zFix (F_X12_clear Q) 0 (zlc vs) [] σ
def k_X12_isSmall_0 (X : Nat → zK) (Q : zQ) : zK := i_il 0 <| i_i2l <| i_lc 97 <| i_lc 122 <| i_call 3 T_X12_in <| i_zr Q
def F_X12_isSmall (Q : zQ) (X : Nat → zK) : Nat → zK
  | 0 => k_X12_isSmall_0 X Q
  | _ => fun _ _ _ => False
def T_X12_isSmall : zTy := fun vs σ Q => zok 1 vs = true ∧ zFix (F_X12_isSmall Q) 0 (zlc vs) [] σ
def k_X12_isFigure_0 (X : Nat → zK) (Q : zQ) : zK := i_il 0 <| i_i2l <| i_lc 48 <| i_lc 57 <| i_call 3 T_X12_in <| i_zr Q
def F_X12_isFigure (Q : zQ) (X : Nat → zK) : Nat → zK
  | 0 => k_X12_isFigure_0 X Q
  | _ => fun _ _ _ => False
def T_X12_isFigure : zTy := fun vs σ Q => zok 1 vs = true ∧ zFix (F_X12_isFigure Q) 0 (zlc vs) [] σ
def k_X12_lookAt_0 (X : Nat → zK) (Q : zQ) : zK := i_al 0 <| i_il 1 <| i_pf 12 19 <| i_jmp X 1 [true]
def k_X12_lookAt_1 (X : Nat → zK) (Q : zQ) : zK := i_al 0 <| i_gf 12 19 <| i_al 0 <| i_gf 12 18 <| i_cmpge (i_jmp X 2 [true]) <| i_al 0 <| i_gf 12 17 <| i_al 0 <| i_gf 12 19 <| i_ia <| i_ic 32 <| i_cmpne (i_jmp X 2 [true]) <| i_al 0 <| i_dup <| i_gf 12 19 <| i_ic 1 <| i_iadd <| i_pf 12 19 <| i_jmp X 1 [true]
def k_X12_lookAt_2 (X : Nat → zK) (Q : zQ) : zK := i_al 0 <| i_ic 0 <| i_pf 12 20 <| i_al 0 <| i_ic 0 <| i_pf 12 21 <| i_al 0 <| i_ic 0 <| i_pf 12 22 <| i_al 0 <| i_gf 12 19 <| i_al 0 <| i_gf 12 18 <| i_cmpne (i_al 0 <| i_gf 12 17 <| i_al 0 <| i_gf 12 19 <| i_ia <| i_is 2 <| i_al 0 <| i_il 2 <| i_call 1 T_X12_isSmall <| i_ifeq (i_il 2 <| i_call 1 T_X12_isFigure <| i_ifeq (i_il 2 <| i_ic 59 <| i_cmpne (i_ic 4 <| i_jmp X 3 [true]) <| i_ic 3 <| i_jmp X 3 [true]) <| i_ic 2 <| i_jmp X 3 [true]) <| i_ic 1 <| i_jmp X 3 [true]) <| i_vr Q
def k_X12_lookAt_3 (X : Nat → zK) (Q : zQ) : zK := i_pf 12 21 <| i_al 0 <| i_ic 1 <| i_pf 12 20 <| i_al 0 <| i_gf 12 21 <| i_ic 3 <| i_cmpge (i_ic 0 <| i_jmp X 4 [true]) <| i_ic 1 <| i_jmp X 4 [true]
def k_X12_lookAt_4 (X : Nat → zK) (Q : zQ) : zK := i_is 3 <| i_jmp X 5 [true, false, false, true]
def k_X12_lookAt_5 (X : Nat → zK) (Q : zQ) : zK := i_il 3 <| i_ifeq (i_jmp X 8 [true]) <| i_al 0 <| i_gf 12 19 <| i_al 0 <| i_gf 12 20 <| i_iadd <| i_al 0 <| i_gf 12 18 <| i_cmpge (i_jmp X 8 [true]) <| i_al 0 <| i_gf 12 17 <| i_al 0 <| i_gf 12 19 <| i_al 0 <| i_gf 12 20 <| i_iadd <| i_ia <| i_is 4 <| i_al 0 <| i_gf 12 21 <| i_ic 1 <| i_cmpne (i_il 4 <| i_call 1 T_X12_isFigure <| i_jmp X 6 [true]) <| i_il 4 <| i_call 1 T_X12_isSmall <| i_jmp X 6 [true]
def k_X12_lookAt_6 (X : Nat → zK) (Q : zQ) : zK := i_is 3 <| i_al 0 <| i_dup <| i_gf 12 20 <| i_il 3 <| i_ifeq (i_ic 0 <| i_jmp X 7 [true, false, false, true]) <| i_ic 1 <| i_jmp X 7 [true, false, false, true]
def k_X12_lookAt_7 (X : Nat → zK) (Q : zQ) : zK := i_iadd <| i_pf 12 20 <| i_jmp X 5 [true, false, false, true]
def k_X12_lookAt_8 (X : Nat → zK) (Q : zQ) : zK := i_ic 0 <| i_is 4 <| i_jmp X 9 [true, false, false, false, true]
def k_X12_lookAt_9 (X : Nat → zK) (Q : zQ) : zK := i_il 4 <| i_al 0 <| i_gf 12 20 <| i_cmpge (i_jmp X 10 [true]) <| i_il 4 <| i_ic 2 <| i_cmpge (i_jmp X 10 [true]) <| i_al 0 <| i_gf 12 21 <| i_ic 2 <| i_cmpne (i_jmp X 10 [true]) <| i_al 0 <| i_ic 10 <| i_al 0 <| i_gf 12 22 <| i_imul <| i_al 0 <| i_gf 12 17 <| i_al 0 <| i_gf 12 19 <| i_il 4 <| i_iadd <| i_ia <| i_iadd <| i_ic 48 <| i_isub <| i_pf 12 22 <| i_inc 4 1 <| i_jmp X 9 [true, false, false, false, true]
def k_X12_lookAt_10 (X : Nat → zK) (Q : zQ) : zK := i_al 0 <| i_al 0 <| i_gf 12 21 <| i_ic 2 <| i_cmpne (i_jmp X 11 [true]) <| i_al 0 <| i_gf 12 20 <| i_ic 2 <| i_cmple (i_jmp X 11 [true]) <| i_ic 4 <| i_pf 12 21 <| i_vr Q
def k_X12_lookAt_11 (X : Nat → zK) (Q : zQ) : zK := i_al 0 <| i_gf 12 21 <| i_pf 12 21 <| i_vr Q
def F_X12_lookAt (Q : zQ) (X : Nat → zK) : Nat → zK
  | 0 => k_X12_lookAt_0 X Q
  | 1 => k_X12_lookAt_1 X Q
  | 2 => k_X12_lookAt_2 X Q
  | 3 => k_X12_lookAt_3 X Q
  | 4 => k_X12_lookAt_4 X Q
  | 5 => k_X12_lookAt_5 X Q
  | 6 => k_X12_lookAt_6 X Q
  | 7 => k_X12_lookAt_7 X Q
  | 8 => k_X12_lookAt_8 X Q
  | 9 => k_X12_lookAt_9 X Q
  | 10 => k_X12_lookAt_10 X Q
  | 11 => k_X12_lookAt_11 X Q
  | _ => fun _ _ _ => False
def T_X12_lookAt : zTy := fun vs σ Q => zok 5 vs = true ∧ zFix (F_X12_lookAt Q) 0 (zlc vs) [] σ
def k_X12_goBehind_0 (X : Nat → zK) (Q : zQ) : zK := i_al 0 <| i_al 0 <| i_gf 12 19 <| i_al 0 <| i_gf 12 20 <| i_iadd <| i_cv 12 2 T_X12_lookAt <| i_vr Q
def F_X12_goBehind (Q : zQ) (X : Nat → zK) : Nat → zK
  | 0 => k_X12_goBehind_0 X Q
  | _ => fun _ _ _ => False
def T_X12_goBehind : zTy := fun vs σ Q => zok 1 vs = true ∧ zFix (F_X12_goBehind Q) 0 (zlc vs) [] σ
def k_X12_spells_0 (X : Nat → zK) (Q : zQ) : zK := i_al 0 <| i_gf 12 21 <| i_ic 1 <| i_cmpne (i_jmp X 1 [true, true, true, true, true, true, true, true]) <| i_al 0 <| i_gf 12 20 <| i_il 1 <| i_cmpne (i_jmp X 1 [true, true, true, true, true, true, true, true]) <| i_ic 1 <| i_jmp X 2 [true, true, true, true, true, true, true, true]
def k_X12_spells_1 (X : Nat → zK) (Q : zQ) : zK := i_ic 0 <| i_jmp X 2 [true, true, true, true, true, true, true, true]
def k_X12_spells_2 (X : Nat → zK) (Q : zQ) : zK := i_is 8 <| i_ic 0 <| i_is 9 <| i_jmp X 3 [true, true, true, true, true, true, true, true, true, true]
def k_X12_spells_3 (X : Nat → zK) (Q : zQ) : zK := i_il 9 <| i_il 1 <| i_cmpge (i_il 8 <| i_zr Q) <| i_il 8 <| i_ifeq (i_il 8 <| i_zr Q) <| i_al 0 <| i_gf 12 17 <| i_al 0 <| i_gf 12 19 <| i_il 9 <| i_iadd <| i_ia <| i_il 9 <| i_ifne (i_il 9 <| i_ic 1 <| i_cmpne (i_il 9 <| i_ic 2 <| i_cmpne (i_il 9 <| i_ic 3 <| i_cmpne (i_il 9 <| i_ic 4 <| i_cmpne (i_il 7 <| i_jmp X 4 [true, true, true, true, true, true, true, true, false, true]) <| i_il 6 <| i_jmp X 4 [true, true, true, true, true, true, true, true, false, true]) <| i_il 5 <| i_jmp X 4 [true, true, true, true, true, true, true, true, false, true]) <| i_il 4 <| i_jmp X 4 [true, true, true, true, true, true, true, true, false, true]) <| i_il 3 <| i_jmp X 4 [true, true, true, true, true, true, true, true, false, true]) <| i_il 2 <| i_jmp X 4 [true, true, true, true, true, true, true, true, false, true]
def k_X12_spells_4 (X : Nat → zK) (Q : zQ) : zK := i_cmpne (i_ic 0 <| i_jmp X 5 [true, true, true, true, true, true, true, true, false, true]) <| i_ic 1 <| i_jmp X 5 [true, true, true, true, true, true, true, true, false, true]
def k_X12_spells_5 (X : Nat → zK) (Q : zQ) : zK := i_is 8 <| i_inc 9 1 <| i_jmp X 3 [true, true, true, true, true, true, true, true, true, true]
def F_X12_spells (Q : zQ) (X : Nat → zK) : Nat → zK
  | 0 => k_X12_spells_0 X Q
  | 1 => k_X12_spells_1 X Q
  | 2 => k_X12_spells_2 X Q
  | 3 => k_X12_spells_3 X Q
  | 4 => k_X12_spells_4 X Q
  | 5 => k_X12_spells_5 X Q
  | _ => fun _ _ _ => False
def T_X12_spells : zTy := fun vs σ Q => zok 10 vs = true ∧ zFix (F_X12_spells Q) 0 (zlc vs) [] σ
def k_X12_takes_0 (X : Nat → zK) (Q : zQ) : zK := i_al 0 <| i_gf 12 21 <| i_ic 2 <| i_cmpne (i_ic 0 <| i_zr Q) <| i_al 0 <| i_gf 12 22 <| i_i2l <| i_il 2 <| i_i2l <| i_il 3 <| i_i2l <| i_call 3 T_X12_in <| i_ifne (i_al 0 <| i_gf 12 24 <| i_il 1 <| i_al 0 <| i_gf 12 22 <| i_iast <| i_al 0 <| i_cv 12 1 T_X12_goBehind <| i_ic 1 <| i_zr Q) <| i_ic 0 <| i_zr Q
def F_X12_takes (Q : zQ) (X : Nat → zK) : Nat → zK
  | 0 => k_X12_takes_0 X Q
  | _ => fun _ _ _ => False
def T_X12_takes : zTy := fun vs σ Q => zok 4 vs = true ∧ zFix (F_X12_takes Q) 0 (zlc vs) [] σ
def k_X12_takesChurch_0 (X : Nat → zK) (Q : zQ) : zK := i_al 0 <| i_ic 6 <| i_ic 99 <| i_ic 104 <| i_ic 117 <| i_ic 114 <| i_ic 99 <| i_ic 104 <| i_cv 12 8 T_X12_spells <| i_ifne (i_al 0 <| i_cv 12 1 T_X12_goBehind <| i_al 0 <| i_ic 0 <| i_ic 0 <| i_ic 30 <| i_cv 12 4 T_X12_takes <| i_ifne (i_al 0 <| i_gf 12 23 <| i_al 0 <| i_gf 12 24 <| i_ic 0 <| i_ia <| i_call 2 T_X12_begin <| i_al 0 <| i_gf 12 21 <| i_ic 3 <| i_cmpne (i_ic 0 <| i_zr Q) <| i_ic 1 <| i_zr Q) <| i_ic 0 <| i_zr Q) <| i_ic 0 <| i_zr Q
def F_X12_takesChurch (Q : zQ) (X : Nat → zK) : Nat → zK
  | 0 => k_X12_takesChurch_0 X Q
  | _ => fun _ _ _ => False
def T_X12_takesChurch : zTy := fun vs σ Q => zok 1 vs = true ∧ zFix (F_X12_takesChurch Q) 0 (zlc vs) [] σ
def k_X12_takesBook_0 (X : Nat → zK) (Q : zQ) : zK := i_al 0 <| i_cv 12 1 T_X12_goBehind <| i_al 0 <| i_ic 0 <| i_ic 0 <| i_ic 1 <| i_cv 12 4 T_X12_takes <| i_ifne (i_ic 0 <| i_is 1 <| i_jmp X 1 [true, true]) <| i_ic 0 <| i_zr Q
def k_X12_takesBook_1 (X : Nat → zK) (Q : zQ) : zK := i_al 0 <| i_gf 12 21 <| i_ic 2 <| i_cmpne (i_al 0 <| i_gf 12 23 <| i_ic 2 <| i_al 0 <| i_gf 12 24 <| i_ic 0 <| i_ia <| i_iadd <| i_il 1 <| i_iast <| i_ic 1 <| i_zr Q) <| i_al 0 <| i_ic 1 <| i_ic 0 <| i_ic 15 <| i_cv 12 4 T_X12_takes <| i_ifne (i_il 1 <| i_ic 1 <| i_al 0 <| i_gf 12 24 <| i_ic 1 <| i_ia <| i_ishl <| i_ior <| i_is 1 <| i_jmp X 1 [true, true]) <| i_ic 0 <| i_zr Q
def F_X12_takesBook (Q : zQ) (X : Nat → zK) : Nat → zK
  | 0 => k_X12_takesBook_0 X Q
  | 1 => k_X12_takesBook_1 X Q
  | _ => fun _ _ _ => False
def T_X12_takesBook : zTy := fun vs σ Q => zok 2 vs = true ∧ zFix (F_X12_takesBook Q) 0 (zlc vs) [] σ
def k_X12_takesFamily_0 (X : Nat → zK) (Q : zQ) : zK := i_al 0 <| i_gf 12 23 <| i_ic 0 <| i_ia <| i_ic 7 <| i_cmpne (i_al 0 <| i_cv 12 1 T_X12_goBehind <| i_al 0 <| i_ic 0 <| i_ic 0 <| i_ic 5 <| i_cv 12 4 T_X12_takes <| i_ifeq (i_ic 0 <| i_zr Q) <| i_al 0 <| i_ic 1 <| i_ic 0 <| i_ic 1 <| i_cv 12 4 T_X12_takes <| i_ifeq (i_ic 0 <| i_zr Q) <| i_al 0 <| i_ic 2 <| i_ic 1 <| i_ic 9 <| i_cv 12 4 T_X12_takes <| i_ifeq (i_ic 0 <| i_zr Q) <| i_al 0 <| i_ic 3 <| i_ic 1 <| i_ic 20 <| i_cv 12 4 T_X12_takes <| i_ifne (i_al 0 <| i_gf 12 21 <| i_ic 2 <| i_cmpne (i_ic 0 <| i_zr Q) <| i_al 0 <| i_gf 12 22 <| i_al 0 <| i_gf 12 24 <| i_ic 1 <| i_ia <| i_call 2 T_X12_isPewOf <| i_ifeq (i_ic 0 <| i_zr Q) <| i_al 0 <| i_gf 12 23 <| i_al 0 <| i_gf 12 22 <| i_call 2 T_X12_isTaken <| i_ifne (i_ic 0 <| i_zr Q) <| i_al 0 <| i_ic 4 <| i_ic 0 <| i_ic 9 <| i_cv 12 4 T_X12_takes <| i_ifne (i_al 0 <| i_gf 12 23 <| i_al 0 <| i_gf 12 24 <| i_ic 0 <| i_ia <| i_al 0 <| i_gf 12 24 <| i_ic 1 <| i_ia <| i_al 0 <| i_gf 12 24 <| i_ic 2 <| i_ia <| i_al 0 <| i_gf 12 24 <| i_ic 3 <| i_ia <| i_al 0 <| i_gf 12 24 <| i_ic 4 <| i_ia <| i_call 6 T_X12_layFamily <| i_ic 1 <| i_zr Q) <| i_ic 0 <| i_zr Q) <| i_ic 0 <| i_zr Q) <| i_ic 0 <| i_zr Q
def F_X12_takesFamily (Q : zQ) (X : Nat → zK) : Nat → zK
  | 0 => k_X12_takesFamily_0 X Q
  | _ => fun _ _ _ => False
def T_X12_takesFamily : zTy := fun vs σ Q => zok 1 vs = true ∧ zFix (F_X12_takesFamily Q) 0 (zlc vs) [] σ
def k_X12_takesCold_0 (X : Nat → zK) (Q : zQ) : zK := i_al 0 <| i_cv 12 1 T_X12_goBehind <| i_al 0 <| i_ic 0 <| i_ic 0 <| i_al 0 <| i_gf 12 23 <| i_ic 0 <| i_ia <| i_ic 1 <| i_isub <| i_cv 12 4 T_X12_takes <| i_ifne (i_al 0 <| i_gf 12 23 <| i_ic 6 <| i_ic 6 <| i_al 0 <| i_gf 12 24 <| i_ic 0 <| i_ia <| i_imul <| i_iadd <| i_ic 5 <| i_iadd <| i_ic 1 <| i_iast <| i_ic 1 <| i_zr Q) <| i_ic 0 <| i_zr Q
def F_X12_takesCold (Q : zQ) (X : Nat → zK) : Nat → zK
  | 0 => k_X12_takesCold_0 X Q
  | _ => fun _ _ _ => False
def T_X12_takesCold : zTy := fun vs σ Q => zok 1 vs = true ∧ zFix (F_X12_takesCold Q) 0 (zlc vs) [] σ
def k_X12_takesItem_0 (X : Nat → zK) (Q : zQ) : zK := i_al 0 <| i_ic 4 <| i_ic 98 <| i_ic 111 <| i_ic 111 <| i_ic 107 <| i_ic 0 <| i_ic 0 <| i_cv 12 8 T_X12_spells <| i_ifeq (i_al 0 <| i_ic 6 <| i_ic 102 <| i_ic 97 <| i_ic 109 <| i_ic 105 <| i_ic 108 <| i_ic 121 <| i_cv 12 8 T_X12_spells <| i_ifeq (i_al 0 <| i_ic 4 <| i_ic 99 <| i_ic 111 <| i_ic 108 <| i_ic 100 <| i_ic 0 <| i_ic 0 <| i_cv 12 8 T_X12_spells <| i_ifeq (i_ic 0 <| i_zr Q) <| i_al 0 <| i_cv 12 1 T_X12_takesCold <| i_ifeq (i_ic 0 <| i_zr Q) <| i_ic 1 <| i_zr Q) <| i_al 0 <| i_cv 12 1 T_X12_takesFamily <| i_zr Q) <| i_al 0 <| i_cv 12 1 T_X12_takesBook <| i_zr Q
def F_X12_takesItem (Q : zQ) (X : Nat → zK) : Nat → zK
  | 0 => k_X12_takesItem_0 X Q
  | _ => fun _ _ _ => False
def T_X12_takesItem : zTy := fun vs σ Q => zok 1 vs = true ∧ zFix (F_X12_takesItem Q) 0 (zlc vs) [] σ
def k_X12_read_0 (X : Nat → zK) (Q : zQ) : zK := i_al 0 <| i_ic 0 <| i_cv 12 2 T_X12_lookAt <| i_al 0 <| i_cv 12 1 T_X12_takesChurch <| i_ifne (i_al 0 <| i_cv 12 1 T_X12_goBehind <| i_ic 1 <| i_is 1 <| i_jmp X 1 [true, true]) <| i_ic (-10) <| i_al 0 <| i_gf 12 19 <| i_isub <| i_ir Q
def k_X12_read_1 (X : Nat → zK) (Q : zQ) : zK := i_al 0 <| i_gf 12 21 <| i_ifeq (i_ic 0 <| i_is 2 <| i_jmp X 3 [true, true, true]) <| i_al 0 <| i_cv 12 1 T_X12_takesItem <| i_ifeq (i_jmp X 2 [true]) <| i_al 0 <| i_gf 12 21 <| i_ic 3 <| i_cmpeq (i_al 0 <| i_cv 12 1 T_X12_goBehind <| i_inc 1 1 <| i_jmp X 1 [true, true]) <| i_jmp X 2 [true]
def k_X12_read_2 (X : Nat → zK) (Q : zQ) : zK := i_ic (-10) <| i_al 0 <| i_gf 12 19 <| i_isub <| i_ir Q
def k_X12_read_3 (X : Nat → zK) (Q : zQ) : zK := i_il 2 <| i_ic 66 <| i_cmpge (i_il 1 <| i_ir Q) <| i_al 0 <| i_gf 12 0 <| i_il 2 <| i_al 0 <| i_gf 12 23 <| i_il 2 <| i_ia <| i_iast <| i_inc 2 1 <| i_jmp X 3 [true, true, true]
def F_X12_read (Q : zQ) (X : Nat → zK) : Nat → zK
  | 0 => k_X12_read_0 X Q
  | 1 => k_X12_read_1 X Q
  | 2 => k_X12_read_2 X Q
  | 3 => k_X12_read_3 X Q
  | _ => fun _ _ _ => False
def T_X12_read : zTy := fun vs σ Q => zok 3 vs = true ∧ zFix (F_X12_read Q) 0 (zlc vs) [] σ
def k_X12_part_0 (X : Nat → zK) (Q : zQ) : zK := i_il 1 <| i_ifne (i_il 1 <| i_ic 1 <| i_cmpne (i_al 0 <| i_ic (-2) <| i_cv 12 2 T_X12_bad <| i_i2l <| i_lr Q) <| i_al 0 <| i_gf 12 5 <| i_lr Q) <| i_al 0 <| i_gf 12 4 <| i_lr Q
def F_X12_part (Q : zQ) (X : Nat → zK) : Nat → zK
  | 0 => k_X12_part_0 X Q
  | _ => fun _ _ _ => False
def T_X12_part : zTy := fun vs σ Q => zok 2 vs = true ∧ zFix (F_X12_part Q) 0 (zlc vs) [] σ
def k_X12_image_0 (X : Nat → zK) (Q : zQ) : zK := i_il 1 <| i_i2l <| i_lc 0 <| i_lc 1 <| i_call 3 T_X12_in <| i_ifne (i_ic 0 <| i_is 2 <| i_jmp X 1 [true, true, true]) <| i_al 0 <| i_ic (-2) <| i_cv 12 2 T_X12_bad <| i_ir Q
def k_X12_image_1 (X : Nat → zK) (Q : zQ) : zK := i_il 2 <| i_ic 178 <| i_cmpge (i_al 0 <| i_gf 12 2 <| i_il 1 <| i_ic 1 <| i_bast <| i_ic 1 <| i_ir Q) <| i_al 0 <| i_gf 12 1 <| i_ic 178 <| i_il 1 <| i_imul <| i_il 2 <| i_iadd <| i_al 0 <| i_gf 12 0 <| i_il 2 <| i_ia <| i_iast <| i_inc 2 1 <| i_jmp X 1 [true, true, true]
def F_X12_image (Q : zQ) (X : Nat → zK) : Nat → zK
  | 0 => k_X12_image_0 X Q
  | 1 => k_X12_image_1 X Q
  | _ => fun _ _ _ => False
def T_X12_image : zTy := fun vs σ Q => zok 3 vs = true ∧ zFix (F_X12_image Q) 0 (zlc vs) [] σ
def k_X12_from_0 (X : Nat → zK) (Q : zQ) : zK := i_il 1 <| i_i2l <| i_lc 0 <| i_lc 1 <| i_call 3 T_X12_in <| i_ifne (i_al 0 <| i_gf 12 2 <| i_il 1 <| i_ba <| i_ifne (i_ic 0 <| i_is 2 <| i_jmp X 1 [true, true, true]) <| i_al 0 <| i_cv 12 1 T_X12_no <| i_ir Q) <| i_al 0 <| i_ic (-2) <| i_cv 12 2 T_X12_bad <| i_ir Q
def k_X12_from_1 (X : Nat → zK) (Q : zQ) : zK := i_il 2 <| i_ic 178 <| i_cmpge (i_ic 1 <| i_ir Q) <| i_al 0 <| i_gf 12 0 <| i_il 2 <| i_al 0 <| i_gf 12 1 <| i_ic 178 <| i_il 1 <| i_imul <| i_il 2 <| i_iadd <| i_ia <| i_iast <| i_inc 2 1 <| i_jmp X 1 [true, true, true]
def F_X12_from (Q : zQ) (X : Nat → zK) : Nat → zK
  | 0 => k_X12_from_0 X Q
  | 1 => k_X12_from_1 X Q
  | _ => fun _ _ _ => False
def T_X12_from : zTy := fun vs σ Q => zok 3 vs = true ∧ zFix (F_X12_from Q) 0 (zlc vs) [] σ
def k_X12_status_0 (X : Nat → zK) (Q : zQ) : zK := i_il 1 <| i_i2l <| i_lc 0 <| i_lc 2 <| i_call 3 T_X12_in <| i_ifeq (i_al 0 <| i_ic (-1) <| i_cv 12 2 T_X12_bad <| i_ir Q) <| i_al 0 <| i_gf 12 3 <| i_il 1 <| i_ia <| i_ir Q
def F_X12_status (Q : zQ) (X : Nat → zK) : Nat → zK
  | 0 => k_X12_status_0 X Q
  | _ => fun _ _ _ => False
def T_X12_status : zTy := fun vs σ Q => zok 2 vs = true ∧ zFix (F_X12_status Q) 0 (zlc vs) [] σ
def k_X12_counted_0 (X : Nat → zK) (Q : zQ) : zK := i_al 0 <| i_cv 12 1 T_X12_layHand <| i_il 1 <| i_sw [(0, i_al 0 <| i_cv 12 1 T_X12_many <| i_ir Q), (1, i_al 0 <| i_gf 12 0 <| i_ic 1 <| i_ia <| i_ir Q), (2, i_al 0 <| i_gf 12 9 <| i_call 1 T_X12_bits <| i_ir Q), (3, i_al 0 <| i_cv 12 1 T_X12_peaces <| i_ir Q), (4, i_al 0 <| i_gf 12 0 <| i_ic 4 <| i_ia <| i_ir Q), (5, i_al 0 <| i_gf 12 0 <| i_ic 5 <| i_ia <| i_ir Q)] (i_al 0 <| i_gf 12 18 <| i_ir Q)
def F_X12_counted (Q : zQ) (X : Nat → zK) : Nat → zK
  | 0 => k_X12_counted_0 X Q
  | _ => fun _ _ _ => False
def T_X12_counted : zTy := fun vs σ Q => zok 2 vs = true ∧ zFix (F_X12_counted Q) 0 (zlc vs) [] σ
def k_X12_count_0 (X : Nat → zK) (Q : zQ) : zK := i_il 1 <| i_i2l <| i_lc 0 <| i_lc 6 <| i_call 3 T_X12_in <| i_ifeq (i_al 0 <| i_ic (-2) <| i_cv 12 2 T_X12_bad <| i_ir Q) <| i_al 0 <| i_il 1 <| i_cv 12 2 T_X12_counted <| i_ir Q
def F_X12_count (Q : zQ) (X : Nat → zK) : Nat → zK
  | 0 => k_X12_count_0 X Q
  | _ => fun _ _ _ => False
def T_X12_count : zTy := fun vs σ Q => zok 2 vs = true ∧ zFix (F_X12_count Q) 0 (zlc vs) [] σ
def k_X12_sums_0 (X : Nat → zK) (Q : zQ) : zK := i_ll 1 <| i_lst 5 <| i_ic 0 <| i_is 7 <| i_jmp X 1 [true, false, false, true, true, true, false, true]
def k_X12_sums_1 (X : Nat → zK) (Q : zQ) : zK := i_il 7 <| i_il 4 <| i_cmpge (i_ll 5 <| i_lr Q) <| i_lc 31 <| i_ll 5 <| i_lmul <| i_al 0 <| i_gf 12 0 <| i_il 3 <| i_il 7 <| i_iadd <| i_ia <| i_i2l <| i_ladd <| i_lst 5 <| i_inc 7 1 <| i_jmp X 1 [true, false, false, true, true, true, false, true]
def F_X12_sums (Q : zQ) (X : Nat → zK) : Nat → zK
  | 0 => k_X12_sums_0 X Q
  | 1 => k_X12_sums_1 X Q
  | _ => fun _ _ _ => False
def T_X12_sums : zTy := fun vs σ Q => zok 8 vs = true ∧ zFix (F_X12_sums Q) 0 (zlc vs) [] σ
def k_X12_digest_0 (X : Nat → zK) (Q : zQ) : zK := i_lc 1171 <| i_lst 1 <| i_ic 0 <| i_is 3 <| i_jmp X 1 [true, true, false, true]
def k_X12_digest_1 (X : Nat → zK) (Q : zQ) : zK := i_il 3 <| i_ic 7 <| i_cmpge (i_al 0 <| i_ll 1 <| i_ic 2 <| i_ic 2 <| i_cv 12 4 T_X12_sums <| i_lst 1 <| i_al 0 <| i_ll 1 <| i_ic 6 <| i_ic 6 <| i_al 0 <| i_cv 12 1 T_X12_many <| i_imul <| i_cv 12 4 T_X12_sums <| i_lst 1 <| i_al 0 <| i_ll 1 <| i_ic 48 <| i_ic 3 <| i_al 0 <| i_gf 12 0 <| i_ic 4 <| i_ia <| i_imul <| i_cv 12 4 T_X12_sums <| i_lst 1 <| i_lc 31 <| i_lc 31 <| i_ll 1 <| i_lmul <| i_al 0 <| i_gf 12 4 <| i_ladd <| i_lmul <| i_al 0 <| i_gf 12 5 <| i_ladd <| i_lr Q) <| i_lc 31 <| i_ll 1 <| i_lmul <| i_al 0 <| i_il 3 <| i_cv 12 2 T_X12_counted <| i_i2l <| i_ladd <| i_lst 1 <| i_inc 3 1 <| i_jmp X 1 [true, true, false, true]
def F_X12_digest (Q : zQ) (X : Nat → zK) : Nat → zK
  | 0 => k_X12_digest_0 X Q
  | 1 => k_X12_digest_1 X Q
  | _ => fun _ _ _ => False
def T_X12_digest : zTy := fun vs σ Q => zok 4 vs = true ∧ zFix (F_X12_digest Q) 0 (zlc vs) [] σ
