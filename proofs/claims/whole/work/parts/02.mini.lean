/-! THE SMALL MACHINE. After the constructors have run no cell is made any more: the objects' references never change, only ints, booleans and longs do.
So the state is a memory (cell, place) → number, and a method's bytecode is a term of the rows i_.. below: 'what must hold so that the code from here on ends well'. -/
abbrev zM : Type := (Nat → Nat → Int32) × (Nat → Nat → Int64)
abbrev zQ : Type := Option Value → zM → Prop
abbrev zK : Type := List Value → List Value → zM → Prop
abbrev zTy : Type := List Value → zM → zQ → Prop
def zLay : List (Nat × Nat × List Nat) := [(2, 11, [3, 15, 51, 52, 53, 55, 70, 73, 76, 1, 1]), (2, 1, [0, 4, 0, 5, 6, 7, 8, 9, 0, 0, 10, 11, 12, 0, 13, 14]), (0, 2, []), (0, 7, []), (0, 7, []), (0, 7, []), (0, 7, []), (0, 7, []), (0, 6, []), (0, 6, []), (0, 6, []), (0, 56, []), (0, 8, []), (2, 1, [0, 16, 0, 17, 18, 19, 20, 21, 0, 0, 22, 23, 24, 0, 25, 26]), (0, 2, []), (0, 7, []), (0, 7, []), (0, 7, []), (0, 7, []), (0, 7, []), (0, 6, []), (0, 6, []), (0, 6, []), (0, 56, []), (0, 8, []), (2, 1, [0, 28, 0, 29, 30, 31, 32, 33, 0, 0, 34, 35, 36, 0, 37, 38]), (0, 2, []), (0, 7, []), (0, 7, []), (0, 7, []), (0, 7, []), (0, 7, []), (0, 6, []), (0, 6, []), (0, 6, []), (0, 56, []), (0, 8, []), (2, 1, [0, 40, 0, 41, 42, 43, 44, 45, 0, 0, 46, 47, 48, 0, 49, 50]), (0, 2, []), (0, 7, []), (0, 7, []), (0, 7, []), (0, 7, []), (0, 7, []), (0, 6, []), (0, 6, []), (0, 6, []), (0, 56, []), (0, 8, []), (3, 2, [25, 37]), (1, 2, []), (2, 9, [54, 0, 0, 0, 0, 0]), (0, 150, []), (2, 8, [56, 0, 0, 63, 64, 65, 66, 67, 68, 69]), (4, 6, [55, 56, 57, 58, 59, 60]), (2, 6, []), (2, 5, []), (2, 2, []), (2, 4, []), (2, 0, []), (2, 10, []), (0, 7, []), (0, 7, []), (1, 28, []), (0, 28, []), (0, 28, []), (0, 16, []), (0, 4, []), (2, 7, [71, 72, 0]), (0, 128, []), (0, 512, []), (2, 3, [74, 75, 0, 0, 0, 0]), (1, 128, []), (0, 141, []), (0, 3, []), (2, 12, [78, 79, 80, 81, 1, 1, 82, 83, 84, 0, 85, 86, 0, 87, 0, 88, 89, 90, 0, 0, 0, 0, 0, 91, 92]), (0, 178, []), (0, 356, []), (1, 2, []), (0, 3, []), (0, 7, []), (0, 7, []), (0, 7, []), (0, 112, []), (0, 7, []), (1, 128, []), (0, 141, []), (0, 4, []), (0, 150, []), (0, 66, []), (0, 5, []), (7, 7, []), (5, 0, []), (5, 1, []), (5, 2, []), (5, 3, []), (6, 0, []), (6, 1, []), (6, 2, []), (6, 3, [])]
def zN : Nat := 91
def zlay (k : Nat) : Nat × Nat × List Nat := zLay.getD k (9, 0, [])
def zil (k : Nat) : Nat := match zlay k with | (0, n, _) => n | _ => 0
def zbl (k : Nat) : Nat := match zlay k with | (1, n, _) => n | _ => 0
def zoc (k : Nat) : Nat := match zlay k with | (2, n, _) => n | _ => 99
def zft (k j : Nat) : Nat := match zlay k with | (2, _, l) => l.getD j 0 | _ => 0
def zrl (k : Nat) : Nat := match zlay k with | (3, _, l) => l.length | (4, _, l) => l.length | _ => 0
def zrt (k j : Nat) : Nat := match zlay k with | (3, _, l) => l.getD j 0 | (4, _, l) => l.getD j 0 | _ => 0
def zsi (k : Nat) : Nat := match zlay k with | (5, i, _) => i + 1 | _ => 0
def zvi (k : Nat) : Nat := match zlay k with | (6, i, _) => i + 1 | _ => 0
theorem zoc_0 : zoc 0 = 11 := rfl
theorem zft_0_0 : zft 0 0 = 3 := rfl
theorem zft_0_1 : zft 0 1 = 15 := rfl
theorem zft_0_2 : zft 0 2 = 51 := rfl
theorem zft_0_3 : zft 0 3 = 52 := rfl
theorem zft_0_4 : zft 0 4 = 53 := rfl
theorem zft_0_5 : zft 0 5 = 55 := rfl
theorem zft_0_6 : zft 0 6 = 70 := rfl
theorem zft_0_7 : zft 0 7 = 73 := rfl
theorem zft_0_8 : zft 0 8 = 76 := rfl
theorem zft_0_9 : zft 0 9 = 1 := rfl
theorem zft_0_10 : zft 0 10 = 1 := rfl
theorem zoc_1 : zoc 1 = 1 := rfl
theorem zft_1_0 : zft 1 0 = 0 := rfl
theorem zft_1_1 : zft 1 1 = 4 := rfl
theorem zft_1_2 : zft 1 2 = 0 := rfl
theorem zft_1_3 : zft 1 3 = 5 := rfl
theorem zft_1_4 : zft 1 4 = 6 := rfl
theorem zft_1_5 : zft 1 5 = 7 := rfl
theorem zft_1_6 : zft 1 6 = 8 := rfl
theorem zft_1_7 : zft 1 7 = 9 := rfl
theorem zft_1_8 : zft 1 8 = 0 := rfl
theorem zft_1_9 : zft 1 9 = 0 := rfl
theorem zft_1_10 : zft 1 10 = 10 := rfl
theorem zft_1_11 : zft 1 11 = 11 := rfl
theorem zft_1_12 : zft 1 12 = 12 := rfl
theorem zft_1_13 : zft 1 13 = 0 := rfl
theorem zft_1_14 : zft 1 14 = 13 := rfl
theorem zft_1_15 : zft 1 15 = 14 := rfl
theorem zil_2 : zil 2 = 2 := rfl
theorem zil_3 : zil 3 = 7 := rfl
theorem zil_4 : zil 4 = 7 := rfl
theorem zil_5 : zil 5 = 7 := rfl
theorem zil_6 : zil 6 = 7 := rfl
theorem zil_7 : zil 7 = 7 := rfl
theorem zil_8 : zil 8 = 6 := rfl
theorem zil_9 : zil 9 = 6 := rfl
theorem zil_10 : zil 10 = 6 := rfl
theorem zil_11 : zil 11 = 56 := rfl
theorem zil_12 : zil 12 = 8 := rfl
theorem zoc_13 : zoc 13 = 1 := rfl
theorem zft_13_0 : zft 13 0 = 0 := rfl
theorem zft_13_1 : zft 13 1 = 16 := rfl
theorem zft_13_2 : zft 13 2 = 0 := rfl
theorem zft_13_3 : zft 13 3 = 17 := rfl
theorem zft_13_4 : zft 13 4 = 18 := rfl
theorem zft_13_5 : zft 13 5 = 19 := rfl
theorem zft_13_6 : zft 13 6 = 20 := rfl
theorem zft_13_7 : zft 13 7 = 21 := rfl
theorem zft_13_8 : zft 13 8 = 0 := rfl
theorem zft_13_9 : zft 13 9 = 0 := rfl
theorem zft_13_10 : zft 13 10 = 22 := rfl
theorem zft_13_11 : zft 13 11 = 23 := rfl
theorem zft_13_12 : zft 13 12 = 24 := rfl
theorem zft_13_13 : zft 13 13 = 0 := rfl
theorem zft_13_14 : zft 13 14 = 25 := rfl
theorem zft_13_15 : zft 13 15 = 26 := rfl
theorem zil_14 : zil 14 = 2 := rfl
theorem zil_15 : zil 15 = 7 := rfl
theorem zil_16 : zil 16 = 7 := rfl
theorem zil_17 : zil 17 = 7 := rfl
theorem zil_18 : zil 18 = 7 := rfl
theorem zil_19 : zil 19 = 7 := rfl
theorem zil_20 : zil 20 = 6 := rfl
theorem zil_21 : zil 21 = 6 := rfl
theorem zil_22 : zil 22 = 6 := rfl
theorem zil_23 : zil 23 = 56 := rfl
theorem zil_24 : zil 24 = 8 := rfl
theorem zoc_25 : zoc 25 = 1 := rfl
theorem zft_25_0 : zft 25 0 = 0 := rfl
theorem zft_25_1 : zft 25 1 = 28 := rfl
theorem zft_25_2 : zft 25 2 = 0 := rfl
theorem zft_25_3 : zft 25 3 = 29 := rfl
theorem zft_25_4 : zft 25 4 = 30 := rfl
theorem zft_25_5 : zft 25 5 = 31 := rfl
theorem zft_25_6 : zft 25 6 = 32 := rfl
theorem zft_25_7 : zft 25 7 = 33 := rfl
theorem zft_25_8 : zft 25 8 = 0 := rfl
theorem zft_25_9 : zft 25 9 = 0 := rfl
theorem zft_25_10 : zft 25 10 = 34 := rfl
theorem zft_25_11 : zft 25 11 = 35 := rfl
theorem zft_25_12 : zft 25 12 = 36 := rfl
theorem zft_25_13 : zft 25 13 = 0 := rfl
theorem zft_25_14 : zft 25 14 = 37 := rfl
theorem zft_25_15 : zft 25 15 = 38 := rfl
theorem zil_26 : zil 26 = 2 := rfl
theorem zil_27 : zil 27 = 7 := rfl
theorem zil_28 : zil 28 = 7 := rfl
theorem zil_29 : zil 29 = 7 := rfl
theorem zil_30 : zil 30 = 7 := rfl
theorem zil_31 : zil 31 = 7 := rfl
theorem zil_32 : zil 32 = 6 := rfl
theorem zil_33 : zil 33 = 6 := rfl
theorem zil_34 : zil 34 = 6 := rfl
theorem zil_35 : zil 35 = 56 := rfl
theorem zil_36 : zil 36 = 8 := rfl
theorem zoc_37 : zoc 37 = 1 := rfl
theorem zft_37_0 : zft 37 0 = 0 := rfl
theorem zft_37_1 : zft 37 1 = 40 := rfl
theorem zft_37_2 : zft 37 2 = 0 := rfl
theorem zft_37_3 : zft 37 3 = 41 := rfl
theorem zft_37_4 : zft 37 4 = 42 := rfl
theorem zft_37_5 : zft 37 5 = 43 := rfl
theorem zft_37_6 : zft 37 6 = 44 := rfl
theorem zft_37_7 : zft 37 7 = 45 := rfl
theorem zft_37_8 : zft 37 8 = 0 := rfl
theorem zft_37_9 : zft 37 9 = 0 := rfl
theorem zft_37_10 : zft 37 10 = 46 := rfl
theorem zft_37_11 : zft 37 11 = 47 := rfl
theorem zft_37_12 : zft 37 12 = 48 := rfl
theorem zft_37_13 : zft 37 13 = 0 := rfl
theorem zft_37_14 : zft 37 14 = 49 := rfl
theorem zft_37_15 : zft 37 15 = 50 := rfl
theorem zil_38 : zil 38 = 2 := rfl
theorem zil_39 : zil 39 = 7 := rfl
theorem zil_40 : zil 40 = 7 := rfl
theorem zil_41 : zil 41 = 7 := rfl
theorem zil_42 : zil 42 = 7 := rfl
theorem zil_43 : zil 43 = 7 := rfl
theorem zil_44 : zil 44 = 6 := rfl
theorem zil_45 : zil 45 = 6 := rfl
theorem zil_46 : zil 46 = 6 := rfl
theorem zil_47 : zil 47 = 56 := rfl
theorem zil_48 : zil 48 = 8 := rfl
theorem zrl_49 : zrl 49 = 2 := rfl
theorem zbl_50 : zbl 50 = 2 := rfl
theorem zoc_51 : zoc 51 = 9 := rfl
theorem zft_51_0 : zft 51 0 = 54 := rfl
theorem zft_51_1 : zft 51 1 = 0 := rfl
theorem zft_51_2 : zft 51 2 = 0 := rfl
theorem zft_51_3 : zft 51 3 = 0 := rfl
theorem zft_51_4 : zft 51 4 = 0 := rfl
theorem zft_51_5 : zft 51 5 = 0 := rfl
theorem zil_52 : zil 52 = 150 := rfl
theorem zoc_53 : zoc 53 = 8 := rfl
theorem zft_53_0 : zft 53 0 = 56 := rfl
theorem zft_53_1 : zft 53 1 = 0 := rfl
theorem zft_53_2 : zft 53 2 = 0 := rfl
theorem zft_53_3 : zft 53 3 = 63 := rfl
theorem zft_53_4 : zft 53 4 = 64 := rfl
theorem zft_53_5 : zft 53 5 = 65 := rfl
theorem zft_53_6 : zft 53 6 = 66 := rfl
theorem zft_53_7 : zft 53 7 = 67 := rfl
theorem zft_53_8 : zft 53 8 = 68 := rfl
theorem zft_53_9 : zft 53 9 = 69 := rfl
theorem zrl_54 : zrl 54 = 6 := rfl
theorem zoc_55 : zoc 55 = 6 := rfl
theorem zoc_56 : zoc 56 = 5 := rfl
theorem zoc_57 : zoc 57 = 2 := rfl
theorem zoc_58 : zoc 58 = 4 := rfl
theorem zoc_59 : zoc 59 = 0 := rfl
theorem zoc_60 : zoc 60 = 10 := rfl
theorem zil_61 : zil 61 = 7 := rfl
theorem zil_62 : zil 62 = 7 := rfl
theorem zbl_63 : zbl 63 = 28 := rfl
theorem zil_64 : zil 64 = 28 := rfl
theorem zil_65 : zil 65 = 28 := rfl
theorem zil_66 : zil 66 = 16 := rfl
theorem zil_67 : zil 67 = 4 := rfl
theorem zoc_68 : zoc 68 = 7 := rfl
theorem zft_68_0 : zft 68 0 = 71 := rfl
theorem zft_68_1 : zft 68 1 = 72 := rfl
theorem zft_68_2 : zft 68 2 = 0 := rfl
theorem zil_69 : zil 69 = 128 := rfl
theorem zil_70 : zil 70 = 512 := rfl
theorem zoc_71 : zoc 71 = 3 := rfl
theorem zft_71_0 : zft 71 0 = 74 := rfl
theorem zft_71_1 : zft 71 1 = 75 := rfl
theorem zft_71_2 : zft 71 2 = 0 := rfl
theorem zft_71_3 : zft 71 3 = 0 := rfl
theorem zft_71_4 : zft 71 4 = 0 := rfl
theorem zft_71_5 : zft 71 5 = 0 := rfl
theorem zbl_72 : zbl 72 = 128 := rfl
theorem zil_73 : zil 73 = 141 := rfl
theorem zil_74 : zil 74 = 3 := rfl
theorem zoc_75 : zoc 75 = 12 := rfl
theorem zft_75_0 : zft 75 0 = 78 := rfl
theorem zft_75_1 : zft 75 1 = 79 := rfl
theorem zft_75_2 : zft 75 2 = 80 := rfl
theorem zft_75_3 : zft 75 3 = 81 := rfl
theorem zft_75_4 : zft 75 4 = 1 := rfl
theorem zft_75_5 : zft 75 5 = 1 := rfl
theorem zft_75_6 : zft 75 6 = 82 := rfl
theorem zft_75_7 : zft 75 7 = 83 := rfl
theorem zft_75_8 : zft 75 8 = 84 := rfl
theorem zft_75_9 : zft 75 9 = 0 := rfl
theorem zft_75_10 : zft 75 10 = 85 := rfl
theorem zft_75_11 : zft 75 11 = 86 := rfl
theorem zft_75_12 : zft 75 12 = 0 := rfl
theorem zft_75_13 : zft 75 13 = 87 := rfl
theorem zft_75_14 : zft 75 14 = 0 := rfl
theorem zft_75_15 : zft 75 15 = 88 := rfl
theorem zft_75_16 : zft 75 16 = 89 := rfl
theorem zft_75_17 : zft 75 17 = 90 := rfl
theorem zft_75_18 : zft 75 18 = 0 := rfl
theorem zft_75_19 : zft 75 19 = 0 := rfl
theorem zft_75_20 : zft 75 20 = 0 := rfl
theorem zft_75_21 : zft 75 21 = 0 := rfl
theorem zft_75_22 : zft 75 22 = 0 := rfl
theorem zft_75_23 : zft 75 23 = 91 := rfl
theorem zft_75_24 : zft 75 24 = 92 := rfl
theorem zil_76 : zil 76 = 178 := rfl
theorem zil_77 : zil 77 = 356 := rfl
theorem zbl_78 : zbl 78 = 2 := rfl
theorem zil_79 : zil 79 = 3 := rfl
theorem zil_80 : zil 80 = 7 := rfl
theorem zil_81 : zil 81 = 7 := rfl
theorem zil_82 : zil 82 = 7 := rfl
theorem zil_83 : zil 83 = 112 := rfl
theorem zil_84 : zil 84 = 7 := rfl
theorem zbl_85 : zbl 85 = 128 := rfl
theorem zil_86 : zil 86 = 141 := rfl
theorem zil_87 : zil 87 = 4 := rfl
theorem zil_88 : zil 88 = 150 := rfl
theorem zil_89 : zil 89 = 66 := rfl
theorem zil_90 : zil 90 = 5 := rfl
theorem zsi_92 : zsi 92 = 1 := rfl
theorem zsi_93 : zsi 93 = 2 := rfl
theorem zsi_94 : zsi 94 = 3 := rfl
theorem zsi_95 : zsi 95 = 4 := rfl
theorem zvi_96 : zvi 96 = 1 := rfl
theorem zvi_97 : zvi 97 = 2 := rfl
theorem zvi_98 : zvi 98 = 3 := rfl
theorem zvi_99 : zvi 99 = 4 := rfl
-- the memory's writes
def zput (σ : zM) (k j : Nat) (v : Int32) : zM := (fun a b => if a = k then (if b = j then v else σ.1 a b) else σ.1 a b, σ.2)
def zputl (σ : zM) (k j : Nat) (v : Int64) : zM := (σ.1, fun a b => if a = k then (if b = j then v else σ.2 a b) else σ.2 a b)
def zcpy (σ : zM) (o d sp dp n : Nat) : zM := (fun a => if a = d then va_cpy (σ.1 o) (σ.1 d) sp dp n else σ.1 a, σ.2)
-- locals: place by place; null means 'nothing known'
def zget : List Value → Nat → Value
  | [], _ => .null
  | v :: _, 0 => v
  | _ :: l, n + 1 => zget l n
def zcl : Nat → Value → Value
  | 0, .long _ => .null
  | 0, .double _ => .null
  | _, v => v
def zst : List Value → Nat → Value → List Value
  | [], 0, v => [v]
  | [], n + 1, v => .null :: zst [] n v
  | _ :: l, 0, v => v :: l
  | x :: l, n + 1, v => zcl n x :: zst l n v
def zstl : List Value → Nat → Value → List Value
  | [], 0, v => [v, .null]
  | [], n + 1, v => .null :: zstl [] n v
  | [_], 0, v => [v, .null]
  | _ :: _ :: l, 0, v => v :: .null :: l
  | x :: l, n + 1, v => zcl n x :: zstl l n v
def zkp : List Bool → List Value → List Value
  | [], _ => []
  | _ :: m, [] => .null :: zkp m []
  | true :: m, v :: l => v :: zkp m l
  | false :: m, _ :: l => .null :: zkp m l
def zlc : List Value → List Value
  | [] => []
  | .long x :: l => .long x :: .null :: zlc l
  | .double x :: l => .double x :: .null :: zlc l
  | v :: l => v :: zlc l
def zsp : Nat → List Value → List Value → Option (List Value × List Value)
  | 0, acc, st => some (acc, st)
  | n + 1, acc, v :: st => zsp n (v :: acc) st
  | _ + 1, _, [] => none
def zsm : List Value → Bool
  | [] => true
  | [_] => true
  | [_, _] => true
  | [_, _, _] => true
  | [_, _, _, _] => true
  | _ => false
def zvl : Option Value → List Value → List Value
  | none, r => r
  | some v, r => v :: r
-- instructions
def i_ic (v : Int32) (k : zK) : zK := fun ls st σ => k ls (.int v :: st) σ
def i_lc (v : Int64) (k : zK) : zK := fun ls st σ => k ls (.long v :: st) σ
def i_il (n : Nat) (k : zK) : zK := fun ls st σ => match zget ls n with | .int x => k ls (.int x :: st) σ | _ => False
def i_ll (n : Nat) (k : zK) : zK := fun ls st σ => match zget ls n with | .long x => k ls (.long x :: st) σ | _ => False
def i_al (n : Nat) (k : zK) : zK := fun ls st σ => match zget ls n with | .ref x => k ls (.ref x :: st) σ | _ => False
def i_is (n : Nat) (k : zK) : zK := fun ls st σ => match st with | .int x :: r => k (zst ls n (.int x)) r σ | _ => False
def i_lst (n : Nat) (k : zK) : zK := fun ls st σ => match st with | .long x :: r => k (zstl ls n (.long x)) r σ | _ => False
def i_as (n : Nat) (k : zK) : zK := fun ls st σ => match st with | .ref x :: r => k (zst ls n (.ref x)) r σ | _ => False
def i_inc (n : Nat) (d : Int32) (k : zK) : zK := fun ls st σ => match zget ls n with | .int x => k (zst ls n (.int (x + d))) st σ | _ => False
def i_iadd (k : zK) : zK := fun ls st σ => match st with | .int y :: .int x :: r => k ls (.int (x + y) :: r) σ | _ => False
def i_isub (k : zK) : zK := fun ls st σ => match st with | .int y :: .int x :: r => k ls (.int (x - y) :: r) σ | _ => False
def i_imul (k : zK) : zK := fun ls st σ => match st with | .int y :: .int x :: r => k ls (.int (x * y) :: r) σ | _ => False
def i_iand (k : zK) : zK := fun ls st σ => match st with | .int y :: .int x :: r => k ls (.int (x &&& y) :: r) σ | _ => False
def i_ior (k : zK) : zK := fun ls st σ => match st with | .int y :: .int x :: r => k ls (.int (x ||| y) :: r) σ | _ => False
def i_ixor (k : zK) : zK := fun ls st σ => match st with | .int y :: .int x :: r => k ls (.int (x ^^^ y) :: r) σ | _ => False
def i_ishl (k : zK) : zK := fun ls st σ => match st with | .int y :: .int x :: r => k ls (.int (x <<< (y &&& 31)) :: r) σ | _ => False
def i_ishr (k : zK) : zK := fun ls st σ => match st with | .int y :: .int x :: r => k ls (.int (x >>> (y &&& 31)) :: r) σ | _ => False
def i_iushr (k : zK) : zK := fun ls st σ => match st with | .int y :: .int x :: r => k ls (.int ((x.toUInt32 >>> (y.toUInt32 &&& Int32.toUInt32 31)).toInt32) :: r) σ | _ => False
def i_ladd (k : zK) : zK := fun ls st σ => match st with | .long y :: .long x :: r => k ls (.long (x + y) :: r) σ | _ => False
def i_lsub (k : zK) : zK := fun ls st σ => match st with | .long y :: .long x :: r => k ls (.long (x - y) :: r) σ | _ => False
def i_lmul (k : zK) : zK := fun ls st σ => match st with | .long y :: .long x :: r => k ls (.long (x * y) :: r) σ | _ => False
def i_ineg (k : zK) : zK := fun ls st σ => match st with | .int x :: r => k ls (.int (-x) :: r) σ | _ => False
def i_i2c (k : zK) : zK := fun ls st σ => match st with | .int x :: r => k ls (.int ((x.toUInt32 % 65536).toInt32) :: r) σ | _ => False
def i_ifeq (kt kf : zK) : zK := fun ls st σ => match st with | .int x :: r => (x = 0 → kt ls r σ) ∧ (¬ x = 0 → kf ls r σ) | _ => False
def i_cmpeq (kt kf : zK) : zK := fun ls st σ => match st with | .int y :: .int x :: r => (x = y → kt ls r σ) ∧ (¬ x = y → kf ls r σ) | _ => False
def i_ifne (kt kf : zK) : zK := fun ls st σ => match st with | .int x :: r => (¬ x = 0 → kt ls r σ) ∧ (x = 0 → kf ls r σ) | _ => False
def i_cmpne (kt kf : zK) : zK := fun ls st σ => match st with | .int y :: .int x :: r => (¬ x = y → kt ls r σ) ∧ (x = y → kf ls r σ) | _ => False
def i_iflt (kt kf : zK) : zK := fun ls st σ => match st with | .int x :: r => (x < 0 → kt ls r σ) ∧ (¬ x < 0 → kf ls r σ) | _ => False
def i_cmplt (kt kf : zK) : zK := fun ls st σ => match st with | .int y :: .int x :: r => (x < y → kt ls r σ) ∧ (¬ x < y → kf ls r σ) | _ => False
def i_ifge (kt kf : zK) : zK := fun ls st σ => match st with | .int x :: r => (0 ≤ x → kt ls r σ) ∧ (¬ 0 ≤ x → kf ls r σ) | _ => False
def i_cmpge (kt kf : zK) : zK := fun ls st σ => match st with | .int y :: .int x :: r => (y ≤ x → kt ls r σ) ∧ (¬ y ≤ x → kf ls r σ) | _ => False
def i_ifgt (kt kf : zK) : zK := fun ls st σ => match st with | .int x :: r => (0 < x → kt ls r σ) ∧ (¬ 0 < x → kf ls r σ) | _ => False
def i_cmpgt (kt kf : zK) : zK := fun ls st σ => match st with | .int y :: .int x :: r => (y < x → kt ls r σ) ∧ (¬ y < x → kf ls r σ) | _ => False
def i_ifle (kt kf : zK) : zK := fun ls st σ => match st with | .int x :: r => (x ≤ 0 → kt ls r σ) ∧ (¬ x ≤ 0 → kf ls r σ) | _ => False
def i_cmple (kt kf : zK) : zK := fun ls st σ => match st with | .int y :: .int x :: r => (x ≤ y → kt ls r σ) ∧ (¬ x ≤ y → kf ls r σ) | _ => False
def i_idiv (k : zK) : zK := fun ls st σ => match st with | .int y :: .int x :: r => ¬ y = 0 ∧ k ls (.int (x / y) :: r) σ | _ => False
def i_irem (k : zK) : zK := fun ls st σ => match st with | .int y :: .int x :: r => ¬ y = 0 ∧ k ls (.int (x - x / y * y) :: r) σ | _ => False
def i_ldiv (k : zK) : zK := fun ls st σ => match st with | .long y :: .long x :: r => ¬ y = 0 ∧ k ls (.long (x / y) :: r) σ | _ => False
def i_lrem (k : zK) : zK := fun ls st σ => match st with | .long y :: .long x :: r => ¬ y = 0 ∧ k ls (.long (x - x / y * y) :: r) σ | _ => False
def i_lcmp (k : zK) : zK := fun ls st σ => match st with | .long y :: .long x :: r => k ls (.int (lg_cmp x y) :: r) σ | _ => False
def i_i2l (k : zK) : zK := fun ls st σ => match st with | .int x :: r => k ls (.long x.toInt64 :: r) σ | _ => False
def i_dup (k : zK) : zK := fun ls st σ => match st with | .int x :: r => k ls (.int x :: .int x :: r) σ | .ref x :: r => k ls (.ref x :: .ref x :: r) σ | _ => False
def i_dup2 (k : zK) : zK := fun ls st σ => match st with | .int i :: .ref a :: r => k ls (.int i :: .ref a :: .int i :: .ref a :: r) σ | _ => False
def i_pop (k : zK) : zK := fun ls st σ => match st with | .int _ :: r => k ls r σ | _ => False
def i_jmp (X : Nat → zK) (b : Nat) (mk : List Bool) : zK := fun ls st σ => X b (zkp mk ls) st σ
def zsw (x : Int32) (ls r : List Value) (σ : zM) : List (Int32 × zK) → Prop
  | [] => True
  | (k, t) :: l => (x = k → t ls r σ) ∧ zsw x ls r σ l
def zne (x : Int32) : List (Int32 × zK) → Prop
  | [] => True
  | (k, _) :: l => ¬ x = k ∧ zne x l
def i_sw (ps : List (Int32 × zK)) (df : zK) : zK := fun ls st σ => match st with | .int x :: r => zsw x ls r σ ps ∧ (zne x ps → df ls r σ) | _ => False
def zfld (σ : zM) (o j : Nat) : Nat → Value
  | 0 => .int (σ.1 o j)
  | 1 => .long (σ.2 o j)
  | t + 2 => .ref t
def i_gf (ci j : Nat) (k : zK) : zK := fun ls st σ => match st with | .ref o :: r => cond (Nat.beq (zoc o) ci) (k ls (zfld σ o j (zft o j) :: r) σ) False | _ => False
def i_pf (ci j : Nat) (k : zK) : zK := fun ls st σ => match st with | .int x :: .ref o :: r => cond (Nat.beq (zoc o) ci && Nat.beq (zft o j) 0) (k ls r (zput σ o j x)) False | _ => False
def i_pfl (ci j : Nat) (k : zK) : zK := fun ls st σ => match st with | .long x :: .ref o :: r => cond (Nat.beq (zoc o) ci && Nat.beq (zft o j) 1) (k ls r (zputl σ o j x)) False | _ => False
def i_ia (k : zK) : zK := fun ls st σ => match st with | .int i :: .ref o :: r => vp_in i (zil o) ∧ k ls (.int (σ.1 o i.toNatClampNeg) :: r) σ | _ => False
def i_ba (k : zK) : zK := fun ls st σ => match st with | .int i :: .ref o :: r => vp_in i (zbl o) ∧ k ls (.int (σ.1 o i.toNatClampNeg) :: r) σ | _ => False
def i_aa (k : zK) : zK := fun ls st σ => match st with | .int i :: .ref o :: r => vp_in i (zrl o) ∧ k ls (.ref (zrt o i.toNatClampNeg) :: r) σ | _ => False
def i_iast (k : zK) : zK := fun ls st σ => match st with | .int x :: .int i :: .ref o :: r => vp_in i (zil o) ∧ k ls r (zput σ o i.toNatClampNeg x) | _ => False
def i_bast (k : zK) : zK := fun ls st σ => match st with | .int x :: .int i :: .ref o :: r => vp_in i (zbl o) ∧ (x = 0 ∨ x = 1) ∧ k ls r (zput σ o i.toNatClampNeg x) | _ => False
def i_len (k : zK) : zK := fun ls st σ => match st with | .ref o :: r => cond (!(Nat.beq (zil o) 0)) (k ls (.int (nI (zil o)) :: r) σ) False | _ => False
def i_cp (k : zK) : zK := fun ls st σ => match st with
  | .int n :: .int dp :: .ref d :: .int sp :: .ref o :: r => cond (zsm r && (!(Nat.beq (zil o) 0) && !(Nat.beq (zil d) 0))) ((¬ sp < 0 ∧ ¬ dp < 0 ∧ ¬ n < 0) ∧ (sp.toNatClampNeg + n.toNatClampNeg ≤ zil o ∧ dp.toNatClampNeg + n.toNatClampNeg ≤ zil d) ∧ k ls r (zcpy σ o d sp.toNatClampNeg dp.toNatClampNeg n.toNatClampNeg)) False
  | _ => False
-- the static table FIGURE_OF, String constants
def zfigs : List Int32 := [1000000, 100000, 10000, 1000, 100, 10, 1]
def ztxt : List (List Int32) := [[99, 104, 117, 114, 99, 104], [98, 111, 111, 107], [102, 97, 109, 105, 108, 121], [99, 111, 108, 100]]
def i_gfig (k : zK) : zK := fun ls st σ => k ls (.ref 91 :: st) σ
def i_fig (k : zK) : zK := fun ls st σ => match st with | .int i :: .ref o :: r => cond (Nat.beq o 91) (vp_in i 7 ∧ k ls (.int (zfigs.getD i.toNatClampNeg 0) :: r) σ) False | _ => False
def i_str (i : Nat) (k : zK) : zK := fun ls st σ => k ls (.ref (92 + i) :: st) σ
def i_gval (k : zK) : zK := fun ls st σ => match st with | .ref o :: r => cond (!(Nat.beq (zsi o) 0)) (k ls (.ref (95 + zsi o) :: r) σ) False | _ => False
def i_gcod (k : zK) : zK := fun ls st σ => match st with | .ref o :: r => cond (!(Nat.beq (zsi o) 0)) (k ls (.int 0 :: r) σ) False | _ => False
def i_by (k : zK) : zK := fun ls st σ => match st with | .int i :: .ref o :: r => cond (!(Nat.beq (zvi o) 0)) (vp_in i (ztxt.getD (zvi o - 1) []).length ∧ k ls (.int ((ztxt.getD (zvi o - 1) []).getD i.toNatClampNeg 0) :: r) σ) False | _ => False
def i_blen (k : zK) : zK := fun ls st σ => match st with | .ref o :: r => cond (!(Nat.beq (zvi o) 0)) (k ls (.int (nI (ztxt.getD (zvi o - 1) []).length) :: r) σ) False | _ => False
def i_mmax (k : zK) : zK := fun ls st σ => match st with | .int y :: .int x :: r => cond (zsm r) (k ls (.int (if x < y then y else x) :: r) σ) False | _ => False
def i_mmin (k : zK) : zK := fun ls st σ => match st with | .int y :: .int x :: r => cond (zsm r) (k ls (.int (if y < x then y else x) :: r) σ) False | _ => False
def i_mabs (k : zK) : zK := fun ls st σ => match st with | .int x :: r => cond (zsm r) (k ls (.int (if 0 ≤ x then x else 0 - x) :: r) σ) False | _ => False
-- calls
def i_call (n : Nat) (T : zTy) (k : zK) : zK := fun ls st σ => match zsp n [] st with | some (vs, r) => cond (zsm r) (T vs σ (fun v τ => k ls (zvl v r) τ)) False | none => False
def i_cv (ci n : Nat) (T : zTy) (k : zK) : zK := fun ls st σ => match zsp n [] st with | some (.ref o :: vs, r) => cond (Nat.beq (zoc o) ci && zsm r) (T (.ref o :: vs) σ (fun v τ => k ls (zvl v r) τ)) False | _ => False
def i_cd (n : Nat) (T : Nat → zTy) (k : zK) : zK := fun ls st σ => match zsp n [] st with | some (.ref o :: vs, r) => cond (zsm r) (T (zoc o) (.ref o :: vs) σ (fun v τ => k ls (zvl v r) τ)) False | _ => False
def i_cs (n : Nat) (T : zTy) (k : zK) : zK := fun ls st σ => match zsp n [] st with | some (.ref o :: vs, r) => cond (!(Nat.beq (zsi o) 0) && zsm r) (T (.ref o :: vs) σ (fun v τ => k ls (zvl v r) τ)) False | _ => False
def i_cu (n : Nat) (T : zTy) (k : zK) : zK := fun ls st σ => match zsp n [] st with | some (.ref o :: vs, r) => cond (!(Nat.beq (zoc o) 99) && zsm r) (T (.ref o :: vs) σ (fun v τ => k ls (zvl v r) τ)) False | _ => False
-- returns
def i_ir (Q : zQ) : zK := fun _ st σ => match st with | [.int v] => Q (some (.int v)) σ | _ => False
def i_zr (Q : zQ) : zK := fun _ st σ => match st with | [.int v] => (v = 0 ∨ v = 1) ∧ Q (some (.int v)) σ | _ => False
def i_nr (ty : FieldType) (Q : zQ) : zK := fun _ st σ => match st with | [.int v] => narrow ty (.int v) = .int v ∧ Q (some (.int v)) σ | _ => False
def i_lr (Q : zQ) : zK := fun _ st σ => match st with | [.long v] => Q (some (.long v)) σ | _ => False
def i_vr (Q : zQ) : zK := fun _ st σ => match st with | [] => Q none σ | _ => False
-- a method out of its blocks: the least solution
def zFix (F : (Nat → zK) → Nat → zK) : Nat → zK := fun b ls st σ => ∀ X : Nat → zK, (∀ Y : Nat → zK, (∀ b ls st σ, Y b ls st σ → X b ls st σ) → ∀ b ls st σ, F Y b ls st σ → X b ls st σ) → X b ls st σ
theorem zFix_in {F : (Nat → zK) → Nat → zK} {b : Nat} {ls st : List Value} {σ : zM} (h : F (zFix F) b ls st σ) : zFix F b ls st σ := fun X hX => hX (zFix F) (fun _ _ _ _ h => h X hX) b ls st σ h
theorem zcd {c : Bool} {P : Prop} (h : cond c P False) : c = true ∧ P := by
  cases c with
  | false => exact h.elim
  | true => exact ⟨rfl, h⟩
theorem zcd2 {c d : Bool} {P : Prop} (h : cond (c && d) P False) : c = true ∧ d = true ∧ P := by
  obtain ⟨h1, h2⟩ := zcd h
  have h3 := Bool.and_eq_true_iff.mp h1
  exact ⟨h3.1, h3.2, h2⟩
theorem zbe {a b : Nat} (h : Nat.beq a b = true) : a = b := Nat.eq_of_beq_eq_true h
theorem znb {a b : Nat} (h : (!(Nat.beq a b)) = true) : ¬ a = b := by
  intro e
  subst e
  rw [show Nat.beq a a = true from Nat.beq_refl a] at h
  cases h
theorem zci {c : Bool} {P : Prop} (hc : c = true) (h : P) : cond c P False := by subst hc; exact h
theorem zbr (a : Nat) : Nat.beq a a = true := Nat.beq_refl a
theorem zbb {a b : Nat} (h : a = b) : Nat.beq a b = true := by subst h; exact Nat.beq_refl a
theorem zbn {a b : Nat} (h : ¬ a = b) : (!(Nat.beq a b)) = true := by
  cases hb : Nat.beq a b with
  | false => rfl
  | true => exact absurd (Nat.eq_of_beq_eq_true hb) h
