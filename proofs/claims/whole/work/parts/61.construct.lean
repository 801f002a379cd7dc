/-! The constructors, step by step on the growing shape (written by wip/whole/genc.py) -/
def zs_0 (L : Nat) : ZS := zS0 L
def zc_0 (C : ZC) : ZC := C
def zs_1 (L : Nat) : ZS := zmk (zs_0 L) 6 0 9
def zc_1 (C : ZC) : ZC := zrow (zc_0 C) 1 (fun _ => 0)
def zs_2 (L : Nat) : ZS := zouter (zmk (zmk (zmk (zmk (zmk (zmk (zs_1 L) 11 5 5) 8 60 60) 8 60 60) 8 60 60) 8 60 60) 8 60 60) 2 5
def zc_2 (C : ZC) : ZC := zrow (zrow (zrow (zrow (zrow (zrow (zc_1 C) 2 (fun _ => 0)) 3 (fun _ => 0)) 4 (fun _ => 0)) 5 (fun _ => 0)) 6 (fun _ => 0)) 7 (fun _ => 0)
def zs_3 (L : Nat) : ZS := ((zs_2 L).1, (zs_2 L).2.1, (zs_2 L).2.2.1, zup2 (zs_2 L).2.2.2 1 0 (some 2))
def zs_4 (L : Nat) : ZS := zmk (zs_3 L) 8 5 5
def zc_3 (C : ZC) : ZC := zrow (zc_2 C) 8 (fun _ => 0)
def zs_5 (L : Nat) : ZS := ((zs_4 L).1, (zs_4 L).2.1, (zs_4 L).2.2.1, zup2 (zs_4 L).2.2.2 1 1 (some 8))
def zs_6 (L : Nat) : ZS := zmk (zs_5 L) 5 0 5
def zc_4 (C : ZC) : ZC := zrow (zc_3 C) 9 (fun _ => 0)
def zs_7 (L : Nat) : ZS := zmk (zs_6 L) 8 12 12
def zc_5 (C : ZC) : ZC := zrow (zc_4 C) 10 (fun _ => 0)
def zs_8 (L : Nat) : ZS := ((zs_7 L).1, (zs_7 L).2.1, (zs_7 L).2.2.1, zup2 (zs_7 L).2.2.2 9 0 (some 10))
def zs_9 (L : Nat) : ZS := zmk (zs_8 L) 8 12 12
def zc_6 (C : ZC) : ZC := zrow (zc_5 C) 11 (fun _ => 0)
def zs_10 (L : Nat) : ZS := ((zs_9 L).1, (zs_9 L).2.1, (zs_9 L).2.2.1, zup2 (zs_9 L).2.2.2 9 1 (some 11))
def zs_11 (L : Nat) : ZS := zmk (zs_10 L) 8 12 12
def zc_7 (C : ZC) : ZC := zrow (zc_6 C) 12 (fun _ => 0)
def zs_12 (L : Nat) : ZS := ((zs_11 L).1, (zs_11 L).2.1, (zs_11 L).2.2.1, zup2 (zs_11 L).2.2.2 9 2 (some 12))
def zs_13 (L : Nat) : ZS := ((zs_12 L).1, (zs_12 L).2.1, (zs_12 L).2.2.1, zup2 (zs_12 L).2.2.2 1 2 (some 9))
def zs_14 (L : Nat) : ZS := zmk (zs_13 L) 10 4 4
def zc_8 (C : ZC) : ZC := zrow (zc_7 C) 13 (fun _ => 0)
def zs_15 (L : Nat) : ZS := ((zs_14 L).1, (zs_14 L).2.1, (zs_14 L).2.2.1, zup2 (zs_14 L).2.2.2 1 3 (some 13))
def zs_16 (L : Nat) : ZS := zmk (zs_15 L) 4 0 12
def zc_9 (C : ZC) : ZC := zrow (zc_8 C) 14 (fun _ => 0)
def zs_17 (L : Nat) : ZS := zmk (zs_16 L) 8 12 12
def zc_10 (C : ZC) : ZC := zrow (zc_9 C) 15 (fun _ => 0)
def zs_18 (L : Nat) : ZS := ((zs_17 L).1, (zs_17 L).2.1, (zs_17 L).2.2.1, zup2 (zs_17 L).2.2.2 14 1 (some 15))
def zs_19 (L : Nat) : ZS := zmk (zs_18 L) 8 12 12
def zc_11 (C : ZC) : ZC := zrow (zc_10 C) 16 (fun _ => 0)
def zs_20 (L : Nat) : ZS := ((zs_19 L).1, (zs_19 L).2.1, (zs_19 L).2.2.1, zup2 (zs_19 L).2.2.2 14 2 (some 16))
def zs_21 (L : Nat) : ZS := zmk (zs_20 L) 8 8 8
def zc_12 (C : ZC) : ZC := zrow (zc_11 C) 17 (fun _ => 0)
def zs_22 (L : Nat) : ZS := ((zs_21 L).1, (zs_21 L).2.1, (zs_21 L).2.2.1, zup2 (zs_21 L).2.2.2 14 3 (some 17))
def zs_23 (L : Nat) : ZS := ((zs_22 L).1, (zs_22 L).2.1, (zs_22 L).2.2.1, zup2 (zs_22 L).2.2.2 14 0 (some 9))
def zs_24 (L : Nat) : ZS := ((zs_23 L).1, (zs_23 L).2.1, (zs_23 L).2.2.1, zup2 (zs_23 L).2.2.2 1 4 (some 14))
def zs_25 (L : Nat) : ZS := zmk (zs_24 L) 1 0 9
def zc_13 (C : ZC) : ZC := zrow (zc_12 C) 18 (fun _ => 0)
def zs_26 (L : Nat) : ZS := zmk (zs_25 L) 8 6 6
def zc_14 (C : ZC) : ZC := zrow (zc_13 C) 19 (fun _ => 0)
def zs_27 (L : Nat) : ZS := ((zs_26 L).1, (zs_26 L).2.1, (zs_26 L).2.2.1, zup2 (zs_26 L).2.2.2 18 2 (some 19))
def zs_28 (L : Nat) : ZS := zmk (zs_27 L) 8 64 64
def zc_15 (C : ZC) : ZC := zrow (zc_14 C) 20 (fun _ => 0)
def zs_29 (L : Nat) : ZS := ((zs_28 L).1, (zs_28 L).2.1, (zs_28 L).2.2.1, zup2 (zs_28 L).2.2.2 18 3 (some 20))
def zs_30 (L : Nat) : ZS := zmk (zs_29 L) 8 64 64
def zc_16 (C : ZC) : ZC := zrow (zc_15 C) 21 (fun _ => 0)
def zs_31 (L : Nat) : ZS := ((zs_30 L).1, (zs_30 L).2.1, (zs_30 L).2.2.1, zup2 (zs_30 L).2.2.2 18 4 (some 21))
def zs_32 (L : Nat) : ZS := zmk (zs_31 L) 8 64 64
def zc_17 (C : ZC) : ZC := zrow (zc_16 C) 22 (fun _ => 0)
def zs_33 (L : Nat) : ZS := ((zs_32 L).1, (zs_32 L).2.1, (zs_32 L).2.2.1, zup2 (zs_32 L).2.2.2 18 5 (some 22))
def zs_34 (L : Nat) : ZS := ((zs_33 L).1, (zs_33 L).2.1, (zs_33 L).2.2.1, zup2 (zs_33 L).2.2.2 18 0 (some 9))
def zs_35 (L : Nat) : ZS := zmk (zs_34 L) 4 0 12
def zc_18 (C : ZC) : ZC := zrow (zc_17 C) 23 (fun _ => 0)
def zs_36 (L : Nat) : ZS := zmk (zs_35 L) 8 12 12
def zc_19 (C : ZC) : ZC := zrow (zc_18 C) 24 (fun _ => 0)
def zs_37 (L : Nat) : ZS := ((zs_36 L).1, (zs_36 L).2.1, (zs_36 L).2.2.1, zup2 (zs_36 L).2.2.2 23 1 (some 24))
def zs_38 (L : Nat) : ZS := zmk (zs_37 L) 8 12 12
def zc_20 (C : ZC) : ZC := zrow (zc_19 C) 25 (fun _ => 0)
def zs_39 (L : Nat) : ZS := ((zs_38 L).1, (zs_38 L).2.1, (zs_38 L).2.2.1, zup2 (zs_38 L).2.2.2 23 2 (some 25))
def zs_40 (L : Nat) : ZS := zmk (zs_39 L) 8 8 8
def zc_21 (C : ZC) : ZC := zrow (zc_20 C) 26 (fun _ => 0)
def zs_41 (L : Nat) : ZS := ((zs_40 L).1, (zs_40 L).2.1, (zs_40 L).2.2.1, zup2 (zs_40 L).2.2.2 23 3 (some 26))
def zs_42 (L : Nat) : ZS := ((zs_41 L).1, (zs_41 L).2.1, (zs_41 L).2.2.1, zup2 (zs_41 L).2.2.2 23 0 (some 9))
def zs_43 (L : Nat) : ZS := ((zs_42 L).1, (zs_42 L).2.1, (zs_42 L).2.2.1, zup2 (zs_42 L).2.2.2 18 1 (some 23))
def zs_44 (L : Nat) : ZS := ((zs_43 L).1, (zs_43 L).2.1, (zs_43 L).2.2.1, zup2 (zs_43 L).2.2.2 1 5 (some 18))
def zs_45 (L : Nat) : ZS := zmk (zs_44 L) 3 0 5
def zc_22 (C : ZC) : ZC := zrow (zc_21 C) 27 (fun _ => 0)
def zs_46 (L : Nat) : ZS := zmk (zs_45 L) 8 4 4
def zc_23 (C : ZC) : ZC := zrow (zc_22 C) 28 (fun _ => 0)
def zs_47 (L : Nat) : ZS := ((zs_46 L).1, (zs_46 L).2.1, (zs_46 L).2.2.1, zup2 (zs_46 L).2.2.2 27 2 (some 28))
def zs_48 (L : Nat) : ZS := zmk (zs_47 L) 8 4 4
def zc_24 (C : ZC) : ZC := zrow (zc_23 C) 29 (fun _ => 0)
def zs_49 (L : Nat) : ZS := ((zs_48 L).1, (zs_48 L).2.1, (zs_48 L).2.2.1, zup2 (zs_48 L).2.2.2 27 3 (some 29))
def zs_50 (L : Nat) : ZS := ((zs_49 L).1, (zs_49 L).2.1, (zs_49 L).2.2.1, zup2 (zs_49 L).2.2.2 27 0 (some 9))
def zs_51 (L : Nat) : ZS := zmk (zs_50 L) 4 0 12
def zc_25 (C : ZC) : ZC := zrow (zc_24 C) 30 (fun _ => 0)
def zs_52 (L : Nat) : ZS := zmk (zs_51 L) 8 12 12
def zc_26 (C : ZC) : ZC := zrow (zc_25 C) 31 (fun _ => 0)
def zs_53 (L : Nat) : ZS := ((zs_52 L).1, (zs_52 L).2.1, (zs_52 L).2.2.1, zup2 (zs_52 L).2.2.2 30 1 (some 31))
def zs_54 (L : Nat) : ZS := zmk (zs_53 L) 8 12 12
def zc_27 (C : ZC) : ZC := zrow (zc_26 C) 32 (fun _ => 0)
def zs_55 (L : Nat) : ZS := ((zs_54 L).1, (zs_54 L).2.1, (zs_54 L).2.2.1, zup2 (zs_54 L).2.2.2 30 2 (some 32))
def zs_56 (L : Nat) : ZS := zmk (zs_55 L) 8 8 8
def zc_28 (C : ZC) : ZC := zrow (zc_27 C) 33 (fun _ => 0)
def zs_57 (L : Nat) : ZS := ((zs_56 L).1, (zs_56 L).2.1, (zs_56 L).2.2.1, zup2 (zs_56 L).2.2.2 30 3 (some 33))
def zs_58 (L : Nat) : ZS := ((zs_57 L).1, (zs_57 L).2.1, (zs_57 L).2.2.1, zup2 (zs_57 L).2.2.2 30 0 (some 9))
def zs_59 (L : Nat) : ZS := ((zs_58 L).1, (zs_58 L).2.1, (zs_58 L).2.2.1, zup2 (zs_58 L).2.2.2 27 1 (some 30))
def zs_60 (L : Nat) : ZS := ((zs_59 L).1, (zs_59 L).2.1, (zs_59 L).2.2.1, zup2 (zs_59 L).2.2.2 1 6 (some 27))
def zs_61 (L : Nat) : ZS := zmk (zs_60 L) 0 0 3
def zc_29 (C : ZC) : ZC := zrow (zc_28 C) 34 (fun _ => 0)
def zs_62 (L : Nat) : ZS := zouter (zmk (zmk (zmk (zmk (zmk (zmk (zmk (zmk (zmk (zs_61 L) 11 8 8) 8 8 8) 8 8 8) 8 8 8) 8 8 8) 8 8 8) 8 8 8) 8 8 8) 8 8 8) 35 8
def zc_30 (C : ZC) : ZC := zrow (zrow (zrow (zrow (zrow (zrow (zrow (zrow (zrow (zc_29 C) 35 (fun _ => 0)) 36 (fun _ => 0)) 37 (fun _ => 0)) 38 (fun _ => 0)) 39 (fun _ => 0)) 40 (fun _ => 0)) 41 (fun _ => 0)) 42 (fun _ => 0)) 43 (fun _ => 0)
def zs_63 (L : Nat) : ZS := ((zs_62 L).1, (zs_62 L).2.1, (zs_62 L).2.2.1, zup2 (zs_62 L).2.2.2 34 2 (some 35))
def zs_64 (L : Nat) : ZS := ((zs_63 L).1, (zs_63 L).2.1, (zs_63 L).2.2.1, zup2 (zs_63 L).2.2.2 34 0 (some 9))
def zs_65 (L : Nat) : ZS := zmk (zs_64 L) 4 0 12
def zc_31 (C : ZC) : ZC := zrow (zc_30 C) 44 (fun _ => 0)
def zs_66 (L : Nat) : ZS := zmk (zs_65 L) 8 12 12
def zc_32 (C : ZC) : ZC := zrow (zc_31 C) 45 (fun _ => 0)
def zs_67 (L : Nat) : ZS := ((zs_66 L).1, (zs_66 L).2.1, (zs_66 L).2.2.1, zup2 (zs_66 L).2.2.2 44 1 (some 45))
def zs_68 (L : Nat) : ZS := zmk (zs_67 L) 8 12 12
def zc_33 (C : ZC) : ZC := zrow (zc_32 C) 46 (fun _ => 0)
def zs_69 (L : Nat) : ZS := ((zs_68 L).1, (zs_68 L).2.1, (zs_68 L).2.2.1, zup2 (zs_68 L).2.2.2 44 2 (some 46))
def zs_70 (L : Nat) : ZS := zmk (zs_69 L) 8 8 8
def zc_34 (C : ZC) : ZC := zrow (zc_33 C) 47 (fun _ => 0)
def zs_71 (L : Nat) : ZS := ((zs_70 L).1, (zs_70 L).2.1, (zs_70 L).2.2.1, zup2 (zs_70 L).2.2.2 44 3 (some 47))
def zs_72 (L : Nat) : ZS := ((zs_71 L).1, (zs_71 L).2.1, (zs_71 L).2.2.1, zup2 (zs_71 L).2.2.2 44 0 (some 9))
def zs_73 (L : Nat) : ZS := ((zs_72 L).1, (zs_72 L).2.1, (zs_72 L).2.2.1, zup2 (zs_72 L).2.2.2 34 1 (some 44))
def zs_74 (L : Nat) : ZS := ((zs_73 L).1, (zs_73 L).2.1, (zs_73 L).2.2.1, zup2 (zs_73 L).2.2.2 1 7 (some 34))
def zs_75 (L : Nat) : ZS := zmk (zs_74 L) 2 0 4
def zc_35 (C : ZC) : ZC := zrow (zc_34 C) 48 (fun _ => 0)
def zs_76 (L : Nat) : ZS := zouter (zmk (zmk (zmk (zmk (zmk (zs_75 L) 11 4 4) 8 48 48) 8 48 48) 8 48 48) 8 48 48) 49 4
def zc_36 (C : ZC) : ZC := zrow (zrow (zrow (zrow (zrow (zc_35 C) 49 (fun _ => 0)) 50 (fun _ => 0)) 51 (fun _ => 0)) 52 (fun _ => 0)) 53 (fun _ => 0)
def zs_77 (L : Nat) : ZS := ((zs_76 L).1, (zs_76 L).2.1, (zs_76 L).2.2.1, zup2 (zs_76 L).2.2.2 48 0 (some 49))
def zs_78 (L : Nat) : ZS := zmk (zs_77 L) 8 4 4
def zc_37 (C : ZC) : ZC := zrow (zc_36 C) 54 (fun _ => 0)
def zs_79 (L : Nat) : ZS := ((zs_78 L).1, (zs_78 L).2.1, (zs_78 L).2.2.1, zup2 (zs_78 L).2.2.2 48 1 (some 54))
def zs_80 (L : Nat) : ZS := zmk (zs_79 L) 8 4 4
def zc_38 (C : ZC) : ZC := zrow (zc_37 C) 55 (fun _ => 0)
def zs_81 (L : Nat) : ZS := ((zs_80 L).1, (zs_80 L).2.1, (zs_80 L).2.2.1, zup2 (zs_80 L).2.2.2 48 2 (some 55))
def zc_39 (C : ZC) : ZC := zup2 (zc_38 C) 55 0 (-1)
def zc_40 (C : ZC) : ZC := zup2 (zc_39 C) 55 1 (-1)
def zc_41 (C : ZC) : ZC := zup2 (zc_40 C) 55 2 (-1)
def zc_42 (C : ZC) : ZC := zup2 (zc_41 C) 55 3 (-1)
def zs_82 (L : Nat) : ZS := ((zs_81 L).1, (zs_81 L).2.1, (zs_81 L).2.2.1, zup2 (zs_81 L).2.2.2 1 8 (some 48))
def zs_83 (L : Nat) : ZS := zmk (zs_82 L) 4 0 12
def zc_43 (C : ZC) : ZC := zrow (zc_42 C) 56 (fun _ => 0)
def zs_84 (L : Nat) : ZS := zmk (zs_83 L) 8 12 12
def zc_44 (C : ZC) : ZC := zrow (zc_43 C) 57 (fun _ => 0)
def zs_85 (L : Nat) : ZS := ((zs_84 L).1, (zs_84 L).2.1, (zs_84 L).2.2.1, zup2 (zs_84 L).2.2.2 56 1 (some 57))
def zs_86 (L : Nat) : ZS := zmk (zs_85 L) 8 12 12
def zc_45 (C : ZC) : ZC := zrow (zc_44 C) 58 (fun _ => 0)
def zs_87 (L : Nat) : ZS := ((zs_86 L).1, (zs_86 L).2.1, (zs_86 L).2.2.1, zup2 (zs_86 L).2.2.2 56 2 (some 58))
def zs_88 (L : Nat) : ZS := zmk (zs_87 L) 8 8 8
def zc_46 (C : ZC) : ZC := zrow (zc_45 C) 59 (fun _ => 0)
def zs_89 (L : Nat) : ZS := ((zs_88 L).1, (zs_88 L).2.1, (zs_88 L).2.2.1, zup2 (zs_88 L).2.2.2 56 3 (some 59))
def zs_90 (L : Nat) : ZS := ((zs_89 L).1, (zs_89 L).2.1, (zs_89 L).2.2.1, zup2 (zs_89 L).2.2.2 56 0 (some 9))
def zs_91 (L : Nat) : ZS := ((zs_90 L).1, (zs_90 L).2.1, (zs_90 L).2.2.1, zup2 (zs_90 L).2.2.2 13 0 (some 56))
def zs_92 (L : Nat) : ZS := zmk (zs_91 L) 4 0 12
def zc_47 (C : ZC) : ZC := zrow (zc_46 C) 60 (fun _ => 0)
def zs_93 (L : Nat) : ZS := zmk (zs_92 L) 8 12 12
def zc_48 (C : ZC) : ZC := zrow (zc_47 C) 61 (fun _ => 0)
def zs_94 (L : Nat) : ZS := ((zs_93 L).1, (zs_93 L).2.1, (zs_93 L).2.2.1, zup2 (zs_93 L).2.2.2 60 1 (some 61))
def zs_95 (L : Nat) : ZS := zmk (zs_94 L) 8 12 12
def zc_49 (C : ZC) : ZC := zrow (zc_48 C) 62 (fun _ => 0)
def zs_96 (L : Nat) : ZS := ((zs_95 L).1, (zs_95 L).2.1, (zs_95 L).2.2.1, zup2 (zs_95 L).2.2.2 60 2 (some 62))
def zs_97 (L : Nat) : ZS := zmk (zs_96 L) 8 8 8
def zc_50 (C : ZC) : ZC := zrow (zc_49 C) 63 (fun _ => 0)
def zs_98 (L : Nat) : ZS := ((zs_97 L).1, (zs_97 L).2.1, (zs_97 L).2.2.1, zup2 (zs_97 L).2.2.2 60 3 (some 63))
def zs_99 (L : Nat) : ZS := ((zs_98 L).1, (zs_98 L).2.1, (zs_98 L).2.2.1, zup2 (zs_98 L).2.2.2 60 0 (some 9))
def zs_100 (L : Nat) : ZS := ((zs_99 L).1, (zs_99 L).2.1, (zs_99 L).2.2.1, zup2 (zs_99 L).2.2.2 13 1 (some 60))
def zs_101 (L : Nat) : ZS := zmk (zs_100 L) 4 0 12
def zc_51 (C : ZC) : ZC := zrow (zc_50 C) 64 (fun _ => 0)
def zs_102 (L : Nat) : ZS := zmk (zs_101 L) 8 12 12
def zc_52 (C : ZC) : ZC := zrow (zc_51 C) 65 (fun _ => 0)
def zs_103 (L : Nat) : ZS := ((zs_102 L).1, (zs_102 L).2.1, (zs_102 L).2.2.1, zup2 (zs_102 L).2.2.2 64 1 (some 65))
def zs_104 (L : Nat) : ZS := zmk (zs_103 L) 8 12 12
def zc_53 (C : ZC) : ZC := zrow (zc_52 C) 66 (fun _ => 0)
def zs_105 (L : Nat) : ZS := ((zs_104 L).1, (zs_104 L).2.1, (zs_104 L).2.2.1, zup2 (zs_104 L).2.2.2 64 2 (some 66))
def zs_106 (L : Nat) : ZS := zmk (zs_105 L) 8 8 8
def zc_54 (C : ZC) : ZC := zrow (zc_53 C) 67 (fun _ => 0)
def zs_107 (L : Nat) : ZS := ((zs_106 L).1, (zs_106 L).2.1, (zs_106 L).2.2.1, zup2 (zs_106 L).2.2.2 64 3 (some 67))
def zs_108 (L : Nat) : ZS := ((zs_107 L).1, (zs_107 L).2.1, (zs_107 L).2.2.1, zup2 (zs_107 L).2.2.2 64 0 (some 9))
def zs_109 (L : Nat) : ZS := ((zs_108 L).1, (zs_108 L).2.1, (zs_108 L).2.2.1, zup2 (zs_108 L).2.2.2 13 2 (some 64))
def zs_110 (L : Nat) : ZS := zmk (zs_109 L) 4 0 12
def zc_55 (C : ZC) : ZC := zrow (zc_54 C) 68 (fun _ => 0)
def zs_111 (L : Nat) : ZS := zmk (zs_110 L) 8 12 12
def zc_56 (C : ZC) : ZC := zrow (zc_55 C) 69 (fun _ => 0)
def zs_112 (L : Nat) : ZS := ((zs_111 L).1, (zs_111 L).2.1, (zs_111 L).2.2.1, zup2 (zs_111 L).2.2.2 68 1 (some 69))
def zs_113 (L : Nat) : ZS := zmk (zs_112 L) 8 12 12
def zc_57 (C : ZC) : ZC := zrow (zc_56 C) 70 (fun _ => 0)
def zs_114 (L : Nat) : ZS := ((zs_113 L).1, (zs_113 L).2.1, (zs_113 L).2.2.1, zup2 (zs_113 L).2.2.2 68 2 (some 70))
def zs_115 (L : Nat) : ZS := zmk (zs_114 L) 8 8 8
def zc_58 (C : ZC) : ZC := zrow (zc_57 C) 71 (fun _ => 0)
def zs_116 (L : Nat) : ZS := ((zs_115 L).1, (zs_115 L).2.1, (zs_115 L).2.2.1, zup2 (zs_115 L).2.2.2 68 3 (some 71))
def zs_117 (L : Nat) : ZS := ((zs_116 L).1, (zs_116 L).2.1, (zs_116 L).2.2.1, zup2 (zs_116 L).2.2.2 68 0 (some 9))
def zs_118 (L : Nat) : ZS := ((zs_117 L).1, (zs_117 L).2.1, (zs_117 L).2.2.1, zup2 (zs_117 L).2.2.2 13 3 (some 68))
def ze_0 (C : ZC) : ZC := C
def zs_119 (L : Nat) : ZS := zmk (zs_118 L) 7 0 34
def ze_1 (C : ZC) : ZC := zrow (ze_0 C) 72 (fun _ => 0)
def zs_120 (L : Nat) : ZS := zmk (zs_119 L) 8 5 5
def ze_2 (C : ZC) : ZC := zrow (ze_1 C) 73 (fun _ => 0)
def zs_121 (L : Nat) : ZS := ((zs_120 L).1, (zs_120 L).2.1, (zs_120 L).2.2.1, zup2 (zs_120 L).2.2.2 72 0 (some 73))
def zs_122 (L : Nat) : ZS := zmk (zs_121 L) 8 300 300
def ze_3 (C : ZC) : ZC := zrow (ze_2 C) 74 (fun _ => 0)
def zs_123 (L : Nat) : ZS := ((zs_122 L).1, (zs_122 L).2.1, (zs_122 L).2.2.1, zup2 (zs_122 L).2.2.2 72 1 (some 74))
def zs_124 (L : Nat) : ZS := zmk (zs_123 L) 8 13 13
def ze_4 (C : ZC) : ZC := zrow (ze_3 C) 75 (fun _ => 0)
def zs_125 (L : Nat) : ZS := ((zs_124 L).1, (zs_124 L).2.1, (zs_124 L).2.2.1, zup2 (zs_124 L).2.2.2 72 3 (some 75))
def zs_126 (L : Nat) : ZS := zmk (zs_125 L) 8 13 13
def ze_5 (C : ZC) : ZC := zrow (ze_4 C) 76 (fun _ => 0)
def zs_127 (L : Nat) : ZS := ((zs_126 L).1, (zs_126 L).2.1, (zs_126 L).2.2.1, zup2 (zs_126 L).2.2.2 72 4 (some 76))
def zs_128 (L : Nat) : ZS := zmk (zs_127 L) 8 13 13
def ze_6 (C : ZC) : ZC := zrow (ze_5 C) 77 (fun _ => 0)
def zs_129 (L : Nat) : ZS := ((zs_128 L).1, (zs_128 L).2.1, (zs_128 L).2.2.1, zup2 (zs_128 L).2.2.2 72 5 (some 77))
def zs_130 (L : Nat) : ZS := zmk (zs_129 L) 8 4 4
def ze_7 (C : ZC) : ZC := zrow (ze_6 C) 78 (fun _ => 0)
def zs_131 (L : Nat) : ZS := ((zs_130 L).1, (zs_130 L).2.1, (zs_130 L).2.2.1, zup2 (zs_130 L).2.2.2 72 6 (some 78))
def zs_132 (L : Nat) : ZS := zmk (zs_131 L) 8 64 64
def ze_8 (C : ZC) : ZC := zrow (ze_7 C) 79 (fun _ => 0)
def zs_133 (L : Nat) : ZS := ((zs_132 L).1, (zs_132 L).2.1, (zs_132 L).2.2.1, zup2 (zs_132 L).2.2.2 72 10 (some 79))
def zs_134 (L : Nat) : ZS := zmk (zs_133 L) 8 8 8
def ze_9 (C : ZC) : ZC := zrow (ze_8 C) 80 (fun _ => 0)
def zs_135 (L : Nat) : ZS := ((zs_134 L).1, (zs_134 L).2.1, (zs_134 L).2.2.1, zup2 (zs_134 L).2.2.2 72 14 (some 80))
def zs_136 (L : Nat) : ZS := zmk (zs_135 L) 8 64 64
def ze_10 (C : ZC) : ZC := zrow (ze_9 C) 81 (fun _ => 0)
def zs_137 (L : Nat) : ZS := ((zs_136 L).1, (zs_136 L).2.1, (zs_136 L).2.2.1, zup2 (zs_136 L).2.2.2 72 15 (some 81))
def zs_138 (L : Nat) : ZS := zmk (zs_137 L) 8 64 64
def ze_11 (C : ZC) : ZC := zrow (ze_10 C) 82 (fun _ => 0)
def zs_139 (L : Nat) : ZS := ((zs_138 L).1, (zs_138 L).2.1, (zs_138 L).2.2.1, zup2 (zs_138 L).2.2.2 72 16 (some 82))
def zs_140 (L : Nat) : ZS := zmk (zs_139 L) 8 64 64
def ze_12 (C : ZC) : ZC := zrow (ze_11 C) 83 (fun _ => 0)
def zs_141 (L : Nat) : ZS := ((zs_140 L).1, (zs_140 L).2.1, (zs_140 L).2.2.1, zup2 (zs_140 L).2.2.2 72 17 (some 83))
def zs_142 (L : Nat) : ZS := zmk (zs_141 L) 8 64 64
def ze_13 (C : ZC) : ZC := zrow (ze_12 C) 84 (fun _ => 0)
def zs_143 (L : Nat) : ZS := ((zs_142 L).1, (zs_142 L).2.1, (zs_142 L).2.2.1, zup2 (zs_142 L).2.2.2 72 18 (some 84))
def zs_144 (L : Nat) : ZS := zmk (zs_143 L) 8 64 64
def ze_14 (C : ZC) : ZC := zrow (ze_13 C) 85 (fun _ => 0)
def zs_145 (L : Nat) : ZS := ((zs_144 L).1, (zs_144 L).2.1, (zs_144 L).2.2.1, zup2 (zs_144 L).2.2.2 72 19 (some 85))
def zs_146 (L : Nat) : ZS := zmk (zs_145 L) 8 8 8
def ze_15 (C : ZC) : ZC := zrow (ze_14 C) 86 (fun _ => 0)
def zs_147 (L : Nat) : ZS := ((zs_146 L).1, (zs_146 L).2.1, (zs_146 L).2.2.1, zup2 (zs_146 L).2.2.2 72 22 (some 86))
def zs_148 (L : Nat) : ZS := zmk (zs_147 L) 8 4 4
def ze_16 (C : ZC) : ZC := zrow (ze_15 C) 87 (fun _ => 0)
def zs_149 (L : Nat) : ZS := ((zs_148 L).1, (zs_148 L).2.1, (zs_148 L).2.2.1, zup2 (zs_148 L).2.2.2 72 24 (some 87))
def zs_150 (L : Nat) : ZS := zmk (zs_149 L) 8 4 4
def ze_17 (C : ZC) : ZC := zrow (ze_16 C) 88 (fun _ => 0)
def zs_151 (L : Nat) : ZS := ((zs_150 L).1, (zs_150 L).2.1, (zs_150 L).2.2.1, zup2 (zs_150 L).2.2.2 72 25 (some 88))
def zs_152 (L : Nat) : ZS := zmk (zs_151 L) 8 64 64
def ze_18 (C : ZC) : ZC := zrow (ze_17 C) 89 (fun _ => 0)
def zs_153 (L : Nat) : ZS := ((zs_152 L).1, (zs_152 L).2.1, (zs_152 L).2.2.1, zup2 (zs_152 L).2.2.2 72 26 (some 89))
def zs_154 (L : Nat) : ZS := zmk (zs_153 L) 8 64 64
def ze_19 (C : ZC) : ZC := zrow (ze_18 C) 90 (fun _ => 0)
def zs_155 (L : Nat) : ZS := ((zs_154 L).1, (zs_154 L).2.1, (zs_154 L).2.2.1, zup2 (zs_154 L).2.2.2 72 27 (some 90))
def zs_156 (L : Nat) : ZS := zmk (zs_155 L) 9 4 4
def ze_20 (C : ZC) : ZC := zrow (ze_19 C) 91 (fun _ => 0)
def zs_157 (L : Nat) : ZS := ((zs_156 L).1, (zs_156 L).2.1, (zs_156 L).2.2.1, zup2 (zs_156 L).2.2.2 72 28 (some 91))
def zs_158 (L : Nat) : ZS := zmk (zs_157 L) 8 4 4
def ze_21 (C : ZC) : ZC := zrow (ze_20 C) 92 (fun _ => 0)
def zs_159 (L : Nat) : ZS := ((zs_158 L).1, (zs_158 L).2.1, (zs_158 L).2.2.1, zup2 (zs_158 L).2.2.2 72 29 (some 92))
def zs_160 (L : Nat) : ZS := zmk (zs_159 L) 8 4 4
def ze_22 (C : ZC) : ZC := zrow (ze_21 C) 93 (fun _ => 0)
def zs_161 (L : Nat) : ZS := ((zs_160 L).1, (zs_160 L).2.1, (zs_160 L).2.2.1, zup2 (zs_160 L).2.2.2 72 30 (some 93))
def zs_162 (L : Nat) : ZS := zmk (zs_161 L) 8 192 192
def ze_23 (C : ZC) : ZC := zrow (ze_22 C) 94 (fun _ => 0)
def zs_163 (L : Nat) : ZS := ((zs_162 L).1, (zs_162 L).2.1, (zs_162 L).2.2.1, zup2 (zs_162 L).2.2.2 72 31 (some 94))
def zs_164 (L : Nat) : ZS := zmk (zs_163 L) 8 48 48
def ze_24 (C : ZC) : ZC := zrow (ze_23 C) 95 (fun _ => 0)
def zs_165 (L : Nat) : ZS := ((zs_164 L).1, (zs_164 L).2.1, (zs_164 L).2.2.1, zup2 (zs_164 L).2.2.2 72 32 (some 95))
set_option maxRecDepth 100000 in
theorem zk_1 {d L : Nat} {C : ZC} : zR (d + 45) 173 0 [some (.inr (.inr (some 0))), none, none, none] [] (zs_0 L) (zc_0 C) = zB (zR (d + 44) 58 0 [some (.inr (.inr (some 1))), none] [] (zs_1 L) (zc_1 C)) (fun v S1 C1 => zR (d + 45) 173 7 [some (.inr (.inr (some 0))), none, none, none] (v.toList ++ [.inr (.inr (some 1))]) S1 C1) := by
  refine (zR_step (o := (3, [some (.inr (.inr (some 0))), none, none, none], [.inr (.inr (some 1))], (zs_1 L), (zc_1 C))) (zf_of zcd_173 rfl) rfl).trans ?_
  refine (zR_step (o := (4, [some (.inr (.inr (some 0))), none, none, none], [.inr (.inr (some 1)), .inr (.inr (some 1))], (zs_1 L), (zc_1 C))) (zf_of zcd_173 rfl) rfl).trans ?_
  exact zR_call2 (zf_of zcd_173 rfl) rfl rfl (by decide) (zcall_vs (k := 6) (a := 1) (as := []) (r := [.inr (.inr (some 1))]) rfl rfl (Nat.le_of_ble_eq_true rfl) rfl (by rw [zml_58]; exact Nat.le_of_ble_eq_true rfl) (Nat.le_of_ble_eq_true rfl) ⟨Nat.le_of_ble_eq_true rfl, rfl⟩ rfl (by decide)) (by rw [zml_58] <;> rfl)
set_option maxRecDepth 100000 in
theorem zk_2 {d L : Nat} {C : ZC} : zR (d + 1) 2 0 [some (.inr (.inr (some 9)))] [] (zs_6 L) (zc_4 C) = some (none, (zs_12 L), (zc_7 C)) := by
  refine (zR_step (o := (1, [some (.inr (.inr (some 9)))], [.inr (.inr (some 9))], (zs_6 L), (zc_4 C))) (zf_of zcd_2 rfl) rfl).trans ?_
  refine (zR_nat (o := (4, [some (.inr (.inr (some 9)))], [], (zs_6 L), (zc_4 C))) (zf_of zcd_2 rfl) rfl rfl (by decide) rfl).trans ?_
  refine (zR_step (o := (5, [some (.inr (.inr (some 9)))], [.inr (.inr (some 9))], (zs_6 L), (zc_4 C))) (zf_of zcd_2 rfl) rfl).trans ?_
  refine (zR_step (o := (7, [some (.inr (.inr (some 9)))], [.inl 12, .inr (.inr (some 9))], (zs_6 L), (zc_4 C))) (zf_of zcd_2 rfl) rfl).trans ?_
  refine (zR_step (o := (9, [some (.inr (.inr (some 9)))], [.inr (.inr (some 10)), .inr (.inr (some 9))], (zs_7 L), (zc_5 C))) (zf_of zcd_2 rfl) rfl).trans ?_
  refine (zR_step (o := (12, [some (.inr (.inr (some 9)))], [], (zs_8 L), (zc_5 C))) (zf_of zcd_2 rfl) rfl).trans ?_
  refine (zR_step (o := (13, [some (.inr (.inr (some 9)))], [.inr (.inr (some 9))], (zs_8 L), (zc_5 C))) (zf_of zcd_2 rfl) rfl).trans ?_
  refine (zR_step (o := (15, [some (.inr (.inr (some 9)))], [.inl 12, .inr (.inr (some 9))], (zs_8 L), (zc_5 C))) (zf_of zcd_2 rfl) rfl).trans ?_
  refine (zR_step (o := (17, [some (.inr (.inr (some 9)))], [.inr (.inr (some 11)), .inr (.inr (some 9))], (zs_9 L), (zc_6 C))) (zf_of zcd_2 rfl) rfl).trans ?_
  refine (zR_step (o := (20, [some (.inr (.inr (some 9)))], [], (zs_10 L), (zc_6 C))) (zf_of zcd_2 rfl) rfl).trans ?_
  refine (zR_step (o := (21, [some (.inr (.inr (some 9)))], [.inr (.inr (some 9))], (zs_10 L), (zc_6 C))) (zf_of zcd_2 rfl) rfl).trans ?_
  refine (zR_step (o := (23, [some (.inr (.inr (some 9)))], [.inl 12, .inr (.inr (some 9))], (zs_10 L), (zc_6 C))) (zf_of zcd_2 rfl) rfl).trans ?_
  refine (zR_step (o := (25, [some (.inr (.inr (some 9)))], [.inr (.inr (some 12)), .inr (.inr (some 9))], (zs_11 L), (zc_7 C))) (zf_of zcd_2 rfl) rfl).trans ?_
  refine (zR_step (o := (28, [some (.inr (.inr (some 9)))], [], (zs_12 L), (zc_7 C))) (zf_of zcd_2 rfl) rfl).trans ?_
  exact zR_ret (zf_of zcd_2 rfl) rfl rfl
set_option maxRecDepth 100000 in
theorem zk_3 {d L : Nat} {C : ZC} : zR (d + 1) 9 0 [some (.inr (.inr (some 14))), some (.inr (.inr (some 9)))] [] (zs_16 L) (zc_9 C) = some (none, (zs_23 L), (zc_12 C)) := by
  refine (zR_step (o := (1, [some (.inr (.inr (some 14))), some (.inr (.inr (some 9)))], [.inr (.inr (some 14))], (zs_16 L), (zc_9 C))) (zf_of zcd_9 rfl) rfl).trans ?_
  refine (zR_nat (o := (4, [some (.inr (.inr (some 14))), some (.inr (.inr (some 9)))], [], (zs_16 L), (zc_9 C))) (zf_of zcd_9 rfl) rfl rfl (by decide) rfl).trans ?_
  refine (zR_step (o := (5, [some (.inr (.inr (some 14))), some (.inr (.inr (some 9)))], [.inr (.inr (some 14))], (zs_16 L), (zc_9 C))) (zf_of zcd_9 rfl) rfl).trans ?_
  refine (zR_step (o := (7, [some (.inr (.inr (some 14))), some (.inr (.inr (some 9)))], [.inl 12, .inr (.inr (some 14))], (zs_16 L), (zc_9 C))) (zf_of zcd_9 rfl) rfl).trans ?_
  refine (zR_step (o := (9, [some (.inr (.inr (some 14))), some (.inr (.inr (some 9)))], [.inr (.inr (some 15)), .inr (.inr (some 14))], (zs_17 L), (zc_10 C))) (zf_of zcd_9 rfl) rfl).trans ?_
  refine (zR_step (o := (12, [some (.inr (.inr (some 14))), some (.inr (.inr (some 9)))], [], (zs_18 L), (zc_10 C))) (zf_of zcd_9 rfl) rfl).trans ?_
  refine (zR_step (o := (13, [some (.inr (.inr (some 14))), some (.inr (.inr (some 9)))], [.inr (.inr (some 14))], (zs_18 L), (zc_10 C))) (zf_of zcd_9 rfl) rfl).trans ?_
  refine (zR_step (o := (15, [some (.inr (.inr (some 14))), some (.inr (.inr (some 9)))], [.inl 12, .inr (.inr (some 14))], (zs_18 L), (zc_10 C))) (zf_of zcd_9 rfl) rfl).trans ?_
  refine (zR_step (o := (17, [some (.inr (.inr (some 14))), some (.inr (.inr (some 9)))], [.inr (.inr (some 16)), .inr (.inr (some 14))], (zs_19 L), (zc_11 C))) (zf_of zcd_9 rfl) rfl).trans ?_
  refine (zR_step (o := (20, [some (.inr (.inr (some 14))), some (.inr (.inr (some 9)))], [], (zs_20 L), (zc_11 C))) (zf_of zcd_9 rfl) rfl).trans ?_
  refine (zR_step (o := (21, [some (.inr (.inr (some 14))), some (.inr (.inr (some 9)))], [.inr (.inr (some 14))], (zs_20 L), (zc_11 C))) (zf_of zcd_9 rfl) rfl).trans ?_
  refine (zR_step (o := (23, [some (.inr (.inr (some 14))), some (.inr (.inr (some 9)))], [.inl 8, .inr (.inr (some 14))], (zs_20 L), (zc_11 C))) (zf_of zcd_9 rfl) rfl).trans ?_
  refine (zR_step (o := (25, [some (.inr (.inr (some 14))), some (.inr (.inr (some 9)))], [.inr (.inr (some 17)), .inr (.inr (some 14))], (zs_21 L), (zc_12 C))) (zf_of zcd_9 rfl) rfl).trans ?_
  refine (zR_step (o := (28, [some (.inr (.inr (some 14))), some (.inr (.inr (some 9)))], [], (zs_22 L), (zc_12 C))) (zf_of zcd_9 rfl) rfl).trans ?_
  refine (zR_step (o := (29, [some (.inr (.inr (some 14))), some (.inr (.inr (some 9)))], [.inr (.inr (some 14))], (zs_22 L), (zc_12 C))) (zf_of zcd_9 rfl) rfl).trans ?_
  refine (zR_step (o := (30, [some (.inr (.inr (some 14))), some (.inr (.inr (some 9)))], [.inr (.inr (some 9)), .inr (.inr (some 14))], (zs_22 L), (zc_12 C))) (zf_of zcd_9 rfl) rfl).trans ?_
  refine (zR_step (o := (33, [some (.inr (.inr (some 14))), some (.inr (.inr (some 9)))], [], (zs_23 L), (zc_12 C))) (zf_of zcd_9 rfl) rfl).trans ?_
  exact zR_ret (zf_of zcd_9 rfl) rfl rfl
set_option maxRecDepth 100000 in
theorem zk_4 {d L : Nat} {C : ZC} : zR (d + 1) 9 0 [some (.inr (.inr (some 23))), some (.inr (.inr (some 9)))] [] (zs_35 L) (zc_18 C) = some (none, (zs_42 L), (zc_21 C)) := by
  refine (zR_step (o := (1, [some (.inr (.inr (some 23))), some (.inr (.inr (some 9)))], [.inr (.inr (some 23))], (zs_35 L), (zc_18 C))) (zf_of zcd_9 rfl) rfl).trans ?_
  refine (zR_nat (o := (4, [some (.inr (.inr (some 23))), some (.inr (.inr (some 9)))], [], (zs_35 L), (zc_18 C))) (zf_of zcd_9 rfl) rfl rfl (by decide) rfl).trans ?_
  refine (zR_step (o := (5, [some (.inr (.inr (some 23))), some (.inr (.inr (some 9)))], [.inr (.inr (some 23))], (zs_35 L), (zc_18 C))) (zf_of zcd_9 rfl) rfl).trans ?_
  refine (zR_step (o := (7, [some (.inr (.inr (some 23))), some (.inr (.inr (some 9)))], [.inl 12, .inr (.inr (some 23))], (zs_35 L), (zc_18 C))) (zf_of zcd_9 rfl) rfl).trans ?_
  refine (zR_step (o := (9, [some (.inr (.inr (some 23))), some (.inr (.inr (some 9)))], [.inr (.inr (some 24)), .inr (.inr (some 23))], (zs_36 L), (zc_19 C))) (zf_of zcd_9 rfl) rfl).trans ?_
  refine (zR_step (o := (12, [some (.inr (.inr (some 23))), some (.inr (.inr (some 9)))], [], (zs_37 L), (zc_19 C))) (zf_of zcd_9 rfl) rfl).trans ?_
  refine (zR_step (o := (13, [some (.inr (.inr (some 23))), some (.inr (.inr (some 9)))], [.inr (.inr (some 23))], (zs_37 L), (zc_19 C))) (zf_of zcd_9 rfl) rfl).trans ?_
  refine (zR_step (o := (15, [some (.inr (.inr (some 23))), some (.inr (.inr (some 9)))], [.inl 12, .inr (.inr (some 23))], (zs_37 L), (zc_19 C))) (zf_of zcd_9 rfl) rfl).trans ?_
  refine (zR_step (o := (17, [some (.inr (.inr (some 23))), some (.inr (.inr (some 9)))], [.inr (.inr (some 25)), .inr (.inr (some 23))], (zs_38 L), (zc_20 C))) (zf_of zcd_9 rfl) rfl).trans ?_
  refine (zR_step (o := (20, [some (.inr (.inr (some 23))), some (.inr (.inr (some 9)))], [], (zs_39 L), (zc_20 C))) (zf_of zcd_9 rfl) rfl).trans ?_
  refine (zR_step (o := (21, [some (.inr (.inr (some 23))), some (.inr (.inr (some 9)))], [.inr (.inr (some 23))], (zs_39 L), (zc_20 C))) (zf_of zcd_9 rfl) rfl).trans ?_
  refine (zR_step (o := (23, [some (.inr (.inr (some 23))), some (.inr (.inr (some 9)))], [.inl 8, .inr (.inr (some 23))], (zs_39 L), (zc_20 C))) (zf_of zcd_9 rfl) rfl).trans ?_
  refine (zR_step (o := (25, [some (.inr (.inr (some 23))), some (.inr (.inr (some 9)))], [.inr (.inr (some 26)), .inr (.inr (some 23))], (zs_40 L), (zc_21 C))) (zf_of zcd_9 rfl) rfl).trans ?_
  refine (zR_step (o := (28, [some (.inr (.inr (some 23))), some (.inr (.inr (some 9)))], [], (zs_41 L), (zc_21 C))) (zf_of zcd_9 rfl) rfl).trans ?_
  refine (zR_step (o := (29, [some (.inr (.inr (some 23))), some (.inr (.inr (some 9)))], [.inr (.inr (some 23))], (zs_41 L), (zc_21 C))) (zf_of zcd_9 rfl) rfl).trans ?_
  refine (zR_step (o := (30, [some (.inr (.inr (some 23))), some (.inr (.inr (some 9)))], [.inr (.inr (some 9)), .inr (.inr (some 23))], (zs_41 L), (zc_21 C))) (zf_of zcd_9 rfl) rfl).trans ?_
  refine (zR_step (o := (33, [some (.inr (.inr (some 23))), some (.inr (.inr (some 9)))], [], (zs_42 L), (zc_21 C))) (zf_of zcd_9 rfl) rfl).trans ?_
  exact zR_ret (zf_of zcd_9 rfl) rfl rfl
set_option maxRecDepth 100000 in
theorem zk_5 {d L : Nat} {C : ZC} : zR (d + 2) 23 0 [some (.inr (.inr (some 18))), some (.inr (.inr (some 9)))] [] (zs_25 L) (zc_13 C) = some (none, (zs_43 L), (zc_21 C)) := by
  refine (zR_step (o := (1, [some (.inr (.inr (some 18))), some (.inr (.inr (some 9)))], [.inr (.inr (some 18))], (zs_25 L), (zc_13 C))) (zf_of zcd_23 rfl) rfl).trans ?_
  refine (zR_nat (o := (4, [some (.inr (.inr (some 18))), some (.inr (.inr (some 9)))], [], (zs_25 L), (zc_13 C))) (zf_of zcd_23 rfl) rfl rfl (by decide) rfl).trans ?_
  refine (zR_step (o := (5, [some (.inr (.inr (some 18))), some (.inr (.inr (some 9)))], [.inr (.inr (some 18))], (zs_25 L), (zc_13 C))) (zf_of zcd_23 rfl) rfl).trans ?_
  refine (zR_step (o := (7, [some (.inr (.inr (some 18))), some (.inr (.inr (some 9)))], [.inl 6, .inr (.inr (some 18))], (zs_25 L), (zc_13 C))) (zf_of zcd_23 rfl) rfl).trans ?_
  refine (zR_step (o := (9, [some (.inr (.inr (some 18))), some (.inr (.inr (some 9)))], [.inr (.inr (some 19)), .inr (.inr (some 18))], (zs_26 L), (zc_14 C))) (zf_of zcd_23 rfl) rfl).trans ?_
  refine (zR_step (o := (12, [some (.inr (.inr (some 18))), some (.inr (.inr (some 9)))], [], (zs_27 L), (zc_14 C))) (zf_of zcd_23 rfl) rfl).trans ?_
  refine (zR_step (o := (13, [some (.inr (.inr (some 18))), some (.inr (.inr (some 9)))], [.inr (.inr (some 18))], (zs_27 L), (zc_14 C))) (zf_of zcd_23 rfl) rfl).trans ?_
  refine (zR_step (o := (15, [some (.inr (.inr (some 18))), some (.inr (.inr (some 9)))], [.inl 64, .inr (.inr (some 18))], (zs_27 L), (zc_14 C))) (zf_of zcd_23 rfl) rfl).trans ?_
  refine (zR_step (o := (17, [some (.inr (.inr (some 18))), some (.inr (.inr (some 9)))], [.inr (.inr (some 20)), .inr (.inr (some 18))], (zs_28 L), (zc_15 C))) (zf_of zcd_23 rfl) rfl).trans ?_
  refine (zR_step (o := (20, [some (.inr (.inr (some 18))), some (.inr (.inr (some 9)))], [], (zs_29 L), (zc_15 C))) (zf_of zcd_23 rfl) rfl).trans ?_
  refine (zR_step (o := (21, [some (.inr (.inr (some 18))), some (.inr (.inr (some 9)))], [.inr (.inr (some 18))], (zs_29 L), (zc_15 C))) (zf_of zcd_23 rfl) rfl).trans ?_
  refine (zR_step (o := (23, [some (.inr (.inr (some 18))), some (.inr (.inr (some 9)))], [.inl 64, .inr (.inr (some 18))], (zs_29 L), (zc_15 C))) (zf_of zcd_23 rfl) rfl).trans ?_
  refine (zR_step (o := (25, [some (.inr (.inr (some 18))), some (.inr (.inr (some 9)))], [.inr (.inr (some 21)), .inr (.inr (some 18))], (zs_30 L), (zc_16 C))) (zf_of zcd_23 rfl) rfl).trans ?_
  refine (zR_step (o := (28, [some (.inr (.inr (some 18))), some (.inr (.inr (some 9)))], [], (zs_31 L), (zc_16 C))) (zf_of zcd_23 rfl) rfl).trans ?_
  refine (zR_step (o := (29, [some (.inr (.inr (some 18))), some (.inr (.inr (some 9)))], [.inr (.inr (some 18))], (zs_31 L), (zc_16 C))) (zf_of zcd_23 rfl) rfl).trans ?_
  refine (zR_step (o := (31, [some (.inr (.inr (some 18))), some (.inr (.inr (some 9)))], [.inl 64, .inr (.inr (some 18))], (zs_31 L), (zc_16 C))) (zf_of zcd_23 rfl) rfl).trans ?_
  refine (zR_step (o := (33, [some (.inr (.inr (some 18))), some (.inr (.inr (some 9)))], [.inr (.inr (some 22)), .inr (.inr (some 18))], (zs_32 L), (zc_17 C))) (zf_of zcd_23 rfl) rfl).trans ?_
  refine (zR_step (o := (36, [some (.inr (.inr (some 18))), some (.inr (.inr (some 9)))], [], (zs_33 L), (zc_17 C))) (zf_of zcd_23 rfl) rfl).trans ?_
  refine (zR_step (o := (37, [some (.inr (.inr (some 18))), some (.inr (.inr (some 9)))], [.inr (.inr (some 18))], (zs_33 L), (zc_17 C))) (zf_of zcd_23 rfl) rfl).trans ?_
  refine (zR_step (o := (38, [some (.inr (.inr (some 18))), some (.inr (.inr (some 9)))], [.inr (.inr (some 9)), .inr (.inr (some 18))], (zs_33 L), (zc_17 C))) (zf_of zcd_23 rfl) rfl).trans ?_
  refine (zR_step (o := (41, [some (.inr (.inr (some 18))), some (.inr (.inr (some 9)))], [], (zs_34 L), (zc_17 C))) (zf_of zcd_23 rfl) rfl).trans ?_
  refine (zR_step (o := (42, [some (.inr (.inr (some 18))), some (.inr (.inr (some 9)))], [.inr (.inr (some 18))], (zs_34 L), (zc_17 C))) (zf_of zcd_23 rfl) rfl).trans ?_
  refine (zR_step (o := (45, [some (.inr (.inr (some 18))), some (.inr (.inr (some 9)))], [.inr (.inr (some 23)), .inr (.inr (some 18))], (zs_35 L), (zc_18 C))) (zf_of zcd_23 rfl) rfl).trans ?_
  refine (zR_step (o := (46, [some (.inr (.inr (some 18))), some (.inr (.inr (some 9)))], [.inr (.inr (some 23)), .inr (.inr (some 23)), .inr (.inr (some 18))], (zs_35 L), (zc_18 C))) (zf_of zcd_23 rfl) rfl).trans ?_
  refine (zR_step (o := (47, [some (.inr (.inr (some 18))), some (.inr (.inr (some 9)))], [.inr (.inr (some 9)), .inr (.inr (some 23)), .inr (.inr (some 23)), .inr (.inr (some 18))], (zs_35 L), (zc_18 C))) (zf_of zcd_23 rfl) rfl).trans ?_
  refine (zR_call2 (ls0 := [some (.inr (.inr (some 23))), some (.inr (.inr (some 9)))]) (zf_of zcd_23 rfl) rfl rfl (by decide) (zcall_vs (k := 4) (a := 23) (as := [.inr (.inr (some 9))]) (r := [.inr (.inr (some 23)), .inr (.inr (some 18))]) rfl rfl (Nat.le_of_ble_eq_true rfl) rfl (by rw [zml_9]; exact Nat.le_of_ble_eq_true rfl) (Nat.le_of_ble_eq_true rfl) ⟨Nat.le_of_ble_eq_true rfl, rfl⟩ rfl (by decide)) (by rw [zml_9] <;> rfl)).trans ?_
  refine (congrArg (fun q => zB q _) (zk_4 (d := d + 0))).trans ?_
  show zR (d + 2) 23 50 [some (.inr (.inr (some 18))), some (.inr (.inr (some 9)))] [.inr (.inr (some 23)), .inr (.inr (some 18))] (zs_42 L) (zc_21 C) = _
  refine (zR_step (o := (53, [some (.inr (.inr (some 18))), some (.inr (.inr (some 9)))], [], (zs_43 L), (zc_21 C))) (zf_of zcd_23 rfl) rfl).trans ?_
  exact zR_ret (zf_of zcd_23 rfl) rfl rfl
set_option maxRecDepth 100000 in
theorem zk_6 {d L : Nat} {C : ZC} : zR (d + 1) 9 0 [some (.inr (.inr (some 30))), some (.inr (.inr (some 9)))] [] (zs_51 L) (zc_25 C) = some (none, (zs_58 L), (zc_28 C)) := by
  refine (zR_step (o := (1, [some (.inr (.inr (some 30))), some (.inr (.inr (some 9)))], [.inr (.inr (some 30))], (zs_51 L), (zc_25 C))) (zf_of zcd_9 rfl) rfl).trans ?_
  refine (zR_nat (o := (4, [some (.inr (.inr (some 30))), some (.inr (.inr (some 9)))], [], (zs_51 L), (zc_25 C))) (zf_of zcd_9 rfl) rfl rfl (by decide) rfl).trans ?_
  refine (zR_step (o := (5, [some (.inr (.inr (some 30))), some (.inr (.inr (some 9)))], [.inr (.inr (some 30))], (zs_51 L), (zc_25 C))) (zf_of zcd_9 rfl) rfl).trans ?_
  refine (zR_step (o := (7, [some (.inr (.inr (some 30))), some (.inr (.inr (some 9)))], [.inl 12, .inr (.inr (some 30))], (zs_51 L), (zc_25 C))) (zf_of zcd_9 rfl) rfl).trans ?_
  refine (zR_step (o := (9, [some (.inr (.inr (some 30))), some (.inr (.inr (some 9)))], [.inr (.inr (some 31)), .inr (.inr (some 30))], (zs_52 L), (zc_26 C))) (zf_of zcd_9 rfl) rfl).trans ?_
  refine (zR_step (o := (12, [some (.inr (.inr (some 30))), some (.inr (.inr (some 9)))], [], (zs_53 L), (zc_26 C))) (zf_of zcd_9 rfl) rfl).trans ?_
  refine (zR_step (o := (13, [some (.inr (.inr (some 30))), some (.inr (.inr (some 9)))], [.inr (.inr (some 30))], (zs_53 L), (zc_26 C))) (zf_of zcd_9 rfl) rfl).trans ?_
  refine (zR_step (o := (15, [some (.inr (.inr (some 30))), some (.inr (.inr (some 9)))], [.inl 12, .inr (.inr (some 30))], (zs_53 L), (zc_26 C))) (zf_of zcd_9 rfl) rfl).trans ?_
  refine (zR_step (o := (17, [some (.inr (.inr (some 30))), some (.inr (.inr (some 9)))], [.inr (.inr (some 32)), .inr (.inr (some 30))], (zs_54 L), (zc_27 C))) (zf_of zcd_9 rfl) rfl).trans ?_
  refine (zR_step (o := (20, [some (.inr (.inr (some 30))), some (.inr (.inr (some 9)))], [], (zs_55 L), (zc_27 C))) (zf_of zcd_9 rfl) rfl).trans ?_
  refine (zR_step (o := (21, [some (.inr (.inr (some 30))), some (.inr (.inr (some 9)))], [.inr (.inr (some 30))], (zs_55 L), (zc_27 C))) (zf_of zcd_9 rfl) rfl).trans ?_
  refine (zR_step (o := (23, [some (.inr (.inr (some 30))), some (.inr (.inr (some 9)))], [.inl 8, .inr (.inr (some 30))], (zs_55 L), (zc_27 C))) (zf_of zcd_9 rfl) rfl).trans ?_
  refine (zR_step (o := (25, [some (.inr (.inr (some 30))), some (.inr (.inr (some 9)))], [.inr (.inr (some 33)), .inr (.inr (some 30))], (zs_56 L), (zc_28 C))) (zf_of zcd_9 rfl) rfl).trans ?_
  refine (zR_step (o := (28, [some (.inr (.inr (some 30))), some (.inr (.inr (some 9)))], [], (zs_57 L), (zc_28 C))) (zf_of zcd_9 rfl) rfl).trans ?_
  refine (zR_step (o := (29, [some (.inr (.inr (some 30))), some (.inr (.inr (some 9)))], [.inr (.inr (some 30))], (zs_57 L), (zc_28 C))) (zf_of zcd_9 rfl) rfl).trans ?_
  refine (zR_step (o := (30, [some (.inr (.inr (some 30))), some (.inr (.inr (some 9)))], [.inr (.inr (some 9)), .inr (.inr (some 30))], (zs_57 L), (zc_28 C))) (zf_of zcd_9 rfl) rfl).trans ?_
  refine (zR_step (o := (33, [some (.inr (.inr (some 30))), some (.inr (.inr (some 9)))], [], (zs_58 L), (zc_28 C))) (zf_of zcd_9 rfl) rfl).trans ?_
  exact zR_ret (zf_of zcd_9 rfl) rfl rfl
set_option maxRecDepth 100000 in
theorem zk_7 {d L : Nat} {C : ZC} : zR (d + 2) 34 0 [some (.inr (.inr (some 27))), some (.inr (.inr (some 9)))] [] (zs_45 L) (zc_22 C) = some (none, (zs_59 L), (zc_28 C)) := by
  refine (zR_step (o := (1, [some (.inr (.inr (some 27))), some (.inr (.inr (some 9)))], [.inr (.inr (some 27))], (zs_45 L), (zc_22 C))) (zf_of zcd_34 rfl) rfl).trans ?_
  refine (zR_nat (o := (4, [some (.inr (.inr (some 27))), some (.inr (.inr (some 9)))], [], (zs_45 L), (zc_22 C))) (zf_of zcd_34 rfl) rfl rfl (by decide) rfl).trans ?_
  refine (zR_step (o := (5, [some (.inr (.inr (some 27))), some (.inr (.inr (some 9)))], [.inr (.inr (some 27))], (zs_45 L), (zc_22 C))) (zf_of zcd_34 rfl) rfl).trans ?_
  refine (zR_step (o := (6, [some (.inr (.inr (some 27))), some (.inr (.inr (some 9)))], [.inl 4, .inr (.inr (some 27))], (zs_45 L), (zc_22 C))) (zf_of zcd_34 rfl) rfl).trans ?_
  refine (zR_step (o := (8, [some (.inr (.inr (some 27))), some (.inr (.inr (some 9)))], [.inr (.inr (some 28)), .inr (.inr (some 27))], (zs_46 L), (zc_23 C))) (zf_of zcd_34 rfl) rfl).trans ?_
  refine (zR_step (o := (11, [some (.inr (.inr (some 27))), some (.inr (.inr (some 9)))], [], (zs_47 L), (zc_23 C))) (zf_of zcd_34 rfl) rfl).trans ?_
  refine (zR_step (o := (12, [some (.inr (.inr (some 27))), some (.inr (.inr (some 9)))], [.inr (.inr (some 27))], (zs_47 L), (zc_23 C))) (zf_of zcd_34 rfl) rfl).trans ?_
  refine (zR_step (o := (13, [some (.inr (.inr (some 27))), some (.inr (.inr (some 9)))], [.inl 4, .inr (.inr (some 27))], (zs_47 L), (zc_23 C))) (zf_of zcd_34 rfl) rfl).trans ?_
  refine (zR_step (o := (15, [some (.inr (.inr (some 27))), some (.inr (.inr (some 9)))], [.inr (.inr (some 29)), .inr (.inr (some 27))], (zs_48 L), (zc_24 C))) (zf_of zcd_34 rfl) rfl).trans ?_
  refine (zR_step (o := (18, [some (.inr (.inr (some 27))), some (.inr (.inr (some 9)))], [], (zs_49 L), (zc_24 C))) (zf_of zcd_34 rfl) rfl).trans ?_
  refine (zR_step (o := (19, [some (.inr (.inr (some 27))), some (.inr (.inr (some 9)))], [.inr (.inr (some 27))], (zs_49 L), (zc_24 C))) (zf_of zcd_34 rfl) rfl).trans ?_
  refine (zR_step (o := (20, [some (.inr (.inr (some 27))), some (.inr (.inr (some 9)))], [.inr (.inr (some 9)), .inr (.inr (some 27))], (zs_49 L), (zc_24 C))) (zf_of zcd_34 rfl) rfl).trans ?_
  refine (zR_step (o := (23, [some (.inr (.inr (some 27))), some (.inr (.inr (some 9)))], [], (zs_50 L), (zc_24 C))) (zf_of zcd_34 rfl) rfl).trans ?_
  refine (zR_step (o := (24, [some (.inr (.inr (some 27))), some (.inr (.inr (some 9)))], [.inr (.inr (some 27))], (zs_50 L), (zc_24 C))) (zf_of zcd_34 rfl) rfl).trans ?_
  refine (zR_step (o := (27, [some (.inr (.inr (some 27))), some (.inr (.inr (some 9)))], [.inr (.inr (some 30)), .inr (.inr (some 27))], (zs_51 L), (zc_25 C))) (zf_of zcd_34 rfl) rfl).trans ?_
  refine (zR_step (o := (28, [some (.inr (.inr (some 27))), some (.inr (.inr (some 9)))], [.inr (.inr (some 30)), .inr (.inr (some 30)), .inr (.inr (some 27))], (zs_51 L), (zc_25 C))) (zf_of zcd_34 rfl) rfl).trans ?_
  refine (zR_step (o := (29, [some (.inr (.inr (some 27))), some (.inr (.inr (some 9)))], [.inr (.inr (some 9)), .inr (.inr (some 30)), .inr (.inr (some 30)), .inr (.inr (some 27))], (zs_51 L), (zc_25 C))) (zf_of zcd_34 rfl) rfl).trans ?_
  refine (zR_call2 (ls0 := [some (.inr (.inr (some 30))), some (.inr (.inr (some 9)))]) (zf_of zcd_34 rfl) rfl rfl (by decide) (zcall_vs (k := 4) (a := 30) (as := [.inr (.inr (some 9))]) (r := [.inr (.inr (some 30)), .inr (.inr (some 27))]) rfl rfl (Nat.le_of_ble_eq_true rfl) rfl (by rw [zml_9]; exact Nat.le_of_ble_eq_true rfl) (Nat.le_of_ble_eq_true rfl) ⟨Nat.le_of_ble_eq_true rfl, rfl⟩ rfl (by decide)) (by rw [zml_9] <;> rfl)).trans ?_
  refine (congrArg (fun q => zB q _) (zk_6 (d := d + 0))).trans ?_
  show zR (d + 2) 34 32 [some (.inr (.inr (some 27))), some (.inr (.inr (some 9)))] [.inr (.inr (some 30)), .inr (.inr (some 27))] (zs_58 L) (zc_28 C) = _
  refine (zR_step (o := (35, [some (.inr (.inr (some 27))), some (.inr (.inr (some 9)))], [], (zs_59 L), (zc_28 C))) (zf_of zcd_34 rfl) rfl).trans ?_
  exact zR_ret (zf_of zcd_34 rfl) rfl rfl
set_option maxRecDepth 100000 in
theorem zk_8 {d L : Nat} {C : ZC} : zR (d + 1) 9 0 [some (.inr (.inr (some 44))), some (.inr (.inr (some 9)))] [] (zs_65 L) (zc_31 C) = some (none, (zs_72 L), (zc_34 C)) := by
  refine (zR_step (o := (1, [some (.inr (.inr (some 44))), some (.inr (.inr (some 9)))], [.inr (.inr (some 44))], (zs_65 L), (zc_31 C))) (zf_of zcd_9 rfl) rfl).trans ?_
  refine (zR_nat (o := (4, [some (.inr (.inr (some 44))), some (.inr (.inr (some 9)))], [], (zs_65 L), (zc_31 C))) (zf_of zcd_9 rfl) rfl rfl (by decide) rfl).trans ?_
  refine (zR_step (o := (5, [some (.inr (.inr (some 44))), some (.inr (.inr (some 9)))], [.inr (.inr (some 44))], (zs_65 L), (zc_31 C))) (zf_of zcd_9 rfl) rfl).trans ?_
  refine (zR_step (o := (7, [some (.inr (.inr (some 44))), some (.inr (.inr (some 9)))], [.inl 12, .inr (.inr (some 44))], (zs_65 L), (zc_31 C))) (zf_of zcd_9 rfl) rfl).trans ?_
  refine (zR_step (o := (9, [some (.inr (.inr (some 44))), some (.inr (.inr (some 9)))], [.inr (.inr (some 45)), .inr (.inr (some 44))], (zs_66 L), (zc_32 C))) (zf_of zcd_9 rfl) rfl).trans ?_
  refine (zR_step (o := (12, [some (.inr (.inr (some 44))), some (.inr (.inr (some 9)))], [], (zs_67 L), (zc_32 C))) (zf_of zcd_9 rfl) rfl).trans ?_
  refine (zR_step (o := (13, [some (.inr (.inr (some 44))), some (.inr (.inr (some 9)))], [.inr (.inr (some 44))], (zs_67 L), (zc_32 C))) (zf_of zcd_9 rfl) rfl).trans ?_
  refine (zR_step (o := (15, [some (.inr (.inr (some 44))), some (.inr (.inr (some 9)))], [.inl 12, .inr (.inr (some 44))], (zs_67 L), (zc_32 C))) (zf_of zcd_9 rfl) rfl).trans ?_
  refine (zR_step (o := (17, [some (.inr (.inr (some 44))), some (.inr (.inr (some 9)))], [.inr (.inr (some 46)), .inr (.inr (some 44))], (zs_68 L), (zc_33 C))) (zf_of zcd_9 rfl) rfl).trans ?_
  refine (zR_step (o := (20, [some (.inr (.inr (some 44))), some (.inr (.inr (some 9)))], [], (zs_69 L), (zc_33 C))) (zf_of zcd_9 rfl) rfl).trans ?_
  refine (zR_step (o := (21, [some (.inr (.inr (some 44))), some (.inr (.inr (some 9)))], [.inr (.inr (some 44))], (zs_69 L), (zc_33 C))) (zf_of zcd_9 rfl) rfl).trans ?_
  refine (zR_step (o := (23, [some (.inr (.inr (some 44))), some (.inr (.inr (some 9)))], [.inl 8, .inr (.inr (some 44))], (zs_69 L), (zc_33 C))) (zf_of zcd_9 rfl) rfl).trans ?_
  refine (zR_step (o := (25, [some (.inr (.inr (some 44))), some (.inr (.inr (some 9)))], [.inr (.inr (some 47)), .inr (.inr (some 44))], (zs_70 L), (zc_34 C))) (zf_of zcd_9 rfl) rfl).trans ?_
  refine (zR_step (o := (28, [some (.inr (.inr (some 44))), some (.inr (.inr (some 9)))], [], (zs_71 L), (zc_34 C))) (zf_of zcd_9 rfl) rfl).trans ?_
  refine (zR_step (o := (29, [some (.inr (.inr (some 44))), some (.inr (.inr (some 9)))], [.inr (.inr (some 44))], (zs_71 L), (zc_34 C))) (zf_of zcd_9 rfl) rfl).trans ?_
  refine (zR_step (o := (30, [some (.inr (.inr (some 44))), some (.inr (.inr (some 9)))], [.inr (.inr (some 9)), .inr (.inr (some 44))], (zs_71 L), (zc_34 C))) (zf_of zcd_9 rfl) rfl).trans ?_
  refine (zR_step (o := (33, [some (.inr (.inr (some 44))), some (.inr (.inr (some 9)))], [], (zs_72 L), (zc_34 C))) (zf_of zcd_9 rfl) rfl).trans ?_
  exact zR_ret (zf_of zcd_9 rfl) rfl rfl
set_option maxRecDepth 100000 in
theorem zk_9 {d L : Nat} {C : ZC} : zR (d + 2) 41 0 [some (.inr (.inr (some 34))), some (.inr (.inr (some 9)))] [] (zs_61 L) (zc_29 C) = some (none, (zs_73 L), (zc_34 C)) := by
  refine (zR_step (o := (1, [some (.inr (.inr (some 34))), some (.inr (.inr (some 9)))], [.inr (.inr (some 34))], (zs_61 L), (zc_29 C))) (zf_of zcd_41 rfl) rfl).trans ?_
  refine (zR_nat (o := (4, [some (.inr (.inr (some 34))), some (.inr (.inr (some 9)))], [], (zs_61 L), (zc_29 C))) (zf_of zcd_41 rfl) rfl rfl (by decide) rfl).trans ?_
  refine (zR_step (o := (5, [some (.inr (.inr (some 34))), some (.inr (.inr (some 9)))], [.inr (.inr (some 34))], (zs_61 L), (zc_29 C))) (zf_of zcd_41 rfl) rfl).trans ?_
  refine (zR_step (o := (7, [some (.inr (.inr (some 34))), some (.inr (.inr (some 9)))], [.inl 8, .inr (.inr (some 34))], (zs_61 L), (zc_29 C))) (zf_of zcd_41 rfl) rfl).trans ?_
  refine (zR_step (o := (9, [some (.inr (.inr (some 34))), some (.inr (.inr (some 9)))], [.inl 8, .inl 8, .inr (.inr (some 34))], (zs_61 L), (zc_29 C))) (zf_of zcd_41 rfl) rfl).trans ?_
  refine (zR_step (o := (13, [some (.inr (.inr (some 34))), some (.inr (.inr (some 9)))], [.inr (.inr (some 35)), .inr (.inr (some 34))], (zs_62 L), (zc_30 C))) (zf_of zcd_41 rfl) rfl).trans ?_
  refine (zR_step (o := (16, [some (.inr (.inr (some 34))), some (.inr (.inr (some 9)))], [], (zs_63 L), (zc_30 C))) (zf_of zcd_41 rfl) rfl).trans ?_
  refine (zR_step (o := (17, [some (.inr (.inr (some 34))), some (.inr (.inr (some 9)))], [.inr (.inr (some 34))], (zs_63 L), (zc_30 C))) (zf_of zcd_41 rfl) rfl).trans ?_
  refine (zR_step (o := (18, [some (.inr (.inr (some 34))), some (.inr (.inr (some 9)))], [.inr (.inr (some 9)), .inr (.inr (some 34))], (zs_63 L), (zc_30 C))) (zf_of zcd_41 rfl) rfl).trans ?_
  refine (zR_step (o := (21, [some (.inr (.inr (some 34))), some (.inr (.inr (some 9)))], [], (zs_64 L), (zc_30 C))) (zf_of zcd_41 rfl) rfl).trans ?_
  refine (zR_step (o := (22, [some (.inr (.inr (some 34))), some (.inr (.inr (some 9)))], [.inr (.inr (some 34))], (zs_64 L), (zc_30 C))) (zf_of zcd_41 rfl) rfl).trans ?_
  refine (zR_step (o := (25, [some (.inr (.inr (some 34))), some (.inr (.inr (some 9)))], [.inr (.inr (some 44)), .inr (.inr (some 34))], (zs_65 L), (zc_31 C))) (zf_of zcd_41 rfl) rfl).trans ?_
  refine (zR_step (o := (26, [some (.inr (.inr (some 34))), some (.inr (.inr (some 9)))], [.inr (.inr (some 44)), .inr (.inr (some 44)), .inr (.inr (some 34))], (zs_65 L), (zc_31 C))) (zf_of zcd_41 rfl) rfl).trans ?_
  refine (zR_step (o := (27, [some (.inr (.inr (some 34))), some (.inr (.inr (some 9)))], [.inr (.inr (some 9)), .inr (.inr (some 44)), .inr (.inr (some 44)), .inr (.inr (some 34))], (zs_65 L), (zc_31 C))) (zf_of zcd_41 rfl) rfl).trans ?_
  refine (zR_call2 (ls0 := [some (.inr (.inr (some 44))), some (.inr (.inr (some 9)))]) (zf_of zcd_41 rfl) rfl rfl (by decide) (zcall_vs (k := 4) (a := 44) (as := [.inr (.inr (some 9))]) (r := [.inr (.inr (some 44)), .inr (.inr (some 34))]) rfl rfl (Nat.le_of_ble_eq_true rfl) rfl (by rw [zml_9]; exact Nat.le_of_ble_eq_true rfl) (Nat.le_of_ble_eq_true rfl) ⟨Nat.le_of_ble_eq_true rfl, rfl⟩ rfl (by decide)) (by rw [zml_9] <;> rfl)).trans ?_
  refine (congrArg (fun q => zB q _) (zk_8 (d := d + 0))).trans ?_
  show zR (d + 2) 41 30 [some (.inr (.inr (some 34))), some (.inr (.inr (some 9)))] [.inr (.inr (some 44)), .inr (.inr (some 34))] (zs_72 L) (zc_34 C) = _
  refine (zR_step (o := (33, [some (.inr (.inr (some 34))), some (.inr (.inr (some 9)))], [], (zs_73 L), (zc_34 C))) (zf_of zcd_41 rfl) rfl).trans ?_
  exact zR_ret (zf_of zcd_41 rfl) rfl rfl
set_option maxRecDepth 100000 in
theorem zk_10 {d L : Nat} {C : ZC} : zR (d + 1) 1 0 [some (.inr (.inr (some 55))), some (.inl (-1)), none, none] [] (zs_81 L) (zc_38 C) = some (none, (zs_81 L), (zc_42 C)) := by
  refine (zR_step (o := (1, [some (.inr (.inr (some 55))), some (.inl (-1)), none, none], [.inl 0], (zs_81 L), (zc_38 C))) (zf_of zcd_1 rfl) rfl).trans ?_
  refine (zR_step (o := (2, [some (.inr (.inr (some 55))), some (.inl (-1)), some (.inl 0), none], [], (zs_81 L), (zc_38 C))) (zf_of zcd_1 rfl) rfl).trans ?_
  refine (zR_step (o := (3, [some (.inr (.inr (some 55))), some (.inl (-1)), some (.inl 0), none], [.inr (.inr (some 55))], (zs_81 L), (zc_38 C))) (zf_of zcd_1 rfl) rfl).trans ?_
  refine (zR_step (o := (4, [some (.inr (.inr (some 55))), some (.inl (-1)), some (.inl 0), none], [.inl 4], (zs_81 L), (zc_38 C))) (zf_of zcd_1 rfl) rfl).trans ?_
  refine (zR_step (o := (5, [some (.inr (.inr (some 55))), some (.inl (-1)), some (.inl 0), some (.inl 4)], [], (zs_81 L), (zc_38 C))) (zf_of zcd_1 rfl) rfl).trans ?_
  refine (zR_step (o := (6, [some (.inr (.inr (some 55))), some (.inl (-1)), some (.inl 0), some (.inl 4)], [.inl 0], (zs_81 L), (zc_38 C))) (zf_of zcd_1 rfl) rfl).trans ?_
  refine (zR_step (o := (7, [some (.inr (.inr (some 55))), some (.inl (-1)), some (.inl 0), some (.inl 4)], [.inl 4, .inl 0], (zs_81 L), (zc_38 C))) (zf_of zcd_1 rfl) rfl).trans ?_
  refine (zR_step (o := (10, [some (.inr (.inr (some 55))), some (.inl (-1)), some (.inl 0), some (.inl 4)], [], (zs_81 L), (zc_38 C))) (zf_of zcd_1 rfl) rfl).trans ?_
  refine (zR_step (o := (11, [some (.inr (.inr (some 55))), some (.inl (-1)), some (.inl 0), some (.inl 4)], [.inr (.inr (some 55))], (zs_81 L), (zc_38 C))) (zf_of zcd_1 rfl) rfl).trans ?_
  refine (zR_step (o := (12, [some (.inr (.inr (some 55))), some (.inl (-1)), some (.inl 0), some (.inl 4)], [.inl 0, .inr (.inr (some 55))], (zs_81 L), (zc_38 C))) (zf_of zcd_1 rfl) rfl).trans ?_
  refine (zR_step (o := (13, [some (.inr (.inr (some 55))), some (.inl (-1)), some (.inl 0), some (.inl 4)], [.inl (-1), .inl 0, .inr (.inr (some 55))], (zs_81 L), (zc_38 C))) (zf_of zcd_1 rfl) rfl).trans ?_
  refine (zR_step (o := (14, [some (.inr (.inr (some 55))), some (.inl (-1)), some (.inl 0), some (.inl 4)], [], (zs_81 L), (zc_39 C))) (zf_of zcd_1 rfl) rfl).trans ?_
  refine (zR_step (o := (17, [some (.inr (.inr (some 55))), some (.inl (-1)), some (.inl 1), some (.inl 4)], [], (zs_81 L), (zc_39 C))) (zf_of zcd_1 rfl) rfl).trans ?_
  refine (zR_step (o := (5, [some (.inr (.inr (some 55))), some (.inl (-1)), some (.inl 1), some (.inl 4)], [], (zs_81 L), (zc_39 C))) (zf_of zcd_1 rfl) rfl).trans ?_
  refine (zR_step (o := (6, [some (.inr (.inr (some 55))), some (.inl (-1)), some (.inl 1), some (.inl 4)], [.inl 1], (zs_81 L), (zc_39 C))) (zf_of zcd_1 rfl) rfl).trans ?_
  refine (zR_step (o := (7, [some (.inr (.inr (some 55))), some (.inl (-1)), some (.inl 1), some (.inl 4)], [.inl 4, .inl 1], (zs_81 L), (zc_39 C))) (zf_of zcd_1 rfl) rfl).trans ?_
  refine (zR_step (o := (10, [some (.inr (.inr (some 55))), some (.inl (-1)), some (.inl 1), some (.inl 4)], [], (zs_81 L), (zc_39 C))) (zf_of zcd_1 rfl) rfl).trans ?_
  refine (zR_step (o := (11, [some (.inr (.inr (some 55))), some (.inl (-1)), some (.inl 1), some (.inl 4)], [.inr (.inr (some 55))], (zs_81 L), (zc_39 C))) (zf_of zcd_1 rfl) rfl).trans ?_
  refine (zR_step (o := (12, [some (.inr (.inr (some 55))), some (.inl (-1)), some (.inl 1), some (.inl 4)], [.inl 1, .inr (.inr (some 55))], (zs_81 L), (zc_39 C))) (zf_of zcd_1 rfl) rfl).trans ?_
  refine (zR_step (o := (13, [some (.inr (.inr (some 55))), some (.inl (-1)), some (.inl 1), some (.inl 4)], [.inl (-1), .inl 1, .inr (.inr (some 55))], (zs_81 L), (zc_39 C))) (zf_of zcd_1 rfl) rfl).trans ?_
  refine (zR_step (o := (14, [some (.inr (.inr (some 55))), some (.inl (-1)), some (.inl 1), some (.inl 4)], [], (zs_81 L), (zc_40 C))) (zf_of zcd_1 rfl) rfl).trans ?_
  refine (zR_step (o := (17, [some (.inr (.inr (some 55))), some (.inl (-1)), some (.inl 2), some (.inl 4)], [], (zs_81 L), (zc_40 C))) (zf_of zcd_1 rfl) rfl).trans ?_
  refine (zR_step (o := (5, [some (.inr (.inr (some 55))), some (.inl (-1)), some (.inl 2), some (.inl 4)], [], (zs_81 L), (zc_40 C))) (zf_of zcd_1 rfl) rfl).trans ?_
  refine (zR_step (o := (6, [some (.inr (.inr (some 55))), some (.inl (-1)), some (.inl 2), some (.inl 4)], [.inl 2], (zs_81 L), (zc_40 C))) (zf_of zcd_1 rfl) rfl).trans ?_
  refine (zR_step (o := (7, [some (.inr (.inr (some 55))), some (.inl (-1)), some (.inl 2), some (.inl 4)], [.inl 4, .inl 2], (zs_81 L), (zc_40 C))) (zf_of zcd_1 rfl) rfl).trans ?_
  refine (zR_step (o := (10, [some (.inr (.inr (some 55))), some (.inl (-1)), some (.inl 2), some (.inl 4)], [], (zs_81 L), (zc_40 C))) (zf_of zcd_1 rfl) rfl).trans ?_
  refine (zR_step (o := (11, [some (.inr (.inr (some 55))), some (.inl (-1)), some (.inl 2), some (.inl 4)], [.inr (.inr (some 55))], (zs_81 L), (zc_40 C))) (zf_of zcd_1 rfl) rfl).trans ?_
  refine (zR_step (o := (12, [some (.inr (.inr (some 55))), some (.inl (-1)), some (.inl 2), some (.inl 4)], [.inl 2, .inr (.inr (some 55))], (zs_81 L), (zc_40 C))) (zf_of zcd_1 rfl) rfl).trans ?_
  refine (zR_step (o := (13, [some (.inr (.inr (some 55))), some (.inl (-1)), some (.inl 2), some (.inl 4)], [.inl (-1), .inl 2, .inr (.inr (some 55))], (zs_81 L), (zc_40 C))) (zf_of zcd_1 rfl) rfl).trans ?_
  refine (zR_step (o := (14, [some (.inr (.inr (some 55))), some (.inl (-1)), some (.inl 2), some (.inl 4)], [], (zs_81 L), (zc_41 C))) (zf_of zcd_1 rfl) rfl).trans ?_
  refine (zR_step (o := (17, [some (.inr (.inr (some 55))), some (.inl (-1)), some (.inl 3), some (.inl 4)], [], (zs_81 L), (zc_41 C))) (zf_of zcd_1 rfl) rfl).trans ?_
  refine (zR_step (o := (5, [some (.inr (.inr (some 55))), some (.inl (-1)), some (.inl 3), some (.inl 4)], [], (zs_81 L), (zc_41 C))) (zf_of zcd_1 rfl) rfl).trans ?_
  refine (zR_step (o := (6, [some (.inr (.inr (some 55))), some (.inl (-1)), some (.inl 3), some (.inl 4)], [.inl 3], (zs_81 L), (zc_41 C))) (zf_of zcd_1 rfl) rfl).trans ?_
  refine (zR_step (o := (7, [some (.inr (.inr (some 55))), some (.inl (-1)), some (.inl 3), some (.inl 4)], [.inl 4, .inl 3], (zs_81 L), (zc_41 C))) (zf_of zcd_1 rfl) rfl).trans ?_
  refine (zR_step (o := (10, [some (.inr (.inr (some 55))), some (.inl (-1)), some (.inl 3), some (.inl 4)], [], (zs_81 L), (zc_41 C))) (zf_of zcd_1 rfl) rfl).trans ?_
  refine (zR_step (o := (11, [some (.inr (.inr (some 55))), some (.inl (-1)), some (.inl 3), some (.inl 4)], [.inr (.inr (some 55))], (zs_81 L), (zc_41 C))) (zf_of zcd_1 rfl) rfl).trans ?_
  refine (zR_step (o := (12, [some (.inr (.inr (some 55))), some (.inl (-1)), some (.inl 3), some (.inl 4)], [.inl 3, .inr (.inr (some 55))], (zs_81 L), (zc_41 C))) (zf_of zcd_1 rfl) rfl).trans ?_
  refine (zR_step (o := (13, [some (.inr (.inr (some 55))), some (.inl (-1)), some (.inl 3), some (.inl 4)], [.inl (-1), .inl 3, .inr (.inr (some 55))], (zs_81 L), (zc_41 C))) (zf_of zcd_1 rfl) rfl).trans ?_
  refine (zR_step (o := (14, [some (.inr (.inr (some 55))), some (.inl (-1)), some (.inl 3), some (.inl 4)], [], (zs_81 L), (zc_42 C))) (zf_of zcd_1 rfl) rfl).trans ?_
  refine (zR_step (o := (17, [some (.inr (.inr (some 55))), some (.inl (-1)), some (.inl 4), some (.inl 4)], [], (zs_81 L), (zc_42 C))) (zf_of zcd_1 rfl) rfl).trans ?_
  refine (zR_step (o := (5, [some (.inr (.inr (some 55))), some (.inl (-1)), some (.inl 4), some (.inl 4)], [], (zs_81 L), (zc_42 C))) (zf_of zcd_1 rfl) rfl).trans ?_
  refine (zR_step (o := (6, [some (.inr (.inr (some 55))), some (.inl (-1)), some (.inl 4), some (.inl 4)], [.inl 4], (zs_81 L), (zc_42 C))) (zf_of zcd_1 rfl) rfl).trans ?_
  refine (zR_step (o := (7, [some (.inr (.inr (some 55))), some (.inl (-1)), some (.inl 4), some (.inl 4)], [.inl 4, .inl 4], (zs_81 L), (zc_42 C))) (zf_of zcd_1 rfl) rfl).trans ?_
  refine (zR_step (o := (20, [some (.inr (.inr (some 55))), some (.inl (-1)), some (.inl 4), some (.inl 4)], [], (zs_81 L), (zc_42 C))) (zf_of zcd_1 rfl) rfl).trans ?_
  exact zR_ret (zf_of zcd_1 rfl) rfl rfl
set_option maxRecDepth 100000 in
theorem zk_11 {d L : Nat} {C : ZC} : zR (d + 2) 49 0 [some (.inr (.inr (some 48)))] [] (zs_75 L) (zc_35 C) = some (none, (zs_81 L), (zc_42 C)) := by
  refine (zR_step (o := (1, [some (.inr (.inr (some 48)))], [.inr (.inr (some 48))], (zs_75 L), (zc_35 C))) (zf_of zcd_49 rfl) rfl).trans ?_
  refine (zR_nat (o := (4, [some (.inr (.inr (some 48)))], [], (zs_75 L), (zc_35 C))) (zf_of zcd_49 rfl) rfl rfl (by decide) rfl).trans ?_
  refine (zR_step (o := (5, [some (.inr (.inr (some 48)))], [.inr (.inr (some 48))], (zs_75 L), (zc_35 C))) (zf_of zcd_49 rfl) rfl).trans ?_
  refine (zR_step (o := (6, [some (.inr (.inr (some 48)))], [.inl 4, .inr (.inr (some 48))], (zs_75 L), (zc_35 C))) (zf_of zcd_49 rfl) rfl).trans ?_
  refine (zR_step (o := (8, [some (.inr (.inr (some 48)))], [.inl 48, .inl 4, .inr (.inr (some 48))], (zs_75 L), (zc_35 C))) (zf_of zcd_49 rfl) rfl).trans ?_
  refine (zR_step (o := (12, [some (.inr (.inr (some 48)))], [.inr (.inr (some 49)), .inr (.inr (some 48))], (zs_76 L), (zc_36 C))) (zf_of zcd_49 rfl) rfl).trans ?_
  refine (zR_step (o := (15, [some (.inr (.inr (some 48)))], [], (zs_77 L), (zc_36 C))) (zf_of zcd_49 rfl) rfl).trans ?_
  refine (zR_step (o := (16, [some (.inr (.inr (some 48)))], [.inr (.inr (some 48))], (zs_77 L), (zc_36 C))) (zf_of zcd_49 rfl) rfl).trans ?_
  refine (zR_step (o := (17, [some (.inr (.inr (some 48)))], [.inl 4, .inr (.inr (some 48))], (zs_77 L), (zc_36 C))) (zf_of zcd_49 rfl) rfl).trans ?_
  refine (zR_step (o := (19, [some (.inr (.inr (some 48)))], [.inr (.inr (some 54)), .inr (.inr (some 48))], (zs_78 L), (zc_37 C))) (zf_of zcd_49 rfl) rfl).trans ?_
  refine (zR_step (o := (22, [some (.inr (.inr (some 48)))], [], (zs_79 L), (zc_37 C))) (zf_of zcd_49 rfl) rfl).trans ?_
  refine (zR_step (o := (23, [some (.inr (.inr (some 48)))], [.inr (.inr (some 48))], (zs_79 L), (zc_37 C))) (zf_of zcd_49 rfl) rfl).trans ?_
  refine (zR_step (o := (24, [some (.inr (.inr (some 48)))], [.inl 4, .inr (.inr (some 48))], (zs_79 L), (zc_37 C))) (zf_of zcd_49 rfl) rfl).trans ?_
  refine (zR_step (o := (26, [some (.inr (.inr (some 48)))], [.inr (.inr (some 55)), .inr (.inr (some 48))], (zs_80 L), (zc_38 C))) (zf_of zcd_49 rfl) rfl).trans ?_
  refine (zR_step (o := (29, [some (.inr (.inr (some 48)))], [], (zs_81 L), (zc_38 C))) (zf_of zcd_49 rfl) rfl).trans ?_
  refine (zR_step (o := (30, [some (.inr (.inr (some 48)))], [.inr (.inr (some 48))], (zs_81 L), (zc_38 C))) (zf_of zcd_49 rfl) rfl).trans ?_
  refine (zR_step (o := (33, [some (.inr (.inr (some 48)))], [.inr (.inr (some 55))], (zs_81 L), (zc_38 C))) (zf_of zcd_49 rfl) rfl).trans ?_
  refine (zR_step (o := (34, [some (.inr (.inr (some 48)))], [.inl (-1), .inr (.inr (some 55))], (zs_81 L), (zc_38 C))) (zf_of zcd_49 rfl) rfl).trans ?_
  refine (zR_call2 (ls0 := [some (.inr (.inr (some 55))), some (.inl (-1)), none, none]) (zf_of zcd_49 rfl) rfl rfl (by decide) (zcall_s (as := [.inr (.inr (some 55)), .inl (-1)]) (r := []) rfl rfl (Nat.le_of_ble_eq_true rfl) rfl (by rw [zml_1]; exact Nat.le_of_ble_eq_true rfl) (Nat.le_of_ble_eq_true rfl)) (by rw [zml_1] <;> rfl)).trans ?_
  refine (congrArg (fun q => zB q _) (zk_10 (d := d + 0))).trans ?_
  show zR (d + 2) 49 37 [some (.inr (.inr (some 48)))] [] (zs_81 L) (zc_42 C) = _
  exact zR_ret (zf_of zcd_49 rfl) rfl rfl
set_option maxRecDepth 100000 in
theorem zk_12 {d L : Nat} {C : ZC} : zR (d + 1) 9 0 [some (.inr (.inr (some 56))), some (.inr (.inr (some 9)))] [] (zs_83 L) (zc_43 C) = some (none, (zs_90 L), (zc_46 C)) := by
  refine (zR_step (o := (1, [some (.inr (.inr (some 56))), some (.inr (.inr (some 9)))], [.inr (.inr (some 56))], (zs_83 L), (zc_43 C))) (zf_of zcd_9 rfl) rfl).trans ?_
  refine (zR_nat (o := (4, [some (.inr (.inr (some 56))), some (.inr (.inr (some 9)))], [], (zs_83 L), (zc_43 C))) (zf_of zcd_9 rfl) rfl rfl (by decide) rfl).trans ?_
  refine (zR_step (o := (5, [some (.inr (.inr (some 56))), some (.inr (.inr (some 9)))], [.inr (.inr (some 56))], (zs_83 L), (zc_43 C))) (zf_of zcd_9 rfl) rfl).trans ?_
  refine (zR_step (o := (7, [some (.inr (.inr (some 56))), some (.inr (.inr (some 9)))], [.inl 12, .inr (.inr (some 56))], (zs_83 L), (zc_43 C))) (zf_of zcd_9 rfl) rfl).trans ?_
  refine (zR_step (o := (9, [some (.inr (.inr (some 56))), some (.inr (.inr (some 9)))], [.inr (.inr (some 57)), .inr (.inr (some 56))], (zs_84 L), (zc_44 C))) (zf_of zcd_9 rfl) rfl).trans ?_
  refine (zR_step (o := (12, [some (.inr (.inr (some 56))), some (.inr (.inr (some 9)))], [], (zs_85 L), (zc_44 C))) (zf_of zcd_9 rfl) rfl).trans ?_
  refine (zR_step (o := (13, [some (.inr (.inr (some 56))), some (.inr (.inr (some 9)))], [.inr (.inr (some 56))], (zs_85 L), (zc_44 C))) (zf_of zcd_9 rfl) rfl).trans ?_
  refine (zR_step (o := (15, [some (.inr (.inr (some 56))), some (.inr (.inr (some 9)))], [.inl 12, .inr (.inr (some 56))], (zs_85 L), (zc_44 C))) (zf_of zcd_9 rfl) rfl).trans ?_
  refine (zR_step (o := (17, [some (.inr (.inr (some 56))), some (.inr (.inr (some 9)))], [.inr (.inr (some 58)), .inr (.inr (some 56))], (zs_86 L), (zc_45 C))) (zf_of zcd_9 rfl) rfl).trans ?_
  refine (zR_step (o := (20, [some (.inr (.inr (some 56))), some (.inr (.inr (some 9)))], [], (zs_87 L), (zc_45 C))) (zf_of zcd_9 rfl) rfl).trans ?_
  refine (zR_step (o := (21, [some (.inr (.inr (some 56))), some (.inr (.inr (some 9)))], [.inr (.inr (some 56))], (zs_87 L), (zc_45 C))) (zf_of zcd_9 rfl) rfl).trans ?_
  refine (zR_step (o := (23, [some (.inr (.inr (some 56))), some (.inr (.inr (some 9)))], [.inl 8, .inr (.inr (some 56))], (zs_87 L), (zc_45 C))) (zf_of zcd_9 rfl) rfl).trans ?_
  refine (zR_step (o := (25, [some (.inr (.inr (some 56))), some (.inr (.inr (some 9)))], [.inr (.inr (some 59)), .inr (.inr (some 56))], (zs_88 L), (zc_46 C))) (zf_of zcd_9 rfl) rfl).trans ?_
  refine (zR_step (o := (28, [some (.inr (.inr (some 56))), some (.inr (.inr (some 9)))], [], (zs_89 L), (zc_46 C))) (zf_of zcd_9 rfl) rfl).trans ?_
  refine (zR_step (o := (29, [some (.inr (.inr (some 56))), some (.inr (.inr (some 9)))], [.inr (.inr (some 56))], (zs_89 L), (zc_46 C))) (zf_of zcd_9 rfl) rfl).trans ?_
  refine (zR_step (o := (30, [some (.inr (.inr (some 56))), some (.inr (.inr (some 9)))], [.inr (.inr (some 9)), .inr (.inr (some 56))], (zs_89 L), (zc_46 C))) (zf_of zcd_9 rfl) rfl).trans ?_
  refine (zR_step (o := (33, [some (.inr (.inr (some 56))), some (.inr (.inr (some 9)))], [], (zs_90 L), (zc_46 C))) (zf_of zcd_9 rfl) rfl).trans ?_
  exact zR_ret (zf_of zcd_9 rfl) rfl rfl
set_option maxRecDepth 100000 in
theorem zk_13 {d L : Nat} {C : ZC} : zR (d + 1) 9 0 [some (.inr (.inr (some 60))), some (.inr (.inr (some 9)))] [] (zs_92 L) (zc_47 C) = some (none, (zs_99 L), (zc_50 C)) := by
  refine (zR_step (o := (1, [some (.inr (.inr (some 60))), some (.inr (.inr (some 9)))], [.inr (.inr (some 60))], (zs_92 L), (zc_47 C))) (zf_of zcd_9 rfl) rfl).trans ?_
  refine (zR_nat (o := (4, [some (.inr (.inr (some 60))), some (.inr (.inr (some 9)))], [], (zs_92 L), (zc_47 C))) (zf_of zcd_9 rfl) rfl rfl (by decide) rfl).trans ?_
  refine (zR_step (o := (5, [some (.inr (.inr (some 60))), some (.inr (.inr (some 9)))], [.inr (.inr (some 60))], (zs_92 L), (zc_47 C))) (zf_of zcd_9 rfl) rfl).trans ?_
  refine (zR_step (o := (7, [some (.inr (.inr (some 60))), some (.inr (.inr (some 9)))], [.inl 12, .inr (.inr (some 60))], (zs_92 L), (zc_47 C))) (zf_of zcd_9 rfl) rfl).trans ?_
  refine (zR_step (o := (9, [some (.inr (.inr (some 60))), some (.inr (.inr (some 9)))], [.inr (.inr (some 61)), .inr (.inr (some 60))], (zs_93 L), (zc_48 C))) (zf_of zcd_9 rfl) rfl).trans ?_
  refine (zR_step (o := (12, [some (.inr (.inr (some 60))), some (.inr (.inr (some 9)))], [], (zs_94 L), (zc_48 C))) (zf_of zcd_9 rfl) rfl).trans ?_
  refine (zR_step (o := (13, [some (.inr (.inr (some 60))), some (.inr (.inr (some 9)))], [.inr (.inr (some 60))], (zs_94 L), (zc_48 C))) (zf_of zcd_9 rfl) rfl).trans ?_
  refine (zR_step (o := (15, [some (.inr (.inr (some 60))), some (.inr (.inr (some 9)))], [.inl 12, .inr (.inr (some 60))], (zs_94 L), (zc_48 C))) (zf_of zcd_9 rfl) rfl).trans ?_
  refine (zR_step (o := (17, [some (.inr (.inr (some 60))), some (.inr (.inr (some 9)))], [.inr (.inr (some 62)), .inr (.inr (some 60))], (zs_95 L), (zc_49 C))) (zf_of zcd_9 rfl) rfl).trans ?_
  refine (zR_step (o := (20, [some (.inr (.inr (some 60))), some (.inr (.inr (some 9)))], [], (zs_96 L), (zc_49 C))) (zf_of zcd_9 rfl) rfl).trans ?_
  refine (zR_step (o := (21, [some (.inr (.inr (some 60))), some (.inr (.inr (some 9)))], [.inr (.inr (some 60))], (zs_96 L), (zc_49 C))) (zf_of zcd_9 rfl) rfl).trans ?_
  refine (zR_step (o := (23, [some (.inr (.inr (some 60))), some (.inr (.inr (some 9)))], [.inl 8, .inr (.inr (some 60))], (zs_96 L), (zc_49 C))) (zf_of zcd_9 rfl) rfl).trans ?_
  refine (zR_step (o := (25, [some (.inr (.inr (some 60))), some (.inr (.inr (some 9)))], [.inr (.inr (some 63)), .inr (.inr (some 60))], (zs_97 L), (zc_50 C))) (zf_of zcd_9 rfl) rfl).trans ?_
  refine (zR_step (o := (28, [some (.inr (.inr (some 60))), some (.inr (.inr (some 9)))], [], (zs_98 L), (zc_50 C))) (zf_of zcd_9 rfl) rfl).trans ?_
  refine (zR_step (o := (29, [some (.inr (.inr (some 60))), some (.inr (.inr (some 9)))], [.inr (.inr (some 60))], (zs_98 L), (zc_50 C))) (zf_of zcd_9 rfl) rfl).trans ?_
  refine (zR_step (o := (30, [some (.inr (.inr (some 60))), some (.inr (.inr (some 9)))], [.inr (.inr (some 9)), .inr (.inr (some 60))], (zs_98 L), (zc_50 C))) (zf_of zcd_9 rfl) rfl).trans ?_
  refine (zR_step (o := (33, [some (.inr (.inr (some 60))), some (.inr (.inr (some 9)))], [], (zs_99 L), (zc_50 C))) (zf_of zcd_9 rfl) rfl).trans ?_
  exact zR_ret (zf_of zcd_9 rfl) rfl rfl
set_option maxRecDepth 100000 in
theorem zk_14 {d L : Nat} {C : ZC} : zR (d + 1) 9 0 [some (.inr (.inr (some 64))), some (.inr (.inr (some 9)))] [] (zs_101 L) (zc_51 C) = some (none, (zs_108 L), (zc_54 C)) := by
  refine (zR_step (o := (1, [some (.inr (.inr (some 64))), some (.inr (.inr (some 9)))], [.inr (.inr (some 64))], (zs_101 L), (zc_51 C))) (zf_of zcd_9 rfl) rfl).trans ?_
  refine (zR_nat (o := (4, [some (.inr (.inr (some 64))), some (.inr (.inr (some 9)))], [], (zs_101 L), (zc_51 C))) (zf_of zcd_9 rfl) rfl rfl (by decide) rfl).trans ?_
  refine (zR_step (o := (5, [some (.inr (.inr (some 64))), some (.inr (.inr (some 9)))], [.inr (.inr (some 64))], (zs_101 L), (zc_51 C))) (zf_of zcd_9 rfl) rfl).trans ?_
  refine (zR_step (o := (7, [some (.inr (.inr (some 64))), some (.inr (.inr (some 9)))], [.inl 12, .inr (.inr (some 64))], (zs_101 L), (zc_51 C))) (zf_of zcd_9 rfl) rfl).trans ?_
  refine (zR_step (o := (9, [some (.inr (.inr (some 64))), some (.inr (.inr (some 9)))], [.inr (.inr (some 65)), .inr (.inr (some 64))], (zs_102 L), (zc_52 C))) (zf_of zcd_9 rfl) rfl).trans ?_
  refine (zR_step (o := (12, [some (.inr (.inr (some 64))), some (.inr (.inr (some 9)))], [], (zs_103 L), (zc_52 C))) (zf_of zcd_9 rfl) rfl).trans ?_
  refine (zR_step (o := (13, [some (.inr (.inr (some 64))), some (.inr (.inr (some 9)))], [.inr (.inr (some 64))], (zs_103 L), (zc_52 C))) (zf_of zcd_9 rfl) rfl).trans ?_
  refine (zR_step (o := (15, [some (.inr (.inr (some 64))), some (.inr (.inr (some 9)))], [.inl 12, .inr (.inr (some 64))], (zs_103 L), (zc_52 C))) (zf_of zcd_9 rfl) rfl).trans ?_
  refine (zR_step (o := (17, [some (.inr (.inr (some 64))), some (.inr (.inr (some 9)))], [.inr (.inr (some 66)), .inr (.inr (some 64))], (zs_104 L), (zc_53 C))) (zf_of zcd_9 rfl) rfl).trans ?_
  refine (zR_step (o := (20, [some (.inr (.inr (some 64))), some (.inr (.inr (some 9)))], [], (zs_105 L), (zc_53 C))) (zf_of zcd_9 rfl) rfl).trans ?_
  refine (zR_step (o := (21, [some (.inr (.inr (some 64))), some (.inr (.inr (some 9)))], [.inr (.inr (some 64))], (zs_105 L), (zc_53 C))) (zf_of zcd_9 rfl) rfl).trans ?_
  refine (zR_step (o := (23, [some (.inr (.inr (some 64))), some (.inr (.inr (some 9)))], [.inl 8, .inr (.inr (some 64))], (zs_105 L), (zc_53 C))) (zf_of zcd_9 rfl) rfl).trans ?_
  refine (zR_step (o := (25, [some (.inr (.inr (some 64))), some (.inr (.inr (some 9)))], [.inr (.inr (some 67)), .inr (.inr (some 64))], (zs_106 L), (zc_54 C))) (zf_of zcd_9 rfl) rfl).trans ?_
  refine (zR_step (o := (28, [some (.inr (.inr (some 64))), some (.inr (.inr (some 9)))], [], (zs_107 L), (zc_54 C))) (zf_of zcd_9 rfl) rfl).trans ?_
  refine (zR_step (o := (29, [some (.inr (.inr (some 64))), some (.inr (.inr (some 9)))], [.inr (.inr (some 64))], (zs_107 L), (zc_54 C))) (zf_of zcd_9 rfl) rfl).trans ?_
  refine (zR_step (o := (30, [some (.inr (.inr (some 64))), some (.inr (.inr (some 9)))], [.inr (.inr (some 9)), .inr (.inr (some 64))], (zs_107 L), (zc_54 C))) (zf_of zcd_9 rfl) rfl).trans ?_
  refine (zR_step (o := (33, [some (.inr (.inr (some 64))), some (.inr (.inr (some 9)))], [], (zs_108 L), (zc_54 C))) (zf_of zcd_9 rfl) rfl).trans ?_
  exact zR_ret (zf_of zcd_9 rfl) rfl rfl
set_option maxRecDepth 100000 in
theorem zk_15 {d L : Nat} {C : ZC} : zR (d + 1) 9 0 [some (.inr (.inr (some 68))), some (.inr (.inr (some 9)))] [] (zs_110 L) (zc_55 C) = some (none, (zs_117 L), (zc_58 C)) := by
  refine (zR_step (o := (1, [some (.inr (.inr (some 68))), some (.inr (.inr (some 9)))], [.inr (.inr (some 68))], (zs_110 L), (zc_55 C))) (zf_of zcd_9 rfl) rfl).trans ?_
  refine (zR_nat (o := (4, [some (.inr (.inr (some 68))), some (.inr (.inr (some 9)))], [], (zs_110 L), (zc_55 C))) (zf_of zcd_9 rfl) rfl rfl (by decide) rfl).trans ?_
  refine (zR_step (o := (5, [some (.inr (.inr (some 68))), some (.inr (.inr (some 9)))], [.inr (.inr (some 68))], (zs_110 L), (zc_55 C))) (zf_of zcd_9 rfl) rfl).trans ?_
  refine (zR_step (o := (7, [some (.inr (.inr (some 68))), some (.inr (.inr (some 9)))], [.inl 12, .inr (.inr (some 68))], (zs_110 L), (zc_55 C))) (zf_of zcd_9 rfl) rfl).trans ?_
  refine (zR_step (o := (9, [some (.inr (.inr (some 68))), some (.inr (.inr (some 9)))], [.inr (.inr (some 69)), .inr (.inr (some 68))], (zs_111 L), (zc_56 C))) (zf_of zcd_9 rfl) rfl).trans ?_
  refine (zR_step (o := (12, [some (.inr (.inr (some 68))), some (.inr (.inr (some 9)))], [], (zs_112 L), (zc_56 C))) (zf_of zcd_9 rfl) rfl).trans ?_
  refine (zR_step (o := (13, [some (.inr (.inr (some 68))), some (.inr (.inr (some 9)))], [.inr (.inr (some 68))], (zs_112 L), (zc_56 C))) (zf_of zcd_9 rfl) rfl).trans ?_
  refine (zR_step (o := (15, [some (.inr (.inr (some 68))), some (.inr (.inr (some 9)))], [.inl 12, .inr (.inr (some 68))], (zs_112 L), (zc_56 C))) (zf_of zcd_9 rfl) rfl).trans ?_
  refine (zR_step (o := (17, [some (.inr (.inr (some 68))), some (.inr (.inr (some 9)))], [.inr (.inr (some 70)), .inr (.inr (some 68))], (zs_113 L), (zc_57 C))) (zf_of zcd_9 rfl) rfl).trans ?_
  refine (zR_step (o := (20, [some (.inr (.inr (some 68))), some (.inr (.inr (some 9)))], [], (zs_114 L), (zc_57 C))) (zf_of zcd_9 rfl) rfl).trans ?_
  refine (zR_step (o := (21, [some (.inr (.inr (some 68))), some (.inr (.inr (some 9)))], [.inr (.inr (some 68))], (zs_114 L), (zc_57 C))) (zf_of zcd_9 rfl) rfl).trans ?_
  refine (zR_step (o := (23, [some (.inr (.inr (some 68))), some (.inr (.inr (some 9)))], [.inl 8, .inr (.inr (some 68))], (zs_114 L), (zc_57 C))) (zf_of zcd_9 rfl) rfl).trans ?_
  refine (zR_step (o := (25, [some (.inr (.inr (some 68))), some (.inr (.inr (some 9)))], [.inr (.inr (some 71)), .inr (.inr (some 68))], (zs_115 L), (zc_58 C))) (zf_of zcd_9 rfl) rfl).trans ?_
  refine (zR_step (o := (28, [some (.inr (.inr (some 68))), some (.inr (.inr (some 9)))], [], (zs_116 L), (zc_58 C))) (zf_of zcd_9 rfl) rfl).trans ?_
  refine (zR_step (o := (29, [some (.inr (.inr (some 68))), some (.inr (.inr (some 9)))], [.inr (.inr (some 68))], (zs_116 L), (zc_58 C))) (zf_of zcd_9 rfl) rfl).trans ?_
  refine (zR_step (o := (30, [some (.inr (.inr (some 68))), some (.inr (.inr (some 9)))], [.inr (.inr (some 9)), .inr (.inr (some 68))], (zs_116 L), (zc_58 C))) (zf_of zcd_9 rfl) rfl).trans ?_
  refine (zR_step (o := (33, [some (.inr (.inr (some 68))), some (.inr (.inr (some 9)))], [], (zs_117 L), (zc_58 C))) (zf_of zcd_9 rfl) rfl).trans ?_
  exact zR_ret (zf_of zcd_9 rfl) rfl rfl
set_option maxRecDepth 100000 in
theorem zk_16 {d L : Nat} {C : ZC} : zR (d + 6) 58 0 [some (.inr (.inr (some 1))), none] [] (zs_1 L) (zc_1 C) = zB (zR (d + 5) 59 0 [some (.inr (.inr (some 1))), some (.inl 0), none] [] (zs_118 L) (zc_58 C)) (fun v S1 C1 => zR (d + 6) 58 147 [some (.inr (.inr (some 1))), some (.inl 4)] (v.toList ++ []) S1 C1) := by
  refine (zR_step (o := (1, [some (.inr (.inr (some 1))), none], [.inr (.inr (some 1))], (zs_1 L), (zc_1 C))) (zf_of zcd_58 rfl) rfl).trans ?_
  refine (zR_nat (o := (4, [some (.inr (.inr (some 1))), none], [], (zs_1 L), (zc_1 C))) (zf_of zcd_58 rfl) rfl rfl (by decide) rfl).trans ?_
  refine (zR_step (o := (5, [some (.inr (.inr (some 1))), none], [.inr (.inr (some 1))], (zs_1 L), (zc_1 C))) (zf_of zcd_58 rfl) rfl).trans ?_
  refine (zR_step (o := (6, [some (.inr (.inr (some 1))), none], [.inl 5, .inr (.inr (some 1))], (zs_1 L), (zc_1 C))) (zf_of zcd_58 rfl) rfl).trans ?_
  refine (zR_step (o := (8, [some (.inr (.inr (some 1))), none], [.inl 60, .inl 5, .inr (.inr (some 1))], (zs_1 L), (zc_1 C))) (zf_of zcd_58 rfl) rfl).trans ?_
  refine (zR_step (o := (12, [some (.inr (.inr (some 1))), none], [.inr (.inr (some 2)), .inr (.inr (some 1))], (zs_2 L), (zc_2 C))) (zf_of zcd_58 rfl) rfl).trans ?_
  refine (zR_step (o := (15, [some (.inr (.inr (some 1))), none], [], (zs_3 L), (zc_2 C))) (zf_of zcd_58 rfl) rfl).trans ?_
  refine (zR_step (o := (16, [some (.inr (.inr (some 1))), none], [.inr (.inr (some 1))], (zs_3 L), (zc_2 C))) (zf_of zcd_58 rfl) rfl).trans ?_
  refine (zR_step (o := (17, [some (.inr (.inr (some 1))), none], [.inl 5, .inr (.inr (some 1))], (zs_3 L), (zc_2 C))) (zf_of zcd_58 rfl) rfl).trans ?_
  refine (zR_step (o := (19, [some (.inr (.inr (some 1))), none], [.inr (.inr (some 8)), .inr (.inr (some 1))], (zs_4 L), (zc_3 C))) (zf_of zcd_58 rfl) rfl).trans ?_
  refine (zR_step (o := (22, [some (.inr (.inr (some 1))), none], [], (zs_5 L), (zc_3 C))) (zf_of zcd_58 rfl) rfl).trans ?_
  refine (zR_step (o := (23, [some (.inr (.inr (some 1))), none], [.inr (.inr (some 1))], (zs_5 L), (zc_3 C))) (zf_of zcd_58 rfl) rfl).trans ?_
  refine (zR_step (o := (26, [some (.inr (.inr (some 1))), none], [.inr (.inr (some 9)), .inr (.inr (some 1))], (zs_6 L), (zc_4 C))) (zf_of zcd_58 rfl) rfl).trans ?_
  refine (zR_step (o := (27, [some (.inr (.inr (some 1))), none], [.inr (.inr (some 9)), .inr (.inr (some 9)), .inr (.inr (some 1))], (zs_6 L), (zc_4 C))) (zf_of zcd_58 rfl) rfl).trans ?_
  refine (zR_call2 (ls0 := [some (.inr (.inr (some 9)))]) (zf_of zcd_58 rfl) rfl rfl (by decide) (zcall_vs (k := 5) (a := 9) (as := []) (r := [.inr (.inr (some 9)), .inr (.inr (some 1))]) rfl rfl (Nat.le_of_ble_eq_true rfl) rfl (by rw [zml_2]; exact Nat.le_of_ble_eq_true rfl) (Nat.le_of_ble_eq_true rfl) ⟨Nat.le_of_ble_eq_true rfl, rfl⟩ rfl (by decide)) (by rw [zml_2] <;> rfl)).trans ?_
  refine (congrArg (fun q => zB q _) (zk_2 (d := d + 4))).trans ?_
  show zR (d + 6) 58 30 [some (.inr (.inr (some 1))), none] [.inr (.inr (some 9)), .inr (.inr (some 1))] (zs_12 L) (zc_7 C) = _
  refine (zR_step (o := (33, [some (.inr (.inr (some 1))), none], [], (zs_13 L), (zc_7 C))) (zf_of zcd_58 rfl) rfl).trans ?_
  refine (zR_step (o := (34, [some (.inr (.inr (some 1))), none], [.inr (.inr (some 1))], (zs_13 L), (zc_7 C))) (zf_of zcd_58 rfl) rfl).trans ?_
  refine (zR_step (o := (35, [some (.inr (.inr (some 1))), none], [.inl 4, .inr (.inr (some 1))], (zs_13 L), (zc_7 C))) (zf_of zcd_58 rfl) rfl).trans ?_
  refine (zR_step (o := (38, [some (.inr (.inr (some 1))), none], [.inr (.inr (some 13)), .inr (.inr (some 1))], (zs_14 L), (zc_8 C))) (zf_of zcd_58 rfl) rfl).trans ?_
  refine (zR_step (o := (41, [some (.inr (.inr (some 1))), none], [], (zs_15 L), (zc_8 C))) (zf_of zcd_58 rfl) rfl).trans ?_
  refine (zR_step (o := (42, [some (.inr (.inr (some 1))), none], [.inr (.inr (some 1))], (zs_15 L), (zc_8 C))) (zf_of zcd_58 rfl) rfl).trans ?_
  refine (zR_step (o := (45, [some (.inr (.inr (some 1))), none], [.inr (.inr (some 14)), .inr (.inr (some 1))], (zs_16 L), (zc_9 C))) (zf_of zcd_58 rfl) rfl).trans ?_
  refine (zR_step (o := (46, [some (.inr (.inr (some 1))), none], [.inr (.inr (some 14)), .inr (.inr (some 14)), .inr (.inr (some 1))], (zs_16 L), (zc_9 C))) (zf_of zcd_58 rfl) rfl).trans ?_
  refine (zR_step (o := (47, [some (.inr (.inr (some 1))), none], [.inr (.inr (some 1)), .inr (.inr (some 14)), .inr (.inr (some 14)), .inr (.inr (some 1))], (zs_16 L), (zc_9 C))) (zf_of zcd_58 rfl) rfl).trans ?_
  refine (zR_step (o := (50, [some (.inr (.inr (some 1))), none], [.inr (.inr (some 9)), .inr (.inr (some 14)), .inr (.inr (some 14)), .inr (.inr (some 1))], (zs_16 L), (zc_9 C))) (zf_of zcd_58 rfl) rfl).trans ?_
  refine (zR_call2 (ls0 := [some (.inr (.inr (some 14))), some (.inr (.inr (some 9)))]) (zf_of zcd_58 rfl) rfl rfl (by decide) (zcall_vs (k := 4) (a := 14) (as := [.inr (.inr (some 9))]) (r := [.inr (.inr (some 14)), .inr (.inr (some 1))]) rfl rfl (Nat.le_of_ble_eq_true rfl) rfl (by rw [zml_9]; exact Nat.le_of_ble_eq_true rfl) (Nat.le_of_ble_eq_true rfl) ⟨Nat.le_of_ble_eq_true rfl, rfl⟩ rfl (by decide)) (by rw [zml_9] <;> rfl)).trans ?_
  refine (congrArg (fun q => zB q _) (zk_3 (d := d + 4))).trans ?_
  show zR (d + 6) 58 53 [some (.inr (.inr (some 1))), none] [.inr (.inr (some 14)), .inr (.inr (some 1))] (zs_23 L) (zc_12 C) = _
  refine (zR_step (o := (56, [some (.inr (.inr (some 1))), none], [], (zs_24 L), (zc_12 C))) (zf_of zcd_58 rfl) rfl).trans ?_
  refine (zR_step (o := (57, [some (.inr (.inr (some 1))), none], [.inr (.inr (some 1))], (zs_24 L), (zc_12 C))) (zf_of zcd_58 rfl) rfl).trans ?_
  refine (zR_step (o := (60, [some (.inr (.inr (some 1))), none], [.inr (.inr (some 18)), .inr (.inr (some 1))], (zs_25 L), (zc_13 C))) (zf_of zcd_58 rfl) rfl).trans ?_
  refine (zR_step (o := (61, [some (.inr (.inr (some 1))), none], [.inr (.inr (some 18)), .inr (.inr (some 18)), .inr (.inr (some 1))], (zs_25 L), (zc_13 C))) (zf_of zcd_58 rfl) rfl).trans ?_
  refine (zR_step (o := (62, [some (.inr (.inr (some 1))), none], [.inr (.inr (some 1)), .inr (.inr (some 18)), .inr (.inr (some 18)), .inr (.inr (some 1))], (zs_25 L), (zc_13 C))) (zf_of zcd_58 rfl) rfl).trans ?_
  refine (zR_step (o := (65, [some (.inr (.inr (some 1))), none], [.inr (.inr (some 9)), .inr (.inr (some 18)), .inr (.inr (some 18)), .inr (.inr (some 1))], (zs_25 L), (zc_13 C))) (zf_of zcd_58 rfl) rfl).trans ?_
  refine (zR_call2 (ls0 := [some (.inr (.inr (some 18))), some (.inr (.inr (some 9)))]) (zf_of zcd_58 rfl) rfl rfl (by decide) (zcall_vs (k := 1) (a := 18) (as := [.inr (.inr (some 9))]) (r := [.inr (.inr (some 18)), .inr (.inr (some 1))]) rfl rfl (Nat.le_of_ble_eq_true rfl) rfl (by rw [zml_23]; exact Nat.le_of_ble_eq_true rfl) (Nat.le_of_ble_eq_true rfl) ⟨Nat.le_of_ble_eq_true rfl, rfl⟩ rfl (by decide)) (by rw [zml_23] <;> rfl)).trans ?_
  refine (congrArg (fun q => zB q _) (zk_5 (d := d + 3))).trans ?_
  show zR (d + 6) 58 68 [some (.inr (.inr (some 1))), none] [.inr (.inr (some 18)), .inr (.inr (some 1))] (zs_43 L) (zc_21 C) = _
  refine (zR_step (o := (71, [some (.inr (.inr (some 1))), none], [], (zs_44 L), (zc_21 C))) (zf_of zcd_58 rfl) rfl).trans ?_
  refine (zR_step (o := (72, [some (.inr (.inr (some 1))), none], [.inr (.inr (some 1))], (zs_44 L), (zc_21 C))) (zf_of zcd_58 rfl) rfl).trans ?_
  refine (zR_step (o := (75, [some (.inr (.inr (some 1))), none], [.inr (.inr (some 27)), .inr (.inr (some 1))], (zs_45 L), (zc_22 C))) (zf_of zcd_58 rfl) rfl).trans ?_
  refine (zR_step (o := (76, [some (.inr (.inr (some 1))), none], [.inr (.inr (some 27)), .inr (.inr (some 27)), .inr (.inr (some 1))], (zs_45 L), (zc_22 C))) (zf_of zcd_58 rfl) rfl).trans ?_
  refine (zR_step (o := (77, [some (.inr (.inr (some 1))), none], [.inr (.inr (some 1)), .inr (.inr (some 27)), .inr (.inr (some 27)), .inr (.inr (some 1))], (zs_45 L), (zc_22 C))) (zf_of zcd_58 rfl) rfl).trans ?_
  refine (zR_step (o := (80, [some (.inr (.inr (some 1))), none], [.inr (.inr (some 9)), .inr (.inr (some 27)), .inr (.inr (some 27)), .inr (.inr (some 1))], (zs_45 L), (zc_22 C))) (zf_of zcd_58 rfl) rfl).trans ?_
  refine (zR_call2 (ls0 := [some (.inr (.inr (some 27))), some (.inr (.inr (some 9)))]) (zf_of zcd_58 rfl) rfl rfl (by decide) (zcall_vs (k := 3) (a := 27) (as := [.inr (.inr (some 9))]) (r := [.inr (.inr (some 27)), .inr (.inr (some 1))]) rfl rfl (Nat.le_of_ble_eq_true rfl) rfl (by rw [zml_34]; exact Nat.le_of_ble_eq_true rfl) (Nat.le_of_ble_eq_true rfl) ⟨Nat.le_of_ble_eq_true rfl, rfl⟩ rfl (by decide)) (by rw [zml_34] <;> rfl)).trans ?_
  refine (congrArg (fun q => zB q _) (zk_7 (d := d + 3))).trans ?_
  show zR (d + 6) 58 83 [some (.inr (.inr (some 1))), none] [.inr (.inr (some 27)), .inr (.inr (some 1))] (zs_59 L) (zc_28 C) = _
  refine (zR_step (o := (86, [some (.inr (.inr (some 1))), none], [], (zs_60 L), (zc_28 C))) (zf_of zcd_58 rfl) rfl).trans ?_
  refine (zR_step (o := (87, [some (.inr (.inr (some 1))), none], [.inr (.inr (some 1))], (zs_60 L), (zc_28 C))) (zf_of zcd_58 rfl) rfl).trans ?_
  refine (zR_step (o := (90, [some (.inr (.inr (some 1))), none], [.inr (.inr (some 34)), .inr (.inr (some 1))], (zs_61 L), (zc_29 C))) (zf_of zcd_58 rfl) rfl).trans ?_
  refine (zR_step (o := (91, [some (.inr (.inr (some 1))), none], [.inr (.inr (some 34)), .inr (.inr (some 34)), .inr (.inr (some 1))], (zs_61 L), (zc_29 C))) (zf_of zcd_58 rfl) rfl).trans ?_
  refine (zR_step (o := (92, [some (.inr (.inr (some 1))), none], [.inr (.inr (some 1)), .inr (.inr (some 34)), .inr (.inr (some 34)), .inr (.inr (some 1))], (zs_61 L), (zc_29 C))) (zf_of zcd_58 rfl) rfl).trans ?_
  refine (zR_step (o := (95, [some (.inr (.inr (some 1))), none], [.inr (.inr (some 9)), .inr (.inr (some 34)), .inr (.inr (some 34)), .inr (.inr (some 1))], (zs_61 L), (zc_29 C))) (zf_of zcd_58 rfl) rfl).trans ?_
  refine (zR_call2 (ls0 := [some (.inr (.inr (some 34))), some (.inr (.inr (some 9)))]) (zf_of zcd_58 rfl) rfl rfl (by decide) (zcall_vs (k := 0) (a := 34) (as := [.inr (.inr (some 9))]) (r := [.inr (.inr (some 34)), .inr (.inr (some 1))]) rfl rfl (Nat.le_of_ble_eq_true rfl) rfl (by rw [zml_41]; exact Nat.le_of_ble_eq_true rfl) (Nat.le_of_ble_eq_true rfl) ⟨Nat.le_of_ble_eq_true rfl, rfl⟩ rfl (by decide)) (by rw [zml_41] <;> rfl)).trans ?_
  refine (congrArg (fun q => zB q _) (zk_9 (d := d + 3))).trans ?_
  show zR (d + 6) 58 98 [some (.inr (.inr (some 1))), none] [.inr (.inr (some 34)), .inr (.inr (some 1))] (zs_73 L) (zc_34 C) = _
  refine (zR_step (o := (101, [some (.inr (.inr (some 1))), none], [], (zs_74 L), (zc_34 C))) (zf_of zcd_58 rfl) rfl).trans ?_
  refine (zR_step (o := (102, [some (.inr (.inr (some 1))), none], [.inr (.inr (some 1))], (zs_74 L), (zc_34 C))) (zf_of zcd_58 rfl) rfl).trans ?_
  refine (zR_step (o := (105, [some (.inr (.inr (some 1))), none], [.inr (.inr (some 48)), .inr (.inr (some 1))], (zs_75 L), (zc_35 C))) (zf_of zcd_58 rfl) rfl).trans ?_
  refine (zR_step (o := (106, [some (.inr (.inr (some 1))), none], [.inr (.inr (some 48)), .inr (.inr (some 48)), .inr (.inr (some 1))], (zs_75 L), (zc_35 C))) (zf_of zcd_58 rfl) rfl).trans ?_
  refine (zR_call2 (ls0 := [some (.inr (.inr (some 48)))]) (zf_of zcd_58 rfl) rfl rfl (by decide) (zcall_vs (k := 2) (a := 48) (as := []) (r := [.inr (.inr (some 48)), .inr (.inr (some 1))]) rfl rfl (Nat.le_of_ble_eq_true rfl) rfl (by rw [zml_49]; exact Nat.le_of_ble_eq_true rfl) (Nat.le_of_ble_eq_true rfl) ⟨Nat.le_of_ble_eq_true rfl, rfl⟩ rfl (by decide)) (by rw [zml_49] <;> rfl)).trans ?_
  refine (congrArg (fun q => zB q _) (zk_11 (d := d + 3))).trans ?_
  show zR (d + 6) 58 109 [some (.inr (.inr (some 1))), none] [.inr (.inr (some 48)), .inr (.inr (some 1))] (zs_81 L) (zc_42 C) = _
  refine (zR_step (o := (112, [some (.inr (.inr (some 1))), none], [], (zs_82 L), (zc_42 C))) (zf_of zcd_58 rfl) rfl).trans ?_
  refine (zR_step (o := (113, [some (.inr (.inr (some 1))), none], [.inl 0], (zs_82 L), (zc_42 C))) (zf_of zcd_58 rfl) rfl).trans ?_
  refine (zR_step (o := (114, [some (.inr (.inr (some 1))), some (.inl 0)], [], (zs_82 L), (zc_42 C))) (zf_of zcd_58 rfl) rfl).trans ?_
  refine (zR_step (o := (115, [some (.inr (.inr (some 1))), some (.inl 0)], [.inl 0], (zs_82 L), (zc_42 C))) (zf_of zcd_58 rfl) rfl).trans ?_
  refine (zR_step (o := (116, [some (.inr (.inr (some 1))), some (.inl 0)], [.inl 4, .inl 0], (zs_82 L), (zc_42 C))) (zf_of zcd_58 rfl) rfl).trans ?_
  refine (zR_step (o := (119, [some (.inr (.inr (some 1))), some (.inl 0)], [], (zs_82 L), (zc_42 C))) (zf_of zcd_58 rfl) rfl).trans ?_
  refine (zR_step (o := (120, [some (.inr (.inr (some 1))), some (.inl 0)], [.inr (.inr (some 1))], (zs_82 L), (zc_42 C))) (zf_of zcd_58 rfl) rfl).trans ?_
  refine (zR_step (o := (123, [some (.inr (.inr (some 1))), some (.inl 0)], [.inr (.inr (some 13))], (zs_82 L), (zc_42 C))) (zf_of zcd_58 rfl) rfl).trans ?_
  refine (zR_step (o := (124, [some (.inr (.inr (some 1))), some (.inl 0)], [.inl 0, .inr (.inr (some 13))], (zs_82 L), (zc_42 C))) (zf_of zcd_58 rfl) rfl).trans ?_
  refine (zR_step (o := (127, [some (.inr (.inr (some 1))), some (.inl 0)], [.inr (.inr (some 56)), .inl 0, .inr (.inr (some 13))], (zs_83 L), (zc_43 C))) (zf_of zcd_58 rfl) rfl).trans ?_
  refine (zR_step (o := (128, [some (.inr (.inr (some 1))), some (.inl 0)], [.inr (.inr (some 56)), .inr (.inr (some 56)), .inl 0, .inr (.inr (some 13))], (zs_83 L), (zc_43 C))) (zf_of zcd_58 rfl) rfl).trans ?_
  refine (zR_step (o := (129, [some (.inr (.inr (some 1))), some (.inl 0)], [.inr (.inr (some 1)), .inr (.inr (some 56)), .inr (.inr (some 56)), .inl 0, .inr (.inr (some 13))], (zs_83 L), (zc_43 C))) (zf_of zcd_58 rfl) rfl).trans ?_
  refine (zR_step (o := (132, [some (.inr (.inr (some 1))), some (.inl 0)], [.inr (.inr (some 9)), .inr (.inr (some 56)), .inr (.inr (some 56)), .inl 0, .inr (.inr (some 13))], (zs_83 L), (zc_43 C))) (zf_of zcd_58 rfl) rfl).trans ?_
  refine (zR_call2 (ls0 := [some (.inr (.inr (some 56))), some (.inr (.inr (some 9)))]) (zf_of zcd_58 rfl) rfl rfl (by decide) (zcall_vs (k := 4) (a := 56) (as := [.inr (.inr (some 9))]) (r := [.inr (.inr (some 56)), .inl 0, .inr (.inr (some 13))]) rfl rfl (Nat.le_of_ble_eq_true rfl) rfl (by rw [zml_9]; exact Nat.le_of_ble_eq_true rfl) (Nat.le_of_ble_eq_true rfl) ⟨Nat.le_of_ble_eq_true rfl, rfl⟩ rfl (by decide)) (by rw [zml_9] <;> rfl)).trans ?_
  refine (congrArg (fun q => zB q _) (zk_12 (d := d + 4))).trans ?_
  show zR (d + 6) 58 135 [some (.inr (.inr (some 1))), some (.inl 0)] [.inr (.inr (some 56)), .inl 0, .inr (.inr (some 13))] (zs_90 L) (zc_46 C) = _
  refine (zR_step (o := (136, [some (.inr (.inr (some 1))), some (.inl 0)], [], (zs_91 L), (zc_46 C))) (zf_of zcd_58 rfl) rfl).trans ?_
  refine (zR_step (o := (139, [some (.inr (.inr (some 1))), some (.inl 1)], [], (zs_91 L), (zc_46 C))) (zf_of zcd_58 rfl) rfl).trans ?_
  refine (zR_step (o := (114, [some (.inr (.inr (some 1))), some (.inl 1)], [], (zs_91 L), (zc_46 C))) (zf_of zcd_58 rfl) rfl).trans ?_
  refine (zR_step (o := (115, [some (.inr (.inr (some 1))), some (.inl 1)], [.inl 1], (zs_91 L), (zc_46 C))) (zf_of zcd_58 rfl) rfl).trans ?_
  refine (zR_step (o := (116, [some (.inr (.inr (some 1))), some (.inl 1)], [.inl 4, .inl 1], (zs_91 L), (zc_46 C))) (zf_of zcd_58 rfl) rfl).trans ?_
  refine (zR_step (o := (119, [some (.inr (.inr (some 1))), some (.inl 1)], [], (zs_91 L), (zc_46 C))) (zf_of zcd_58 rfl) rfl).trans ?_
  refine (zR_step (o := (120, [some (.inr (.inr (some 1))), some (.inl 1)], [.inr (.inr (some 1))], (zs_91 L), (zc_46 C))) (zf_of zcd_58 rfl) rfl).trans ?_
  refine (zR_step (o := (123, [some (.inr (.inr (some 1))), some (.inl 1)], [.inr (.inr (some 13))], (zs_91 L), (zc_46 C))) (zf_of zcd_58 rfl) rfl).trans ?_
  refine (zR_step (o := (124, [some (.inr (.inr (some 1))), some (.inl 1)], [.inl 1, .inr (.inr (some 13))], (zs_91 L), (zc_46 C))) (zf_of zcd_58 rfl) rfl).trans ?_
  refine (zR_step (o := (127, [some (.inr (.inr (some 1))), some (.inl 1)], [.inr (.inr (some 60)), .inl 1, .inr (.inr (some 13))], (zs_92 L), (zc_47 C))) (zf_of zcd_58 rfl) rfl).trans ?_
  refine (zR_step (o := (128, [some (.inr (.inr (some 1))), some (.inl 1)], [.inr (.inr (some 60)), .inr (.inr (some 60)), .inl 1, .inr (.inr (some 13))], (zs_92 L), (zc_47 C))) (zf_of zcd_58 rfl) rfl).trans ?_
  refine (zR_step (o := (129, [some (.inr (.inr (some 1))), some (.inl 1)], [.inr (.inr (some 1)), .inr (.inr (some 60)), .inr (.inr (some 60)), .inl 1, .inr (.inr (some 13))], (zs_92 L), (zc_47 C))) (zf_of zcd_58 rfl) rfl).trans ?_
  refine (zR_step (o := (132, [some (.inr (.inr (some 1))), some (.inl 1)], [.inr (.inr (some 9)), .inr (.inr (some 60)), .inr (.inr (some 60)), .inl 1, .inr (.inr (some 13))], (zs_92 L), (zc_47 C))) (zf_of zcd_58 rfl) rfl).trans ?_
  refine (zR_call2 (ls0 := [some (.inr (.inr (some 60))), some (.inr (.inr (some 9)))]) (zf_of zcd_58 rfl) rfl rfl (by decide) (zcall_vs (k := 4) (a := 60) (as := [.inr (.inr (some 9))]) (r := [.inr (.inr (some 60)), .inl 1, .inr (.inr (some 13))]) rfl rfl (Nat.le_of_ble_eq_true rfl) rfl (by rw [zml_9]; exact Nat.le_of_ble_eq_true rfl) (Nat.le_of_ble_eq_true rfl) ⟨Nat.le_of_ble_eq_true rfl, rfl⟩ rfl (by decide)) (by rw [zml_9] <;> rfl)).trans ?_
  refine (congrArg (fun q => zB q _) (zk_13 (d := d + 4))).trans ?_
  show zR (d + 6) 58 135 [some (.inr (.inr (some 1))), some (.inl 1)] [.inr (.inr (some 60)), .inl 1, .inr (.inr (some 13))] (zs_99 L) (zc_50 C) = _
  refine (zR_step (o := (136, [some (.inr (.inr (some 1))), some (.inl 1)], [], (zs_100 L), (zc_50 C))) (zf_of zcd_58 rfl) rfl).trans ?_
  refine (zR_step (o := (139, [some (.inr (.inr (some 1))), some (.inl 2)], [], (zs_100 L), (zc_50 C))) (zf_of zcd_58 rfl) rfl).trans ?_
  refine (zR_step (o := (114, [some (.inr (.inr (some 1))), some (.inl 2)], [], (zs_100 L), (zc_50 C))) (zf_of zcd_58 rfl) rfl).trans ?_
  refine (zR_step (o := (115, [some (.inr (.inr (some 1))), some (.inl 2)], [.inl 2], (zs_100 L), (zc_50 C))) (zf_of zcd_58 rfl) rfl).trans ?_
  refine (zR_step (o := (116, [some (.inr (.inr (some 1))), some (.inl 2)], [.inl 4, .inl 2], (zs_100 L), (zc_50 C))) (zf_of zcd_58 rfl) rfl).trans ?_
  refine (zR_step (o := (119, [some (.inr (.inr (some 1))), some (.inl 2)], [], (zs_100 L), (zc_50 C))) (zf_of zcd_58 rfl) rfl).trans ?_
  refine (zR_step (o := (120, [some (.inr (.inr (some 1))), some (.inl 2)], [.inr (.inr (some 1))], (zs_100 L), (zc_50 C))) (zf_of zcd_58 rfl) rfl).trans ?_
  refine (zR_step (o := (123, [some (.inr (.inr (some 1))), some (.inl 2)], [.inr (.inr (some 13))], (zs_100 L), (zc_50 C))) (zf_of zcd_58 rfl) rfl).trans ?_
  refine (zR_step (o := (124, [some (.inr (.inr (some 1))), some (.inl 2)], [.inl 2, .inr (.inr (some 13))], (zs_100 L), (zc_50 C))) (zf_of zcd_58 rfl) rfl).trans ?_
  refine (zR_step (o := (127, [some (.inr (.inr (some 1))), some (.inl 2)], [.inr (.inr (some 64)), .inl 2, .inr (.inr (some 13))], (zs_101 L), (zc_51 C))) (zf_of zcd_58 rfl) rfl).trans ?_
  refine (zR_step (o := (128, [some (.inr (.inr (some 1))), some (.inl 2)], [.inr (.inr (some 64)), .inr (.inr (some 64)), .inl 2, .inr (.inr (some 13))], (zs_101 L), (zc_51 C))) (zf_of zcd_58 rfl) rfl).trans ?_
  refine (zR_step (o := (129, [some (.inr (.inr (some 1))), some (.inl 2)], [.inr (.inr (some 1)), .inr (.inr (some 64)), .inr (.inr (some 64)), .inl 2, .inr (.inr (some 13))], (zs_101 L), (zc_51 C))) (zf_of zcd_58 rfl) rfl).trans ?_
  refine (zR_step (o := (132, [some (.inr (.inr (some 1))), some (.inl 2)], [.inr (.inr (some 9)), .inr (.inr (some 64)), .inr (.inr (some 64)), .inl 2, .inr (.inr (some 13))], (zs_101 L), (zc_51 C))) (zf_of zcd_58 rfl) rfl).trans ?_
  refine (zR_call2 (ls0 := [some (.inr (.inr (some 64))), some (.inr (.inr (some 9)))]) (zf_of zcd_58 rfl) rfl rfl (by decide) (zcall_vs (k := 4) (a := 64) (as := [.inr (.inr (some 9))]) (r := [.inr (.inr (some 64)), .inl 2, .inr (.inr (some 13))]) rfl rfl (Nat.le_of_ble_eq_true rfl) rfl (by rw [zml_9]; exact Nat.le_of_ble_eq_true rfl) (Nat.le_of_ble_eq_true rfl) ⟨Nat.le_of_ble_eq_true rfl, rfl⟩ rfl (by decide)) (by rw [zml_9] <;> rfl)).trans ?_
  refine (congrArg (fun q => zB q _) (zk_14 (d := d + 4))).trans ?_
  show zR (d + 6) 58 135 [some (.inr (.inr (some 1))), some (.inl 2)] [.inr (.inr (some 64)), .inl 2, .inr (.inr (some 13))] (zs_108 L) (zc_54 C) = _
  refine (zR_step (o := (136, [some (.inr (.inr (some 1))), some (.inl 2)], [], (zs_109 L), (zc_54 C))) (zf_of zcd_58 rfl) rfl).trans ?_
  refine (zR_step (o := (139, [some (.inr (.inr (some 1))), some (.inl 3)], [], (zs_109 L), (zc_54 C))) (zf_of zcd_58 rfl) rfl).trans ?_
  refine (zR_step (o := (114, [some (.inr (.inr (some 1))), some (.inl 3)], [], (zs_109 L), (zc_54 C))) (zf_of zcd_58 rfl) rfl).trans ?_
  refine (zR_step (o := (115, [some (.inr (.inr (some 1))), some (.inl 3)], [.inl 3], (zs_109 L), (zc_54 C))) (zf_of zcd_58 rfl) rfl).trans ?_
  refine (zR_step (o := (116, [some (.inr (.inr (some 1))), some (.inl 3)], [.inl 4, .inl 3], (zs_109 L), (zc_54 C))) (zf_of zcd_58 rfl) rfl).trans ?_
  refine (zR_step (o := (119, [some (.inr (.inr (some 1))), some (.inl 3)], [], (zs_109 L), (zc_54 C))) (zf_of zcd_58 rfl) rfl).trans ?_
  refine (zR_step (o := (120, [some (.inr (.inr (some 1))), some (.inl 3)], [.inr (.inr (some 1))], (zs_109 L), (zc_54 C))) (zf_of zcd_58 rfl) rfl).trans ?_
  refine (zR_step (o := (123, [some (.inr (.inr (some 1))), some (.inl 3)], [.inr (.inr (some 13))], (zs_109 L), (zc_54 C))) (zf_of zcd_58 rfl) rfl).trans ?_
  refine (zR_step (o := (124, [some (.inr (.inr (some 1))), some (.inl 3)], [.inl 3, .inr (.inr (some 13))], (zs_109 L), (zc_54 C))) (zf_of zcd_58 rfl) rfl).trans ?_
  refine (zR_step (o := (127, [some (.inr (.inr (some 1))), some (.inl 3)], [.inr (.inr (some 68)), .inl 3, .inr (.inr (some 13))], (zs_110 L), (zc_55 C))) (zf_of zcd_58 rfl) rfl).trans ?_
  refine (zR_step (o := (128, [some (.inr (.inr (some 1))), some (.inl 3)], [.inr (.inr (some 68)), .inr (.inr (some 68)), .inl 3, .inr (.inr (some 13))], (zs_110 L), (zc_55 C))) (zf_of zcd_58 rfl) rfl).trans ?_
  refine (zR_step (o := (129, [some (.inr (.inr (some 1))), some (.inl 3)], [.inr (.inr (some 1)), .inr (.inr (some 68)), .inr (.inr (some 68)), .inl 3, .inr (.inr (some 13))], (zs_110 L), (zc_55 C))) (zf_of zcd_58 rfl) rfl).trans ?_
  refine (zR_step (o := (132, [some (.inr (.inr (some 1))), some (.inl 3)], [.inr (.inr (some 9)), .inr (.inr (some 68)), .inr (.inr (some 68)), .inl 3, .inr (.inr (some 13))], (zs_110 L), (zc_55 C))) (zf_of zcd_58 rfl) rfl).trans ?_
  refine (zR_call2 (ls0 := [some (.inr (.inr (some 68))), some (.inr (.inr (some 9)))]) (zf_of zcd_58 rfl) rfl rfl (by decide) (zcall_vs (k := 4) (a := 68) (as := [.inr (.inr (some 9))]) (r := [.inr (.inr (some 68)), .inl 3, .inr (.inr (some 13))]) rfl rfl (Nat.le_of_ble_eq_true rfl) rfl (by rw [zml_9]; exact Nat.le_of_ble_eq_true rfl) (Nat.le_of_ble_eq_true rfl) ⟨Nat.le_of_ble_eq_true rfl, rfl⟩ rfl (by decide)) (by rw [zml_9] <;> rfl)).trans ?_
  refine (congrArg (fun q => zB q _) (zk_15 (d := d + 4))).trans ?_
  show zR (d + 6) 58 135 [some (.inr (.inr (some 1))), some (.inl 3)] [.inr (.inr (some 68)), .inl 3, .inr (.inr (some 13))] (zs_117 L) (zc_58 C) = _
  refine (zR_step (o := (136, [some (.inr (.inr (some 1))), some (.inl 3)], [], (zs_118 L), (zc_58 C))) (zf_of zcd_58 rfl) rfl).trans ?_
  refine (zR_step (o := (139, [some (.inr (.inr (some 1))), some (.inl 4)], [], (zs_118 L), (zc_58 C))) (zf_of zcd_58 rfl) rfl).trans ?_
  refine (zR_step (o := (114, [some (.inr (.inr (some 1))), some (.inl 4)], [], (zs_118 L), (zc_58 C))) (zf_of zcd_58 rfl) rfl).trans ?_
  refine (zR_step (o := (115, [some (.inr (.inr (some 1))), some (.inl 4)], [.inl 4], (zs_118 L), (zc_58 C))) (zf_of zcd_58 rfl) rfl).trans ?_
  refine (zR_step (o := (116, [some (.inr (.inr (some 1))), some (.inl 4)], [.inl 4, .inl 4], (zs_118 L), (zc_58 C))) (zf_of zcd_58 rfl) rfl).trans ?_
  refine (zR_step (o := (142, [some (.inr (.inr (some 1))), some (.inl 4)], [], (zs_118 L), (zc_58 C))) (zf_of zcd_58 rfl) rfl).trans ?_
  refine (zR_step (o := (143, [some (.inr (.inr (some 1))), some (.inl 4)], [.inr (.inr (some 1))], (zs_118 L), (zc_58 C))) (zf_of zcd_58 rfl) rfl).trans ?_
  refine (zR_step (o := (144, [some (.inr (.inr (some 1))), some (.inl 4)], [.inl 0, .inr (.inr (some 1))], (zs_118 L), (zc_58 C))) (zf_of zcd_58 rfl) rfl).trans ?_
  exact zR_call2 (zf_of zcd_58 rfl) rfl rfl (by decide) (zcall_v (k := 6) (a := 1) (as := [.inl 0]) (r := []) rfl rfl (Nat.le_of_ble_eq_true rfl) rfl (by rw [zml_59]; exact Nat.le_of_ble_eq_true rfl) (Nat.le_of_ble_eq_true rfl) ⟨Nat.le_of_ble_eq_true rfl, rfl⟩ rfl (by decide)) (by rw [zml_59] <;> rfl)
set_option maxRecDepth 100000 in
theorem zk_17 {d L : Nat} {C : ZC} : zR (d + 1) 99 0 [some (.inr (.inr (some 72)))] [] (zs_119 L) (ze_1 C) = some (none, (zs_165 L), (ze_24 C)) := by
  refine (zR_step (o := (1, [some (.inr (.inr (some 72)))], [.inr (.inr (some 72))], (zs_119 L), (ze_1 C))) (zf_of zcd_99 rfl) rfl).trans ?_
  refine (zR_nat (o := (4, [some (.inr (.inr (some 72)))], [], (zs_119 L), (ze_1 C))) (zf_of zcd_99 rfl) rfl rfl (by decide) rfl).trans ?_
  refine (zR_step (o := (5, [some (.inr (.inr (some 72)))], [.inr (.inr (some 72))], (zs_119 L), (ze_1 C))) (zf_of zcd_99 rfl) rfl).trans ?_
  refine (zR_step (o := (6, [some (.inr (.inr (some 72)))], [.inl 5, .inr (.inr (some 72))], (zs_119 L), (ze_1 C))) (zf_of zcd_99 rfl) rfl).trans ?_
  refine (zR_step (o := (8, [some (.inr (.inr (some 72)))], [.inr (.inr (some 73)), .inr (.inr (some 72))], (zs_120 L), (ze_2 C))) (zf_of zcd_99 rfl) rfl).trans ?_
  refine (zR_step (o := (11, [some (.inr (.inr (some 72)))], [], (zs_121 L), (ze_2 C))) (zf_of zcd_99 rfl) rfl).trans ?_
  refine (zR_step (o := (12, [some (.inr (.inr (some 72)))], [.inr (.inr (some 72))], (zs_121 L), (ze_2 C))) (zf_of zcd_99 rfl) rfl).trans ?_
  refine (zR_step (o := (15, [some (.inr (.inr (some 72)))], [.inl 300, .inr (.inr (some 72))], (zs_121 L), (ze_2 C))) (zf_of zcd_99 rfl) rfl).trans ?_
  refine (zR_step (o := (17, [some (.inr (.inr (some 72)))], [.inr (.inr (some 74)), .inr (.inr (some 72))], (zs_122 L), (ze_3 C))) (zf_of zcd_99 rfl) rfl).trans ?_
  refine (zR_step (o := (20, [some (.inr (.inr (some 72)))], [], (zs_123 L), (ze_3 C))) (zf_of zcd_99 rfl) rfl).trans ?_
  refine (zR_step (o := (21, [some (.inr (.inr (some 72)))], [.inr (.inr (some 72))], (zs_123 L), (ze_3 C))) (zf_of zcd_99 rfl) rfl).trans ?_
  refine (zR_step (o := (23, [some (.inr (.inr (some 72)))], [.inl 13, .inr (.inr (some 72))], (zs_123 L), (ze_3 C))) (zf_of zcd_99 rfl) rfl).trans ?_
  refine (zR_step (o := (25, [some (.inr (.inr (some 72)))], [.inr (.inr (some 75)), .inr (.inr (some 72))], (zs_124 L), (ze_4 C))) (zf_of zcd_99 rfl) rfl).trans ?_
  refine (zR_step (o := (28, [some (.inr (.inr (some 72)))], [], (zs_125 L), (ze_4 C))) (zf_of zcd_99 rfl) rfl).trans ?_
  refine (zR_step (o := (29, [some (.inr (.inr (some 72)))], [.inr (.inr (some 72))], (zs_125 L), (ze_4 C))) (zf_of zcd_99 rfl) rfl).trans ?_
  refine (zR_step (o := (31, [some (.inr (.inr (some 72)))], [.inl 13, .inr (.inr (some 72))], (zs_125 L), (ze_4 C))) (zf_of zcd_99 rfl) rfl).trans ?_
  refine (zR_step (o := (33, [some (.inr (.inr (some 72)))], [.inr (.inr (some 76)), .inr (.inr (some 72))], (zs_126 L), (ze_5 C))) (zf_of zcd_99 rfl) rfl).trans ?_
  refine (zR_step (o := (36, [some (.inr (.inr (some 72)))], [], (zs_127 L), (ze_5 C))) (zf_of zcd_99 rfl) rfl).trans ?_
  refine (zR_step (o := (37, [some (.inr (.inr (some 72)))], [.inr (.inr (some 72))], (zs_127 L), (ze_5 C))) (zf_of zcd_99 rfl) rfl).trans ?_
  refine (zR_step (o := (39, [some (.inr (.inr (some 72)))], [.inl 13, .inr (.inr (some 72))], (zs_127 L), (ze_5 C))) (zf_of zcd_99 rfl) rfl).trans ?_
  refine (zR_step (o := (41, [some (.inr (.inr (some 72)))], [.inr (.inr (some 77)), .inr (.inr (some 72))], (zs_128 L), (ze_6 C))) (zf_of zcd_99 rfl) rfl).trans ?_
  refine (zR_step (o := (44, [some (.inr (.inr (some 72)))], [], (zs_129 L), (ze_6 C))) (zf_of zcd_99 rfl) rfl).trans ?_
  refine (zR_step (o := (45, [some (.inr (.inr (some 72)))], [.inr (.inr (some 72))], (zs_129 L), (ze_6 C))) (zf_of zcd_99 rfl) rfl).trans ?_
  refine (zR_step (o := (46, [some (.inr (.inr (some 72)))], [.inl 4, .inr (.inr (some 72))], (zs_129 L), (ze_6 C))) (zf_of zcd_99 rfl) rfl).trans ?_
  refine (zR_step (o := (48, [some (.inr (.inr (some 72)))], [.inr (.inr (some 78)), .inr (.inr (some 72))], (zs_130 L), (ze_7 C))) (zf_of zcd_99 rfl) rfl).trans ?_
  refine (zR_step (o := (51, [some (.inr (.inr (some 72)))], [], (zs_131 L), (ze_7 C))) (zf_of zcd_99 rfl) rfl).trans ?_
  refine (zR_step (o := (52, [some (.inr (.inr (some 72)))], [.inr (.inr (some 72))], (zs_131 L), (ze_7 C))) (zf_of zcd_99 rfl) rfl).trans ?_
  refine (zR_step (o := (54, [some (.inr (.inr (some 72)))], [.inl 64, .inr (.inr (some 72))], (zs_131 L), (ze_7 C))) (zf_of zcd_99 rfl) rfl).trans ?_
  refine (zR_step (o := (56, [some (.inr (.inr (some 72)))], [.inr (.inr (some 79)), .inr (.inr (some 72))], (zs_132 L), (ze_8 C))) (zf_of zcd_99 rfl) rfl).trans ?_
  refine (zR_step (o := (59, [some (.inr (.inr (some 72)))], [], (zs_133 L), (ze_8 C))) (zf_of zcd_99 rfl) rfl).trans ?_
  refine (zR_step (o := (60, [some (.inr (.inr (some 72)))], [.inr (.inr (some 72))], (zs_133 L), (ze_8 C))) (zf_of zcd_99 rfl) rfl).trans ?_
  refine (zR_step (o := (62, [some (.inr (.inr (some 72)))], [.inl 8, .inr (.inr (some 72))], (zs_133 L), (ze_8 C))) (zf_of zcd_99 rfl) rfl).trans ?_
  refine (zR_step (o := (64, [some (.inr (.inr (some 72)))], [.inr (.inr (some 80)), .inr (.inr (some 72))], (zs_134 L), (ze_9 C))) (zf_of zcd_99 rfl) rfl).trans ?_
  refine (zR_step (o := (67, [some (.inr (.inr (some 72)))], [], (zs_135 L), (ze_9 C))) (zf_of zcd_99 rfl) rfl).trans ?_
  refine (zR_step (o := (68, [some (.inr (.inr (some 72)))], [.inr (.inr (some 72))], (zs_135 L), (ze_9 C))) (zf_of zcd_99 rfl) rfl).trans ?_
  refine (zR_step (o := (70, [some (.inr (.inr (some 72)))], [.inl 64, .inr (.inr (some 72))], (zs_135 L), (ze_9 C))) (zf_of zcd_99 rfl) rfl).trans ?_
  refine (zR_step (o := (72, [some (.inr (.inr (some 72)))], [.inr (.inr (some 81)), .inr (.inr (some 72))], (zs_136 L), (ze_10 C))) (zf_of zcd_99 rfl) rfl).trans ?_
  refine (zR_step (o := (75, [some (.inr (.inr (some 72)))], [], (zs_137 L), (ze_10 C))) (zf_of zcd_99 rfl) rfl).trans ?_
  refine (zR_step (o := (76, [some (.inr (.inr (some 72)))], [.inr (.inr (some 72))], (zs_137 L), (ze_10 C))) (zf_of zcd_99 rfl) rfl).trans ?_
  refine (zR_step (o := (78, [some (.inr (.inr (some 72)))], [.inl 64, .inr (.inr (some 72))], (zs_137 L), (ze_10 C))) (zf_of zcd_99 rfl) rfl).trans ?_
  refine (zR_step (o := (80, [some (.inr (.inr (some 72)))], [.inr (.inr (some 82)), .inr (.inr (some 72))], (zs_138 L), (ze_11 C))) (zf_of zcd_99 rfl) rfl).trans ?_
  refine (zR_step (o := (83, [some (.inr (.inr (some 72)))], [], (zs_139 L), (ze_11 C))) (zf_of zcd_99 rfl) rfl).trans ?_
  refine (zR_step (o := (84, [some (.inr (.inr (some 72)))], [.inr (.inr (some 72))], (zs_139 L), (ze_11 C))) (zf_of zcd_99 rfl) rfl).trans ?_
  refine (zR_step (o := (86, [some (.inr (.inr (some 72)))], [.inl 64, .inr (.inr (some 72))], (zs_139 L), (ze_11 C))) (zf_of zcd_99 rfl) rfl).trans ?_
  refine (zR_step (o := (88, [some (.inr (.inr (some 72)))], [.inr (.inr (some 83)), .inr (.inr (some 72))], (zs_140 L), (ze_12 C))) (zf_of zcd_99 rfl) rfl).trans ?_
  refine (zR_step (o := (91, [some (.inr (.inr (some 72)))], [], (zs_141 L), (ze_12 C))) (zf_of zcd_99 rfl) rfl).trans ?_
  refine (zR_step (o := (92, [some (.inr (.inr (some 72)))], [.inr (.inr (some 72))], (zs_141 L), (ze_12 C))) (zf_of zcd_99 rfl) rfl).trans ?_
  refine (zR_step (o := (94, [some (.inr (.inr (some 72)))], [.inl 64, .inr (.inr (some 72))], (zs_141 L), (ze_12 C))) (zf_of zcd_99 rfl) rfl).trans ?_
  refine (zR_step (o := (96, [some (.inr (.inr (some 72)))], [.inr (.inr (some 84)), .inr (.inr (some 72))], (zs_142 L), (ze_13 C))) (zf_of zcd_99 rfl) rfl).trans ?_
  refine (zR_step (o := (99, [some (.inr (.inr (some 72)))], [], (zs_143 L), (ze_13 C))) (zf_of zcd_99 rfl) rfl).trans ?_
  refine (zR_step (o := (100, [some (.inr (.inr (some 72)))], [.inr (.inr (some 72))], (zs_143 L), (ze_13 C))) (zf_of zcd_99 rfl) rfl).trans ?_
  refine (zR_step (o := (102, [some (.inr (.inr (some 72)))], [.inl 64, .inr (.inr (some 72))], (zs_143 L), (ze_13 C))) (zf_of zcd_99 rfl) rfl).trans ?_
  refine (zR_step (o := (104, [some (.inr (.inr (some 72)))], [.inr (.inr (some 85)), .inr (.inr (some 72))], (zs_144 L), (ze_14 C))) (zf_of zcd_99 rfl) rfl).trans ?_
  refine (zR_step (o := (107, [some (.inr (.inr (some 72)))], [], (zs_145 L), (ze_14 C))) (zf_of zcd_99 rfl) rfl).trans ?_
  refine (zR_step (o := (108, [some (.inr (.inr (some 72)))], [.inr (.inr (some 72))], (zs_145 L), (ze_14 C))) (zf_of zcd_99 rfl) rfl).trans ?_
  refine (zR_step (o := (110, [some (.inr (.inr (some 72)))], [.inl 8, .inr (.inr (some 72))], (zs_145 L), (ze_14 C))) (zf_of zcd_99 rfl) rfl).trans ?_
  refine (zR_step (o := (112, [some (.inr (.inr (some 72)))], [.inr (.inr (some 86)), .inr (.inr (some 72))], (zs_146 L), (ze_15 C))) (zf_of zcd_99 rfl) rfl).trans ?_
  refine (zR_step (o := (115, [some (.inr (.inr (some 72)))], [], (zs_147 L), (ze_15 C))) (zf_of zcd_99 rfl) rfl).trans ?_
  refine (zR_step (o := (116, [some (.inr (.inr (some 72)))], [.inr (.inr (some 72))], (zs_147 L), (ze_15 C))) (zf_of zcd_99 rfl) rfl).trans ?_
  refine (zR_step (o := (117, [some (.inr (.inr (some 72)))], [.inl 4, .inr (.inr (some 72))], (zs_147 L), (ze_15 C))) (zf_of zcd_99 rfl) rfl).trans ?_
  refine (zR_step (o := (119, [some (.inr (.inr (some 72)))], [.inr (.inr (some 87)), .inr (.inr (some 72))], (zs_148 L), (ze_16 C))) (zf_of zcd_99 rfl) rfl).trans ?_
  refine (zR_step (o := (122, [some (.inr (.inr (some 72)))], [], (zs_149 L), (ze_16 C))) (zf_of zcd_99 rfl) rfl).trans ?_
  refine (zR_step (o := (123, [some (.inr (.inr (some 72)))], [.inr (.inr (some 72))], (zs_149 L), (ze_16 C))) (zf_of zcd_99 rfl) rfl).trans ?_
  refine (zR_step (o := (124, [some (.inr (.inr (some 72)))], [.inl 4, .inr (.inr (some 72))], (zs_149 L), (ze_16 C))) (zf_of zcd_99 rfl) rfl).trans ?_
  refine (zR_step (o := (126, [some (.inr (.inr (some 72)))], [.inr (.inr (some 88)), .inr (.inr (some 72))], (zs_150 L), (ze_17 C))) (zf_of zcd_99 rfl) rfl).trans ?_
  refine (zR_step (o := (129, [some (.inr (.inr (some 72)))], [], (zs_151 L), (ze_17 C))) (zf_of zcd_99 rfl) rfl).trans ?_
  refine (zR_step (o := (130, [some (.inr (.inr (some 72)))], [.inr (.inr (some 72))], (zs_151 L), (ze_17 C))) (zf_of zcd_99 rfl) rfl).trans ?_
  refine (zR_step (o := (132, [some (.inr (.inr (some 72)))], [.inl 64, .inr (.inr (some 72))], (zs_151 L), (ze_17 C))) (zf_of zcd_99 rfl) rfl).trans ?_
  refine (zR_step (o := (134, [some (.inr (.inr (some 72)))], [.inr (.inr (some 89)), .inr (.inr (some 72))], (zs_152 L), (ze_18 C))) (zf_of zcd_99 rfl) rfl).trans ?_
  refine (zR_step (o := (137, [some (.inr (.inr (some 72)))], [], (zs_153 L), (ze_18 C))) (zf_of zcd_99 rfl) rfl).trans ?_
  refine (zR_step (o := (138, [some (.inr (.inr (some 72)))], [.inr (.inr (some 72))], (zs_153 L), (ze_18 C))) (zf_of zcd_99 rfl) rfl).trans ?_
  refine (zR_step (o := (140, [some (.inr (.inr (some 72)))], [.inl 64, .inr (.inr (some 72))], (zs_153 L), (ze_18 C))) (zf_of zcd_99 rfl) rfl).trans ?_
  refine (zR_step (o := (142, [some (.inr (.inr (some 72)))], [.inr (.inr (some 90)), .inr (.inr (some 72))], (zs_154 L), (ze_19 C))) (zf_of zcd_99 rfl) rfl).trans ?_
  refine (zR_step (o := (145, [some (.inr (.inr (some 72)))], [], (zs_155 L), (ze_19 C))) (zf_of zcd_99 rfl) rfl).trans ?_
  refine (zR_step (o := (146, [some (.inr (.inr (some 72)))], [.inr (.inr (some 72))], (zs_155 L), (ze_19 C))) (zf_of zcd_99 rfl) rfl).trans ?_
  refine (zR_step (o := (147, [some (.inr (.inr (some 72)))], [.inl 4, .inr (.inr (some 72))], (zs_155 L), (ze_19 C))) (zf_of zcd_99 rfl) rfl).trans ?_
  refine (zR_step (o := (149, [some (.inr (.inr (some 72)))], [.inr (.inr (some 91)), .inr (.inr (some 72))], (zs_156 L), (ze_20 C))) (zf_of zcd_99 rfl) rfl).trans ?_
  refine (zR_step (o := (152, [some (.inr (.inr (some 72)))], [], (zs_157 L), (ze_20 C))) (zf_of zcd_99 rfl) rfl).trans ?_
  refine (zR_step (o := (153, [some (.inr (.inr (some 72)))], [.inr (.inr (some 72))], (zs_157 L), (ze_20 C))) (zf_of zcd_99 rfl) rfl).trans ?_
  refine (zR_step (o := (154, [some (.inr (.inr (some 72)))], [.inl 4, .inr (.inr (some 72))], (zs_157 L), (ze_20 C))) (zf_of zcd_99 rfl) rfl).trans ?_
  refine (zR_step (o := (156, [some (.inr (.inr (some 72)))], [.inr (.inr (some 92)), .inr (.inr (some 72))], (zs_158 L), (ze_21 C))) (zf_of zcd_99 rfl) rfl).trans ?_
  refine (zR_step (o := (159, [some (.inr (.inr (some 72)))], [], (zs_159 L), (ze_21 C))) (zf_of zcd_99 rfl) rfl).trans ?_
  refine (zR_step (o := (160, [some (.inr (.inr (some 72)))], [.inr (.inr (some 72))], (zs_159 L), (ze_21 C))) (zf_of zcd_99 rfl) rfl).trans ?_
  refine (zR_step (o := (161, [some (.inr (.inr (some 72)))], [.inl 4, .inr (.inr (some 72))], (zs_159 L), (ze_21 C))) (zf_of zcd_99 rfl) rfl).trans ?_
  refine (zR_step (o := (163, [some (.inr (.inr (some 72)))], [.inr (.inr (some 93)), .inr (.inr (some 72))], (zs_160 L), (ze_22 C))) (zf_of zcd_99 rfl) rfl).trans ?_
  refine (zR_step (o := (166, [some (.inr (.inr (some 72)))], [], (zs_161 L), (ze_22 C))) (zf_of zcd_99 rfl) rfl).trans ?_
  refine (zR_step (o := (167, [some (.inr (.inr (some 72)))], [.inr (.inr (some 72))], (zs_161 L), (ze_22 C))) (zf_of zcd_99 rfl) rfl).trans ?_
  refine (zR_step (o := (170, [some (.inr (.inr (some 72)))], [.inl 192, .inr (.inr (some 72))], (zs_161 L), (ze_22 C))) (zf_of zcd_99 rfl) rfl).trans ?_
  refine (zR_step (o := (172, [some (.inr (.inr (some 72)))], [.inr (.inr (some 94)), .inr (.inr (some 72))], (zs_162 L), (ze_23 C))) (zf_of zcd_99 rfl) rfl).trans ?_
  refine (zR_step (o := (175, [some (.inr (.inr (some 72)))], [], (zs_163 L), (ze_23 C))) (zf_of zcd_99 rfl) rfl).trans ?_
  refine (zR_step (o := (176, [some (.inr (.inr (some 72)))], [.inr (.inr (some 72))], (zs_163 L), (ze_23 C))) (zf_of zcd_99 rfl) rfl).trans ?_
  refine (zR_step (o := (178, [some (.inr (.inr (some 72)))], [.inl 48, .inr (.inr (some 72))], (zs_163 L), (ze_23 C))) (zf_of zcd_99 rfl) rfl).trans ?_
  refine (zR_step (o := (180, [some (.inr (.inr (some 72)))], [.inr (.inr (some 95)), .inr (.inr (some 72))], (zs_164 L), (ze_24 C))) (zf_of zcd_99 rfl) rfl).trans ?_
  refine (zR_step (o := (183, [some (.inr (.inr (some 72)))], [], (zs_165 L), (ze_24 C))) (zf_of zcd_99 rfl) rfl).trans ?_
  exact zR_ret (zf_of zcd_99 rfl) rfl rfl
set_option maxRecDepth 100000 in
theorem zk_18 {d L : Nat} {C : ZC} : zR (d + 45) 173 7 [some (.inr (.inr (some 0))), none, none, none] [.inr (.inr (some 1))] (zs_118 L) (ze_0 C) = zR (d + 45) 173 16 [some (.inr (.inr (some 0))), some (.inr (.inr (some 1))), some (.inr (.inr (some 72))), none] [] (zs_165 L) (ze_24 C) := by
  refine (zR_step (o := (8, [some (.inr (.inr (some 0))), some (.inr (.inr (some 1))), none, none], [], (zs_118 L), (ze_0 C))) (zf_of zcd_173 rfl) rfl).trans ?_
  refine (zR_step (o := (11, [some (.inr (.inr (some 0))), some (.inr (.inr (some 1))), none, none], [.inr (.inr (some 72))], (zs_119 L), (ze_1 C))) (zf_of zcd_173 rfl) rfl).trans ?_
  refine (zR_step (o := (12, [some (.inr (.inr (some 0))), some (.inr (.inr (some 1))), none, none], [.inr (.inr (some 72)), .inr (.inr (some 72))], (zs_119 L), (ze_1 C))) (zf_of zcd_173 rfl) rfl).trans ?_
  refine (zR_call2 (ls0 := [some (.inr (.inr (some 72)))]) (zf_of zcd_173 rfl) rfl rfl (by decide) (zcall_vs (k := 7) (a := 72) (as := []) (r := [.inr (.inr (some 72))]) rfl rfl (Nat.le_of_ble_eq_true rfl) rfl (by rw [zml_99]; exact Nat.le_of_ble_eq_true rfl) (Nat.le_of_ble_eq_true rfl) ⟨Nat.le_of_ble_eq_true rfl, rfl⟩ rfl (by decide)) (by rw [zml_99] <;> rfl)).trans ?_
  refine (congrArg (fun q => zB q _) (zk_17 (d := d + 43))).trans ?_
  show zR (d + 45) 173 15 [some (.inr (.inr (some 0))), some (.inr (.inr (some 1))), none, none] [.inr (.inr (some 72))] (zs_165 L) (ze_24 C) = _
  refine (zR_step (o := (16, [some (.inr (.inr (some 0))), some (.inr (.inr (some 1))), some (.inr (.inr (some 72))), none], [], (zs_165 L), (ze_24 C))) (zf_of zcd_173 rfl) rfl).trans ?_
  rfl
theorem zk_58r {d : Nat} {S : ZS} {C : ZC} {ls : ZL} : zR (d + 1) 58 147 ls [] S C = some (none, S, C) := zR_ret (zf_of zcd_58 rfl) rfl rfl
