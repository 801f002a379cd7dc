/-! The words of each method, by place -/
def zmwP (M : Nat) : Prop := lw_tbl[(zM.getD M zM0).2.2.2.2.1]? = some (.code (zM.getD M zM0).1 (zM.getD M zM0).2.1 (zM.getD M zM0).2.2.1 (zM.getD M zM0).2.2.2.1)
def zmwQ (q : ZM) : Bool := decide (lw_tbl[q.2.2.2.2.2.1]? = some (.initialized q.1.cls) ∧ plainName q.1.cls = true ∧ q.1.cls ≠ "java/lang/invoke/MethodHandle" ∧ q.1.cls ≠ "java/lang/invoke/VarHandle" ∧ q.2.2.1 ≤ 60) &&
  decide (q.2.2.2.2.2.2.1 = 5000 ∨ lw_tbl[q.2.2.2.2.2.2.1]? = some (.instanceMethod q.1)) && decide (q.2.2.2.2.2.2.2.1 = 5000 ∨ lw_tbl[q.2.2.2.2.2.2.2.1]? = some (.selects q.1.cls q.1 q.1)) && decide (q.2.2.2.2.2.2.2.2 = 5000 ∨ lw_tbl[q.2.2.2.2.2.2.2.2]? = some (.static q.1))
theorem zmw_0 : zmwP 0 := by unfold zmwP; decide +kernel
theorem zmw_1 : zmwP 1 := by unfold zmwP; decide +kernel
theorem zmw_2 : zmwP 2 := by unfold zmwP; decide +kernel
theorem zmw_3 : zmwP 3 := by unfold zmwP; decide +kernel
theorem zmw_4 : zmwP 4 := by unfold zmwP; decide +kernel
theorem zmw_5 : zmwP 5 := by unfold zmwP; decide +kernel
theorem zmw_6 : zmwP 6 := by unfold zmwP; decide +kernel
theorem zmw_7 : zmwP 7 := by unfold zmwP; decide +kernel
theorem zmw_8 : zmwP 8 := by unfold zmwP; decide +kernel
theorem zmw_9 : zmwP 9 := by unfold zmwP; decide +kernel
theorem zmw_10 : zmwP 10 := by unfold zmwP; decide +kernel
theorem zmw_11 : zmwP 11 := by unfold zmwP; decide +kernel
theorem zmw_12 : zmwP 12 := by unfold zmwP; decide +kernel
theorem zmw_13 : zmwP 13 := by unfold zmwP; decide +kernel
theorem zmw_14 : zmwP 14 := by unfold zmwP; decide +kernel
theorem zmw_15 : zmwP 15 := by unfold zmwP; decide +kernel
theorem zmw_16 : zmwP 16 := by unfold zmwP; decide +kernel
theorem zmw_17 : zmwP 17 := by unfold zmwP; decide +kernel
theorem zmw_18 : zmwP 18 := by unfold zmwP; decide +kernel
theorem zmw_19 : zmwP 19 := by unfold zmwP; decide +kernel
theorem zmw_20 : zmwP 20 := by unfold zmwP; decide +kernel
theorem zmw_21 : zmwP 21 := by unfold zmwP; decide +kernel
theorem zmw_22 : zmwP 22 := by unfold zmwP; decide +kernel
theorem zmw_23 : zmwP 23 := by unfold zmwP; decide +kernel
theorem zmw_24 : zmwP 24 := by unfold zmwP; decide +kernel
theorem zmw_25 : zmwP 25 := by unfold zmwP; decide +kernel
theorem zmw_26 : zmwP 26 := by unfold zmwP; decide +kernel
theorem zmw_27 : zmwP 27 := by unfold zmwP; decide +kernel
theorem zmw_28 : zmwP 28 := by unfold zmwP; decide +kernel
theorem zmw_29 : zmwP 29 := by unfold zmwP; decide +kernel
theorem zmw_30 : zmwP 30 := by unfold zmwP; decide +kernel
theorem zmw_31 : zmwP 31 := by unfold zmwP; decide +kernel
theorem zmw_32 : zmwP 32 := by unfold zmwP; decide +kernel
theorem zmw_33 : zmwP 33 := by unfold zmwP; decide +kernel
theorem zmw_34 : zmwP 34 := by unfold zmwP; decide +kernel
theorem zmw_35 : zmwP 35 := by unfold zmwP; decide +kernel
theorem zmw_36 : zmwP 36 := by unfold zmwP; decide +kernel
theorem zmw_37 : zmwP 37 := by unfold zmwP; decide +kernel
theorem zmw_38 : zmwP 38 := by unfold zmwP; decide +kernel
theorem zmw_39 : zmwP 39 := by unfold zmwP; decide +kernel
theorem zmw_40 : zmwP 40 := by unfold zmwP; decide +kernel
theorem zmw_41 : zmwP 41 := by unfold zmwP; decide +kernel
theorem zmw_42 : zmwP 42 := by unfold zmwP; decide +kernel
theorem zmw_43 : zmwP 43 := by unfold zmwP; decide +kernel
theorem zmw_44 : zmwP 44 := by unfold zmwP; decide +kernel
theorem zmw_45 : zmwP 45 := by unfold zmwP; decide +kernel
theorem zmw_46 : zmwP 46 := by unfold zmwP; decide +kernel
theorem zmw_47 : zmwP 47 := by unfold zmwP; decide +kernel
theorem zmw_48 : zmwP 48 := by unfold zmwP; decide +kernel
theorem zmw_49 : zmwP 49 := by unfold zmwP; decide +kernel
theorem zmw_50 : zmwP 50 := by unfold zmwP; decide +kernel
theorem zmw_51 : zmwP 51 := by unfold zmwP; decide +kernel
theorem zmw_52 : zmwP 52 := by unfold zmwP; decide +kernel
theorem zmw_53 : zmwP 53 := by unfold zmwP; decide +kernel
theorem zmw_54 : zmwP 54 := by unfold zmwP; decide +kernel
theorem zmw_55 : zmwP 55 := by unfold zmwP; decide +kernel
theorem zmw_56 : zmwP 56 := by unfold zmwP; decide +kernel
theorem zmw_57 : zmwP 57 := by unfold zmwP; decide +kernel
theorem zmw_58 : zmwP 58 := by unfold zmwP; decide +kernel
theorem zmw_59 : zmwP 59 := by unfold zmwP; decide +kernel
theorem zmw_60 : zmwP 60 := by unfold zmwP; decide +kernel
theorem zmw_61 : zmwP 61 := by unfold zmwP; decide +kernel
theorem zmw_62 : zmwP 62 := by unfold zmwP; decide +kernel
theorem zmw_63 : zmwP 63 := by unfold zmwP; decide +kernel
theorem zmw_64 : zmwP 64 := by unfold zmwP; decide +kernel
theorem zmw_65 : zmwP 65 := by unfold zmwP; decide +kernel
theorem zmw_66 : zmwP 66 := by unfold zmwP; decide +kernel
theorem zmw_67 : zmwP 67 := by unfold zmwP; decide +kernel
theorem zmw_68 : zmwP 68 := by unfold zmwP; decide +kernel
theorem zmw_69 : zmwP 69 := by unfold zmwP; decide +kernel
theorem zmw_70 : zmwP 70 := by unfold zmwP; decide +kernel
theorem zmw_71 : zmwP 71 := by unfold zmwP; decide +kernel
theorem zmw_72 : zmwP 72 := by unfold zmwP; decide +kernel
theorem zmw_73 : zmwP 73 := by unfold zmwP; decide +kernel
theorem zmw_74 : zmwP 74 := by unfold zmwP; decide +kernel
theorem zmw_75 : zmwP 75 := by unfold zmwP; decide +kernel
theorem zmw_76 : zmwP 76 := by unfold zmwP; decide +kernel
theorem zmw_77 : zmwP 77 := by unfold zmwP; decide +kernel
theorem zmw_78 : zmwP 78 := by unfold zmwP; decide +kernel
theorem zmw_79 : zmwP 79 := by unfold zmwP; decide +kernel
theorem zmw_80 : zmwP 80 := by unfold zmwP; decide +kernel
theorem zmw_81 : zmwP 81 := by unfold zmwP; decide +kernel
theorem zmw_82 : zmwP 82 := by unfold zmwP; decide +kernel
theorem zmw_83 : zmwP 83 := by unfold zmwP; decide +kernel
theorem zmw_84 : zmwP 84 := by unfold zmwP; decide +kernel
theorem zmw_85 : zmwP 85 := by unfold zmwP; decide +kernel
theorem zmw_86 : zmwP 86 := by unfold zmwP; decide +kernel
theorem zmw_87 : zmwP 87 := by unfold zmwP; decide +kernel
theorem zmw_88 : zmwP 88 := by unfold zmwP; decide +kernel
theorem zmw_89 : zmwP 89 := by unfold zmwP; decide +kernel
theorem zmw_90 : zmwP 90 := by unfold zmwP; decide +kernel
theorem zmw_91 : zmwP 91 := by unfold zmwP; decide +kernel
theorem zmw_92 : zmwP 92 := by unfold zmwP; decide +kernel
theorem zmw_93 : zmwP 93 := by unfold zmwP; decide +kernel
theorem zmw_94 : zmwP 94 := by unfold zmwP; decide +kernel
theorem zmw_95 : zmwP 95 := by unfold zmwP; decide +kernel
theorem zmw_96 : zmwP 96 := by unfold zmwP; decide +kernel
theorem zmw_97 : zmwP 97 := by unfold zmwP; decide +kernel
theorem zmw_98 : zmwP 98 := by unfold zmwP; decide +kernel
theorem zmw_99 : zmwP 99 := by unfold zmwP; decide +kernel
theorem zmw_100 : zmwP 100 := by unfold zmwP; decide +kernel
theorem zmw_101 : zmwP 101 := by unfold zmwP; decide +kernel
theorem zmw_102 : zmwP 102 := by unfold zmwP; decide +kernel
theorem zmw_103 : zmwP 103 := by unfold zmwP; decide +kernel
theorem zmw_104 : zmwP 104 := by unfold zmwP; decide +kernel
theorem zmw_105 : zmwP 105 := by unfold zmwP; decide +kernel
theorem zmw_106 : zmwP 106 := by unfold zmwP; decide +kernel
theorem zmw_107 : zmwP 107 := by unfold zmwP; decide +kernel
theorem zmw_108 : zmwP 108 := by unfold zmwP; decide +kernel
theorem zmw_109 : zmwP 109 := by unfold zmwP; decide +kernel
theorem zmw_110 : zmwP 110 := by unfold zmwP; decide +kernel
theorem zmw_111 : zmwP 111 := by unfold zmwP; decide +kernel
theorem zmw_112 : zmwP 112 := by unfold zmwP; decide +kernel
theorem zmw_113 : zmwP 113 := by unfold zmwP; decide +kernel
theorem zmw_114 : zmwP 114 := by unfold zmwP; decide +kernel
theorem zmw_115 : zmwP 115 := by unfold zmwP; decide +kernel
theorem zmw_116 : zmwP 116 := by unfold zmwP; decide +kernel
theorem zmw_117 : zmwP 117 := by unfold zmwP; decide +kernel
theorem zmw_118 : zmwP 118 := by unfold zmwP; decide +kernel
theorem zmw_119 : zmwP 119 := by unfold zmwP; decide +kernel
theorem zmw_120 : zmwP 120 := by unfold zmwP; decide +kernel
theorem zmw_121 : zmwP 121 := by unfold zmwP; decide +kernel
theorem zmw_122 : zmwP 122 := by unfold zmwP; decide +kernel
theorem zmw_123 : zmwP 123 := by unfold zmwP; decide +kernel
theorem zmw_124 : zmwP 124 := by unfold zmwP; decide +kernel
theorem zmw_125 : zmwP 125 := by unfold zmwP; decide +kernel
theorem zmw_126 : zmwP 126 := by unfold zmwP; decide +kernel
theorem zmw_127 : zmwP 127 := by unfold zmwP; decide +kernel
theorem zmw_128 : zmwP 128 := by unfold zmwP; decide +kernel
theorem zmw_129 : zmwP 129 := by unfold zmwP; decide +kernel
theorem zmw_130 : zmwP 130 := by unfold zmwP; decide +kernel
theorem zmw_131 : zmwP 131 := by unfold zmwP; decide +kernel
theorem zmw_132 : zmwP 132 := by unfold zmwP; decide +kernel
theorem zmw_133 : zmwP 133 := by unfold zmwP; decide +kernel
theorem zmw_134 : zmwP 134 := by unfold zmwP; decide +kernel
theorem zmw_135 : zmwP 135 := by unfold zmwP; decide +kernel
theorem zmw_136 : zmwP 136 := by unfold zmwP; decide +kernel
theorem zmw_137 : zmwP 137 := by unfold zmwP; decide +kernel
theorem zmw_138 : zmwP 138 := by unfold zmwP; decide +kernel
theorem zmw_139 : zmwP 139 := by unfold zmwP; decide +kernel
theorem zmw_140 : zmwP 140 := by unfold zmwP; decide +kernel
theorem zmw_141 : zmwP 141 := by unfold zmwP; decide +kernel
theorem zmw_142 : zmwP 142 := by unfold zmwP; decide +kernel
theorem zmw_143 : zmwP 143 := by unfold zmwP; decide +kernel
theorem zmw_144 : zmwP 144 := by unfold zmwP; decide +kernel
theorem zmw_145 : zmwP 145 := by unfold zmwP; decide +kernel
theorem zmw_146 : zmwP 146 := by unfold zmwP; decide +kernel
theorem zmw_147 : zmwP 147 := by unfold zmwP; decide +kernel
theorem zmw_148 : zmwP 148 := by unfold zmwP; decide +kernel
theorem zmw_149 : zmwP 149 := by unfold zmwP; decide +kernel
theorem zmw_150 : zmwP 150 := by unfold zmwP; decide +kernel
theorem zmw_151 : zmwP 151 := by unfold zmwP; decide +kernel
theorem zmw_152 : zmwP 152 := by unfold zmwP; decide +kernel
theorem zmw_153 : zmwP 153 := by unfold zmwP; decide +kernel
theorem zmw_154 : zmwP 154 := by unfold zmwP; decide +kernel
theorem zmw_155 : zmwP 155 := by unfold zmwP; decide +kernel
theorem zmw_156 : zmwP 156 := by unfold zmwP; decide +kernel
theorem zmw_157 : zmwP 157 := by unfold zmwP; decide +kernel
theorem zmw_158 : zmwP 158 := by unfold zmwP; decide +kernel
theorem zmw_159 : zmwP 159 := by unfold zmwP; decide +kernel
theorem zmw_160 : zmwP 160 := by unfold zmwP; decide +kernel
theorem zmw_161 : zmwP 161 := by unfold zmwP; decide +kernel
theorem zmw_162 : zmwP 162 := by unfold zmwP; decide +kernel
theorem zmw_163 : zmwP 163 := by unfold zmwP; decide +kernel
theorem zmw_164 : zmwP 164 := by unfold zmwP; decide +kernel
theorem zmw_165 : zmwP 165 := by unfold zmwP; decide +kernel
theorem zmw_166 : zmwP 166 := by unfold zmwP; decide +kernel
theorem zmw_167 : zmwP 167 := by unfold zmwP; decide +kernel
theorem zmw_168 : zmwP 168 := by unfold zmwP; decide +kernel
theorem zmw_169 : zmwP 169 := by unfold zmwP; decide +kernel
theorem zmw_170 : zmwP 170 := by unfold zmwP; decide +kernel
theorem zmw_171 : zmwP 171 := by unfold zmwP; decide +kernel
theorem zmw_172 : zmwP 172 := by unfold zmwP; decide +kernel
theorem zmq_0 : ((zM.drop 0).take 25).all zmwQ = true := by decide +kernel
theorem zmq_1 : ((zM.drop 25).take 25).all zmwQ = true := by decide +kernel
theorem zmq_2 : ((zM.drop 50).take 25).all zmwQ = true := by decide +kernel
theorem zmq_3 : ((zM.drop 75).take 25).all zmwQ = true := by decide +kernel
theorem zmq_4 : ((zM.drop 100).take 25).all zmwQ = true := by decide +kernel
theorem zmq_5 : ((zM.drop 125).take 25).all zmwQ = true := by decide +kernel
theorem zmq_6 : ((zM.drop 150).take 23).all zmwQ = true := by decide +kernel
set_option maxRecDepth 100000 in
theorem zmw : ∀ M, M < 173 → zmwP M := lt_s (lt_s (lt_s (lt_s (lt_s (lt_s (lt_s (lt_s (lt_s (lt_s (lt_s (lt_s (lt_s (lt_s (lt_s (lt_s (lt_s (lt_s (lt_s (lt_s (lt_s (lt_s (lt_s (lt_s (lt_s (lt_s (lt_s (lt_s (lt_s (lt_s (lt_s (lt_s (lt_s (lt_s (lt_s (lt_s (lt_s (lt_s (lt_s (lt_s (lt_s (lt_s (lt_s (lt_s (lt_s (lt_s (lt_s (lt_s (lt_s (lt_s (lt_s (lt_s (lt_s (lt_s (lt_s (lt_s (lt_s (lt_s (lt_s (lt_s (lt_s (lt_s (lt_s (lt_s (lt_s (lt_s (lt_s (lt_s (lt_s (lt_s (lt_s (lt_s (lt_s (lt_s (lt_s (lt_s (lt_s (lt_s (lt_s (lt_s (lt_s (lt_s (lt_s (lt_s (lt_s (lt_s (lt_s (lt_s (lt_s (lt_s (lt_s (lt_s (lt_s (lt_s (lt_s (lt_s (lt_s (lt_s (lt_s (lt_s (lt_s (lt_s (lt_s (lt_s (lt_s (lt_s (lt_s (lt_s (lt_s (lt_s (lt_s (lt_s (lt_s (lt_s (lt_s (lt_s (lt_s (lt_s (lt_s (lt_s (lt_s (lt_s (lt_s (lt_s (lt_s (lt_s (lt_s (lt_s (lt_s (lt_s (lt_s (lt_s (lt_s (lt_s (lt_s (lt_s (lt_s (lt_s (lt_s (lt_s (lt_s (lt_s (lt_s (lt_s (lt_s (lt_s (lt_s (lt_s (lt_s (lt_s (lt_s (lt_s (lt_s (lt_s (lt_s (lt_s (lt_s (lt_s (lt_s (lt_s (lt_s (lt_s (lt_s (lt_s (lt_s (lt_s (lt_s (lt_s (lt_s (lt_s (lt_s (lt_s (lt_s (lt_0) zmw_0) zmw_1) zmw_2) zmw_3) zmw_4) zmw_5) zmw_6) zmw_7) zmw_8) zmw_9) zmw_10) zmw_11) zmw_12) zmw_13) zmw_14) zmw_15) zmw_16) zmw_17) zmw_18) zmw_19) zmw_20) zmw_21) zmw_22) zmw_23) zmw_24) zmw_25) zmw_26) zmw_27) zmw_28) zmw_29) zmw_30) zmw_31) zmw_32) zmw_33) zmw_34) zmw_35) zmw_36) zmw_37) zmw_38) zmw_39) zmw_40) zmw_41) zmw_42) zmw_43) zmw_44) zmw_45) zmw_46) zmw_47) zmw_48) zmw_49) zmw_50) zmw_51) zmw_52) zmw_53) zmw_54) zmw_55) zmw_56) zmw_57) zmw_58) zmw_59) zmw_60) zmw_61) zmw_62) zmw_63) zmw_64) zmw_65) zmw_66) zmw_67) zmw_68) zmw_69) zmw_70) zmw_71) zmw_72) zmw_73) zmw_74) zmw_75) zmw_76) zmw_77) zmw_78) zmw_79) zmw_80) zmw_81) zmw_82) zmw_83) zmw_84) zmw_85) zmw_86) zmw_87) zmw_88) zmw_89) zmw_90) zmw_91) zmw_92) zmw_93) zmw_94) zmw_95) zmw_96) zmw_97) zmw_98) zmw_99) zmw_100) zmw_101) zmw_102) zmw_103) zmw_104) zmw_105) zmw_106) zmw_107) zmw_108) zmw_109) zmw_110) zmw_111) zmw_112) zmw_113) zmw_114) zmw_115) zmw_116) zmw_117) zmw_118) zmw_119) zmw_120) zmw_121) zmw_122) zmw_123) zmw_124) zmw_125) zmw_126) zmw_127) zmw_128) zmw_129) zmw_130) zmw_131) zmw_132) zmw_133) zmw_134) zmw_135) zmw_136) zmw_137) zmw_138) zmw_139) zmw_140) zmw_141) zmw_142) zmw_143) zmw_144) zmw_145) zmw_146) zmw_147) zmw_148) zmw_149) zmw_150) zmw_151) zmw_152) zmw_153) zmw_154) zmw_155) zmw_156) zmw_157) zmw_158) zmw_159) zmw_160) zmw_161) zmw_162) zmw_163) zmw_164) zmw_165) zmw_166) zmw_167) zmw_168) zmw_169) zmw_170) zmw_171) zmw_172
theorem zmq_at {l : List ZM} {i k : Nat} (h : ((l.drop i).take k).all zmwQ = true) (M : Nat) (h1 : i ≤ M) (h2 : M < i + k) (h3 : M < l.length) : zmwQ (l.getD M zM0) = true := by
  refine List.all_eq_true.mp h _ ?_
  rw [List.getD_eq_getElem?_getD, List.getElem?_eq_getElem h3, Option.getD_some]
  refine List.mem_of_getElem? (i := M - i) ?_
  rw [List.getElem?_take, if_pos (by omega), List.getElem?_drop, show i + (M - i) = M by omega, List.getElem?_eq_getElem h3]
theorem zM_len : zM.length = 174 := by decide +kernel
theorem zmq : ∀ M, M < 173 → zmwQ (zM.getD M zM0) = true := by
  intro M h
  have hl : M < zM.length := by rw [zM_len]; omega
  by_cases h0 : M < 25
  · exact zmq_at zmq_0 M (by omega) (by omega) hl
  by_cases h1 : M < 50
  · exact zmq_at zmq_1 M (by omega) (by omega) hl
  by_cases h2 : M < 75
  · exact zmq_at zmq_2 M (by omega) (by omega) hl
  by_cases h3 : M < 100
  · exact zmq_at zmq_3 M (by omega) (by omega) hl
  by_cases h4 : M < 125
  · exact zmq_at zmq_4 M (by omega) (by omega) hl
  by_cases h5 : M < 150
  · exact zmq_at zmq_5 M (by omega) (by omega) hl
  exact zmq_at zmq_6 M (by omega) (by omega) hl
/-- the callee of a call has the words that the call asks for -/
def zcw (e : ZE) : Bool := match e with
  | (_, ins, _, (x, _, _), _) => match ins with
    | .invokevirtual _ => decide (x < 173 ∧ (zM.getD x zM0).2.2.2.2.2.2.1 ≠ 5000 ∧ (zM.getD x zM0).2.2.2.2.2.2.2.1 ≠ 5000)
    | .invokespecial _ => decide (1000 ≤ x ∨ (x < 173 ∧ (zM.getD x zM0).2.2.2.2.2.2.1 ≠ 5000 ∧ (zM.getD x zM0).2.2.2.1 = none))
    | .invokestatic _ => decide (1000 ≤ x ∨ (x < 173 ∧ (zM.getD x zM0).2.2.2.2.2.2.2.2 ≠ 5000))
    | _ => true
theorem zcw_all : zCode.all (fun c => c.all zcw) = true := by decide +kernel
theorem zw_native : lw_tbl[469]? = some (.native arraycopyName) := by decide +kernel
theorem zw_cstat : lw_tbl[468]? = some (.static arraycopyName) := by decide +kernel
theorem zw_csys : lw_tbl[65]? = some (.initialized "java/lang/System") := by decide +kernel
theorem zw_oinst : lw_tbl[73]? = some (.instanceMethod objectInit) := by decide +kernel
theorem zw_ocode : lw_tbl[74]? = some (.code objectInit ⟨#[0xb1]⟩ 1 none) := by decide +kernel
theorem zw_minc : lw_tbl[304]? = some (.code Lib.Math.min.name Lib.Math.min.code 2 (some .int)) := by decide +kernel
theorem zw_maxc : lw_tbl[549]? = some (.code Lib.Math.max.name Lib.Math.max.code 2 (some .int)) := by decide +kernel
theorem zw_mins : lw_tbl[303]? = some (.static Lib.Math.min.name) := by decide +kernel
theorem zw_maxs : lw_tbl[548]? = some (.static Lib.Math.max.name) := by decide +kernel
theorem zw_math : lw_tbl[63]? = some (.initialized "java/lang/Math") := by decide +kernel
theorem zw_ai : lw_tbl[114]? = some (.arrayClass .int) := by decide +kernel
theorem zw_az : lw_tbl[850]? = some (.arrayClass .boolean) := by decide +kernel
theorem zw_ow : lw_tbl[116]? = some (.arrayOver (.object "NewOrBack$Walk")) := by decide +kernel
theorem zw_oi : lw_tbl[76]? = some (.arrayOver (.array .int)) := by decide +kernel
