/-! ElasticKernelModel.move(II)V -/
def fMo_move_0 (kd : Nat → Nat) (I : ek_St) (x0 : Nat) (i1 : Int32) (i2 : Int32) : Option (ek_St) :=
  ek_ck (kd x0 = 8) (ek_ck (kd x0 = 8) (ek_ck (kd (x0 + 1) = 112) (ek_ck (ek_in i2 12) (ek_ck (kd (x0 + 1) = 112) (ek_ck (ek_in i1 12) (ek_let (ek_up I (x0 + 1) i1.toNatClampNeg (I (x0 + 1) i2.toNatClampNeg)) (fun I1 => ek_ck (kd x0 = 8) (ek_ck (kd x0 = 8) (ek_ck (kd (x0 + 2) = 112) (ek_ck (ek_in i2 12) (ek_ck (kd (x0 + 2) = 112) (ek_ck (ek_in i1 12) (ek_let (ek_up I1 (x0 + 2) i1.toNatClampNeg (I1 (x0 + 2) i2.toNatClampNeg)) (fun I2 => ek_ck (kd x0 = 8) (ek_ck (kd x0 = 8) (ek_ck (kd (x0 + 3) = 112) (ek_ck (ek_in i2 12) (ek_ck (kd (x0 + 3) = 112) (ek_ck (ek_in i1 12) (ek_let (ek_up I2 (x0 + 3) i1.toNatClampNeg (I2 (x0 + 3) i2.toNatClampNeg)) (fun I3 => ek_ck (kd x0 = 8) (ek_ck (kd x0 = 8) (ek_ck (kd (x0 + 4) = 112) (ek_ck (ek_in i2 12) (ek_ck (kd (x0 + 4) = 112) (ek_ck (ek_in i1 12) (ek_let (ek_up I3 (x0 + 4) i1.toNatClampNeg (I3 (x0 + 4) i2.toNatClampNeg)) (fun I4 => ek_ck (kd x0 = 8) (ek_ck (kd x0 = 8) (ek_ck (kd (x0 + 5) = 112) (ek_ck (ek_in i2 12) (ek_ck (kd (x0 + 5) = 112) (ek_ck (ek_in i1 12) (ek_let (ek_up I4 (x0 + 5) i1.toNatClampNeg (I4 (x0 + 5) i2.toNatClampNeg)) (fun I5 => ek_ck (kd x0 = 8) (ek_ck (kd x0 = 8) (ek_ck (kd (x0 + 6) = 112) (ek_ck (ek_in i2 12) (ek_ck (kd (x0 + 6) = 112) (ek_ck (ek_in i1 12) (ek_let (ek_up I5 (x0 + 6) i1.toNatClampNeg (I5 (x0 + 6) i2.toNatClampNeg)) (fun I6 => ek_ck (kd x0 = 8) (ek_ck (kd x0 = 8) (ek_ck (kd (x0 + 7) = 112) (ek_ck (ek_in i2 12) (ek_ck (kd (x0 + 7) = 112) (ek_ck (ek_in i1 12) (ek_let (ek_up I6 (x0 + 7) i1.toNatClampNeg (I6 (x0 + 7) i2.toNatClampNeg)) (fun I7 => ek_ck (kd x0 = 8) (ek_ck (kd x0 = 8) (ek_ck (kd (x0 + 8) = 112) (ek_ck (ek_in i2 12) (ek_ck (kd (x0 + 8) = 112) (ek_ck (ek_in i1 12) (ek_let (ek_up I7 (x0 + 8) i1.toNatClampNeg (I7 (x0 + 8) i2.toNatClampNeg)) (fun I8 => ek_ck (kd x0 = 8) (ek_ck (kd x0 = 8) (ek_ck (kd (x0 + 9) = 112) (ek_ck (ek_in i2 12) (ek_ck (kd (x0 + 9) = 112) (ek_ck (ek_in i1 12) (ek_let (ek_up I8 (x0 + 9) i1.toNatClampNeg (I8 (x0 + 9) i2.toNatClampNeg)) (fun I9 => ek_ck (kd x0 = 8) (ek_ck (kd x0 = 8) (ek_ck (kd (x0 + 10) = 112) (ek_ck (ek_in i2 12) (ek_ck (kd (x0 + 10) = 112) (ek_ck (ek_in i1 12) (ek_let (ek_up I9 (x0 + 10) i1.toNatClampNeg (I9 (x0 + 10) i2.toNatClampNeg)) (fun I10 => ek_ck (kd x0 = 8) (ek_ck (kd x0 = 8) (ek_ck (kd (x0 + 11) = 112) (ek_ck (ek_in i2 12) (ek_ck (kd (x0 + 11) = 112) (ek_ck (ek_in i1 12) (ek_let (ek_up I10 (x0 + 11) i1.toNatClampNeg (I10 (x0 + 11) i2.toNatClampNeg)) (fun I11 => ek_ck (kd x0 = 8) (ek_ck (kd x0 = 8) (ek_ck (kd (x0 + 12) = 112) (ek_ck (ek_in i2 12) (ek_ck (kd (x0 + 12) = 112) (ek_ck (ek_in i1 12) (ek_let (ek_up I11 (x0 + 12) i1.toNatClampNeg (I11 (x0 + 12) i2.toNatClampNeg)) (fun I12 => ek_ck (kd x0 = 8) (ek_ck (kd x0 = 8) (ek_ck (kd (x0 + 13) = 112) (ek_ck (ek_in i2 12) (ek_ck (kd (x0 + 13) = 112) (ek_ck (ek_in i1 12) (ek_let (ek_up I12 (x0 + 13) i1.toNatClampNeg (I12 (x0 + 13) i2.toNatClampNeg)) (fun I13 => ek_ck (kd x0 = 8) (ek_ck (kd x0 = 8) (ek_ck (kd (x0 + 14) = 112) (ek_ck (ek_in i2 12) (ek_ck (kd (x0 + 14) = 112) (ek_ck (ek_in i1 12) (ek_let (ek_up I13 (x0 + 14) i1.toNatClampNeg (I13 (x0 + 14) i2.toNatClampNeg)) (fun I14 => ek_ck (kd x0 = 8) (ek_ck (kd x0 = 8) (ek_ck (kd (x0 + 15) = 50) (ek_ck (ek_in i2 12) (ek_ck (kd (x0 + 15) = 50) (ek_ck (ek_in i1 12) (ek_ck ((I14 (x0 + 15) i2.toNatClampNeg) = (0 : Int32) ∨ (I14 (x0 + 15) i2.toNatClampNeg) = (1 : Int32)) (ek_let (ek_up I14 (x0 + 15) i1.toNatClampNeg (I14 (x0 + 15) i2.toNatClampNeg)) (fun I15 => ek_ck (kd x0 = 8) (ek_bv (fMo_copy kd I15 x0 (((2 : Int32)) * i1) (((2 : Int32)) * i2)) (fun I16 => ek_ck (kd x0 = 8) (ek_bv (fMo_copy kd I16 x0 ((((2 : Int32)) * i1) + ((1 : Int32))) ((((2 : Int32)) * i2) + ((1 : Int32)))) (fun I18 => some I18))))))))))))))))))))))))))))))))))))))))))))))))))))))))))))))))))))))))))))))))))))))))))))))))))))))))))))))
def fMo_move (kd : Nat → Nat) (I : ek_St) (x0 : Nat) (i1 : Int32) (i2 : Int32) : Option (ek_St) := fMo_move_0 kd I x0 i1 i2
theorem dMo_move_0 : decode prog_9_method_27_code 0 = .ok (.aload_n 0, 1) := by decide +kernel
theorem dMo_move_1 : decode prog_9_method_27_code 1 = .ok (.getfield 13, 3) := by decide +kernel
theorem dMo_move_4 : decode prog_9_method_27_code 4 = .ok (.iload_n 1, 1) := by decide +kernel
theorem dMo_move_5 : decode prog_9_method_27_code 5 = .ok (.aload_n 0, 1) := by decide +kernel
theorem dMo_move_6 : decode prog_9_method_27_code 6 = .ok (.getfield 13, 3) := by decide +kernel
theorem dMo_move_9 : decode prog_9_method_27_code 9 = .ok (.iload_n 2, 1) := by decide +kernel
theorem dMo_move_10 : decode prog_9_method_27_code 10 = .ok (.iaload, 1) := by decide +kernel
theorem dMo_move_11 : decode prog_9_method_27_code 11 = .ok (.iastore, 1) := by decide +kernel
theorem dMo_move_12 : decode prog_9_method_27_code 12 = .ok (.aload_n 0, 1) := by decide +kernel
theorem dMo_move_13 : decode prog_9_method_27_code 13 = .ok (.getfield 17, 3) := by decide +kernel
theorem dMo_move_16 : decode prog_9_method_27_code 16 = .ok (.iload_n 1, 1) := by decide +kernel
theorem dMo_move_17 : decode prog_9_method_27_code 17 = .ok (.aload_n 0, 1) := by decide +kernel
theorem dMo_move_18 : decode prog_9_method_27_code 18 = .ok (.getfield 17, 3) := by decide +kernel
theorem dMo_move_21 : decode prog_9_method_27_code 21 = .ok (.iload_n 2, 1) := by decide +kernel
theorem dMo_move_22 : decode prog_9_method_27_code 22 = .ok (.iaload, 1) := by decide +kernel
theorem dMo_move_23 : decode prog_9_method_27_code 23 = .ok (.iastore, 1) := by decide +kernel
theorem dMo_move_24 : decode prog_9_method_27_code 24 = .ok (.aload_n 0, 1) := by decide +kernel
theorem dMo_move_25 : decode prog_9_method_27_code 25 = .ok (.getfield 20, 3) := by decide +kernel
theorem dMo_move_28 : decode prog_9_method_27_code 28 = .ok (.iload_n 1, 1) := by decide +kernel
theorem dMo_move_29 : decode prog_9_method_27_code 29 = .ok (.aload_n 0, 1) := by decide +kernel
theorem dMo_move_30 : decode prog_9_method_27_code 30 = .ok (.getfield 20, 3) := by decide +kernel
theorem dMo_move_33 : decode prog_9_method_27_code 33 = .ok (.iload_n 2, 1) := by decide +kernel
theorem dMo_move_34 : decode prog_9_method_27_code 34 = .ok (.iaload, 1) := by decide +kernel
theorem dMo_move_35 : decode prog_9_method_27_code 35 = .ok (.iastore, 1) := by decide +kernel
theorem dMo_move_36 : decode prog_9_method_27_code 36 = .ok (.aload_n 0, 1) := by decide +kernel
theorem dMo_move_37 : decode prog_9_method_27_code 37 = .ok (.getfield 23, 3) := by decide +kernel
theorem dMo_move_40 : decode prog_9_method_27_code 40 = .ok (.iload_n 1, 1) := by decide +kernel
theorem dMo_move_41 : decode prog_9_method_27_code 41 = .ok (.aload_n 0, 1) := by decide +kernel
theorem dMo_move_42 : decode prog_9_method_27_code 42 = .ok (.getfield 23, 3) := by decide +kernel
theorem dMo_move_45 : decode prog_9_method_27_code 45 = .ok (.iload_n 2, 1) := by decide +kernel
theorem dMo_move_46 : decode prog_9_method_27_code 46 = .ok (.iaload, 1) := by decide +kernel
theorem dMo_move_47 : decode prog_9_method_27_code 47 = .ok (.iastore, 1) := by decide +kernel
theorem dMo_move_48 : decode prog_9_method_27_code 48 = .ok (.aload_n 0, 1) := by decide +kernel
theorem dMo_move_49 : decode prog_9_method_27_code 49 = .ok (.getfield 26, 3) := by decide +kernel
theorem dMo_move_52 : decode prog_9_method_27_code 52 = .ok (.iload_n 1, 1) := by decide +kernel
theorem dMo_move_53 : decode prog_9_method_27_code 53 = .ok (.aload_n 0, 1) := by decide +kernel
theorem dMo_move_54 : decode prog_9_method_27_code 54 = .ok (.getfield 26, 3) := by decide +kernel
theorem dMo_move_57 : decode prog_9_method_27_code 57 = .ok (.iload_n 2, 1) := by decide +kernel
theorem dMo_move_58 : decode prog_9_method_27_code 58 = .ok (.iaload, 1) := by decide +kernel
theorem dMo_move_59 : decode prog_9_method_27_code 59 = .ok (.iastore, 1) := by decide +kernel
theorem dMo_move_60 : decode prog_9_method_27_code 60 = .ok (.aload_n 0, 1) := by decide +kernel
theorem dMo_move_61 : decode prog_9_method_27_code 61 = .ok (.getfield 29, 3) := by decide +kernel
theorem dMo_move_64 : decode prog_9_method_27_code 64 = .ok (.iload_n 1, 1) := by decide +kernel
theorem dMo_move_65 : decode prog_9_method_27_code 65 = .ok (.aload_n 0, 1) := by decide +kernel
theorem dMo_move_66 : decode prog_9_method_27_code 66 = .ok (.getfield 29, 3) := by decide +kernel
theorem dMo_move_69 : decode prog_9_method_27_code 69 = .ok (.iload_n 2, 1) := by decide +kernel
theorem dMo_move_70 : decode prog_9_method_27_code 70 = .ok (.iaload, 1) := by decide +kernel
theorem dMo_move_71 : decode prog_9_method_27_code 71 = .ok (.iastore, 1) := by decide +kernel
theorem dMo_move_72 : decode prog_9_method_27_code 72 = .ok (.aload_n 0, 1) := by decide +kernel
theorem dMo_move_73 : decode prog_9_method_27_code 73 = .ok (.getfield 32, 3) := by decide +kernel
theorem dMo_move_76 : decode prog_9_method_27_code 76 = .ok (.iload_n 1, 1) := by decide +kernel
theorem dMo_move_77 : decode prog_9_method_27_code 77 = .ok (.aload_n 0, 1) := by decide +kernel
theorem dMo_move_78 : decode prog_9_method_27_code 78 = .ok (.getfield 32, 3) := by decide +kernel
theorem dMo_move_81 : decode prog_9_method_27_code 81 = .ok (.iload_n 2, 1) := by decide +kernel
theorem dMo_move_82 : decode prog_9_method_27_code 82 = .ok (.iaload, 1) := by decide +kernel
theorem dMo_move_83 : decode prog_9_method_27_code 83 = .ok (.iastore, 1) := by decide +kernel
theorem dMo_move_84 : decode prog_9_method_27_code 84 = .ok (.aload_n 0, 1) := by decide +kernel
theorem dMo_move_85 : decode prog_9_method_27_code 85 = .ok (.getfield 35, 3) := by decide +kernel
theorem dMo_move_88 : decode prog_9_method_27_code 88 = .ok (.iload_n 1, 1) := by decide +kernel
theorem dMo_move_89 : decode prog_9_method_27_code 89 = .ok (.aload_n 0, 1) := by decide +kernel
theorem dMo_move_90 : decode prog_9_method_27_code 90 = .ok (.getfield 35, 3) := by decide +kernel
theorem dMo_move_93 : decode prog_9_method_27_code 93 = .ok (.iload_n 2, 1) := by decide +kernel
theorem dMo_move_94 : decode prog_9_method_27_code 94 = .ok (.iaload, 1) := by decide +kernel
theorem dMo_move_95 : decode prog_9_method_27_code 95 = .ok (.iastore, 1) := by decide +kernel
theorem dMo_move_96 : decode prog_9_method_27_code 96 = .ok (.aload_n 0, 1) := by decide +kernel
theorem dMo_move_97 : decode prog_9_method_27_code 97 = .ok (.getfield 38, 3) := by decide +kernel
theorem dMo_move_100 : decode prog_9_method_27_code 100 = .ok (.iload_n 1, 1) := by decide +kernel
theorem dMo_move_101 : decode prog_9_method_27_code 101 = .ok (.aload_n 0, 1) := by decide +kernel
theorem dMo_move_102 : decode prog_9_method_27_code 102 = .ok (.getfield 38, 3) := by decide +kernel
theorem dMo_move_105 : decode prog_9_method_27_code 105 = .ok (.iload_n 2, 1) := by decide +kernel
theorem dMo_move_106 : decode prog_9_method_27_code 106 = .ok (.iaload, 1) := by decide +kernel
theorem dMo_move_107 : decode prog_9_method_27_code 107 = .ok (.iastore, 1) := by decide +kernel
theorem dMo_move_108 : decode prog_9_method_27_code 108 = .ok (.aload_n 0, 1) := by decide +kernel
theorem dMo_move_109 : decode prog_9_method_27_code 109 = .ok (.getfield 41, 3) := by decide +kernel
theorem dMo_move_112 : decode prog_9_method_27_code 112 = .ok (.iload_n 1, 1) := by decide +kernel
theorem dMo_move_113 : decode prog_9_method_27_code 113 = .ok (.aload_n 0, 1) := by decide +kernel
theorem dMo_move_114 : decode prog_9_method_27_code 114 = .ok (.getfield 41, 3) := by decide +kernel
theorem dMo_move_117 : decode prog_9_method_27_code 117 = .ok (.iload_n 2, 1) := by decide +kernel
theorem dMo_move_118 : decode prog_9_method_27_code 118 = .ok (.iaload, 1) := by decide +kernel
theorem dMo_move_119 : decode prog_9_method_27_code 119 = .ok (.iastore, 1) := by decide +kernel
theorem dMo_move_120 : decode prog_9_method_27_code 120 = .ok (.aload_n 0, 1) := by decide +kernel
theorem dMo_move_121 : decode prog_9_method_27_code 121 = .ok (.getfield 44, 3) := by decide +kernel
theorem dMo_move_124 : decode prog_9_method_27_code 124 = .ok (.iload_n 1, 1) := by decide +kernel
theorem dMo_move_125 : decode prog_9_method_27_code 125 = .ok (.aload_n 0, 1) := by decide +kernel
theorem dMo_move_126 : decode prog_9_method_27_code 126 = .ok (.getfield 44, 3) := by decide +kernel
theorem dMo_move_129 : decode prog_9_method_27_code 129 = .ok (.iload_n 2, 1) := by decide +kernel
theorem dMo_move_130 : decode prog_9_method_27_code 130 = .ok (.iaload, 1) := by decide +kernel
theorem dMo_move_131 : decode prog_9_method_27_code 131 = .ok (.iastore, 1) := by decide +kernel
theorem dMo_move_132 : decode prog_9_method_27_code 132 = .ok (.aload_n 0, 1) := by decide +kernel
theorem dMo_move_133 : decode prog_9_method_27_code 133 = .ok (.getfield 47, 3) := by decide +kernel
theorem dMo_move_136 : decode prog_9_method_27_code 136 = .ok (.iload_n 1, 1) := by decide +kernel
theorem dMo_move_137 : decode prog_9_method_27_code 137 = .ok (.aload_n 0, 1) := by decide +kernel
theorem dMo_move_138 : decode prog_9_method_27_code 138 = .ok (.getfield 47, 3) := by decide +kernel
theorem dMo_move_141 : decode prog_9_method_27_code 141 = .ok (.iload_n 2, 1) := by decide +kernel
theorem dMo_move_142 : decode prog_9_method_27_code 142 = .ok (.iaload, 1) := by decide +kernel
theorem dMo_move_143 : decode prog_9_method_27_code 143 = .ok (.iastore, 1) := by decide +kernel
theorem dMo_move_144 : decode prog_9_method_27_code 144 = .ok (.aload_n 0, 1) := by decide +kernel
theorem dMo_move_145 : decode prog_9_method_27_code 145 = .ok (.getfield 50, 3) := by decide +kernel
theorem dMo_move_148 : decode prog_9_method_27_code 148 = .ok (.iload_n 1, 1) := by decide +kernel
theorem dMo_move_149 : decode prog_9_method_27_code 149 = .ok (.aload_n 0, 1) := by decide +kernel
theorem dMo_move_150 : decode prog_9_method_27_code 150 = .ok (.getfield 50, 3) := by decide +kernel
theorem dMo_move_153 : decode prog_9_method_27_code 153 = .ok (.iload_n 2, 1) := by decide +kernel
theorem dMo_move_154 : decode prog_9_method_27_code 154 = .ok (.iaload, 1) := by decide +kernel
theorem dMo_move_155 : decode prog_9_method_27_code 155 = .ok (.iastore, 1) := by decide +kernel
theorem dMo_move_156 : decode prog_9_method_27_code 156 = .ok (.aload_n 0, 1) := by decide +kernel
theorem dMo_move_157 : decode prog_9_method_27_code 157 = .ok (.getfield 53, 3) := by decide +kernel
theorem dMo_move_160 : decode prog_9_method_27_code 160 = .ok (.iload_n 1, 1) := by decide +kernel
theorem dMo_move_161 : decode prog_9_method_27_code 161 = .ok (.aload_n 0, 1) := by decide +kernel
theorem dMo_move_162 : decode prog_9_method_27_code 162 = .ok (.getfield 53, 3) := by decide +kernel
theorem dMo_move_165 : decode prog_9_method_27_code 165 = .ok (.iload_n 2, 1) := by decide +kernel
theorem dMo_move_166 : decode prog_9_method_27_code 166 = .ok (.iaload, 1) := by decide +kernel
theorem dMo_move_167 : decode prog_9_method_27_code 167 = .ok (.iastore, 1) := by decide +kernel
theorem dMo_move_168 : decode prog_9_method_27_code 168 = .ok (.aload_n 0, 1) := by decide +kernel
theorem dMo_move_169 : decode prog_9_method_27_code 169 = .ok (.getfield 56, 3) := by decide +kernel
theorem dMo_move_172 : decode prog_9_method_27_code 172 = .ok (.iload_n 1, 1) := by decide +kernel
theorem dMo_move_173 : decode prog_9_method_27_code 173 = .ok (.aload_n 0, 1) := by decide +kernel
theorem dMo_move_174 : decode prog_9_method_27_code 174 = .ok (.getfield 56, 3) := by decide +kernel
theorem dMo_move_177 : decode prog_9_method_27_code 177 = .ok (.iload_n 2, 1) := by decide +kernel
theorem dMo_move_178 : decode prog_9_method_27_code 178 = .ok (.baload, 1) := by decide +kernel
theorem dMo_move_179 : decode prog_9_method_27_code 179 = .ok (.bastore, 1) := by decide +kernel
theorem dMo_move_180 : decode prog_9_method_27_code 180 = .ok (.aload_n 0, 1) := by decide +kernel
theorem dMo_move_181 : decode prog_9_method_27_code 181 = .ok (.iconst 2, 1) := by decide +kernel
theorem dMo_move_182 : decode prog_9_method_27_code 182 = .ok (.iload_n 1, 1) := by decide +kernel
theorem dMo_move_183 : decode prog_9_method_27_code 183 = .ok (.imul, 1) := by decide +kernel
theorem dMo_move_184 : decode prog_9_method_27_code 184 = .ok (.iconst 2, 1) := by decide +kernel
theorem dMo_move_185 : decode prog_9_method_27_code 185 = .ok (.iload_n 2, 1) := by decide +kernel
theorem dMo_move_186 : decode prog_9_method_27_code 186 = .ok (.imul, 1) := by decide +kernel
theorem dMo_move_187 : decode prog_9_method_27_code 187 = .ok (.invokevirtual 87, 3) := by decide +kernel
theorem dMo_move_190 : decode prog_9_method_27_code 190 = .ok (.aload_n 0, 1) := by decide +kernel
theorem dMo_move_191 : decode prog_9_method_27_code 191 = .ok (.iconst 2, 1) := by decide +kernel
theorem dMo_move_192 : decode prog_9_method_27_code 192 = .ok (.iload_n 1, 1) := by decide +kernel
theorem dMo_move_193 : decode prog_9_method_27_code 193 = .ok (.imul, 1) := by decide +kernel
theorem dMo_move_194 : decode prog_9_method_27_code 194 = .ok (.iconst 1, 1) := by decide +kernel
theorem dMo_move_195 : decode prog_9_method_27_code 195 = .ok (.iadd, 1) := by decide +kernel
theorem dMo_move_196 : decode prog_9_method_27_code 196 = .ok (.iconst 2, 1) := by decide +kernel
theorem dMo_move_197 : decode prog_9_method_27_code 197 = .ok (.iload_n 2, 1) := by decide +kernel
theorem dMo_move_198 : decode prog_9_method_27_code 198 = .ok (.imul, 1) := by decide +kernel
theorem dMo_move_199 : decode prog_9_method_27_code 199 = .ok (.iconst 1, 1) := by decide +kernel
theorem dMo_move_200 : decode prog_9_method_27_code 200 = .ok (.iadd, 1) := by decide +kernel
theorem dMo_move_201 : decode prog_9_method_27_code 201 = .ok (.invokevirtual 87, 3) := by decide +kernel
theorem dMo_move_204 : decode prog_9_method_27_code 204 = .ok (.return_, 1) := by decide +kernel
set_option maxHeartbeats 4000000 in
set_option maxRecDepth 100000 in
theorem wMo_move_0 {l : Launch} {G : ek_G} {kd : Nat → Nat} {p : Program} {e : Env} {s : State} {m : MethodId} {args : Array Value} {below : List Frame} {meth : Method} {c : Code} (X : ek_X p s m meth c args G prog_9_method_27_code 3 "ElasticKernelModel" none) {q : ek_St} {I : ek_St} {x0 : Nat} {i1 : Int32} {i2 : Int32} (hf : fMo_move_0 kd I x0 i1 i2 = some q) {H : Heap} {locs : List Loc} {ls : Array Slot} (hw : ek_W G kd I H) (hS : va_S (ek_A G kd) s.heap H locs) (hl : lv_has ls 3 [(0, ek_r G x0), (1, .int i1), (2, .int i2)]) : W p l e ({ frames := 1, cells := 0, slots := 0, locals := 23 } : Room) s m args below meth c H locs 0 0 (MQ below (ek_Q G kd none q) args s 0 0 (ek_A G kd)) (F0 m 0 ls []) := by
  obtain ⟨hx, hb, hml, hown, hts, hr, hlocks, hK⟩ := id X
  have hA : ∀ q, ek_A G kd q → ek_A G kd q := fun _ h => h
  unfold fMo_move_0 at hf
  refine ek_aload_n hx hb dMo_move_0 rfl (lv_at hl 0 rfl) ?_
  refine ek_getr hx hb 8 hts (in_Mo) hown hK hw rfl (by decide) (by decide) 8 (by decide) (n := 0) rfl rfl (hts _ q_584) hf dMo_move_1 (fun hf => ?_)
  refine lv_iload_n hx hb dMo_move_4 rfl (lv_at hl 1 rfl) ?_
  refine ek_aload_n hx hb dMo_move_5 rfl (lv_at hl 0 rfl) ?_
  refine ek_getr hx hb 8 hts (in_Mo) hown hK hw rfl (by decide) (by decide) 8 (by decide) (n := 0) rfl rfl (hts _ q_584) hf dMo_move_6 (fun hf => ?_)
  refine lv_iload_n hx hb dMo_move_9 rfl (lv_at hl 2 rfl) ?_
  refine ek_iald hx hb hK hw 12 rfl hf dMo_move_10 (fun hf => ?_)
  refine ek_iast hx hb hK hw hS hA 12 rfl hf dMo_move_11 (fun I1 H locs hf hw hS => ?_)
  refine ek_aload_n hx hb dMo_move_12 rfl (lv_at hl 0 rfl) ?_
  refine ek_getr hx hb 8 hts (in_Mo) hown hK hw rfl (by decide) (by decide) 9 (by decide) (n := 1) rfl rfl (hts _ q_585) hf dMo_move_13 (fun hf => ?_)
  refine lv_iload_n hx hb dMo_move_16 rfl (lv_at hl 1 rfl) ?_
  refine ek_aload_n hx hb dMo_move_17 rfl (lv_at hl 0 rfl) ?_
  refine ek_getr hx hb 8 hts (in_Mo) hown hK hw rfl (by decide) (by decide) 9 (by decide) (n := 1) rfl rfl (hts _ q_585) hf dMo_move_18 (fun hf => ?_)
  refine lv_iload_n hx hb dMo_move_21 rfl (lv_at hl 2 rfl) ?_
  refine ek_iald hx hb hK hw 12 rfl hf dMo_move_22 (fun hf => ?_)
  refine ek_iast hx hb hK hw hS hA 12 rfl hf dMo_move_23 (fun I2 H locs hf hw hS => ?_)
  refine ek_aload_n hx hb dMo_move_24 rfl (lv_at hl 0 rfl) ?_
  refine ek_getr hx hb 8 hts (in_Mo) hown hK hw rfl (by decide) (by decide) 10 (by decide) (n := 2) rfl rfl (hts _ q_586) hf dMo_move_25 (fun hf => ?_)
  refine lv_iload_n hx hb dMo_move_28 rfl (lv_at hl 1 rfl) ?_
  refine ek_aload_n hx hb dMo_move_29 rfl (lv_at hl 0 rfl) ?_
  refine ek_getr hx hb 8 hts (in_Mo) hown hK hw rfl (by decide) (by decide) 10 (by decide) (n := 2) rfl rfl (hts _ q_586) hf dMo_move_30 (fun hf => ?_)
  refine lv_iload_n hx hb dMo_move_33 rfl (lv_at hl 2 rfl) ?_
  refine ek_iald hx hb hK hw 12 rfl hf dMo_move_34 (fun hf => ?_)
  refine ek_iast hx hb hK hw hS hA 12 rfl hf dMo_move_35 (fun I3 H locs hf hw hS => ?_)
  refine ek_aload_n hx hb dMo_move_36 rfl (lv_at hl 0 rfl) ?_
  refine ek_getr hx hb 8 hts (in_Mo) hown hK hw rfl (by decide) (by decide) 11 (by decide) (n := 3) rfl rfl (hts _ q_587) hf dMo_move_37 (fun hf => ?_)
  refine lv_iload_n hx hb dMo_move_40 rfl (lv_at hl 1 rfl) ?_
  refine ek_aload_n hx hb dMo_move_41 rfl (lv_at hl 0 rfl) ?_
  refine ek_getr hx hb 8 hts (in_Mo) hown hK hw rfl (by decide) (by decide) 11 (by decide) (n := 3) rfl rfl (hts _ q_587) hf dMo_move_42 (fun hf => ?_)
  refine lv_iload_n hx hb dMo_move_45 rfl (lv_at hl 2 rfl) ?_
  refine ek_iald hx hb hK hw 12 rfl hf dMo_move_46 (fun hf => ?_)
  refine ek_iast hx hb hK hw hS hA 12 rfl hf dMo_move_47 (fun I4 H locs hf hw hS => ?_)
  refine ek_aload_n hx hb dMo_move_48 rfl (lv_at hl 0 rfl) ?_
  refine ek_getr hx hb 8 hts (in_Mo) hown hK hw rfl (by decide) (by decide) 12 (by decide) (n := 4) rfl rfl (hts _ q_588) hf dMo_move_49 (fun hf => ?_)
  refine lv_iload_n hx hb dMo_move_52 rfl (lv_at hl 1 rfl) ?_
  refine ek_aload_n hx hb dMo_move_53 rfl (lv_at hl 0 rfl) ?_
  refine ek_getr hx hb 8 hts (in_Mo) hown hK hw rfl (by decide) (by decide) 12 (by decide) (n := 4) rfl rfl (hts _ q_588) hf dMo_move_54 (fun hf => ?_)
  refine lv_iload_n hx hb dMo_move_57 rfl (lv_at hl 2 rfl) ?_
  refine ek_iald hx hb hK hw 12 rfl hf dMo_move_58 (fun hf => ?_)
  refine ek_iast hx hb hK hw hS hA 12 rfl hf dMo_move_59 (fun I5 H locs hf hw hS => ?_)
  refine ek_aload_n hx hb dMo_move_60 rfl (lv_at hl 0 rfl) ?_
  refine ek_getr hx hb 8 hts (in_Mo) hown hK hw rfl (by decide) (by decide) 13 (by decide) (n := 5) rfl rfl (hts _ q_589) hf dMo_move_61 (fun hf => ?_)
  refine lv_iload_n hx hb dMo_move_64 rfl (lv_at hl 1 rfl) ?_
  refine ek_aload_n hx hb dMo_move_65 rfl (lv_at hl 0 rfl) ?_
  refine ek_getr hx hb 8 hts (in_Mo) hown hK hw rfl (by decide) (by decide) 13 (by decide) (n := 5) rfl rfl (hts _ q_589) hf dMo_move_66 (fun hf => ?_)
  refine lv_iload_n hx hb dMo_move_69 rfl (lv_at hl 2 rfl) ?_
  refine ek_iald hx hb hK hw 12 rfl hf dMo_move_70 (fun hf => ?_)
  refine ek_iast hx hb hK hw hS hA 12 rfl hf dMo_move_71 (fun I6 H locs hf hw hS => ?_)
  refine ek_aload_n hx hb dMo_move_72 rfl (lv_at hl 0 rfl) ?_
  refine ek_getr hx hb 8 hts (in_Mo) hown hK hw rfl (by decide) (by decide) 14 (by decide) (n := 6) rfl rfl (hts _ q_590) hf dMo_move_73 (fun hf => ?_)
  refine lv_iload_n hx hb dMo_move_76 rfl (lv_at hl 1 rfl) ?_
  refine ek_aload_n hx hb dMo_move_77 rfl (lv_at hl 0 rfl) ?_
  refine ek_getr hx hb 8 hts (in_Mo) hown hK hw rfl (by decide) (by decide) 14 (by decide) (n := 6) rfl rfl (hts _ q_590) hf dMo_move_78 (fun hf => ?_)
  refine lv_iload_n hx hb dMo_move_81 rfl (lv_at hl 2 rfl) ?_
  refine ek_iald hx hb hK hw 12 rfl hf dMo_move_82 (fun hf => ?_)
  refine ek_iast hx hb hK hw hS hA 12 rfl hf dMo_move_83 (fun I7 H locs hf hw hS => ?_)
  refine ek_aload_n hx hb dMo_move_84 rfl (lv_at hl 0 rfl) ?_
  refine ek_getr hx hb 8 hts (in_Mo) hown hK hw rfl (by decide) (by decide) 15 (by decide) (n := 7) rfl rfl (hts _ q_591) hf dMo_move_85 (fun hf => ?_)
  refine lv_iload_n hx hb dMo_move_88 rfl (lv_at hl 1 rfl) ?_
  refine ek_aload_n hx hb dMo_move_89 rfl (lv_at hl 0 rfl) ?_
  refine ek_getr hx hb 8 hts (in_Mo) hown hK hw rfl (by decide) (by decide) 15 (by decide) (n := 7) rfl rfl (hts _ q_591) hf dMo_move_90 (fun hf => ?_)
  refine lv_iload_n hx hb dMo_move_93 rfl (lv_at hl 2 rfl) ?_
  refine ek_iald hx hb hK hw 12 rfl hf dMo_move_94 (fun hf => ?_)
  refine ek_iast hx hb hK hw hS hA 12 rfl hf dMo_move_95 (fun I8 H locs hf hw hS => ?_)
  refine ek_aload_n hx hb dMo_move_96 rfl (lv_at hl 0 rfl) ?_
  refine ek_getr hx hb 8 hts (in_Mo) hown hK hw rfl (by decide) (by decide) 16 (by decide) (n := 8) rfl rfl (hts _ q_592) hf dMo_move_97 (fun hf => ?_)
  refine lv_iload_n hx hb dMo_move_100 rfl (lv_at hl 1 rfl) ?_
  refine ek_aload_n hx hb dMo_move_101 rfl (lv_at hl 0 rfl) ?_
  refine ek_getr hx hb 8 hts (in_Mo) hown hK hw rfl (by decide) (by decide) 16 (by decide) (n := 8) rfl rfl (hts _ q_592) hf dMo_move_102 (fun hf => ?_)
  refine lv_iload_n hx hb dMo_move_105 rfl (lv_at hl 2 rfl) ?_
  refine ek_iald hx hb hK hw 12 rfl hf dMo_move_106 (fun hf => ?_)
  refine ek_iast hx hb hK hw hS hA 12 rfl hf dMo_move_107 (fun I9 H locs hf hw hS => ?_)
  refine ek_aload_n hx hb dMo_move_108 rfl (lv_at hl 0 rfl) ?_
  refine ek_getr hx hb 8 hts (in_Mo) hown hK hw rfl (by decide) (by decide) 17 (by decide) (n := 9) rfl rfl (hts _ q_593) hf dMo_move_109 (fun hf => ?_)
  refine lv_iload_n hx hb dMo_move_112 rfl (lv_at hl 1 rfl) ?_
  refine ek_aload_n hx hb dMo_move_113 rfl (lv_at hl 0 rfl) ?_
  refine ek_getr hx hb 8 hts (in_Mo) hown hK hw rfl (by decide) (by decide) 17 (by decide) (n := 9) rfl rfl (hts _ q_593) hf dMo_move_114 (fun hf => ?_)
  refine lv_iload_n hx hb dMo_move_117 rfl (lv_at hl 2 rfl) ?_
  refine ek_iald hx hb hK hw 12 rfl hf dMo_move_118 (fun hf => ?_)
  refine ek_iast hx hb hK hw hS hA 12 rfl hf dMo_move_119 (fun I10 H locs hf hw hS => ?_)
  refine ek_aload_n hx hb dMo_move_120 rfl (lv_at hl 0 rfl) ?_
  refine ek_getr hx hb 8 hts (in_Mo) hown hK hw rfl (by decide) (by decide) 18 (by decide) (n := 10) rfl rfl (hts _ q_594) hf dMo_move_121 (fun hf => ?_)
  refine lv_iload_n hx hb dMo_move_124 rfl (lv_at hl 1 rfl) ?_
  refine ek_aload_n hx hb dMo_move_125 rfl (lv_at hl 0 rfl) ?_
  refine ek_getr hx hb 8 hts (in_Mo) hown hK hw rfl (by decide) (by decide) 18 (by decide) (n := 10) rfl rfl (hts _ q_594) hf dMo_move_126 (fun hf => ?_)
  refine lv_iload_n hx hb dMo_move_129 rfl (lv_at hl 2 rfl) ?_
  refine ek_iald hx hb hK hw 12 rfl hf dMo_move_130 (fun hf => ?_)
  refine ek_iast hx hb hK hw hS hA 12 rfl hf dMo_move_131 (fun I11 H locs hf hw hS => ?_)
  refine ek_aload_n hx hb dMo_move_132 rfl (lv_at hl 0 rfl) ?_
  refine ek_getr hx hb 8 hts (in_Mo) hown hK hw rfl (by decide) (by decide) 19 (by decide) (n := 11) rfl rfl (hts _ q_595) hf dMo_move_133 (fun hf => ?_)
  refine lv_iload_n hx hb dMo_move_136 rfl (lv_at hl 1 rfl) ?_
  refine ek_aload_n hx hb dMo_move_137 rfl (lv_at hl 0 rfl) ?_
  refine ek_getr hx hb 8 hts (in_Mo) hown hK hw rfl (by decide) (by decide) 19 (by decide) (n := 11) rfl rfl (hts _ q_595) hf dMo_move_138 (fun hf => ?_)
  refine lv_iload_n hx hb dMo_move_141 rfl (lv_at hl 2 rfl) ?_
  refine ek_iald hx hb hK hw 12 rfl hf dMo_move_142 (fun hf => ?_)
  refine ek_iast hx hb hK hw hS hA 12 rfl hf dMo_move_143 (fun I12 H locs hf hw hS => ?_)
  refine ek_aload_n hx hb dMo_move_144 rfl (lv_at hl 0 rfl) ?_
  refine ek_getr hx hb 8 hts (in_Mo) hown hK hw rfl (by decide) (by decide) 20 (by decide) (n := 12) rfl rfl (hts _ q_596) hf dMo_move_145 (fun hf => ?_)
  refine lv_iload_n hx hb dMo_move_148 rfl (lv_at hl 1 rfl) ?_
  refine ek_aload_n hx hb dMo_move_149 rfl (lv_at hl 0 rfl) ?_
  refine ek_getr hx hb 8 hts (in_Mo) hown hK hw rfl (by decide) (by decide) 20 (by decide) (n := 12) rfl rfl (hts _ q_596) hf dMo_move_150 (fun hf => ?_)
  refine lv_iload_n hx hb dMo_move_153 rfl (lv_at hl 2 rfl) ?_
  refine ek_iald hx hb hK hw 12 rfl hf dMo_move_154 (fun hf => ?_)
  refine ek_iast hx hb hK hw hS hA 12 rfl hf dMo_move_155 (fun I13 H locs hf hw hS => ?_)
  refine ek_aload_n hx hb dMo_move_156 rfl (lv_at hl 0 rfl) ?_
  refine ek_getr hx hb 8 hts (in_Mo) hown hK hw rfl (by decide) (by decide) 21 (by decide) (n := 13) rfl rfl (hts _ q_597) hf dMo_move_157 (fun hf => ?_)
  refine lv_iload_n hx hb dMo_move_160 rfl (lv_at hl 1 rfl) ?_
  refine ek_aload_n hx hb dMo_move_161 rfl (lv_at hl 0 rfl) ?_
  refine ek_getr hx hb 8 hts (in_Mo) hown hK hw rfl (by decide) (by decide) 21 (by decide) (n := 13) rfl rfl (hts _ q_597) hf dMo_move_162 (fun hf => ?_)
  refine lv_iload_n hx hb dMo_move_165 rfl (lv_at hl 2 rfl) ?_
  refine ek_iald hx hb hK hw 12 rfl hf dMo_move_166 (fun hf => ?_)
  refine ek_iast hx hb hK hw hS hA 12 rfl hf dMo_move_167 (fun I14 H locs hf hw hS => ?_)
  refine ek_aload_n hx hb dMo_move_168 rfl (lv_at hl 0 rfl) ?_
  refine ek_getr hx hb 8 hts (in_Mo) hown hK hw rfl (by decide) (by decide) 22 (by decide) (n := 14) rfl rfl (hts _ q_598) hf dMo_move_169 (fun hf => ?_)
  refine lv_iload_n hx hb dMo_move_172 rfl (lv_at hl 1 rfl) ?_
  refine ek_aload_n hx hb dMo_move_173 rfl (lv_at hl 0 rfl) ?_
  refine ek_getr hx hb 8 hts (in_Mo) hown hK hw rfl (by decide) (by decide) 22 (by decide) (n := 14) rfl rfl (hts _ q_598) hf dMo_move_174 (fun hf => ?_)
  refine lv_iload_n hx hb dMo_move_177 rfl (lv_at hl 2 rfl) ?_
  refine ek_zald hx hb hK hw hf dMo_move_178 (fun hf => ?_)
  refine ek_zast hx hb hK hw hS hA hf dMo_move_179 (fun I15 H locs hf hw hS => ?_)
  refine ek_aload_n hx hb dMo_move_180 rfl (lv_at hl 0 rfl) ?_
  refine lv_iconst (v := (2 : Int32)) hx hb dMo_move_181 (by decide) ?_
  refine lv_iload_n hx hb dMo_move_182 rfl (lv_at hl 1 rfl) ?_
  refine lv_imul hx hb dMo_move_183 ?_
  refine lv_iconst (v := (2 : Int32)) hx hb dMo_move_184 (by decide) ?_
  refine lv_iload_n hx hb dMo_move_185 rfl (lv_at hl 2 rfl) ?_
  refine lv_imul hx hb dMo_move_186 ?_
  obtain ⟨hx17, hf⟩ := ek_ck_s hf
  refine ek_cv hf hS hA (fun I' hq => ek_rV (As := [.int (((2 : Int32)) * i1), .int (((2 : Int32)) * i2)]) ⟨hx, hb, hml, hown, hts⟩ hK hw 8 rfl (by decide) (by decide) hx17 (mMo_copy hq) (cwV 2 hts (lw_V q_669 q_671 p_18 q_8 q_672) rfl rfl rfl (by decide +kernel) ⟨Nat.le_of_ble_eq_true rfl, Nat.le_of_ble_eq_true rfl⟩) rfl hl.1 rfl (Nat.le_of_ble_eq_true rfl) dMo_move_187 ⟨Nat.zero_le _, Nat.zero_le _⟩) (fun I16 H locs hf hw hS => ?_)
  refine ek_aload_n hx hb dMo_move_190 rfl (lv_at hl 0 rfl) ?_
  refine lv_iconst (v := (2 : Int32)) hx hb dMo_move_191 (by decide) ?_
  refine lv_iload_n hx hb dMo_move_192 rfl (lv_at hl 1 rfl) ?_
  refine lv_imul hx hb dMo_move_193 ?_
  refine lv_iconst (v := (1 : Int32)) hx hb dMo_move_194 (by decide) ?_
  refine lv_iadd hx hb dMo_move_195 ?_
  refine lv_iconst (v := (2 : Int32)) hx hb dMo_move_196 (by decide) ?_
  refine lv_iload_n hx hb dMo_move_197 rfl (lv_at hl 2 rfl) ?_
  refine lv_imul hx hb dMo_move_198 ?_
  refine lv_iconst (v := (1 : Int32)) hx hb dMo_move_199 (by decide) ?_
  refine lv_iadd hx hb dMo_move_200 ?_
  obtain ⟨hx19, hf⟩ := ek_ck_s hf
  refine ek_cv hf hS hA (fun I' hq => ek_rV (As := [.int ((((2 : Int32)) * i1) + ((1 : Int32))), .int ((((2 : Int32)) * i2) + ((1 : Int32)))]) ⟨hx, hb, hml, hown, hts⟩ hK hw 8 rfl (by decide) (by decide) hx19 (mMo_copy hq) (cwV 2 hts (lw_V q_669 q_671 p_18 q_8 q_672) rfl rfl rfl (by decide +kernel) ⟨Nat.le_of_ble_eq_true rfl, Nat.le_of_ble_eq_true rfl⟩) rfl hl.1 rfl (Nat.le_of_ble_eq_true rfl) dMo_move_201 ⟨Nat.zero_le _, Nat.zero_le _⟩) (fun I18 H locs hf hw hS => ?_)
  exact ek_vret hx hb hr hlocks hw hS hf dMo_move_204
set_option maxHeartbeats 4000000 in
set_option maxRecDepth 100000 in
theorem mMo_move {l : Launch} {G : ek_G} {kd : Nat → Nat} {I : ek_St} {x0 : Nat} {i1 : Int32} {i2 : Int32} {q : ek_St} (hf : fMo_move kd I x0 i1 i2 = some q) : ek_M l G kd y_Mo_move (.code y_Mo_move prog_9_method_27_code 3 none :: lw_g) ({ frames := 1, cells := 0, slots := 0, locals := 23 } : Room) [ek_r G x0, .int i1, .int i2] I none q :=
  ek_body [(0, ek_r G x0), (1, .int i1), (2, .int i2)] (by decide) (by simp [lg_sl, ek_r_cat, ek_c_i, ek_c_l]) (by simp [lv_args, ek_r_cat, ek_c_i, ek_c_l]) (fun p e s m below meth c ls X hw hS hl => wMo_move_0 X hf hw hS hl)
/-! ElasticKernelModel.remove(I)V -/
def fMo_remove_2 (kd : Nat → Nat) (k2 : (ek_St × Nat × Int32) → Option (ek_St)) (I : ek_St) (x0 : Nat) (i2 : Int32) : Option (ek_St) :=
  ek_ck (kd x0 = 8) (if (I x0 7) ≤ (i2 + ((1 : Int32))) then (ek_ck (kd x0 = 8) (ek_ck (kd x0 = 8) (ek_let (ek_up I x0 7 ((I x0 7) - ((1 : Int32)))) (fun I2 => some I2)))) else (ek_ck (kd x0 = 8) (ek_bv (fMo_move kd I x0 i2 (i2 + ((1 : Int32)))) (fun I3 => ek_let (i2 + (1 : Int32)) (fun i2_5 => k2 (I3, x0, i2_5))))))
def fMo_remove_0 (kd : Nat → Nat) (I : ek_St) (x0 : Nat) (i1 : Int32) : Option (ek_St) :=
  ek_lp (fun (k : (ek_St × Nat × Int32) → Option (ek_St)) (q : (ek_St × Nat × Int32)) => fMo_remove_2 kd k q.1 q.2.1 q.2.2) ek_N (I, x0, i1)
def fMo_remove (kd : Nat → Nat) (I : ek_St) (x0 : Nat) (i1 : Int32) : Option (ek_St) := fMo_remove_0 kd I x0 i1
theorem dMo_remove_0 : decode prog_9_method_28_code 0 = .ok (.iload_n 1, 1) := by decide +kernel
theorem dMo_remove_1 : decode prog_9_method_28_code 1 = .ok (.istore_n 2, 1) := by decide +kernel
theorem dMo_remove_2 : decode prog_9_method_28_code 2 = .ok (.iload_n 2, 1) := by decide +kernel
theorem dMo_remove_3 : decode prog_9_method_28_code 3 = .ok (.iconst 1, 1) := by decide +kernel
theorem dMo_remove_4 : decode prog_9_method_28_code 4 = .ok (.iadd, 1) := by decide +kernel
theorem dMo_remove_5 : decode prog_9_method_28_code 5 = .ok (.aload_n 0, 1) := by decide +kernel
theorem dMo_remove_6 : decode prog_9_method_28_code 6 = .ok (.getfield 105, 3) := by decide +kernel
theorem dMo_remove_9 : decode prog_9_method_28_code 9 = .ok (.if_icmp .ge 17, 3) := by decide +kernel
theorem dMo_remove_12 : decode prog_9_method_28_code 12 = .ok (.aload_n 0, 1) := by decide +kernel
theorem dMo_remove_13 : decode prog_9_method_28_code 13 = .ok (.iload_n 2, 1) := by decide +kernel
theorem dMo_remove_14 : decode prog_9_method_28_code 14 = .ok (.iload_n 2, 1) := by decide +kernel
theorem dMo_remove_15 : decode prog_9_method_28_code 15 = .ok (.iconst 1, 1) := by decide +kernel
theorem dMo_remove_16 : decode prog_9_method_28_code 16 = .ok (.iadd, 1) := by decide +kernel
theorem dMo_remove_17 : decode prog_9_method_28_code 17 = .ok (.invokevirtual 158, 3) := by decide +kernel
theorem dMo_remove_20 : decode prog_9_method_28_code 20 = .ok (.iinc 2 1, 3) := by decide +kernel
theorem dMo_remove_23 : decode prog_9_method_28_code 23 = .ok (.goto (-21), 3) := by decide +kernel
theorem dMo_remove_26 : decode prog_9_method_28_code 26 = .ok (.aload_n 0, 1) := by decide +kernel
theorem dMo_remove_27 : decode prog_9_method_28_code 27 = .ok (.dup, 1) := by decide +kernel
theorem dMo_remove_28 : decode prog_9_method_28_code 28 = .ok (.getfield 105, 3) := by decide +kernel
theorem dMo_remove_31 : decode prog_9_method_28_code 31 = .ok (.iconst 1, 1) := by decide +kernel
theorem dMo_remove_32 : decode prog_9_method_28_code 32 = .ok (.isub, 1) := by decide +kernel
theorem dMo_remove_33 : decode prog_9_method_28_code 33 = .ok (.putfield 105, 3) := by decide +kernel
theorem dMo_remove_36 : decode prog_9_method_28_code 36 = .ok (.return_, 1) := by decide +kernel
set_option maxHeartbeats 4000000 in
set_option maxRecDepth 100000 in
theorem wMo_remove_2 {l : Launch} {G : ek_G} {kd : Nat → Nat} {p : Program} {e : Env} {s : State} {m : MethodId} {args : Array Value} {below : List Frame} {meth : Method} {c : Code} (X : ek_X p s m meth c args G prog_9_method_28_code 3 "ElasticKernelModel" none) {q : ek_St} {k2 : (ek_St × Nat × Int32) → Option (ek_St)} (hk2 : ∀ q0 : ek_St × Nat × Int32, k2 q0 = some q → ∀ (H : Heap) (locs : List Loc) (ls : Array Slot), ek_W G kd q0.1 H → va_S (ek_A G kd) s.heap H locs → lv_has ls 3 [(0, ek_r G q0.2.1), (2, .int q0.2.2)] → W p l e ({ frames := 2, cells := 0, slots := 0, locals := 45 } : Room) s m args below meth c H locs 0 0 (MQ below (ek_Q G kd none q) args s 0 0 (ek_A G kd)) (F0 m 2 ls [])) {I : ek_St} {x0 : Nat} {i2 : Int32} (hf : fMo_remove_2 kd k2 I x0 i2 = some q) {H : Heap} {locs : List Loc} {ls : Array Slot} (hw : ek_W G kd I H) (hS : va_S (ek_A G kd) s.heap H locs) (hl : lv_has ls 3 [(0, ek_r G x0), (2, .int i2)]) : W p l e ({ frames := 2, cells := 0, slots := 0, locals := 45 } : Room) s m args below meth c H locs 0 0 (MQ below (ek_Q G kd none q) args s 0 0 (ek_A G kd)) (F0 m 2 ls []) := by
  obtain ⟨hx, hb, hml, hown, hts, hr, hlocks, hK⟩ := id X
  have hA : ∀ q, ek_A G kd q → ek_A G kd q := fun _ h => h
  unfold fMo_remove_2 at hf
  refine lv_iload_n hx hb dMo_remove_2 rfl (lv_at hl 1 rfl) ?_
  refine lv_iconst (v := (1 : Int32)) hx hb dMo_remove_3 (by decide) ?_
  refine lv_iadd hx hb dMo_remove_4 ?_
  refine ek_aload_n hx hb dMo_remove_5 rfl (lv_at hl 0 rfl) ?_
  refine ek_geti hx hb 8 hts (in_Mo) hown hK hw rfl (by decide) (by decide) 7 (by decide) rfl (hts _ q_583) hf dMo_remove_6 (fun hf => ?_)
  refine lv_icmp_ge (tgt := 26) hx hb dMo_remove_9 (by decide) (fun c1 => ?_) (fun c1 => ?_)
  · have hf := ek_t c1 hf
    refine ek_aload_n hx hb dMo_remove_26 rfl (lv_at hl 0 rfl) ?_
    refine lv_dup hx hb dMo_remove_27 ek_r_cat ?_
    refine ek_geti hx hb 8 hts (in_Mo) hown hK hw rfl (by decide) (by decide) 7 (by decide) rfl (hts _ q_583) hf dMo_remove_28 (fun hf => ?_)
    refine lv_iconst (v := (1 : Int32)) hx hb dMo_remove_31 (by decide) ?_
    refine lv_isub hx hb dMo_remove_32 ?_
    refine ek_puti hx hb 8 hts (in_Mo) ty_Mo ty_Mo_ok nm_Mo hown hK hw hS hA rfl (by decide) (by decide) 7 (by decide) rfl (hts _ q_583) rfl rfl rfl hf dMo_remove_33 (fun I2 H locs hf hw hS => ?_)
    exact ek_vret hx hb hr hlocks hw hS hf dMo_remove_36
  · have hf := ek_f c1 hf
    refine ek_aload_n hx hb dMo_remove_12 rfl (lv_at hl 0 rfl) ?_
    refine lv_iload_n hx hb dMo_remove_13 rfl (lv_at hl 1 rfl) ?_
    refine lv_iload_n hx hb dMo_remove_14 rfl (lv_at hl 1 rfl) ?_
    refine lv_iconst (v := (1 : Int32)) hx hb dMo_remove_15 (by decide) ?_
    refine lv_iadd hx hb dMo_remove_16 ?_
    obtain ⟨hx4, hf⟩ := ek_ck_s hf
    refine ek_cv hf hS hA (fun I' hq => ek_rV (As := [.int i2, .int (i2 + ((1 : Int32)))]) ⟨hx, hb, hml, hown, hts⟩ hK hw 8 rfl (by decide) (by decide) hx4 (mMo_move hq) (cwV 2 hts (lw_V q_665 q_667 p_17 q_8 q_668) rfl rfl rfl (by decide +kernel) ⟨Nat.le_of_ble_eq_true rfl, Nat.le_of_ble_eq_true rfl⟩) rfl hl.1 rfl (Nat.le_of_ble_eq_true rfl) dMo_remove_17 ⟨Nat.zero_le _, Nat.zero_le _⟩) (fun I3 H locs hf hw hS => ?_)
    refine ek_iinc hx hb 1 (fun i2_5 => [(2, .int i2_5), (0, ek_r G x0)]) dMo_remove_20 hl rfl (v := i2 + (1 : Int32)) rfl hf (by decide) (fun i2_5 => ek_s1 rfl rfl) (fun i2_5 ls hf hl => ?_)
    refine lv_goto (tgt := 2) hx hb dMo_remove_23 (by decide) ?_
    exact hk2 (I3, x0, i2_5) hf _ _ _ hw hS (lv_sub hl [1, 0] rfl)
set_option maxHeartbeats 4000000 in
set_option maxRecDepth 100000 in
theorem wMo_remove_2_lp {l : Launch} {G : ek_G} {kd : Nat → Nat} {p : Program} {e : Env} {s : State} {m : MethodId} {args : Array Value} {below : List Frame} {meth : Method} {c : Code} (X : ek_X p s m meth c args G prog_9_method_28_code 3 "ElasticKernelModel" none) {q : ek_St} (n : Nat) : ∀ q0 : ek_St × Nat × Int32, ek_lp (fun (k : (ek_St × Nat × Int32) → Option (ek_St)) (q : (ek_St × Nat × Int32)) => fMo_remove_2 kd k q.1 q.2.1 q.2.2) n q0 = some q → ∀ (H : Heap) (locs : List Loc) (ls : Array Slot), ek_W G kd q0.1 H → va_S (ek_A G kd) s.heap H locs → lv_has ls 3 [(0, ek_r G q0.2.1), (2, .int q0.2.2)] → W p l e ({ frames := 2, cells := 0, slots := 0, locals := 45 } : Room) s m args below meth c H locs 0 0 (MQ below (ek_Q G kd none q) args s 0 0 (ek_A G kd)) (F0 m 2 ls []) :=
  ek_lp_ind (fun k hk q0 hf => fun H locs ls hw hS hl => wMo_remove_2 X hk hf hw hS hl) n
set_option maxHeartbeats 4000000 in
set_option maxRecDepth 100000 in
theorem wMo_remove_0 {l : Launch} {G : ek_G} {kd : Nat → Nat} {p : Program} {e : Env} {s : State} {m : MethodId} {args : Array Value} {below : List Frame} {meth : Method} {c : Code} (X : ek_X p s m meth c args G prog_9_method_28_code 3 "ElasticKernelModel" none) {q : ek_St} {I : ek_St} {x0 : Nat} {i1 : Int32} (hf : fMo_remove_0 kd I x0 i1 = some q) {H : Heap} {locs : List Loc} {ls : Array Slot} (hw : ek_W G kd I H) (hS : va_S (ek_A G kd) s.heap H locs) (hl : lv_has ls 3 [(0, ek_r G x0), (1, .int i1)]) : W p l e ({ frames := 2, cells := 0, slots := 0, locals := 45 } : Room) s m args below meth c H locs 0 0 (MQ below (ek_Q G kd none q) args s 0 0 (ek_A G kd)) (F0 m 0 ls []) := by
  obtain ⟨hx, hb, hml, hown, hts, hr, hlocks, hK⟩ := id X
  have hA : ∀ q, ek_A G kd q → ek_A G kd q := fun _ h => h
  unfold fMo_remove_0 at hf
  refine lv_iload_n hx hb dMo_remove_0 rfl (lv_at hl 1 rfl) ?_
  refine ek_istore_n (lv' := [(2, .int i1), (1, .int i1), (0, ek_r G x0)]) hx hb dMo_remove_1 rfl hl (by decide) (ek_s1k 1 rfl rfl rfl rfl rfl) (fun ls hl => ?_)
  exact wMo_remove_2_lp X ek_N (I, x0, i1) hf _ _ _ hw hS (lv_sub hl [2, 0] rfl)
set_option maxHeartbeats 4000000 in
set_option maxRecDepth 100000 in
theorem mMo_remove {l : Launch} {G : ek_G} {kd : Nat → Nat} {I : ek_St} {x0 : Nat} {i1 : Int32} {q : ek_St} (hf : fMo_remove kd I x0 i1 = some q) : ek_M l G kd y_Mo_remove (.code y_Mo_remove prog_9_method_28_code 3 none :: lw_g) ({ frames := 2, cells := 0, slots := 0, locals := 45 } : Room) [ek_r G x0, .int i1] I none q :=
  ek_body [(0, ek_r G x0), (1, .int i1)] (by decide) (by simp [lg_sl, ek_r_cat, ek_c_i, ek_c_l]) (by simp [lv_args, ek_r_cat, ek_c_i, ek_c_l]) (fun p e s m below meth c ls X hw hS hl => wMo_remove_0 X hf hw hS hl)
/-! ElasticKernelModel.tooMuch(I)I -/
def fMo_tooMuch_6 (kd : Nat → Nat) (k6 : (ek_St × Nat × Int32 × Int32) → Option (ek_St × Int32)) (I : ek_St) (x0 : Nat) (i1 : Int32) (i2 : Int32) : Option (ek_St × Int32) :=
  ek_ck (kd x0 = 8) (if (I x0 7) ≤ i2 then (some (I, (0 : Int32))) else (ek_ck (kd x0 = 8) (ek_ck (kd (x0 + 2) = 112) (ek_ck (ek_in i2 12) (ek_ck (kd x0 = 8) (ek_ck (kd (x0 + 4) = 112) (ek_ck (ek_in i2 12) (ek_ck (kd x0 = 8) (ek_bv (fMo_addFraction kd I x0 (I (x0 + 2) i2.toNatClampNeg) (I (x0 + 4) i2.toNatClampNeg)) (fun I2 => ek_ck (kd x0 = 8) (ek_bi (fMo_isAbove kd I2 x0 i1) (fun I4 ir6 => if ir6 = ((0 : Int32)) then (ek_let (i2 + (1 : Int32)) (fun i2_8 => k6 (I4, x0, i1, i2_8))) else (ek_ck (kd x0 = 8) (ek_ck (kd (x0 + 1) = 112) (ek_ck (ek_in i2 12) (some (I4, I4 (x0 + 1) i2.toNatClampNeg)))))))))))))))))
def fMo_tooMuch_0 (kd : Nat → Nat) (I : ek_St) (x0 : Nat) (i1 : Int32) : Option (ek_St × Int32) :=
  ek_ck (kd x0 = 8) (ek_bv (fMo_none kd I x0) (fun I1 => ek_lp (fun (k : (ek_St × Nat × Int32 × Int32) → Option (ek_St × Int32)) (q : (ek_St × Nat × Int32 × Int32)) => fMo_tooMuch_6 kd k q.1 q.2.1 q.2.2.1 q.2.2.2) ek_N (I1, x0, i1, (0 : Int32))))
def fMo_tooMuch (kd : Nat → Nat) (I : ek_St) (x0 : Nat) (i1 : Int32) : Option (ek_St × Int32) := fMo_tooMuch_0 kd I x0 i1
theorem dMo_tooMuch_0 : decode prog_9_method_29_code 0 = .ok (.aload_n 0, 1) := by decide +kernel
theorem dMo_tooMuch_1 : decode prog_9_method_29_code 1 = .ok (.invokevirtual 115, 3) := by decide +kernel
theorem dMo_tooMuch_4 : decode prog_9_method_29_code 4 = .ok (.iconst 0, 1) := by decide +kernel
theorem dMo_tooMuch_5 : decode prog_9_method_29_code 5 = .ok (.istore_n 2, 1) := by decide +kernel
theorem dMo_tooMuch_6 : decode prog_9_method_29_code 6 = .ok (.iload_n 2, 1) := by decide +kernel
theorem dMo_tooMuch_7 : decode prog_9_method_29_code 7 = .ok (.aload_n 0, 1) := by decide +kernel
theorem dMo_tooMuch_8 : decode prog_9_method_29_code 8 = .ok (.getfield 105, 3) := by decide +kernel
theorem dMo_tooMuch_11 : decode prog_9_method_29_code 11 = .ok (.if_icmp .ge 40, 3) := by decide +kernel
theorem dMo_tooMuch_14 : decode prog_9_method_29_code 14 = .ok (.aload_n 0, 1) := by decide +kernel
theorem dMo_tooMuch_15 : decode prog_9_method_29_code 15 = .ok (.aload_n 0, 1) := by decide +kernel
theorem dMo_tooMuch_16 : decode prog_9_method_29_code 16 = .ok (.getfield 17, 3) := by decide +kernel
theorem dMo_tooMuch_19 : decode prog_9_method_29_code 19 = .ok (.iload_n 2, 1) := by decide +kernel
theorem dMo_tooMuch_20 : decode prog_9_method_29_code 20 = .ok (.iaload, 1) := by decide +kernel
theorem dMo_tooMuch_21 : decode prog_9_method_29_code 21 = .ok (.aload_n 0, 1) := by decide +kernel
theorem dMo_tooMuch_22 : decode prog_9_method_29_code 22 = .ok (.getfield 23, 3) := by decide +kernel
theorem dMo_tooMuch_25 : decode prog_9_method_29_code 25 = .ok (.iload_n 2, 1) := by decide +kernel
theorem dMo_tooMuch_26 : decode prog_9_method_29_code 26 = .ok (.iaload, 1) := by decide +kernel
theorem dMo_tooMuch_27 : decode prog_9_method_29_code 27 = .ok (.invokevirtual 118, 3) := by decide +kernel
theorem dMo_tooMuch_30 : decode prog_9_method_29_code 30 = .ok (.aload_n 0, 1) := by decide +kernel
theorem dMo_tooMuch_31 : decode prog_9_method_29_code 31 = .ok (.iload_n 1, 1) := by decide +kernel
theorem dMo_tooMuch_32 : decode prog_9_method_29_code 32 = .ok (.invokevirtual 131, 3) := by decide +kernel
theorem dMo_tooMuch_35 : decode prog_9_method_29_code 35 = .ok (.ifCond .eq 10, 3) := by decide +kernel
theorem dMo_tooMuch_38 : decode prog_9_method_29_code 38 = .ok (.aload_n 0, 1) := by decide +kernel
theorem dMo_tooMuch_39 : decode prog_9_method_29_code 39 = .ok (.getfield 13, 3) := by decide +kernel
theorem dMo_tooMuch_42 : decode prog_9_method_29_code 42 = .ok (.iload_n 2, 1) := by decide +kernel
theorem dMo_tooMuch_43 : decode prog_9_method_29_code 43 = .ok (.iaload, 1) := by decide +kernel
theorem dMo_tooMuch_44 : decode prog_9_method_29_code 44 = .ok (.ireturn, 1) := by decide +kernel
theorem dMo_tooMuch_45 : decode prog_9_method_29_code 45 = .ok (.iinc 2 1, 3) := by decide +kernel
theorem dMo_tooMuch_48 : decode prog_9_method_29_code 48 = .ok (.goto (-42), 3) := by decide +kernel
theorem dMo_tooMuch_51 : decode prog_9_method_29_code 51 = .ok (.iconst 0, 1) := by decide +kernel
theorem dMo_tooMuch_52 : decode prog_9_method_29_code 52 = .ok (.ireturn, 1) := by decide +kernel
set_option maxHeartbeats 4000000 in
set_option maxRecDepth 100000 in
theorem wMo_tooMuch_6 {l : Launch} {G : ek_G} {kd : Nat → Nat} {p : Program} {e : Env} {s : State} {m : MethodId} {args : Array Value} {below : List Frame} {meth : Method} {c : Code} (X : ek_X p s m meth c args G prog_9_method_29_code 3 "ElasticKernelModel" (some .int)) {q : ek_St × Int32} {k6 : (ek_St × Nat × Int32 × Int32) → Option (ek_St × Int32)} (hk6 : ∀ q0 : ek_St × Nat × Int32 × Int32, k6 q0 = some q → ∀ (H : Heap) (locs : List Loc) (ls : Array Slot), ek_W G kd q0.1 H → va_S (ek_A G kd) s.heap H locs → lv_has ls 3 [(0, ek_r G q0.2.1), (1, .int q0.2.2.1), (2, .int q0.2.2.2)] → W p l e ({ frames := 2, cells := 0, slots := 0, locals := 49 } : Room) s m args below meth c H locs 0 0 (MQ below (ek_Q G kd (some (.int q.2)) q.1) args s 0 0 (ek_A G kd)) (F0 m 6 ls [])) {I : ek_St} {x0 : Nat} {i1 : Int32} {i2 : Int32} (hf : fMo_tooMuch_6 kd k6 I x0 i1 i2 = some q) {H : Heap} {locs : List Loc} {ls : Array Slot} (hw : ek_W G kd I H) (hS : va_S (ek_A G kd) s.heap H locs) (hl : lv_has ls 3 [(0, ek_r G x0), (1, .int i1), (2, .int i2)]) : W p l e ({ frames := 2, cells := 0, slots := 0, locals := 49 } : Room) s m args below meth c H locs 0 0 (MQ below (ek_Q G kd (some (.int q.2)) q.1) args s 0 0 (ek_A G kd)) (F0 m 6 ls []) := by
  obtain ⟨hx, hb, hml, hown, hts, hr, hlocks, hK⟩ := id X
  have hA : ∀ q, ek_A G kd q → ek_A G kd q := fun _ h => h
  unfold fMo_tooMuch_6 at hf
  refine lv_iload_n hx hb dMo_tooMuch_6 rfl (lv_at hl 2 rfl) ?_
  refine ek_aload_n hx hb dMo_tooMuch_7 rfl (lv_at hl 0 rfl) ?_
  refine ek_geti hx hb 8 hts (in_Mo) hown hK hw rfl (by decide) (by decide) 7 (by decide) rfl (hts _ q_583) hf dMo_tooMuch_8 (fun hf => ?_)
  refine lv_icmp_ge (tgt := 51) hx hb dMo_tooMuch_11 (by decide) (fun c1 => ?_) (fun c1 => ?_)
  · have hf := ek_t c1 hf
    refine lv_iconst (v := (0 : Int32)) hx hb dMo_tooMuch_51 (by decide) ?_
    exact ek_iret hx hb hr hlocks hw hS hf dMo_tooMuch_52
  · have hf := ek_f c1 hf
    refine ek_aload_n hx hb dMo_tooMuch_14 rfl (lv_at hl 0 rfl) ?_
    refine ek_aload_n hx hb dMo_tooMuch_15 rfl (lv_at hl 0 rfl) ?_
    refine ek_getr hx hb 8 hts (in_Mo) hown hK hw rfl (by decide) (by decide) 9 (by decide) (n := 1) rfl rfl (hts _ q_585) hf dMo_tooMuch_16 (fun hf => ?_)
    refine lv_iload_n hx hb dMo_tooMuch_19 rfl (lv_at hl 2 rfl) ?_
    refine ek_iald hx hb hK hw 12 rfl hf dMo_tooMuch_20 (fun hf => ?_)
    refine ek_aload_n hx hb dMo_tooMuch_21 rfl (lv_at hl 0 rfl) ?_
    refine ek_getr hx hb 8 hts (in_Mo) hown hK hw rfl (by decide) (by decide) 11 (by decide) (n := 3) rfl rfl (hts _ q_587) hf dMo_tooMuch_22 (fun hf => ?_)
    refine lv_iload_n hx hb dMo_tooMuch_25 rfl (lv_at hl 2 rfl) ?_
    refine ek_iald hx hb hK hw 12 rfl hf dMo_tooMuch_26 (fun hf => ?_)
    obtain ⟨hx3, hf⟩ := ek_ck_s hf
    refine ek_cv hf hS hA (fun I' hq => ek_rV (As := [.int (I (x0 + 2) i2.toNatClampNeg), .int (I (x0 + 4) i2.toNatClampNeg)]) ⟨hx, hb, hml, hown, hts⟩ hK hw 8 rfl (by decide) (by decide) hx3 (mMo_addFraction hq) (cwV 2 hts (lw_V q_681 q_683 p_21 q_8 q_684) rfl rfl rfl (by decide +kernel) ⟨Nat.le_of_ble_eq_true rfl, Nat.le_of_ble_eq_true rfl⟩) rfl hl.1 rfl (Nat.le_of_ble_eq_true rfl) dMo_tooMuch_27 ⟨Nat.zero_le _, Nat.zero_le _⟩) (fun I2 H locs hf hw hS => ?_)
    refine ek_aload_n hx hb dMo_tooMuch_30 rfl (lv_at hl 0 rfl) ?_
    refine lv_iload_n hx hb dMo_tooMuch_31 rfl (lv_at hl 1 rfl) ?_
    obtain ⟨hx5, hf⟩ := ek_ck_s hf
    refine ek_ci hf hS hA (fun I' v hq => ek_rV (As := [.int i1]) ⟨hx, hb, hml, hown, hts⟩ hK hw 8 rfl (by decide) (by decide) hx5 (mMo_isAbove hq) (cwV 1 hts (lw_V q_694 q_696 p_24 q_8 q_697) rfl rfl rfl (by decide +kernel) ⟨Nat.le_of_ble_eq_true rfl, Nat.le_of_ble_eq_true rfl⟩) rfl hl.1 rfl (Nat.le_of_ble_eq_true rfl) dMo_tooMuch_32 ⟨Nat.zero_le _, Nat.zero_le _⟩) (fun I4 ir6 H locs hf hw hS => ?_)
    refine lv_if_eq (tgt := 45) hx hb dMo_tooMuch_35 (by decide) (fun c7 => ?_) (fun c7 => ?_)
    · have hf := ek_t c7 hf
      refine ek_iinc hx hb 2 (fun i2_8 => [(2, .int i2_8), (1, .int i1), (0, ek_r G x0)]) dMo_tooMuch_45 hl rfl (v := i2 + (1 : Int32)) rfl hf (by decide) (fun i2_8 => ek_s1k 1 rfl rfl rfl rfl rfl) (fun i2_8 ls hf hl => ?_)
      refine lv_goto (tgt := 6) hx hb dMo_tooMuch_48 (by decide) ?_
      exact hk6 (I4, x0, i1, i2_8) hf _ _ _ hw hS (lv_sub hl [2, 1, 0] rfl)
    · have hf := ek_f c7 hf
      refine ek_aload_n hx hb dMo_tooMuch_38 rfl (lv_at hl 0 rfl) ?_
      refine ek_getr hx hb 8 hts (in_Mo) hown hK hw rfl (by decide) (by decide) 8 (by decide) (n := 0) rfl rfl (hts _ q_584) hf dMo_tooMuch_39 (fun hf => ?_)
      refine lv_iload_n hx hb dMo_tooMuch_42 rfl (lv_at hl 2 rfl) ?_
      refine ek_iald hx hb hK hw 12 rfl hf dMo_tooMuch_43 (fun hf => ?_)
      exact ek_iret hx hb hr hlocks hw hS hf dMo_tooMuch_44
set_option maxHeartbeats 4000000 in
set_option maxRecDepth 100000 in
theorem wMo_tooMuch_6_lp {l : Launch} {G : ek_G} {kd : Nat → Nat} {p : Program} {e : Env} {s : State} {m : MethodId} {args : Array Value} {below : List Frame} {meth : Method} {c : Code} (X : ek_X p s m meth c args G prog_9_method_29_code 3 "ElasticKernelModel" (some .int)) {q : ek_St × Int32} (n : Nat) : ∀ q0 : ek_St × Nat × Int32 × Int32, ek_lp (fun (k : (ek_St × Nat × Int32 × Int32) → Option (ek_St × Int32)) (q : (ek_St × Nat × Int32 × Int32)) => fMo_tooMuch_6 kd k q.1 q.2.1 q.2.2.1 q.2.2.2) n q0 = some q → ∀ (H : Heap) (locs : List Loc) (ls : Array Slot), ek_W G kd q0.1 H → va_S (ek_A G kd) s.heap H locs → lv_has ls 3 [(0, ek_r G q0.2.1), (1, .int q0.2.2.1), (2, .int q0.2.2.2)] → W p l e ({ frames := 2, cells := 0, slots := 0, locals := 49 } : Room) s m args below meth c H locs 0 0 (MQ below (ek_Q G kd (some (.int q.2)) q.1) args s 0 0 (ek_A G kd)) (F0 m 6 ls []) :=
  ek_lp_ind (fun k hk q0 hf => fun H locs ls hw hS hl => wMo_tooMuch_6 X hk hf hw hS hl) n
set_option maxHeartbeats 4000000 in
set_option maxRecDepth 100000 in
theorem wMo_tooMuch_0 {l : Launch} {G : ek_G} {kd : Nat → Nat} {p : Program} {e : Env} {s : State} {m : MethodId} {args : Array Value} {below : List Frame} {meth : Method} {c : Code} (X : ek_X p s m meth c args G prog_9_method_29_code 3 "ElasticKernelModel" (some .int)) {q : ek_St × Int32} {I : ek_St} {x0 : Nat} {i1 : Int32} (hf : fMo_tooMuch_0 kd I x0 i1 = some q) {H : Heap} {locs : List Loc} {ls : Array Slot} (hw : ek_W G kd I H) (hS : va_S (ek_A G kd) s.heap H locs) (hl : lv_has ls 3 [(0, ek_r G x0), (1, .int i1)]) : W p l e ({ frames := 2, cells := 0, slots := 0, locals := 49 } : Room) s m args below meth c H locs 0 0 (MQ below (ek_Q G kd (some (.int q.2)) q.1) args s 0 0 (ek_A G kd)) (F0 m 0 ls []) := by
  obtain ⟨hx, hb, hml, hown, hts, hr, hlocks, hK⟩ := id X
  have hA : ∀ q, ek_A G kd q → ek_A G kd q := fun _ h => h
  unfold fMo_tooMuch_0 at hf
  refine ek_aload_n hx hb dMo_tooMuch_0 rfl (lv_at hl 0 rfl) ?_
  obtain ⟨hx2, hf⟩ := ek_ck_s hf
  refine ek_cv hf hS hA (fun I' hq => ek_rV (As := []) ⟨hx, hb, hml, hown, hts⟩ hK hw 8 rfl (by decide) (by decide) hx2 (mMo_none hq) (cwV 0 hts (lw_V q_677 q_679 p_20 q_8 q_680) rfl rfl rfl (by decide +kernel) ⟨Nat.le_of_ble_eq_true rfl, Nat.le_of_ble_eq_true rfl⟩) rfl hl.1 rfl (Nat.le_of_ble_eq_true rfl) dMo_tooMuch_1 ⟨Nat.zero_le _, Nat.zero_le _⟩) (fun I1 H locs hf hw hS => ?_)
  refine lv_iconst (v := (0 : Int32)) hx hb dMo_tooMuch_4 (by decide) ?_
  refine ek_istore_n (lv' := [(2, .int ((0 : Int32))), (1, .int i1), (0, ek_r G x0)]) hx hb dMo_tooMuch_5 rfl hl (by decide) (ek_s1k 1 rfl rfl rfl rfl rfl) (fun ls hl => ?_)
  exact wMo_tooMuch_6_lp X ek_N (I1, x0, i1, (0 : Int32)) hf _ _ _ hw hS (lv_sub hl [2, 1, 0] rfl)
set_option maxHeartbeats 4000000 in
set_option maxRecDepth 100000 in
theorem mMo_tooMuch {l : Launch} {G : ek_G} {kd : Nat → Nat} {I : ek_St} {x0 : Nat} {i1 : Int32} {q : ek_St × Int32} (hf : fMo_tooMuch kd I x0 i1 = some q) : ek_M l G kd y_Mo_tooMuch (.code y_Mo_tooMuch prog_9_method_29_code 3 (some .int) :: lw_g) ({ frames := 2, cells := 0, slots := 0, locals := 49 } : Room) [ek_r G x0, .int i1] I (some (.int q.2)) q.1 :=
  ek_body [(0, ek_r G x0), (1, .int i1)] (by decide) (by simp [lg_sl, ek_r_cat, ek_c_i, ek_c_l]) (by simp [lv_args, ek_r_cat, ek_c_i, ek_c_l]) (fun p e s m below meth c ls X hw hS hl => wMo_tooMuch_0 X hf hw hS hl)
/-! ElasticKernelModel.add(IIIII)I -/
def fMo_add5_127 (kd : Nat → Nat) (k127 : (ek_St × Nat × Int32 × Int32 × Int32 × Int32 × Int32 × Int32 × Int32) → Option (ek_St × Int32)) (I : ek_St) (x0 : Nat) (i1 : Int32) (i2 : Int32) (i3 : Int32) (i4 : Int32) (i5 : Int32) (i6 : Int32) (i7 : Int32) : Option (ek_St × Int32) :=
  if i7 ≤ i6 then (ek_ck (kd x0 = 8) (ek_ck (kd x0 = 8) (ek_let (ek_up I x0 7 ((I x0 7) + ((1 : Int32)))) (fun I2 => ek_ck (kd x0 = 8) (ek_ck (kd (x0 + 1) = 112) (ek_ck (ek_in i6 12) (ek_let (ek_up I2 (x0 + 1) i6.toNatClampNeg i1) (fun I3 => ek_ck (kd x0 = 8) (ek_ck (kd (x0 + 2) = 112) (ek_ck (ek_in i6 12) (ek_let (ek_up I3 (x0 + 2) i6.toNatClampNeg i2) (fun I4 => ek_ck (kd x0 = 8) (ek_ck (kd (x0 + 3) = 112) (ek_ck (ek_in i6 12) (ek_let (ek_up I4 (x0 + 3) i6.toNatClampNeg i3) (fun I5 => ek_ck (kd x0 = 8) (ek_ck (kd (x0 + 4) = 112) (ek_ck (ek_in i6 12) (ek_let (ek_up I5 (x0 + 4) i6.toNatClampNeg i4) (fun I6 => ek_ck (kd x0 = 8) (ek_ck (kd (x0 + 5) = 112) (ek_ck (ek_in i6 12) (ek_let (ek_up I6 (x0 + 5) i6.toNatClampNeg i5) (fun I7 => ek_ck (kd x0 = 8) (ek_ck (kd (x0 + 6) = 112) (ek_ck (ek_in i6 12) (ek_let (ek_up I7 (x0 + 6) i6.toNatClampNeg ((0 : Int32))) (fun I8 => ek_ck (kd x0 = 8) (ek_ck (kd (x0 + 7) = 112) (ek_ck (ek_in i6 12) (ek_let (ek_up I8 (x0 + 7) i6.toNatClampNeg ((0 : Int32))) (fun I9 => ek_ck (kd x0 = 8) (ek_ck (kd (x0 + 9) = 112) (ek_ck (ek_in i6 12) (ek_let (ek_up I9 (x0 + 9) i6.toNatClampNeg ((0 : Int32))) (fun I10 => ek_ck (kd x0 = 8) (ek_ck (kd (x0 + 10) = 112) (ek_ck (ek_in i6 12) (ek_let (ek_up I10 (x0 + 10) i6.toNatClampNeg ((0 : Int32))) (fun I11 => ek_ck (kd x0 = 8) (ek_ck (kd (x0 + 11) = 112) (ek_ck (ek_in i6 12) (ek_let (ek_up I11 (x0 + 11) i6.toNatClampNeg ((-1 : Int32))) (fun I12 => ek_ck (kd x0 = 8) (ek_ck (kd (x0 + 12) = 112) (ek_ck (ek_in i6 12) (ek_let (ek_up I12 (x0 + 12) i6.toNatClampNeg ((0 : Int32))) (fun I13 => ek_ck (kd x0 = 8) (ek_ck (kd (x0 + 13) = 112) (ek_ck (ek_in i6 12) (ek_let (ek_up I13 (x0 + 13) i6.toNatClampNeg ((0 : Int32))) (fun I14 => ek_ck (kd x0 = 8) (ek_ck (kd (x0 + 14) = 112) (ek_ck (ek_in i6 12) (ek_let (ek_up I14 (x0 + 14) i6.toNatClampNeg ((0 : Int32))) (fun I15 => ek_ck (kd x0 = 8) (ek_ck (kd x0 = 8) (ek_bi (fMo_tooMuch kd I15 x0 (I15 x0 2)) (fun I16 ir18 => if ir18 ≤ ((0 : Int32)) then (ek_ck (kd x0 = 8) (ek_bv (fMo_solve kd I16 x0) (fun I20 => ek_ck (kd x0 = 8) (ek_ck (kd x0 = 8) (some (I20, (I20 x0 5) - (I20 x0 1))))))) else (ek_ck (kd x0 = 8) (ek_let (ek_up I16 x0 6 ir18) (fun I22 => ek_ck (kd x0 = 8) (ek_bv (fMo_remove kd I22 x0 i6) (fun I23 => some (I23, (-1 : Int32)))))))))))))))))))))))))))))))))))))))))))))))))))))))))))))))))) else (ek_ck (kd x0 = 8) (ek_bv (fMo_move kd I x0 i7 (i7 - ((1 : Int32)))) (fun I25 => ek_let (i7 + (-1 : Int32)) (fun i7_27 => k127 (I25, x0, i1, i2, i3, i4, i5, i6, i7_27)))))
def fMo_add5_121 (kd : Nat → Nat) (I : ek_St) (x0 : Nat) (i1 : Int32) (i2 : Int32) (i3 : Int32) (i4 : Int32) (i5 : Int32) (i6 : Int32) : Option (ek_St × Int32) :=
  ek_ck (kd x0 = 8) (ek_let (I x0 7) (fun i7_1 => ek_lp (fun (k : (ek_St × Nat × Int32 × Int32 × Int32 × Int32 × Int32 × Int32 × Int32) → Option (ek_St × Int32)) (q : (ek_St × Nat × Int32 × Int32 × Int32 × Int32 × Int32 × Int32 × Int32)) => fMo_add5_127 kd k q.1 q.2.1 q.2.2.1 q.2.2.2.1 q.2.2.2.2.1 q.2.2.2.2.2.1 q.2.2.2.2.2.2.1 q.2.2.2.2.2.2.2.1 q.2.2.2.2.2.2.2.2) ek_N (I, x0, i1, i2, i3, i4, i5, i6, i7_1)))
def fMo_add5_95 (kd : Nat → Nat) (k95 : (ek_St × Nat × Int32 × Int32 × Int32 × Int32 × Int32 × Int32) → Option (ek_St × Int32)) (I : ek_St) (x0 : Nat) (i1 : Int32) (i2 : Int32) (i3 : Int32) (i4 : Int32) (i5 : Int32) (i6 : Int32) : Option (ek_St × Int32) :=
  ek_ck (kd x0 = 8) (if (I x0 7) ≤ i6 then (fMo_add5_121 kd I x0 i1 i2 i3 i4 i5 i6) else (ek_ck (kd x0 = 8) (ek_ck (kd (x0 + 1) = 112) (ek_ck (ek_in i6 12) (if i1 ≤ (I (x0 + 1) i6.toNatClampNeg) then (fMo_add5_121 kd I x0 i1 i2 i3 i4 i5 i6) else (ek_let (i6 + (1 : Int32)) (fun i6_3 => k95 (I, x0, i1, i2, i3, i4, i5, i6_3))))))))
def fMo_add5_0 (kd : Nat → Nat) (I : ek_St) (x0 : Nat) (i1 : Int32) (i2 : Int32) (i3 : Int32) (i4 : Int32) (i5 : Int32) : Option (ek_St × Int32) :=
  ek_ck (kd x0 = 8) (ek_let (ek_up I x0 0 ((0 : Int32))) (fun I1 => if i1 < ((1 : Int32)) then (some (I1, (-1 : Int32))) else (if ((99 : Int32)) < i1 then (some (I1, (-1 : Int32))) else (if i2 < ((1 : Int32)) then (some (I1, (-1 : Int32))) else (if i3 < ((1 : Int32)) then (some (I1, (-1 : Int32))) else (if ((20000 : Int32)) < i3 then (some (I1, (-1 : Int32))) else (if i4 < ((1 : Int32)) then (some (I1, (-1 : Int32))) else (if ((20000 : Int32)) < i4 then (some (I1, (-1 : Int32))) else (if i3 < i2 then (some (I1, (-1 : Int32))) else (if i4 < i3 then (some (I1, (-1 : Int32))) else (if i5 < ((1 : Int32)) then (some (I1, (-1 : Int32))) else (if ((1000 : Int32)) < i5 then (some (I1, (-1 : Int32))) else (ek_ck (kd x0 = 8) (ek_bi (fMo_find kd I1 x0 i1) (fun I13 ir15 => if ir15 = ((-1 : Int32)) then (ek_ck (kd x0 = 8) (if (I13 x0 7) = ((12 : Int32)) then (some (I13, (-1 : Int32))) else (ek_lp (fun (k : (ek_St × Nat × Int32 × Int32 × Int32 × Int32 × Int32 × Int32) → Option (ek_St × Int32)) (q : (ek_St × Nat × Int32 × Int32 × Int32 × Int32 × Int32 × Int32)) => fMo_add5_95 kd k q.1 q.2.1 q.2.2.1 q.2.2.2.1 q.2.2.2.2.1 q.2.2.2.2.2.1 q.2.2.2.2.2.2.1 q.2.2.2.2.2.2.2) ek_N (I13, x0, i1, i2, i3, i4, i5, (0 : Int32))))) else (some (I13, (-1 : Int32))))))))))))))))))
def fMo_add5 (kd : Nat → Nat) (I : ek_St) (x0 : Nat) (i1 : Int32) (i2 : Int32) (i3 : Int32) (i4 : Int32) (i5 : Int32) : Option (ek_St × Int32) := fMo_add5_0 kd I x0 i1 i2 i3 i4 i5
theorem dMo_add5_0 : decode prog_9_method_30_code 0 = .ok (.aload_n 0, 1) := by decide +kernel
theorem dMo_add5_1 : decode prog_9_method_30_code 1 = .ok (.iconst 0, 1) := by decide +kernel
theorem dMo_add5_2 : decode prog_9_method_30_code 2 = .ok (.putfield 70, 3) := by decide +kernel
theorem dMo_add5_5 : decode prog_9_method_30_code 5 = .ok (.iload_n 1, 1) := by decide +kernel
theorem dMo_add5_6 : decode prog_9_method_30_code 6 = .ok (.iconst 1, 1) := by decide +kernel
theorem dMo_add5_7 : decode prog_9_method_30_code 7 = .ok (.if_icmp .lt 83, 3) := by decide +kernel
theorem dMo_add5_10 : decode prog_9_method_30_code 10 = .ok (.iload_n 1, 1) := by decide +kernel
theorem dMo_add5_11 : decode prog_9_method_30_code 11 = .ok (.bipush 99, 2) := by decide +kernel
theorem dMo_add5_13 : decode prog_9_method_30_code 13 = .ok (.if_icmp .gt 77, 3) := by decide +kernel
theorem dMo_add5_16 : decode prog_9_method_30_code 16 = .ok (.iload_n 2, 1) := by decide +kernel
theorem dMo_add5_17 : decode prog_9_method_30_code 17 = .ok (.iconst 1, 1) := by decide +kernel
theorem dMo_add5_18 : decode prog_9_method_30_code 18 = .ok (.if_icmp .lt 72, 3) := by decide +kernel
theorem dMo_add5_21 : decode prog_9_method_30_code 21 = .ok (.iload_n 3, 1) := by decide +kernel
theorem dMo_add5_22 : decode prog_9_method_30_code 22 = .ok (.iconst 1, 1) := by decide +kernel
theorem dMo_add5_23 : decode prog_9_method_30_code 23 = .ok (.if_icmp .lt 67, 3) := by decide +kernel
theorem dMo_add5_26 : decode prog_9_method_30_code 26 = .ok (.iload_n 3, 1) := by decide +kernel
theorem dMo_add5_27 : decode prog_9_method_30_code 27 = .ok (.sipush 20000, 3) := by decide +kernel
theorem dMo_add5_30 : decode prog_9_method_30_code 30 = .ok (.if_icmp .gt 60, 3) := by decide +kernel
theorem dMo_add5_33 : decode prog_9_method_30_code 33 = .ok (.iload 4, 2) := by decide +kernel
theorem dMo_add5_35 : decode prog_9_method_30_code 35 = .ok (.iconst 1, 1) := by decide +kernel
theorem dMo_add5_36 : decode prog_9_method_30_code 36 = .ok (.if_icmp .lt 54, 3) := by decide +kernel
theorem dMo_add5_39 : decode prog_9_method_30_code 39 = .ok (.iload 4, 2) := by decide +kernel
theorem dMo_add5_41 : decode prog_9_method_30_code 41 = .ok (.sipush 20000, 3) := by decide +kernel
theorem dMo_add5_44 : decode prog_9_method_30_code 44 = .ok (.if_icmp .gt 46, 3) := by decide +kernel
theorem dMo_add5_47 : decode prog_9_method_30_code 47 = .ok (.iload_n 2, 1) := by decide +kernel
theorem dMo_add5_48 : decode prog_9_method_30_code 48 = .ok (.iload_n 3, 1) := by decide +kernel
theorem dMo_add5_49 : decode prog_9_method_30_code 49 = .ok (.if_icmp .gt 41, 3) := by decide +kernel
theorem dMo_add5_52 : decode prog_9_method_30_code 52 = .ok (.iload_n 3, 1) := by decide +kernel
theorem dMo_add5_53 : decode prog_9_method_30_code 53 = .ok (.iload 4, 2) := by decide +kernel
theorem dMo_add5_55 : decode prog_9_method_30_code 55 = .ok (.if_icmp .gt 35, 3) := by decide +kernel
theorem dMo_add5_58 : decode prog_9_method_30_code 58 = .ok (.iload 5, 2) := by decide +kernel
theorem dMo_add5_60 : decode prog_9_method_30_code 60 = .ok (.iconst 1, 1) := by decide +kernel
theorem dMo_add5_61 : decode prog_9_method_30_code 61 = .ok (.if_icmp .lt 29, 3) := by decide +kernel
theorem dMo_add5_64 : decode prog_9_method_30_code 64 = .ok (.iload 5, 2) := by decide +kernel
theorem dMo_add5_66 : decode prog_9_method_30_code 66 = .ok (.sipush 1000, 3) := by decide +kernel
theorem dMo_add5_69 : decode prog_9_method_30_code 69 = .ok (.if_icmp .gt 21, 3) := by decide +kernel
theorem dMo_add5_72 : decode prog_9_method_30_code 72 = .ok (.aload_n 0, 1) := by decide +kernel
theorem dMo_add5_73 : decode prog_9_method_30_code 73 = .ok (.iload_n 1, 1) := by decide +kernel
theorem dMo_add5_74 : decode prog_9_method_30_code 74 = .ok (.invokevirtual 161, 3) := by decide +kernel
theorem dMo_add5_77 : decode prog_9_method_30_code 77 = .ok (.iconst (-1), 1) := by decide +kernel
theorem dMo_add5_78 : decode prog_9_method_30_code 78 = .ok (.if_icmp .ne 12, 3) := by decide +kernel
theorem dMo_add5_81 : decode prog_9_method_30_code 81 = .ok (.aload_n 0, 1) := by decide +kernel
theorem dMo_add5_82 : decode prog_9_method_30_code 82 = .ok (.getfield 105, 3) := by decide +kernel
theorem dMo_add5_85 : decode prog_9_method_30_code 85 = .ok (.bipush 12, 2) := by decide +kernel
theorem dMo_add5_87 : decode prog_9_method_30_code 87 = .ok (.if_icmp .ne 5, 3) := by decide +kernel
theorem dMo_add5_90 : decode prog_9_method_30_code 90 = .ok (.iconst (-1), 1) := by decide +kernel
theorem dMo_add5_91 : decode prog_9_method_30_code 91 = .ok (.ireturn, 1) := by decide +kernel
theorem dMo_add5_92 : decode prog_9_method_30_code 92 = .ok (.iconst 0, 1) := by decide +kernel
theorem dMo_add5_93 : decode prog_9_method_30_code 93 = .ok (.istore 6, 2) := by decide +kernel
theorem dMo_add5_95 : decode prog_9_method_30_code 95 = .ok (.iload 6, 2) := by decide +kernel
theorem dMo_add5_97 : decode prog_9_method_30_code 97 = .ok (.aload_n 0, 1) := by decide +kernel
theorem dMo_add5_98 : decode prog_9_method_30_code 98 = .ok (.getfield 105, 3) := by decide +kernel
theorem dMo_add5_101 : decode prog_9_method_30_code 101 = .ok (.if_icmp .ge 20, 3) := by decide +kernel
theorem dMo_add5_104 : decode prog_9_method_30_code 104 = .ok (.aload_n 0, 1) := by decide +kernel
theorem dMo_add5_105 : decode prog_9_method_30_code 105 = .ok (.getfield 13, 3) := by decide +kernel
theorem dMo_add5_108 : decode prog_9_method_30_code 108 = .ok (.iload 6, 2) := by decide +kernel
theorem dMo_add5_110 : decode prog_9_method_30_code 110 = .ok (.iaload, 1) := by decide +kernel
theorem dMo_add5_111 : decode prog_9_method_30_code 111 = .ok (.iload_n 1, 1) := by decide +kernel
theorem dMo_add5_112 : decode prog_9_method_30_code 112 = .ok (.if_icmp .ge 9, 3) := by decide +kernel
theorem dMo_add5_115 : decode prog_9_method_30_code 115 = .ok (.iinc 6 1, 3) := by decide +kernel
theorem dMo_add5_118 : decode prog_9_method_30_code 118 = .ok (.goto (-23), 3) := by decide +kernel
theorem dMo_add5_121 : decode prog_9_method_30_code 121 = .ok (.aload_n 0, 1) := by decide +kernel
theorem dMo_add5_122 : decode prog_9_method_30_code 122 = .ok (.getfield 105, 3) := by decide +kernel
theorem dMo_add5_125 : decode prog_9_method_30_code 125 = .ok (.istore 7, 2) := by decide +kernel
theorem dMo_add5_127 : decode prog_9_method_30_code 127 = .ok (.iload 7, 2) := by decide +kernel
theorem dMo_add5_129 : decode prog_9_method_30_code 129 = .ok (.iload 6, 2) := by decide +kernel
theorem dMo_add5_131 : decode prog_9_method_30_code 131 = .ok (.if_icmp .le 19, 3) := by decide +kernel
theorem dMo_add5_134 : decode prog_9_method_30_code 134 = .ok (.aload_n 0, 1) := by decide +kernel
theorem dMo_add5_135 : decode prog_9_method_30_code 135 = .ok (.iload 7, 2) := by decide +kernel
theorem dMo_add5_137 : decode prog_9_method_30_code 137 = .ok (.iload 7, 2) := by decide +kernel
theorem dMo_add5_139 : decode prog_9_method_30_code 139 = .ok (.iconst 1, 1) := by decide +kernel
theorem dMo_add5_140 : decode prog_9_method_30_code 140 = .ok (.isub, 1) := by decide +kernel
theorem dMo_add5_141 : decode prog_9_method_30_code 141 = .ok (.invokevirtual 158, 3) := by decide +kernel
theorem dMo_add5_144 : decode prog_9_method_30_code 144 = .ok (.iinc 7 (-1), 3) := by decide +kernel
theorem dMo_add5_147 : decode prog_9_method_30_code 147 = .ok (.goto (-20), 3) := by decide +kernel
theorem dMo_add5_150 : decode prog_9_method_30_code 150 = .ok (.aload_n 0, 1) := by decide +kernel
theorem dMo_add5_151 : decode prog_9_method_30_code 151 = .ok (.dup, 1) := by decide +kernel
theorem dMo_add5_152 : decode prog_9_method_30_code 152 = .ok (.getfield 105, 3) := by decide +kernel
theorem dMo_add5_155 : decode prog_9_method_30_code 155 = .ok (.iconst 1, 1) := by decide +kernel
theorem dMo_add5_156 : decode prog_9_method_30_code 156 = .ok (.iadd, 1) := by decide +kernel
theorem dMo_add5_157 : decode prog_9_method_30_code 157 = .ok (.putfield 105, 3) := by decide +kernel
theorem dMo_add5_160 : decode prog_9_method_30_code 160 = .ok (.aload_n 0, 1) := by decide +kernel
theorem dMo_add5_161 : decode prog_9_method_30_code 161 = .ok (.getfield 13, 3) := by decide +kernel
theorem dMo_add5_164 : decode prog_9_method_30_code 164 = .ok (.iload 6, 2) := by decide +kernel
theorem dMo_add5_166 : decode prog_9_method_30_code 166 = .ok (.iload_n 1, 1) := by decide +kernel
theorem dMo_add5_167 : decode prog_9_method_30_code 167 = .ok (.iastore, 1) := by decide +kernel
theorem dMo_add5_168 : decode prog_9_method_30_code 168 = .ok (.aload_n 0, 1) := by decide +kernel
theorem dMo_add5_169 : decode prog_9_method_30_code 169 = .ok (.getfield 17, 3) := by decide +kernel
theorem dMo_add5_172 : decode prog_9_method_30_code 172 = .ok (.iload 6, 2) := by decide +kernel
theorem dMo_add5_174 : decode prog_9_method_30_code 174 = .ok (.iload_n 2, 1) := by decide +kernel
theorem dMo_add5_175 : decode prog_9_method_30_code 175 = .ok (.iastore, 1) := by decide +kernel
theorem dMo_add5_176 : decode prog_9_method_30_code 176 = .ok (.aload_n 0, 1) := by decide +kernel
theorem dMo_add5_177 : decode prog_9_method_30_code 177 = .ok (.getfield 20, 3) := by decide +kernel
theorem dMo_add5_180 : decode prog_9_method_30_code 180 = .ok (.iload 6, 2) := by decide +kernel
theorem dMo_add5_182 : decode prog_9_method_30_code 182 = .ok (.iload_n 3, 1) := by decide +kernel
theorem dMo_add5_183 : decode prog_9_method_30_code 183 = .ok (.iastore, 1) := by decide +kernel
theorem dMo_add5_184 : decode prog_9_method_30_code 184 = .ok (.aload_n 0, 1) := by decide +kernel
theorem dMo_add5_185 : decode prog_9_method_30_code 185 = .ok (.getfield 23, 3) := by decide +kernel
theorem dMo_add5_188 : decode prog_9_method_30_code 188 = .ok (.iload 6, 2) := by decide +kernel
theorem dMo_add5_190 : decode prog_9_method_30_code 190 = .ok (.iload 4, 2) := by decide +kernel
theorem dMo_add5_192 : decode prog_9_method_30_code 192 = .ok (.iastore, 1) := by decide +kernel
theorem dMo_add5_193 : decode prog_9_method_30_code 193 = .ok (.aload_n 0, 1) := by decide +kernel
theorem dMo_add5_194 : decode prog_9_method_30_code 194 = .ok (.getfield 26, 3) := by decide +kernel
theorem dMo_add5_197 : decode prog_9_method_30_code 197 = .ok (.iload 6, 2) := by decide +kernel
theorem dMo_add5_199 : decode prog_9_method_30_code 199 = .ok (.iload 5, 2) := by decide +kernel
theorem dMo_add5_201 : decode prog_9_method_30_code 201 = .ok (.iastore, 1) := by decide +kernel
theorem dMo_add5_202 : decode prog_9_method_30_code 202 = .ok (.aload_n 0, 1) := by decide +kernel
theorem dMo_add5_203 : decode prog_9_method_30_code 203 = .ok (.getfield 29, 3) := by decide +kernel
theorem dMo_add5_206 : decode prog_9_method_30_code 206 = .ok (.iload 6, 2) := by decide +kernel
theorem dMo_add5_208 : decode prog_9_method_30_code 208 = .ok (.iconst 0, 1) := by decide +kernel
theorem dMo_add5_209 : decode prog_9_method_30_code 209 = .ok (.iastore, 1) := by decide +kernel
theorem dMo_add5_210 : decode prog_9_method_30_code 210 = .ok (.aload_n 0, 1) := by decide +kernel
theorem dMo_add5_211 : decode prog_9_method_30_code 211 = .ok (.getfield 32, 3) := by decide +kernel
theorem dMo_add5_214 : decode prog_9_method_30_code 214 = .ok (.iload 6, 2) := by decide +kernel
theorem dMo_add5_216 : decode prog_9_method_30_code 216 = .ok (.iconst 0, 1) := by decide +kernel
theorem dMo_add5_217 : decode prog_9_method_30_code 217 = .ok (.iastore, 1) := by decide +kernel
theorem dMo_add5_218 : decode prog_9_method_30_code 218 = .ok (.aload_n 0, 1) := by decide +kernel
theorem dMo_add5_219 : decode prog_9_method_30_code 219 = .ok (.getfield 38, 3) := by decide +kernel
theorem dMo_add5_222 : decode prog_9_method_30_code 222 = .ok (.iload 6, 2) := by decide +kernel
theorem dMo_add5_224 : decode prog_9_method_30_code 224 = .ok (.iconst 0, 1) := by decide +kernel
theorem dMo_add5_225 : decode prog_9_method_30_code 225 = .ok (.iastore, 1) := by decide +kernel
theorem dMo_add5_226 : decode prog_9_method_30_code 226 = .ok (.aload_n 0, 1) := by decide +kernel
theorem dMo_add5_227 : decode prog_9_method_30_code 227 = .ok (.getfield 41, 3) := by decide +kernel
theorem dMo_add5_230 : decode prog_9_method_30_code 230 = .ok (.iload 6, 2) := by decide +kernel
theorem dMo_add5_232 : decode prog_9_method_30_code 232 = .ok (.iconst 0, 1) := by decide +kernel
theorem dMo_add5_233 : decode prog_9_method_30_code 233 = .ok (.iastore, 1) := by decide +kernel
theorem dMo_add5_234 : decode prog_9_method_30_code 234 = .ok (.aload_n 0, 1) := by decide +kernel
theorem dMo_add5_235 : decode prog_9_method_30_code 235 = .ok (.getfield 44, 3) := by decide +kernel
theorem dMo_add5_238 : decode prog_9_method_30_code 238 = .ok (.iload 6, 2) := by decide +kernel
theorem dMo_add5_240 : decode prog_9_method_30_code 240 = .ok (.iconst (-1), 1) := by decide +kernel
theorem dMo_add5_241 : decode prog_9_method_30_code 241 = .ok (.iastore, 1) := by decide +kernel
theorem dMo_add5_242 : decode prog_9_method_30_code 242 = .ok (.aload_n 0, 1) := by decide +kernel
theorem dMo_add5_243 : decode prog_9_method_30_code 243 = .ok (.getfield 47, 3) := by decide +kernel
theorem dMo_add5_246 : decode prog_9_method_30_code 246 = .ok (.iload 6, 2) := by decide +kernel
theorem dMo_add5_248 : decode prog_9_method_30_code 248 = .ok (.iconst 0, 1) := by decide +kernel
theorem dMo_add5_249 : decode prog_9_method_30_code 249 = .ok (.iastore, 1) := by decide +kernel
theorem dMo_add5_250 : decode prog_9_method_30_code 250 = .ok (.aload_n 0, 1) := by decide +kernel
theorem dMo_add5_251 : decode prog_9_method_30_code 251 = .ok (.getfield 50, 3) := by decide +kernel
theorem dMo_add5_254 : decode prog_9_method_30_code 254 = .ok (.iload 6, 2) := by decide +kernel
theorem dMo_add5_256 : decode prog_9_method_30_code 256 = .ok (.iconst 0, 1) := by decide +kernel
theorem dMo_add5_257 : decode prog_9_method_30_code 257 = .ok (.iastore, 1) := by decide +kernel
theorem dMo_add5_258 : decode prog_9_method_30_code 258 = .ok (.aload_n 0, 1) := by decide +kernel
theorem dMo_add5_259 : decode prog_9_method_30_code 259 = .ok (.getfield 53, 3) := by decide +kernel
theorem dMo_add5_262 : decode prog_9_method_30_code 262 = .ok (.iload 6, 2) := by decide +kernel
theorem dMo_add5_264 : decode prog_9_method_30_code 264 = .ok (.iconst 0, 1) := by decide +kernel
theorem dMo_add5_265 : decode prog_9_method_30_code 265 = .ok (.iastore, 1) := by decide +kernel
theorem dMo_add5_266 : decode prog_9_method_30_code 266 = .ok (.aload_n 0, 1) := by decide +kernel
theorem dMo_add5_267 : decode prog_9_method_30_code 267 = .ok (.aload_n 0, 1) := by decide +kernel
theorem dMo_add5_268 : decode prog_9_method_30_code 268 = .ok (.getfield 7, 3) := by decide +kernel
theorem dMo_add5_271 : decode prog_9_method_30_code 271 = .ok (.invokevirtual 164, 3) := by decide +kernel
theorem dMo_add5_274 : decode prog_9_method_30_code 274 = .ok (.istore 7, 2) := by decide +kernel
theorem dMo_add5_276 : decode prog_9_method_30_code 276 = .ok (.iload 7, 2) := by decide +kernel
theorem dMo_add5_278 : decode prog_9_method_30_code 278 = .ok (.ifCond .le 17, 3) := by decide +kernel
theorem dMo_add5_281 : decode prog_9_method_30_code 281 = .ok (.aload_n 0, 1) := by decide +kernel
theorem dMo_add5_282 : decode prog_9_method_30_code 282 = .ok (.iload 7, 2) := by decide +kernel
theorem dMo_add5_284 : decode prog_9_method_30_code 284 = .ok (.putfield 167, 3) := by decide +kernel
theorem dMo_add5_287 : decode prog_9_method_30_code 287 = .ok (.aload_n 0, 1) := by decide +kernel
theorem dMo_add5_288 : decode prog_9_method_30_code 288 = .ok (.iload 6, 2) := by decide +kernel
theorem dMo_add5_290 : decode prog_9_method_30_code 290 = .ok (.invokevirtual 170, 3) := by decide +kernel
theorem dMo_add5_293 : decode prog_9_method_30_code 293 = .ok (.iconst (-1), 1) := by decide +kernel
theorem dMo_add5_294 : decode prog_9_method_30_code 294 = .ok (.ireturn, 1) := by decide +kernel
theorem dMo_add5_295 : decode prog_9_method_30_code 295 = .ok (.aload_n 0, 1) := by decide +kernel
theorem dMo_add5_296 : decode prog_9_method_30_code 296 = .ok (.invokevirtual 173, 3) := by decide +kernel
theorem dMo_add5_299 : decode prog_9_method_30_code 299 = .ok (.aload_n 0, 1) := by decide +kernel
theorem dMo_add5_300 : decode prog_9_method_30_code 300 = .ok (.getfield 152, 3) := by decide +kernel
theorem dMo_add5_303 : decode prog_9_method_30_code 303 = .ok (.aload_n 0, 1) := by decide +kernel
theorem dMo_add5_304 : decode prog_9_method_30_code 304 = .ok (.getfield 155, 3) := by decide +kernel
theorem dMo_add5_307 : decode prog_9_method_30_code 307 = .ok (.isub, 1) := by decide +kernel
theorem dMo_add5_308 : decode prog_9_method_30_code 308 = .ok (.ireturn, 1) := by decide +kernel
set_option maxHeartbeats 4000000 in
set_option maxRecDepth 100000 in
theorem wMo_add5_127 {l : Launch} {G : ek_G} {kd : Nat → Nat} {p : Program} {e : Env} {s : State} {m : MethodId} {args : Array Value} {below : List Frame} {meth : Method} {c : Code} (X : ek_X p s m meth c args G prog_9_method_30_code 8 "ElasticKernelModel" (some .int)) {q : ek_St × Int32} {k127 : (ek_St × Nat × Int32 × Int32 × Int32 × Int32 × Int32 × Int32 × Int32) → Option (ek_St × Int32)} (hk127 : ∀ q0 : ek_St × Nat × Int32 × Int32 × Int32 × Int32 × Int32 × Int32 × Int32, k127 q0 = some q → ∀ (H : Heap) (locs : List Loc) (ls : Array Slot), ek_W G kd q0.1 H → va_S (ek_A G kd) s.heap H locs → lv_has ls 8 [(0, ek_r G q0.2.1), (1, .int q0.2.2.1), (2, .int q0.2.2.2.1), (3, .int q0.2.2.2.2.1), (4, .int q0.2.2.2.2.2.1), (5, .int q0.2.2.2.2.2.2.1), (6, .int q0.2.2.2.2.2.2.2.1), (7, .int q0.2.2.2.2.2.2.2.2)] → W p l e ({ frames := 4, cells := 0, slots := 0, locals := 101 } : Room) s m args below meth c H locs 0 0 (MQ below (ek_Q G kd (some (.int q.2)) q.1) args s 0 0 (ek_A G kd)) (F0 m 127 ls [])) {I : ek_St} {x0 : Nat} {i1 : Int32} {i2 : Int32} {i3 : Int32} {i4 : Int32} {i5 : Int32} {i6 : Int32} {i7 : Int32} (hf : fMo_add5_127 kd k127 I x0 i1 i2 i3 i4 i5 i6 i7 = some q) {H : Heap} {locs : List Loc} {ls : Array Slot} (hw : ek_W G kd I H) (hS : va_S (ek_A G kd) s.heap H locs) (hl : lv_has ls 8 [(0, ek_r G x0), (1, .int i1), (2, .int i2), (3, .int i3), (4, .int i4), (5, .int i5), (6, .int i6), (7, .int i7)]) : W p l e ({ frames := 4, cells := 0, slots := 0, locals := 101 } : Room) s m args below meth c H locs 0 0 (MQ below (ek_Q G kd (some (.int q.2)) q.1) args s 0 0 (ek_A G kd)) (F0 m 127 ls []) := by
  obtain ⟨hx, hb, hml, hown, hts, hr, hlocks, hK⟩ := id X
  have hA : ∀ q, ek_A G kd q → ek_A G kd q := fun _ h => h
  unfold fMo_add5_127 at hf
  refine lv_iload hx hb dMo_add5_127 (lv_at hl 7 rfl) ?_
  refine lv_iload hx hb dMo_add5_129 (lv_at hl 6 rfl) ?_
  refine lv_icmp_le (tgt := 150) hx hb dMo_add5_131 (by decide) (fun c1 => ?_) (fun c1 => ?_)
  · have hf := ek_t c1 hf
    refine ek_aload_n hx hb dMo_add5_150 rfl (lv_at hl 0 rfl) ?_
    refine lv_dup hx hb dMo_add5_151 ek_r_cat ?_
    refine ek_geti hx hb 8 hts (in_Mo) hown hK hw rfl (by decide) (by decide) 7 (by decide) rfl (hts _ q_583) hf dMo_add5_152 (fun hf => ?_)
    refine lv_iconst (v := (1 : Int32)) hx hb dMo_add5_155 (by decide) ?_
    refine lv_iadd hx hb dMo_add5_156 ?_
    refine ek_puti hx hb 8 hts (in_Mo) ty_Mo ty_Mo_ok nm_Mo hown hK hw hS hA rfl (by decide) (by decide) 7 (by decide) rfl (hts _ q_583) rfl rfl rfl hf dMo_add5_157 (fun I2 H locs hf hw hS => ?_)
    refine ek_aload_n hx hb dMo_add5_160 rfl (lv_at hl 0 rfl) ?_
    refine ek_getr hx hb 8 hts (in_Mo) hown hK hw rfl (by decide) (by decide) 8 (by decide) (n := 0) rfl rfl (hts _ q_584) hf dMo_add5_161 (fun hf => ?_)
    refine lv_iload hx hb dMo_add5_164 (lv_at hl 6 rfl) ?_
    refine lv_iload_n hx hb dMo_add5_166 rfl (lv_at hl 1 rfl) ?_
    refine ek_iast hx hb hK hw hS hA 12 rfl hf dMo_add5_167 (fun I3 H locs hf hw hS => ?_)
    refine ek_aload_n hx hb dMo_add5_168 rfl (lv_at hl 0 rfl) ?_
    refine ek_getr hx hb 8 hts (in_Mo) hown hK hw rfl (by decide) (by decide) 9 (by decide) (n := 1) rfl rfl (hts _ q_585) hf dMo_add5_169 (fun hf => ?_)
    refine lv_iload hx hb dMo_add5_172 (lv_at hl 6 rfl) ?_
    refine lv_iload_n hx hb dMo_add5_174 rfl (lv_at hl 2 rfl) ?_
    refine ek_iast hx hb hK hw hS hA 12 rfl hf dMo_add5_175 (fun I4 H locs hf hw hS => ?_)
    refine ek_aload_n hx hb dMo_add5_176 rfl (lv_at hl 0 rfl) ?_
    refine ek_getr hx hb 8 hts (in_Mo) hown hK hw rfl (by decide) (by decide) 10 (by decide) (n := 2) rfl rfl (hts _ q_586) hf dMo_add5_177 (fun hf => ?_)
    refine lv_iload hx hb dMo_add5_180 (lv_at hl 6 rfl) ?_
    refine lv_iload_n hx hb dMo_add5_182 rfl (lv_at hl 3 rfl) ?_
    refine ek_iast hx hb hK hw hS hA 12 rfl hf dMo_add5_183 (fun I5 H locs hf hw hS => ?_)
    refine ek_aload_n hx hb dMo_add5_184 rfl (lv_at hl 0 rfl) ?_
    refine ek_getr hx hb 8 hts (in_Mo) hown hK hw rfl (by decide) (by decide) 11 (by decide) (n := 3) rfl rfl (hts _ q_587) hf dMo_add5_185 (fun hf => ?_)
    refine lv_iload hx hb dMo_add5_188 (lv_at hl 6 rfl) ?_
    refine lv_iload hx hb dMo_add5_190 (lv_at hl 4 rfl) ?_
    refine ek_iast hx hb hK hw hS hA 12 rfl hf dMo_add5_192 (fun I6 H locs hf hw hS => ?_)
    refine ek_aload_n hx hb dMo_add5_193 rfl (lv_at hl 0 rfl) ?_
    refine ek_getr hx hb 8 hts (in_Mo) hown hK hw rfl (by decide) (by decide) 12 (by decide) (n := 4) rfl rfl (hts _ q_588) hf dMo_add5_194 (fun hf => ?_)
    refine lv_iload hx hb dMo_add5_197 (lv_at hl 6 rfl) ?_
    refine lv_iload hx hb dMo_add5_199 (lv_at hl 5 rfl) ?_
    refine ek_iast hx hb hK hw hS hA 12 rfl hf dMo_add5_201 (fun I7 H locs hf hw hS => ?_)
    refine ek_aload_n hx hb dMo_add5_202 rfl (lv_at hl 0 rfl) ?_
    refine ek_getr hx hb 8 hts (in_Mo) hown hK hw rfl (by decide) (by decide) 13 (by decide) (n := 5) rfl rfl (hts _ q_589) hf dMo_add5_203 (fun hf => ?_)
    refine lv_iload hx hb dMo_add5_206 (lv_at hl 6 rfl) ?_
    refine lv_iconst (v := (0 : Int32)) hx hb dMo_add5_208 (by decide) ?_
    refine ek_iast hx hb hK hw hS hA 12 rfl hf dMo_add5_209 (fun I8 H locs hf hw hS => ?_)
    refine ek_aload_n hx hb dMo_add5_210 rfl (lv_at hl 0 rfl) ?_
    refine ek_getr hx hb 8 hts (in_Mo) hown hK hw rfl (by decide) (by decide) 14 (by decide) (n := 6) rfl rfl (hts _ q_590) hf dMo_add5_211 (fun hf => ?_)
    refine lv_iload hx hb dMo_add5_214 (lv_at hl 6 rfl) ?_
    refine lv_iconst (v := (0 : Int32)) hx hb dMo_add5_216 (by decide) ?_
    refine ek_iast hx hb hK hw hS hA 12 rfl hf dMo_add5_217 (fun I9 H locs hf hw hS => ?_)
    refine ek_aload_n hx hb dMo_add5_218 rfl (lv_at hl 0 rfl) ?_
    refine ek_getr hx hb 8 hts (in_Mo) hown hK hw rfl (by decide) (by decide) 16 (by decide) (n := 8) rfl rfl (hts _ q_592) hf dMo_add5_219 (fun hf => ?_)
    refine lv_iload hx hb dMo_add5_222 (lv_at hl 6 rfl) ?_
    refine lv_iconst (v := (0 : Int32)) hx hb dMo_add5_224 (by decide) ?_
    refine ek_iast hx hb hK hw hS hA 12 rfl hf dMo_add5_225 (fun I10 H locs hf hw hS => ?_)
    refine ek_aload_n hx hb dMo_add5_226 rfl (lv_at hl 0 rfl) ?_
    refine ek_getr hx hb 8 hts (in_Mo) hown hK hw rfl (by decide) (by decide) 17 (by decide) (n := 9) rfl rfl (hts _ q_593) hf dMo_add5_227 (fun hf => ?_)
    refine lv_iload hx hb dMo_add5_230 (lv_at hl 6 rfl) ?_
    refine lv_iconst (v := (0 : Int32)) hx hb dMo_add5_232 (by decide) ?_
    refine ek_iast hx hb hK hw hS hA 12 rfl hf dMo_add5_233 (fun I11 H locs hf hw hS => ?_)
    refine ek_aload_n hx hb dMo_add5_234 rfl (lv_at hl 0 rfl) ?_
    refine ek_getr hx hb 8 hts (in_Mo) hown hK hw rfl (by decide) (by decide) 18 (by decide) (n := 10) rfl rfl (hts _ q_594) hf dMo_add5_235 (fun hf => ?_)
    refine lv_iload hx hb dMo_add5_238 (lv_at hl 6 rfl) ?_
    refine lv_iconst (v := (-1 : Int32)) hx hb dMo_add5_240 (by decide) ?_
    refine ek_iast hx hb hK hw hS hA 12 rfl hf dMo_add5_241 (fun I12 H locs hf hw hS => ?_)
    refine ek_aload_n hx hb dMo_add5_242 rfl (lv_at hl 0 rfl) ?_
    refine ek_getr hx hb 8 hts (in_Mo) hown hK hw rfl (by decide) (by decide) 19 (by decide) (n := 11) rfl rfl (hts _ q_595) hf dMo_add5_243 (fun hf => ?_)
    refine lv_iload hx hb dMo_add5_246 (lv_at hl 6 rfl) ?_
    refine lv_iconst (v := (0 : Int32)) hx hb dMo_add5_248 (by decide) ?_
    refine ek_iast hx hb hK hw hS hA 12 rfl hf dMo_add5_249 (fun I13 H locs hf hw hS => ?_)
    refine ek_aload_n hx hb dMo_add5_250 rfl (lv_at hl 0 rfl) ?_
    refine ek_getr hx hb 8 hts (in_Mo) hown hK hw rfl (by decide) (by decide) 20 (by decide) (n := 12) rfl rfl (hts _ q_596) hf dMo_add5_251 (fun hf => ?_)
    refine lv_iload hx hb dMo_add5_254 (lv_at hl 6 rfl) ?_
    refine lv_iconst (v := (0 : Int32)) hx hb dMo_add5_256 (by decide) ?_
    refine ek_iast hx hb hK hw hS hA 12 rfl hf dMo_add5_257 (fun I14 H locs hf hw hS => ?_)
    refine ek_aload_n hx hb dMo_add5_258 rfl (lv_at hl 0 rfl) ?_
    refine ek_getr hx hb 8 hts (in_Mo) hown hK hw rfl (by decide) (by decide) 21 (by decide) (n := 13) rfl rfl (hts _ q_597) hf dMo_add5_259 (fun hf => ?_)
    refine lv_iload hx hb dMo_add5_262 (lv_at hl 6 rfl) ?_
    refine lv_iconst (v := (0 : Int32)) hx hb dMo_add5_264 (by decide) ?_
    refine ek_iast hx hb hK hw hS hA 12 rfl hf dMo_add5_265 (fun I15 H locs hf hw hS => ?_)
    refine ek_aload_n hx hb dMo_add5_266 rfl (lv_at hl 0 rfl) ?_
    refine ek_aload_n hx hb dMo_add5_267 rfl (lv_at hl 0 rfl) ?_
    refine ek_geti hx hb 8 hts (in_Mo) hown hK hw rfl (by decide) (by decide) 2 (by decide) rfl (hts _ q_578) hf dMo_add5_268 (fun hf => ?_)
    obtain ⟨hx17, hf⟩ := ek_ck_s hf
    refine ek_ci hf hS hA (fun I' v hq => ek_rV (As := [.int (I15 x0 2)]) ⟨hx, hb, hml, hown, hts⟩ hK hw 8 rfl (by decide) (by decide) hx17 (mMo_tooMuch hq) (cwV 1 hts (lw_V q_673 q_675 p_19 q_8 q_676) rfl rfl rfl (by decide +kernel) ⟨Nat.le_of_ble_eq_true rfl, Nat.le_of_ble_eq_true rfl⟩) rfl hl.1 rfl (Nat.le_of_ble_eq_true rfl) dMo_add5_271 ⟨Nat.zero_le _, Nat.zero_le _⟩) (fun I16 ir18 H locs hf hw hS => ?_)
    refine ek_istore (lv' := [(7, .int ir18), (6, .int i6), (0, ek_r G x0), (1, .int i1), (2, .int i2), (3, .int i3), (4, .int i4), (5, .int i5)]) hx hb dMo_add5_274 hl (by decide) (ek_s1k 6 rfl rfl rfl rfl rfl) (fun ls hl => ?_)
    refine lv_iload hx hb dMo_add5_276 (lv_at hl 0 rfl) ?_
    refine lv_if_le (tgt := 295) hx hb dMo_add5_278 (by decide) (fun c19 => ?_) (fun c19 => ?_)
    · have hf := ek_t c19 hf
      refine ek_aload_n hx hb dMo_add5_295 rfl (lv_at hl 2 rfl) ?_
      obtain ⟨hx21, hf⟩ := ek_ck_s hf
      refine ek_cv hf hS hA (fun I' hq => ek_rV (As := []) ⟨hx, hb, hml, hown, hts⟩ hK hw 8 rfl (by decide) (by decide) hx21 (mMo_solve hq) (cwV 0 hts (lw_V q_706 q_708 p_27 q_8 q_709) rfl rfl rfl (by decide +kernel) ⟨Nat.le_of_ble_eq_true rfl, Nat.le_of_ble_eq_true rfl⟩) rfl hl.1 rfl (Nat.le_of_ble_eq_true rfl) dMo_add5_296 ⟨Nat.zero_le _, Nat.zero_le _⟩) (fun I20 H locs hf hw hS => ?_)
      refine ek_aload_n hx hb dMo_add5_299 rfl (lv_at hl 2 rfl) ?_
      refine ek_geti hx hb 8 hts (in_Mo) hown hK hw rfl (by decide) (by decide) 5 (by decide) rfl (hts _ q_581) hf dMo_add5_300 (fun hf => ?_)
      refine ek_aload_n hx hb dMo_add5_303 rfl (lv_at hl 2 rfl) ?_
      refine ek_geti hx hb 8 hts (in_Mo) hown hK hw rfl (by decide) (by decide) 1 (by decide) rfl (hts _ q_577) hf dMo_add5_304 (fun hf => ?_)
      refine lv_isub hx hb dMo_add5_307 ?_
      exact ek_iret hx hb hr hlocks hw hS hf dMo_add5_308
    · have hf := ek_f c19 hf
      refine ek_aload_n hx hb dMo_add5_281 rfl (lv_at hl 2 rfl) ?_
      refine lv_iload hx hb dMo_add5_282 (lv_at hl 0 rfl) ?_
      refine ek_puti hx hb 8 hts (in_Mo) ty_Mo ty_Mo_ok nm_Mo hown hK hw hS hA rfl (by decide) (by decide) 6 (by decide) rfl (hts _ q_582) rfl rfl rfl hf dMo_add5_284 (fun I22 H locs hf hw hS => ?_)
      refine ek_aload_n hx hb dMo_add5_287 rfl (lv_at hl 2 rfl) ?_
      refine lv_iload hx hb dMo_add5_288 (lv_at hl 1 rfl) ?_
      obtain ⟨hx24, hf⟩ := ek_ck_s hf
      refine ek_cv hf hS hA (fun I' hq => ek_rV (As := [.int i6]) ⟨hx, hb, hml, hown, hts⟩ hK hw 8 rfl (by decide) (by decide) hx24 (mMo_remove hq) (cwV 1 hts (lw_V q_702 q_704 p_26 q_8 q_705) rfl rfl rfl (by decide +kernel) ⟨Nat.le_of_ble_eq_true rfl, Nat.le_of_ble_eq_true rfl⟩) rfl hl.1 rfl (Nat.le_of_ble_eq_true rfl) dMo_add5_290 ⟨Nat.zero_le _, Nat.zero_le _⟩) (fun I23 H locs hf hw hS => ?_)
      refine lv_iconst (v := (-1 : Int32)) hx hb dMo_add5_293 (by decide) ?_
      exact ek_iret hx hb hr hlocks hw hS hf dMo_add5_294
  · have hf := ek_f c1 hf
    refine ek_aload_n hx hb dMo_add5_134 rfl (lv_at hl 0 rfl) ?_
    refine lv_iload hx hb dMo_add5_135 (lv_at hl 7 rfl) ?_
    refine lv_iload hx hb dMo_add5_137 (lv_at hl 7 rfl) ?_
    refine lv_iconst (v := (1 : Int32)) hx hb dMo_add5_139 (by decide) ?_
    refine lv_isub hx hb dMo_add5_140 ?_
    obtain ⟨hx26, hf⟩ := ek_ck_s hf
    refine ek_cv hf hS hA (fun I' hq => ek_rV (As := [.int i7, .int (i7 - ((1 : Int32)))]) ⟨hx, hb, hml, hown, hts⟩ hK hw 8 rfl (by decide) (by decide) hx26 (mMo_move hq) (cwV 2 hts (lw_V q_665 q_667 p_17 q_8 q_668) rfl rfl rfl (by decide +kernel) ⟨Nat.le_of_ble_eq_true rfl, Nat.le_of_ble_eq_true rfl⟩) rfl hl.1 rfl (Nat.le_of_ble_eq_true rfl) dMo_add5_141 ⟨Nat.zero_le _, Nat.zero_le _⟩) (fun I25 H locs hf hw hS => ?_)
    refine ek_iinc hx hb 7 (fun i7_27 => [(7, .int i7_27), (6, .int i6), (0, ek_r G x0), (1, .int i1), (2, .int i2), (3, .int i3), (4, .int i4), (5, .int i5)]) dMo_add5_144 hl rfl (v := i7 + (-1 : Int32)) rfl hf (by decide) (fun i7_27 => ek_s1k 6 rfl rfl rfl rfl rfl) (fun i7_27 ls hf hl => ?_)
    refine lv_goto (tgt := 127) hx hb dMo_add5_147 (by decide) ?_
    exact hk127 (I25, x0, i1, i2, i3, i4, i5, i6, i7_27) hf _ _ _ hw hS (lv_sub hl [2, 3, 4, 5, 6, 7, 1, 0] rfl)
set_option maxHeartbeats 4000000 in
set_option maxRecDepth 100000 in
theorem wMo_add5_127_lp {l : Launch} {G : ek_G} {kd : Nat → Nat} {p : Program} {e : Env} {s : State} {m : MethodId} {args : Array Value} {below : List Frame} {meth : Method} {c : Code} (X : ek_X p s m meth c args G prog_9_method_30_code 8 "ElasticKernelModel" (some .int)) {q : ek_St × Int32} (n : Nat) : ∀ q0 : ek_St × Nat × Int32 × Int32 × Int32 × Int32 × Int32 × Int32 × Int32, ek_lp (fun (k : (ek_St × Nat × Int32 × Int32 × Int32 × Int32 × Int32 × Int32 × Int32) → Option (ek_St × Int32)) (q : (ek_St × Nat × Int32 × Int32 × Int32 × Int32 × Int32 × Int32 × Int32)) => fMo_add5_127 kd k q.1 q.2.1 q.2.2.1 q.2.2.2.1 q.2.2.2.2.1 q.2.2.2.2.2.1 q.2.2.2.2.2.2.1 q.2.2.2.2.2.2.2.1 q.2.2.2.2.2.2.2.2) n q0 = some q → ∀ (H : Heap) (locs : List Loc) (ls : Array Slot), ek_W G kd q0.1 H → va_S (ek_A G kd) s.heap H locs → lv_has ls 8 [(0, ek_r G q0.2.1), (1, .int q0.2.2.1), (2, .int q0.2.2.2.1), (3, .int q0.2.2.2.2.1), (4, .int q0.2.2.2.2.2.1), (5, .int q0.2.2.2.2.2.2.1), (6, .int q0.2.2.2.2.2.2.2.1), (7, .int q0.2.2.2.2.2.2.2.2)] → W p l e ({ frames := 4, cells := 0, slots := 0, locals := 101 } : Room) s m args below meth c H locs 0 0 (MQ below (ek_Q G kd (some (.int q.2)) q.1) args s 0 0 (ek_A G kd)) (F0 m 127 ls []) :=
  ek_lp_ind (fun k hk q0 hf => fun H locs ls hw hS hl => wMo_add5_127 X hk hf hw hS hl) n
set_option maxHeartbeats 4000000 in
set_option maxRecDepth 100000 in
theorem wMo_add5_121 {l : Launch} {G : ek_G} {kd : Nat → Nat} {p : Program} {e : Env} {s : State} {m : MethodId} {args : Array Value} {below : List Frame} {meth : Method} {c : Code} (X : ek_X p s m meth c args G prog_9_method_30_code 8 "ElasticKernelModel" (some .int)) {q : ek_St × Int32} {I : ek_St} {x0 : Nat} {i1 : Int32} {i2 : Int32} {i3 : Int32} {i4 : Int32} {i5 : Int32} {i6 : Int32} (hf : fMo_add5_121 kd I x0 i1 i2 i3 i4 i5 i6 = some q) {H : Heap} {locs : List Loc} {ls : Array Slot} (hw : ek_W G kd I H) (hS : va_S (ek_A G kd) s.heap H locs) (hl : lv_has ls 8 [(0, ek_r G x0), (1, .int i1), (2, .int i2), (3, .int i3), (4, .int i4), (5, .int i5), (6, .int i6)]) : W p l e ({ frames := 4, cells := 0, slots := 0, locals := 101 } : Room) s m args below meth c H locs 0 0 (MQ below (ek_Q G kd (some (.int q.2)) q.1) args s 0 0 (ek_A G kd)) (F0 m 121 ls []) := by
  obtain ⟨hx, hb, hml, hown, hts, hr, hlocks, hK⟩ := id X
  have hA : ∀ q, ek_A G kd q → ek_A G kd q := fun _ h => h
  unfold fMo_add5_121 at hf
  refine ek_aload_n hx hb dMo_add5_121 rfl (lv_at hl 0 rfl) ?_
  refine ek_geti hx hb 8 hts (in_Mo) hown hK hw rfl (by decide) (by decide) 7 (by decide) rfl (hts _ q_583) hf dMo_add5_122 (fun hf => ?_)
  refine ek_ti hf (fun i7_1 hf => ?_)
  refine ek_istore (lv' := [(7, .int i7_1), (6, .int i6), (0, ek_r G x0), (1, .int i1), (2, .int i2), (3, .int i3), (4, .int i4), (5, .int i5)]) hx hb dMo_add5_125 hl (by decide) (ek_s1k 6 rfl rfl rfl rfl rfl) (fun ls hl => ?_)
  exact wMo_add5_127_lp X ek_N (I, x0, i1, i2, i3, i4, i5, i6, i7_1) hf _ _ _ hw hS (lv_sub hl [2, 3, 4, 5, 6, 7, 1, 0] rfl)
set_option maxHeartbeats 4000000 in
set_option maxRecDepth 100000 in
theorem wMo_add5_95 {l : Launch} {G : ek_G} {kd : Nat → Nat} {p : Program} {e : Env} {s : State} {m : MethodId} {args : Array Value} {below : List Frame} {meth : Method} {c : Code} (X : ek_X p s m meth c args G prog_9_method_30_code 8 "ElasticKernelModel" (some .int)) {q : ek_St × Int32} {k95 : (ek_St × Nat × Int32 × Int32 × Int32 × Int32 × Int32 × Int32) → Option (ek_St × Int32)} (hk95 : ∀ q0 : ek_St × Nat × Int32 × Int32 × Int32 × Int32 × Int32 × Int32, k95 q0 = some q → ∀ (H : Heap) (locs : List Loc) (ls : Array Slot), ek_W G kd q0.1 H → va_S (ek_A G kd) s.heap H locs → lv_has ls 8 [(0, ek_r G q0.2.1), (1, .int q0.2.2.1), (2, .int q0.2.2.2.1), (3, .int q0.2.2.2.2.1), (4, .int q0.2.2.2.2.2.1), (5, .int q0.2.2.2.2.2.2.1), (6, .int q0.2.2.2.2.2.2.2)] → W p l e ({ frames := 4, cells := 0, slots := 0, locals := 101 } : Room) s m args below meth c H locs 0 0 (MQ below (ek_Q G kd (some (.int q.2)) q.1) args s 0 0 (ek_A G kd)) (F0 m 95 ls [])) {I : ek_St} {x0 : Nat} {i1 : Int32} {i2 : Int32} {i3 : Int32} {i4 : Int32} {i5 : Int32} {i6 : Int32} (hf : fMo_add5_95 kd k95 I x0 i1 i2 i3 i4 i5 i6 = some q) {H : Heap} {locs : List Loc} {ls : Array Slot} (hw : ek_W G kd I H) (hS : va_S (ek_A G kd) s.heap H locs) (hl : lv_has ls 8 [(0, ek_r G x0), (1, .int i1), (2, .int i2), (3, .int i3), (4, .int i4), (5, .int i5), (6, .int i6)]) : W p l e ({ frames := 4, cells := 0, slots := 0, locals := 101 } : Room) s m args below meth c H locs 0 0 (MQ below (ek_Q G kd (some (.int q.2)) q.1) args s 0 0 (ek_A G kd)) (F0 m 95 ls []) := by
  obtain ⟨hx, hb, hml, hown, hts, hr, hlocks, hK⟩ := id X
  have hA : ∀ q, ek_A G kd q → ek_A G kd q := fun _ h => h
  unfold fMo_add5_95 at hf
  refine lv_iload hx hb dMo_add5_95 (lv_at hl 6 rfl) ?_
  refine ek_aload_n hx hb dMo_add5_97 rfl (lv_at hl 0 rfl) ?_
  refine ek_geti hx hb 8 hts (in_Mo) hown hK hw rfl (by decide) (by decide) 7 (by decide) rfl (hts _ q_583) hf dMo_add5_98 (fun hf => ?_)
  refine lv_icmp_ge (tgt := 121) hx hb dMo_add5_101 (by decide) (fun c1 => ?_) (fun c1 => ?_)
  · have hf := ek_t c1 hf
    exact wMo_add5_121 X hf hw hS (lv_sub hl [0, 1, 2, 3, 4, 5, 6] rfl)
  · have hf := ek_f c1 hf
    refine ek_aload_n hx hb dMo_add5_104 rfl (lv_at hl 0 rfl) ?_
    refine ek_getr hx hb 8 hts (in_Mo) hown hK hw rfl (by decide) (by decide) 8 (by decide) (n := 0) rfl rfl (hts _ q_584) hf dMo_add5_105 (fun hf => ?_)
    refine lv_iload hx hb dMo_add5_108 (lv_at hl 6 rfl) ?_
    refine ek_iald hx hb hK hw 12 rfl hf dMo_add5_110 (fun hf => ?_)
    refine lv_iload_n hx hb dMo_add5_111 rfl (lv_at hl 1 rfl) ?_
    refine lv_icmp_ge (tgt := 121) hx hb dMo_add5_112 (by decide) (fun c2 => ?_) (fun c2 => ?_)
    · have hf := ek_t c2 hf
      exact wMo_add5_121 X hf hw hS (lv_sub hl [0, 1, 2, 3, 4, 5, 6] rfl)
    · have hf := ek_f c2 hf
      refine ek_iinc hx hb 6 (fun i6_3 => [(6, .int i6_3), (5, .int i5), (0, ek_r G x0), (1, .int i1), (2, .int i2), (3, .int i3), (4, .int i4)]) dMo_add5_115 hl rfl (v := i6 + (1 : Int32)) rfl hf (by decide) (fun i6_3 => ek_s1k 5 rfl rfl rfl rfl rfl) (fun i6_3 ls hf hl => ?_)
      refine lv_goto (tgt := 95) hx hb dMo_add5_118 (by decide) ?_
      exact hk95 (I, x0, i1, i2, i3, i4, i5, i6_3) hf _ _ _ hw hS (lv_sub hl [2, 3, 4, 5, 6, 1, 0] rfl)
set_option maxHeartbeats 4000000 in
set_option maxRecDepth 100000 in
theorem wMo_add5_95_lp {l : Launch} {G : ek_G} {kd : Nat → Nat} {p : Program} {e : Env} {s : State} {m : MethodId} {args : Array Value} {below : List Frame} {meth : Method} {c : Code} (X : ek_X p s m meth c args G prog_9_method_30_code 8 "ElasticKernelModel" (some .int)) {q : ek_St × Int32} (n : Nat) : ∀ q0 : ek_St × Nat × Int32 × Int32 × Int32 × Int32 × Int32 × Int32, ek_lp (fun (k : (ek_St × Nat × Int32 × Int32 × Int32 × Int32 × Int32 × Int32) → Option (ek_St × Int32)) (q : (ek_St × Nat × Int32 × Int32 × Int32 × Int32 × Int32 × Int32)) => fMo_add5_95 kd k q.1 q.2.1 q.2.2.1 q.2.2.2.1 q.2.2.2.2.1 q.2.2.2.2.2.1 q.2.2.2.2.2.2.1 q.2.2.2.2.2.2.2) n q0 = some q → ∀ (H : Heap) (locs : List Loc) (ls : Array Slot), ek_W G kd q0.1 H → va_S (ek_A G kd) s.heap H locs → lv_has ls 8 [(0, ek_r G q0.2.1), (1, .int q0.2.2.1), (2, .int q0.2.2.2.1), (3, .int q0.2.2.2.2.1), (4, .int q0.2.2.2.2.2.1), (5, .int q0.2.2.2.2.2.2.1), (6, .int q0.2.2.2.2.2.2.2)] → W p l e ({ frames := 4, cells := 0, slots := 0, locals := 101 } : Room) s m args below meth c H locs 0 0 (MQ below (ek_Q G kd (some (.int q.2)) q.1) args s 0 0 (ek_A G kd)) (F0 m 95 ls []) :=
  ek_lp_ind (fun k hk q0 hf => fun H locs ls hw hS hl => wMo_add5_95 X hk hf hw hS hl) n
set_option maxHeartbeats 4000000 in
set_option maxRecDepth 100000 in
theorem wMo_add5_0 {l : Launch} {G : ek_G} {kd : Nat → Nat} {p : Program} {e : Env} {s : State} {m : MethodId} {args : Array Value} {below : List Frame} {meth : Method} {c : Code} (X : ek_X p s m meth c args G prog_9_method_30_code 8 "ElasticKernelModel" (some .int)) {q : ek_St × Int32} {I : ek_St} {x0 : Nat} {i1 : Int32} {i2 : Int32} {i3 : Int32} {i4 : Int32} {i5 : Int32} (hf : fMo_add5_0 kd I x0 i1 i2 i3 i4 i5 = some q) {H : Heap} {locs : List Loc} {ls : Array Slot} (hw : ek_W G kd I H) (hS : va_S (ek_A G kd) s.heap H locs) (hl : lv_has ls 8 [(0, ek_r G x0), (1, .int i1), (2, .int i2), (3, .int i3), (4, .int i4), (5, .int i5)]) : W p l e ({ frames := 4, cells := 0, slots := 0, locals := 101 } : Room) s m args below meth c H locs 0 0 (MQ below (ek_Q G kd (some (.int q.2)) q.1) args s 0 0 (ek_A G kd)) (F0 m 0 ls []) := by
  obtain ⟨hx, hb, hml, hown, hts, hr, hlocks, hK⟩ := id X
  have hA : ∀ q, ek_A G kd q → ek_A G kd q := fun _ h => h
  unfold fMo_add5_0 at hf
  refine ek_aload_n hx hb dMo_add5_0 rfl (lv_at hl 0 rfl) ?_
  refine lv_iconst (v := (0 : Int32)) hx hb dMo_add5_1 (by decide) ?_
  refine ek_puti hx hb 8 hts (in_Mo) ty_Mo ty_Mo_ok nm_Mo hown hK hw hS hA rfl (by decide) (by decide) 0 (by decide) rfl (hts _ q_576) rfl rfl rfl hf dMo_add5_2 (fun I1 H locs hf hw hS => ?_)
  refine lv_iload_n hx hb dMo_add5_5 rfl (lv_at hl 1 rfl) ?_
  refine lv_iconst (v := (1 : Int32)) hx hb dMo_add5_6 (by decide) ?_
  refine lv_icmp_lt (tgt := 90) hx hb dMo_add5_7 (by decide) (fun c2 => ?_) (fun c2 => ?_)
  · have hf := ek_t c2 hf
    refine lv_iconst (v := (-1 : Int32)) hx hb dMo_add5_90 (by decide) ?_
    exact ek_iret hx hb hr hlocks hw hS hf dMo_add5_91
  · have hf := ek_f c2 hf
    refine lv_iload_n hx hb dMo_add5_10 rfl (lv_at hl 1 rfl) ?_
    refine lv_bipush (v := (99 : Int32)) hx hb dMo_add5_11 (by decide) ?_
    refine lv_icmp_gt (tgt := 90) hx hb dMo_add5_13 (by decide) (fun c3 => ?_) (fun c3 => ?_)
    · have hf := ek_t c3 hf
      refine lv_iconst (v := (-1 : Int32)) hx hb dMo_add5_90 (by decide) ?_
      exact ek_iret hx hb hr hlocks hw hS hf dMo_add5_91
    · have hf := ek_f c3 hf
      refine lv_iload_n hx hb dMo_add5_16 rfl (lv_at hl 2 rfl) ?_
      refine lv_iconst (v := (1 : Int32)) hx hb dMo_add5_17 (by decide) ?_
      refine lv_icmp_lt (tgt := 90) hx hb dMo_add5_18 (by decide) (fun c4 => ?_) (fun c4 => ?_)
      · have hf := ek_t c4 hf
        refine lv_iconst (v := (-1 : Int32)) hx hb dMo_add5_90 (by decide) ?_
        exact ek_iret hx hb hr hlocks hw hS hf dMo_add5_91
      · have hf := ek_f c4 hf
        refine lv_iload_n hx hb dMo_add5_21 rfl (lv_at hl 3 rfl) ?_
        refine lv_iconst (v := (1 : Int32)) hx hb dMo_add5_22 (by decide) ?_
        refine lv_icmp_lt (tgt := 90) hx hb dMo_add5_23 (by decide) (fun c5 => ?_) (fun c5 => ?_)
        · have hf := ek_t c5 hf
          refine lv_iconst (v := (-1 : Int32)) hx hb dMo_add5_90 (by decide) ?_
          exact ek_iret hx hb hr hlocks hw hS hf dMo_add5_91
        · have hf := ek_f c5 hf
          refine lv_iload_n hx hb dMo_add5_26 rfl (lv_at hl 3 rfl) ?_
          refine lv_sipush (v := (20000 : Int32)) hx hb dMo_add5_27 (by decide) ?_
          refine lv_icmp_gt (tgt := 90) hx hb dMo_add5_30 (by decide) (fun c6 => ?_) (fun c6 => ?_)
          · have hf := ek_t c6 hf
            refine lv_iconst (v := (-1 : Int32)) hx hb dMo_add5_90 (by decide) ?_
            exact ek_iret hx hb hr hlocks hw hS hf dMo_add5_91
          · have hf := ek_f c6 hf
            refine lv_iload hx hb dMo_add5_33 (lv_at hl 4 rfl) ?_
            refine lv_iconst (v := (1 : Int32)) hx hb dMo_add5_35 (by decide) ?_
            refine lv_icmp_lt (tgt := 90) hx hb dMo_add5_36 (by decide) (fun c7 => ?_) (fun c7 => ?_)
            · have hf := ek_t c7 hf
              refine lv_iconst (v := (-1 : Int32)) hx hb dMo_add5_90 (by decide) ?_
              exact ek_iret hx hb hr hlocks hw hS hf dMo_add5_91
            · have hf := ek_f c7 hf
              refine lv_iload hx hb dMo_add5_39 (lv_at hl 4 rfl) ?_
              refine lv_sipush (v := (20000 : Int32)) hx hb dMo_add5_41 (by decide) ?_
              refine lv_icmp_gt (tgt := 90) hx hb dMo_add5_44 (by decide) (fun c8 => ?_) (fun c8 => ?_)
              · have hf := ek_t c8 hf
                refine lv_iconst (v := (-1 : Int32)) hx hb dMo_add5_90 (by decide) ?_
                exact ek_iret hx hb hr hlocks hw hS hf dMo_add5_91
              · have hf := ek_f c8 hf
                refine lv_iload_n hx hb dMo_add5_47 rfl (lv_at hl 2 rfl) ?_
                refine lv_iload_n hx hb dMo_add5_48 rfl (lv_at hl 3 rfl) ?_
                refine lv_icmp_gt (tgt := 90) hx hb dMo_add5_49 (by decide) (fun c9 => ?_) (fun c9 => ?_)
                · have hf := ek_t c9 hf
                  refine lv_iconst (v := (-1 : Int32)) hx hb dMo_add5_90 (by decide) ?_
                  exact ek_iret hx hb hr hlocks hw hS hf dMo_add5_91
                · have hf := ek_f c9 hf
                  refine lv_iload_n hx hb dMo_add5_52 rfl (lv_at hl 3 rfl) ?_
                  refine lv_iload hx hb dMo_add5_53 (lv_at hl 4 rfl) ?_
                  refine lv_icmp_gt (tgt := 90) hx hb dMo_add5_55 (by decide) (fun c10 => ?_) (fun c10 => ?_)
                  · have hf := ek_t c10 hf
                    refine lv_iconst (v := (-1 : Int32)) hx hb dMo_add5_90 (by decide) ?_
                    exact ek_iret hx hb hr hlocks hw hS hf dMo_add5_91
                  · have hf := ek_f c10 hf
                    refine lv_iload hx hb dMo_add5_58 (lv_at hl 5 rfl) ?_
                    refine lv_iconst (v := (1 : Int32)) hx hb dMo_add5_60 (by decide) ?_
                    refine lv_icmp_lt (tgt := 90) hx hb dMo_add5_61 (by decide) (fun c11 => ?_) (fun c11 => ?_)
                    · have hf := ek_t c11 hf
                      refine lv_iconst (v := (-1 : Int32)) hx hb dMo_add5_90 (by decide) ?_
                      exact ek_iret hx hb hr hlocks hw hS hf dMo_add5_91
                    · have hf := ek_f c11 hf
                      refine lv_iload hx hb dMo_add5_64 (lv_at hl 5 rfl) ?_
                      refine lv_sipush (v := (1000 : Int32)) hx hb dMo_add5_66 (by decide) ?_
                      refine lv_icmp_gt (tgt := 90) hx hb dMo_add5_69 (by decide) (fun c12 => ?_) (fun c12 => ?_)
                      · have hf := ek_t c12 hf
                        refine lv_iconst (v := (-1 : Int32)) hx hb dMo_add5_90 (by decide) ?_
                        exact ek_iret hx hb hr hlocks hw hS hf dMo_add5_91
                      · have hf := ek_f c12 hf
                        refine ek_aload_n hx hb dMo_add5_72 rfl (lv_at hl 0 rfl) ?_
                        refine lv_iload_n hx hb dMo_add5_73 rfl (lv_at hl 1 rfl) ?_
                        obtain ⟨hx14, hf⟩ := ek_ck_s hf
                        refine ek_ci hf hS hA (fun I' v hq => ek_rV (As := [.int i1]) ⟨hx, hb, hml, hown, hts⟩ hK hw 8 rfl (by decide) (by decide) hx14 (mMo_find hq) (cwV 1 hts (lw_V q_661 q_663 p_16 q_8 q_664) rfl rfl rfl (by decide +kernel) ⟨Nat.le_of_ble_eq_true rfl, Nat.le_of_ble_eq_true rfl⟩) rfl hl.1 rfl (Nat.le_of_ble_eq_true rfl) dMo_add5_74 ⟨Nat.zero_le _, Nat.zero_le _⟩) (fun I13 ir15 H locs hf hw hS => ?_)
                        refine lv_iconst (v := (-1 : Int32)) hx hb dMo_add5_77 (by decide) ?_
                        refine lv_icmp_ne (tgt := 90) hx hb dMo_add5_78 (by decide) (fun c16 => ?_) (fun c16 => ?_)
                        · have hf := ek_f c16 hf
                          refine lv_iconst (v := (-1 : Int32)) hx hb dMo_add5_90 (by decide) ?_
                          exact ek_iret hx hb hr hlocks hw hS hf dMo_add5_91
                        · have hf := ek_t c16 hf
                          refine ek_aload_n hx hb dMo_add5_81 rfl (lv_at hl 0 rfl) ?_
                          refine ek_geti hx hb 8 hts (in_Mo) hown hK hw rfl (by decide) (by decide) 7 (by decide) rfl (hts _ q_583) hf dMo_add5_82 (fun hf => ?_)
                          refine lv_bipush (v := (12 : Int32)) hx hb dMo_add5_85 (by decide) ?_
                          refine lv_icmp_ne (tgt := 92) hx hb dMo_add5_87 (by decide) (fun c17 => ?_) (fun c17 => ?_)
                          · have hf := ek_f c17 hf
                            refine lv_iconst (v := (0 : Int32)) hx hb dMo_add5_92 (by decide) ?_
                            refine ek_istore (lv' := [(6, .int ((0 : Int32))), (5, .int i5), (0, ek_r G x0), (1, .int i1), (2, .int i2), (3, .int i3), (4, .int i4)]) hx hb dMo_add5_93 hl (by decide) (ek_s1k 5 rfl rfl rfl rfl rfl) (fun ls hl => ?_)
                            exact wMo_add5_95_lp X ek_N (I13, x0, i1, i2, i3, i4, i5, (0 : Int32)) hf _ _ _ hw hS (lv_sub hl [2, 3, 4, 5, 6, 1, 0] rfl)
                          · have hf := ek_t c17 hf
                            refine lv_iconst (v := (-1 : Int32)) hx hb dMo_add5_90 (by decide) ?_
                            exact ek_iret hx hb hr hlocks hw hS hf dMo_add5_91
set_option maxHeartbeats 4000000 in
set_option maxRecDepth 100000 in
theorem mMo_add5 {l : Launch} {G : ek_G} {kd : Nat → Nat} {I : ek_St} {x0 : Nat} {i1 : Int32} {i2 : Int32} {i3 : Int32} {i4 : Int32} {i5 : Int32} {q : ek_St × Int32} (hf : fMo_add5 kd I x0 i1 i2 i3 i4 i5 = some q) : ek_M l G kd y_Mo_add5 (.code y_Mo_add5 prog_9_method_30_code 8 (some .int) :: lw_g) ({ frames := 4, cells := 0, slots := 0, locals := 101 } : Room) [ek_r G x0, .int i1, .int i2, .int i3, .int i4, .int i5] I (some (.int q.2)) q.1 :=
  ek_body [(0, ek_r G x0), (1, .int i1), (2, .int i2), (3, .int i3), (4, .int i4), (5, .int i5)] (by decide) (by simp [lg_sl, ek_r_cat, ek_c_i, ek_c_l]) (by simp [lv_args, ek_r_cat, ek_c_i, ek_c_l]) (fun p e s m below meth c ls X hw hS hl => wMo_add5_0 X hf hw hS hl)
/-! ElasticKernelModel.leave(I)Z -/
def fMo_leave_52 (kd : Nat → Nat) (I : ek_St) (x0 : Nat) : Option (ek_St × Int32) :=
  ek_ck (kd x0 = 8) (ek_bv (fMo_solve kd I x0) (fun I1 => ek_ck (((1 : Int32)) = (0 : Int32) ∨ ((1 : Int32)) = (1 : Int32)) (some (I1, (1 : Int32)))))
def fMo_leave_0 (kd : Nat → Nat) (I : ek_St) (x0 : Nat) (i1 : Int32) : Option (ek_St × Int32) :=
  ek_ck (kd x0 = 8) (ek_let (ek_up I x0 0 ((0 : Int32))) (fun I1 => ek_ck (kd x0 = 8) (ek_bi (fMo_find kd I1 x0 i1) (fun I2 ir4 => if ir4 = ((-1 : Int32)) then (ek_ck (((0 : Int32)) = (0 : Int32) ∨ ((0 : Int32)) = (1 : Int32)) (some (I2, (0 : Int32)))) else (ek_ck (kd x0 = 8) (ek_ck (kd (x0 + 6) = 112) (ek_ck (ek_in ir4 12) (if (I2 (x0 + 6) ir4.toNatClampNeg) = ((2 : Int32)) then (ek_ck (((0 : Int32)) = (0 : Int32) ∨ ((0 : Int32)) = (1 : Int32)) (some (I2, (0 : Int32)))) else (ek_ck (kd x0 = 8) (ek_ck (kd (x0 + 6) = 112) (ek_ck (ek_in ir4 12) (if (I2 (x0 + 6) ir4.toNatClampNeg) = ((0 : Int32)) then (ek_ck (kd x0 = 8) (ek_bv (fMo_remove kd I2 x0 ir4) (fun I9 => fMo_leave_52 kd I9 x0))) else (ek_ck (kd x0 = 8) (ek_ck (kd (x0 + 6) = 112) (ek_ck (ek_in ir4 12) (ek_let (ek_up I2 (x0 + 6) ir4.toNatClampNeg ((2 : Int32))) (fun I8 => fMo_leave_52 kd I8 x0)))))))))))))))))
def fMo_leave (kd : Nat → Nat) (I : ek_St) (x0 : Nat) (i1 : Int32) : Option (ek_St × Int32) := fMo_leave_0 kd I x0 i1
theorem dMo_leave_0 : decode prog_9_method_31_code 0 = .ok (.aload_n 0, 1) := by decide +kernel
theorem dMo_leave_1 : decode prog_9_method_31_code 1 = .ok (.iconst 0, 1) := by decide +kernel
theorem dMo_leave_2 : decode prog_9_method_31_code 2 = .ok (.putfield 70, 3) := by decide +kernel
theorem dMo_leave_5 : decode prog_9_method_31_code 5 = .ok (.aload_n 0, 1) := by decide +kernel
theorem dMo_leave_6 : decode prog_9_method_31_code 6 = .ok (.iload_n 1, 1) := by decide +kernel
theorem dMo_leave_7 : decode prog_9_method_31_code 7 = .ok (.invokevirtual 161, 3) := by decide +kernel
theorem dMo_leave_10 : decode prog_9_method_31_code 10 = .ok (.istore_n 2, 1) := by decide +kernel
theorem dMo_leave_11 : decode prog_9_method_31_code 11 = .ok (.iload_n 2, 1) := by decide +kernel
theorem dMo_leave_12 : decode prog_9_method_31_code 12 = .ok (.iconst (-1), 1) := by decide +kernel
theorem dMo_leave_13 : decode prog_9_method_31_code 13 = .ok (.if_icmp .eq 13, 3) := by decide +kernel
theorem dMo_leave_16 : decode prog_9_method_31_code 16 = .ok (.aload_n 0, 1) := by decide +kernel
theorem dMo_leave_17 : decode prog_9_method_31_code 17 = .ok (.getfield 29, 3) := by decide +kernel
theorem dMo_leave_20 : decode prog_9_method_31_code 20 = .ok (.iload_n 2, 1) := by decide +kernel
theorem dMo_leave_21 : decode prog_9_method_31_code 21 = .ok (.iaload, 1) := by decide +kernel
theorem dMo_leave_22 : decode prog_9_method_31_code 22 = .ok (.iconst 2, 1) := by decide +kernel
theorem dMo_leave_23 : decode prog_9_method_31_code 23 = .ok (.if_icmp .ne 5, 3) := by decide +kernel
theorem dMo_leave_26 : decode prog_9_method_31_code 26 = .ok (.iconst 0, 1) := by decide +kernel
theorem dMo_leave_27 : decode prog_9_method_31_code 27 = .ok (.ireturn, 1) := by decide +kernel
theorem dMo_leave_28 : decode prog_9_method_31_code 28 = .ok (.aload_n 0, 1) := by decide +kernel
theorem dMo_leave_29 : decode prog_9_method_31_code 29 = .ok (.getfield 29, 3) := by decide +kernel
theorem dMo_leave_32 : decode prog_9_method_31_code 32 = .ok (.iload_n 2, 1) := by decide +kernel
theorem dMo_leave_33 : decode prog_9_method_31_code 33 = .ok (.iaload, 1) := by decide +kernel
theorem dMo_leave_34 : decode prog_9_method_31_code 34 = .ok (.ifCond .ne 11, 3) := by decide +kernel
theorem dMo_leave_37 : decode prog_9_method_31_code 37 = .ok (.aload_n 0, 1) := by decide +kernel
theorem dMo_leave_38 : decode prog_9_method_31_code 38 = .ok (.iload_n 2, 1) := by decide +kernel
theorem dMo_leave_39 : decode prog_9_method_31_code 39 = .ok (.invokevirtual 170, 3) := by decide +kernel
theorem dMo_leave_42 : decode prog_9_method_31_code 42 = .ok (.goto 10, 3) := by decide +kernel
theorem dMo_leave_45 : decode prog_9_method_31_code 45 = .ok (.aload_n 0, 1) := by decide +kernel
theorem dMo_leave_46 : decode prog_9_method_31_code 46 = .ok (.getfield 29, 3) := by decide +kernel
theorem dMo_leave_49 : decode prog_9_method_31_code 49 = .ok (.iload_n 2, 1) := by decide +kernel
theorem dMo_leave_50 : decode prog_9_method_31_code 50 = .ok (.iconst 2, 1) := by decide +kernel
theorem dMo_leave_51 : decode prog_9_method_31_code 51 = .ok (.iastore, 1) := by decide +kernel
theorem dMo_leave_52 : decode prog_9_method_31_code 52 = .ok (.aload_n 0, 1) := by decide +kernel
theorem dMo_leave_53 : decode prog_9_method_31_code 53 = .ok (.invokevirtual 173, 3) := by decide +kernel
theorem dMo_leave_56 : decode prog_9_method_31_code 56 = .ok (.iconst 1, 1) := by decide +kernel
theorem dMo_leave_57 : decode prog_9_method_31_code 57 = .ok (.ireturn, 1) := by decide +kernel
set_option maxHeartbeats 4000000 in
set_option maxRecDepth 100000 in
theorem wMo_leave_52 {l : Launch} {G : ek_G} {kd : Nat → Nat} {p : Program} {e : Env} {s : State} {m : MethodId} {args : Array Value} {below : List Frame} {meth : Method} {c : Code} (X : ek_X p s m meth c args G prog_9_method_31_code 3 "ElasticKernelModel" (some .boolean)) {q : ek_St × Int32} {I : ek_St} {x0 : Nat} (hf : fMo_leave_52 kd I x0 = some q) {H : Heap} {locs : List Loc} {ls : Array Slot} (hw : ek_W G kd I H) (hS : va_S (ek_A G kd) s.heap H locs) (hl : lv_has ls 3 [(0, ek_r G x0)]) : W p l e ({ frames := 4, cells := 0, slots := 0, locals := 101 } : Room) s m args below meth c H locs 0 0 (MQ below (ek_Q G kd (some (.int q.2)) q.1) args s 0 0 (ek_A G kd)) (F0 m 52 ls []) := by
  obtain ⟨hx, hb, hml, hown, hts, hr, hlocks, hK⟩ := id X
  have hA : ∀ q, ek_A G kd q → ek_A G kd q := fun _ h => h
  unfold fMo_leave_52 at hf
  refine ek_aload_n hx hb dMo_leave_52 rfl (lv_at hl 0 rfl) ?_
  obtain ⟨hx2, hf⟩ := ek_ck_s hf
  refine ek_cv hf hS hA (fun I' hq => ek_rV (As := []) ⟨hx, hb, hml, hown, hts⟩ hK hw 8 rfl (by decide) (by decide) hx2 (mMo_solve hq) (cwV 0 hts (lw_V q_706 q_708 p_27 q_8 q_709) rfl rfl rfl (by decide +kernel) ⟨Nat.le_of_ble_eq_true rfl, Nat.le_of_ble_eq_true rfl⟩) rfl hl.1 rfl (Nat.le_of_ble_eq_true rfl) dMo_leave_53 ⟨Nat.zero_le _, Nat.zero_le _⟩) (fun I1 H locs hf hw hS => ?_)
  refine lv_iconst (v := (1 : Int32)) hx hb dMo_leave_56 (by decide) ?_
  exact ek_zret hx hb hr hlocks hw hS hf dMo_leave_57
set_option maxHeartbeats 4000000 in
set_option maxRecDepth 100000 in
theorem wMo_leave_0 {l : Launch} {G : ek_G} {kd : Nat → Nat} {p : Program} {e : Env} {s : State} {m : MethodId} {args : Array Value} {below : List Frame} {meth : Method} {c : Code} (X : ek_X p s m meth c args G prog_9_method_31_code 3 "ElasticKernelModel" (some .boolean)) {q : ek_St × Int32} {I : ek_St} {x0 : Nat} {i1 : Int32} (hf : fMo_leave_0 kd I x0 i1 = some q) {H : Heap} {locs : List Loc} {ls : Array Slot} (hw : ek_W G kd I H) (hS : va_S (ek_A G kd) s.heap H locs) (hl : lv_has ls 3 [(0, ek_r G x0), (1, .int i1)]) : W p l e ({ frames := 4, cells := 0, slots := 0, locals := 101 } : Room) s m args below meth c H locs 0 0 (MQ below (ek_Q G kd (some (.int q.2)) q.1) args s 0 0 (ek_A G kd)) (F0 m 0 ls []) := by
  obtain ⟨hx, hb, hml, hown, hts, hr, hlocks, hK⟩ := id X
  have hA : ∀ q, ek_A G kd q → ek_A G kd q := fun _ h => h
  unfold fMo_leave_0 at hf
  refine ek_aload_n hx hb dMo_leave_0 rfl (lv_at hl 0 rfl) ?_
  refine lv_iconst (v := (0 : Int32)) hx hb dMo_leave_1 (by decide) ?_
  refine ek_puti hx hb 8 hts (in_Mo) ty_Mo ty_Mo_ok nm_Mo hown hK hw hS hA rfl (by decide) (by decide) 0 (by decide) rfl (hts _ q_576) rfl rfl rfl hf dMo_leave_2 (fun I1 H locs hf hw hS => ?_)
  refine ek_aload_n hx hb dMo_leave_5 rfl (lv_at hl 0 rfl) ?_
  refine lv_iload_n hx hb dMo_leave_6 rfl (lv_at hl 1 rfl) ?_
  obtain ⟨hx3, hf⟩ := ek_ck_s hf
  refine ek_ci hf hS hA (fun I' v hq => ek_rV (As := [.int i1]) ⟨hx, hb, hml, hown, hts⟩ hK hw 8 rfl (by decide) (by decide) hx3 (mMo_find hq) (cwV 1 hts (lw_V q_661 q_663 p_16 q_8 q_664) rfl rfl rfl (by decide +kernel) ⟨Nat.le_of_ble_eq_true rfl, Nat.le_of_ble_eq_true rfl⟩) rfl hl.1 rfl (Nat.le_of_ble_eq_true rfl) dMo_leave_7 ⟨Nat.zero_le _, Nat.zero_le _⟩) (fun I2 ir4 H locs hf hw hS => ?_)
  refine ek_istore_n (lv' := [(2, .int ir4), (1, .int i1), (0, ek_r G x0)]) hx hb dMo_leave_10 rfl hl (by decide) (ek_s1k 1 rfl rfl rfl rfl rfl) (fun ls hl => ?_)
  refine lv_iload_n hx hb dMo_leave_11 rfl (lv_at hl 0 rfl) ?_
  refine lv_iconst (v := (-1 : Int32)) hx hb dMo_leave_12 (by decide) ?_
  refine lv_icmp_eq (tgt := 26) hx hb dMo_leave_13 (by decide) (fun c5 => ?_) (fun c5 => ?_)
  · have hf := ek_t c5 hf
    refine lv_iconst (v := (0 : Int32)) hx hb dMo_leave_26 (by decide) ?_
    exact ek_zret hx hb hr hlocks hw hS hf dMo_leave_27
  · have hf := ek_f c5 hf
    refine ek_aload_n hx hb dMo_leave_16 rfl (lv_at hl 2 rfl) ?_
    refine ek_getr hx hb 8 hts (in_Mo) hown hK hw rfl (by decide) (by decide) 13 (by decide) (n := 5) rfl rfl (hts _ q_589) hf dMo_leave_17 (fun hf => ?_)
    refine lv_iload_n hx hb dMo_leave_20 rfl (lv_at hl 0 rfl) ?_
    refine ek_iald hx hb hK hw 12 rfl hf dMo_leave_21 (fun hf => ?_)
    refine lv_iconst (v := (2 : Int32)) hx hb dMo_leave_22 (by decide) ?_
    refine lv_icmp_ne (tgt := 28) hx hb dMo_leave_23 (by decide) (fun c6 => ?_) (fun c6 => ?_)
    · have hf := ek_f c6 hf
      refine ek_aload_n hx hb dMo_leave_28 rfl (lv_at hl 2 rfl) ?_
      refine ek_getr hx hb 8 hts (in_Mo) hown hK hw rfl (by decide) (by decide) 13 (by decide) (n := 5) rfl rfl (hts _ q_589) hf dMo_leave_29 (fun hf => ?_)
      refine lv_iload_n hx hb dMo_leave_32 rfl (lv_at hl 0 rfl) ?_
      refine ek_iald hx hb hK hw 12 rfl hf dMo_leave_33 (fun hf => ?_)
      refine lv_if_ne (tgt := 45) hx hb dMo_leave_34 (by decide) (fun c7 => ?_) (fun c7 => ?_)
      · have hf := ek_f c7 hf
        refine ek_aload_n hx hb dMo_leave_45 rfl (lv_at hl 2 rfl) ?_
        refine ek_getr hx hb 8 hts (in_Mo) hown hK hw rfl (by decide) (by decide) 13 (by decide) (n := 5) rfl rfl (hts _ q_589) hf dMo_leave_46 (fun hf => ?_)
        refine lv_iload_n hx hb dMo_leave_49 rfl (lv_at hl 0 rfl) ?_
        refine lv_iconst (v := (2 : Int32)) hx hb dMo_leave_50 (by decide) ?_
        refine ek_iast hx hb hK hw hS hA 12 rfl hf dMo_leave_51 (fun I8 H locs hf hw hS => ?_)
        exact wMo_leave_52 X hf hw hS (lv_sub hl [2] rfl)
      · have hf := ek_t c7 hf
        refine ek_aload_n hx hb dMo_leave_37 rfl (lv_at hl 2 rfl) ?_
        refine lv_iload_n hx hb dMo_leave_38 rfl (lv_at hl 0 rfl) ?_
        obtain ⟨hx10, hf⟩ := ek_ck_s hf
        refine ek_cv hf hS hA (fun I' hq => ek_rV (As := [.int ir4]) ⟨hx, hb, hml, hown, hts⟩ hK hw 8 rfl (by decide) (by decide) hx10 (mMo_remove hq) (cwV 1 hts (lw_V q_702 q_704 p_26 q_8 q_705) rfl rfl rfl (by decide +kernel) ⟨Nat.le_of_ble_eq_true rfl, Nat.le_of_ble_eq_true rfl⟩) rfl hl.1 rfl (Nat.le_of_ble_eq_true rfl) dMo_leave_39 ⟨Nat.zero_le _, Nat.zero_le _⟩) (fun I9 H locs hf hw hS => ?_)
        refine lv_goto (tgt := 52) hx hb dMo_leave_42 (by decide) ?_
        exact wMo_leave_52 X hf hw hS (lv_sub hl [2] rfl)
    · have hf := ek_t c6 hf
      refine lv_iconst (v := (0 : Int32)) hx hb dMo_leave_26 (by decide) ?_
      exact ek_zret hx hb hr hlocks hw hS hf dMo_leave_27
set_option maxHeartbeats 4000000 in
set_option maxRecDepth 100000 in
theorem mMo_leave {l : Launch} {G : ek_G} {kd : Nat → Nat} {I : ek_St} {x0 : Nat} {i1 : Int32} {q : ek_St × Int32} (hf : fMo_leave kd I x0 i1 = some q) : ek_M l G kd y_Mo_leave (.code y_Mo_leave prog_9_method_31_code 3 (some .boolean) :: lw_g) ({ frames := 4, cells := 0, slots := 0, locals := 101 } : Room) [ek_r G x0, .int i1] I (some (.int q.2)) q.1 :=
  ek_body [(0, ek_r G x0), (1, .int i1)] (by decide) (by simp [lg_sl, ek_r_cat, ek_c_i, ek_c_l]) (by simp [lv_args, ek_r_cat, ek_c_i, ek_c_l]) (fun p e s m below meth c ls X hw hS hl => wMo_leave_0 X hf hw hS hl)
/-! ElasticKernelModel.load(I)Z -/
def fMo_load_0 (kd : Nat → Nat) (I : ek_St) (x0 : Nat) (i1 : Int32) : Option (ek_St × Int32) :=
  ek_ck (kd x0 = 8) (ek_let (ek_up I x0 0 ((0 : Int32))) (fun I1 => if i1 < ((1 : Int32)) then (ek_ck (((0 : Int32)) = (0 : Int32) ∨ ((0 : Int32)) = (1 : Int32)) (some (I1, (0 : Int32)))) else (if i1 ≤ ((1000 : Int32)) then (ek_ck (kd x0 = 8) (ek_bi (fMo_tooMuch kd I1 x0 i1) (fun I4 ir6 => if ir6 ≤ ((0 : Int32)) then (ek_ck (kd x0 = 8) (ek_let (ek_up I4 x0 2 i1) (fun I8 => ek_ck (kd x0 = 8) (ek_bv (fMo_solve kd I8 x0) (fun I9 => ek_ck (((1 : Int32)) = (0 : Int32) ∨ ((1 : Int32)) = (1 : Int32)) (some (I9, (1 : Int32)))))))) else (ek_ck (kd x0 = 8) (ek_let (ek_up I4 x0 6 ir6) (fun I11 => ek_ck (((0 : Int32)) = (0 : Int32) ∨ ((0 : Int32)) = (1 : Int32)) (some (I11, (0 : Int32))))))))) else (ek_ck (((0 : Int32)) = (0 : Int32) ∨ ((0 : Int32)) = (1 : Int32)) (some (I1, (0 : Int32)))))))
def fMo_load (kd : Nat → Nat) (I : ek_St) (x0 : Nat) (i1 : Int32) : Option (ek_St × Int32) := fMo_load_0 kd I x0 i1
theorem dMo_load_0 : decode prog_9_method_32_code 0 = .ok (.aload_n 0, 1) := by decide +kernel
theorem dMo_load_1 : decode prog_9_method_32_code 1 = .ok (.iconst 0, 1) := by decide +kernel
theorem dMo_load_2 : decode prog_9_method_32_code 2 = .ok (.putfield 70, 3) := by decide +kernel
theorem dMo_load_5 : decode prog_9_method_32_code 5 = .ok (.iload_n 1, 1) := by decide +kernel
theorem dMo_load_6 : decode prog_9_method_32_code 6 = .ok (.iconst 1, 1) := by decide +kernel
theorem dMo_load_7 : decode prog_9_method_32_code 7 = .ok (.if_icmp .lt 10, 3) := by decide +kernel
theorem dMo_load_10 : decode prog_9_method_32_code 10 = .ok (.iload_n 1, 1) := by decide +kernel
theorem dMo_load_11 : decode prog_9_method_32_code 11 = .ok (.sipush 1000, 3) := by decide +kernel
theorem dMo_load_14 : decode prog_9_method_32_code 14 = .ok (.if_icmp .le 5, 3) := by decide +kernel
theorem dMo_load_17 : decode prog_9_method_32_code 17 = .ok (.iconst 0, 1) := by decide +kernel
theorem dMo_load_18 : decode prog_9_method_32_code 18 = .ok (.ireturn, 1) := by decide +kernel
theorem dMo_load_19 : decode prog_9_method_32_code 19 = .ok (.aload_n 0, 1) := by decide +kernel
theorem dMo_load_20 : decode prog_9_method_32_code 20 = .ok (.iload_n 1, 1) := by decide +kernel
theorem dMo_load_21 : decode prog_9_method_32_code 21 = .ok (.invokevirtual 164, 3) := by decide +kernel
theorem dMo_load_24 : decode prog_9_method_32_code 24 = .ok (.istore_n 2, 1) := by decide +kernel
theorem dMo_load_25 : decode prog_9_method_32_code 25 = .ok (.iload_n 2, 1) := by decide +kernel
theorem dMo_load_26 : decode prog_9_method_32_code 26 = .ok (.ifCond .le 10, 3) := by decide +kernel
theorem dMo_load_29 : decode prog_9_method_32_code 29 = .ok (.aload_n 0, 1) := by decide +kernel
theorem dMo_load_30 : decode prog_9_method_32_code 30 = .ok (.iload_n 2, 1) := by decide +kernel
theorem dMo_load_31 : decode prog_9_method_32_code 31 = .ok (.putfield 167, 3) := by decide +kernel
theorem dMo_load_34 : decode prog_9_method_32_code 34 = .ok (.iconst 0, 1) := by decide +kernel
theorem dMo_load_35 : decode prog_9_method_32_code 35 = .ok (.ireturn, 1) := by decide +kernel
theorem dMo_load_36 : decode prog_9_method_32_code 36 = .ok (.aload_n 0, 1) := by decide +kernel
theorem dMo_load_37 : decode prog_9_method_32_code 37 = .ok (.iload_n 1, 1) := by decide +kernel
theorem dMo_load_38 : decode prog_9_method_32_code 38 = .ok (.putfield 7, 3) := by decide +kernel
theorem dMo_load_41 : decode prog_9_method_32_code 41 = .ok (.aload_n 0, 1) := by decide +kernel
theorem dMo_load_42 : decode prog_9_method_32_code 42 = .ok (.invokevirtual 173, 3) := by decide +kernel
theorem dMo_load_45 : decode prog_9_method_32_code 45 = .ok (.iconst 1, 1) := by decide +kernel
theorem dMo_load_46 : decode prog_9_method_32_code 46 = .ok (.ireturn, 1) := by decide +kernel
set_option maxHeartbeats 4000000 in
set_option maxRecDepth 100000 in
theorem wMo_load_0 {l : Launch} {G : ek_G} {kd : Nat → Nat} {p : Program} {e : Env} {s : State} {m : MethodId} {args : Array Value} {below : List Frame} {meth : Method} {c : Code} (X : ek_X p s m meth c args G prog_9_method_32_code 3 "ElasticKernelModel" (some .boolean)) {q : ek_St × Int32} {I : ek_St} {x0 : Nat} {i1 : Int32} (hf : fMo_load_0 kd I x0 i1 = some q) {H : Heap} {locs : List Loc} {ls : Array Slot} (hw : ek_W G kd I H) (hS : va_S (ek_A G kd) s.heap H locs) (hl : lv_has ls 3 [(0, ek_r G x0), (1, .int i1)]) : W p l e ({ frames := 4, cells := 0, slots := 0, locals := 101 } : Room) s m args below meth c H locs 0 0 (MQ below (ek_Q G kd (some (.int q.2)) q.1) args s 0 0 (ek_A G kd)) (F0 m 0 ls []) := by
  obtain ⟨hx, hb, hml, hown, hts, hr, hlocks, hK⟩ := id X
  have hA : ∀ q, ek_A G kd q → ek_A G kd q := fun _ h => h
  unfold fMo_load_0 at hf
  refine ek_aload_n hx hb dMo_load_0 rfl (lv_at hl 0 rfl) ?_
  refine lv_iconst (v := (0 : Int32)) hx hb dMo_load_1 (by decide) ?_
  refine ek_puti hx hb 8 hts (in_Mo) ty_Mo ty_Mo_ok nm_Mo hown hK hw hS hA rfl (by decide) (by decide) 0 (by decide) rfl (hts _ q_576) rfl rfl rfl hf dMo_load_2 (fun I1 H locs hf hw hS => ?_)
  refine lv_iload_n hx hb dMo_load_5 rfl (lv_at hl 1 rfl) ?_
  refine lv_iconst (v := (1 : Int32)) hx hb dMo_load_6 (by decide) ?_
  refine lv_icmp_lt (tgt := 17) hx hb dMo_load_7 (by decide) (fun c2 => ?_) (fun c2 => ?_)
  · have hf := ek_t c2 hf
    refine lv_iconst (v := (0 : Int32)) hx hb dMo_load_17 (by decide) ?_
    exact ek_zret hx hb hr hlocks hw hS hf dMo_load_18
  · have hf := ek_f c2 hf
    refine lv_iload_n hx hb dMo_load_10 rfl (lv_at hl 1 rfl) ?_
    refine lv_sipush (v := (1000 : Int32)) hx hb dMo_load_11 (by decide) ?_
    refine lv_icmp_le (tgt := 19) hx hb dMo_load_14 (by decide) (fun c3 => ?_) (fun c3 => ?_)
    · have hf := ek_t c3 hf
      refine ek_aload_n hx hb dMo_load_19 rfl (lv_at hl 0 rfl) ?_
      refine lv_iload_n hx hb dMo_load_20 rfl (lv_at hl 1 rfl) ?_
      obtain ⟨hx5, hf⟩ := ek_ck_s hf
      refine ek_ci hf hS hA (fun I' v hq => ek_rV (As := [.int i1]) ⟨hx, hb, hml, hown, hts⟩ hK hw 8 rfl (by decide) (by decide) hx5 (mMo_tooMuch hq) (cwV 1 hts (lw_V q_673 q_675 p_19 q_8 q_676) rfl rfl rfl (by decide +kernel) ⟨Nat.le_of_ble_eq_true rfl, Nat.le_of_ble_eq_true rfl⟩) rfl hl.1 rfl (Nat.le_of_ble_eq_true rfl) dMo_load_21 ⟨Nat.zero_le _, Nat.zero_le _⟩) (fun I4 ir6 H locs hf hw hS => ?_)
      refine ek_istore_n (lv' := [(2, .int ir6), (1, .int i1), (0, ek_r G x0)]) hx hb dMo_load_24 rfl hl (by decide) (ek_s1k 1 rfl rfl rfl rfl rfl) (fun ls hl => ?_)
      refine lv_iload_n hx hb dMo_load_25 rfl (lv_at hl 0 rfl) ?_
      refine lv_if_le (tgt := 36) hx hb dMo_load_26 (by decide) (fun c7 => ?_) (fun c7 => ?_)
      · have hf := ek_t c7 hf
        refine ek_aload_n hx hb dMo_load_36 rfl (lv_at hl 2 rfl) ?_
        refine lv_iload_n hx hb dMo_load_37 rfl (lv_at hl 1 rfl) ?_
        refine ek_puti hx hb 8 hts (in_Mo) ty_Mo ty_Mo_ok nm_Mo hown hK hw hS hA rfl (by decide) (by decide) 2 (by decide) rfl (hts _ q_578) rfl rfl rfl hf dMo_load_38 (fun I8 H locs hf hw hS => ?_)
        refine ek_aload_n hx hb dMo_load_41 rfl (lv_at hl 2 rfl) ?_
        obtain ⟨hx10, hf⟩ := ek_ck_s hf
        refine ek_cv hf hS hA (fun I' hq => ek_rV (As := []) ⟨hx, hb, hml, hown, hts⟩ hK hw 8 rfl (by decide) (by decide) hx10 (mMo_solve hq) (cwV 0 hts (lw_V q_706 q_708 p_27 q_8 q_709) rfl rfl rfl (by decide +kernel) ⟨Nat.le_of_ble_eq_true rfl, Nat.le_of_ble_eq_true rfl⟩) rfl hl.1 rfl (Nat.le_of_ble_eq_true rfl) dMo_load_42 ⟨Nat.zero_le _, Nat.zero_le _⟩) (fun I9 H locs hf hw hS => ?_)
        refine lv_iconst (v := (1 : Int32)) hx hb dMo_load_45 (by decide) ?_
        exact ek_zret hx hb hr hlocks hw hS hf dMo_load_46
      · have hf := ek_f c7 hf
        refine ek_aload_n hx hb dMo_load_29 rfl (lv_at hl 2 rfl) ?_
        refine lv_iload_n hx hb dMo_load_30 rfl (lv_at hl 0 rfl) ?_
        refine ek_puti hx hb 8 hts (in_Mo) ty_Mo ty_Mo_ok nm_Mo hown hK hw hS hA rfl (by decide) (by decide) 6 (by decide) rfl (hts _ q_582) rfl rfl rfl hf dMo_load_31 (fun I11 H locs hf hw hS => ?_)
        refine lv_iconst (v := (0 : Int32)) hx hb dMo_load_34 (by decide) ?_
        exact ek_zret hx hb hr hlocks hw hS hf dMo_load_35
    · have hf := ek_f c3 hf
      refine lv_iconst (v := (0 : Int32)) hx hb dMo_load_17 (by decide) ?_
      exact ek_zret hx hb hr hlocks hw hS hf dMo_load_18
set_option maxHeartbeats 4000000 in
set_option maxRecDepth 100000 in
theorem mMo_load {l : Launch} {G : ek_G} {kd : Nat → Nat} {I : ek_St} {x0 : Nat} {i1 : Int32} {q : ek_St × Int32} (hf : fMo_load kd I x0 i1 = some q) : ek_M l G kd y_Mo_load (.code y_Mo_load prog_9_method_32_code 3 (some .boolean) :: lw_g) ({ frames := 4, cells := 0, slots := 0, locals := 101 } : Room) [ek_r G x0, .int i1] I (some (.int q.2)) q.1 :=
  ek_body [(0, ek_r G x0), (1, .int i1)] (by decide) (by simp [lg_sl, ek_r_cat, ek_c_i, ek_c_l]) (by simp [lv_args, ek_r_cat, ek_c_i, ek_c_l]) (fun p e s m below meth c ls X hw hS hl => wMo_load_0 X hf hw hS hl)
/-! ElasticKernelModel.use(II)Z -/
def fMo_use_0 (kd : Nat → Nat) (I : ek_St) (x0 : Nat) (i1 : Int32) (i2 : Int32) : Option (ek_St × Int32) :=
  ek_ck (kd x0 = 8) (ek_let (ek_up I x0 0 ((0 : Int32))) (fun I1 => ek_ck (kd x0 = 8) (ek_bi (fMo_find kd I1 x0 i1) (fun I2 ir4 => if ir4 = ((-1 : Int32)) then (ek_ck (((0 : Int32)) = (0 : Int32) ∨ ((0 : Int32)) = (1 : Int32)) (some (I2, (0 : Int32)))) else (if i2 < ((0 : Int32)) then (ek_ck (((0 : Int32)) = (0 : Int32) ∨ ((0 : Int32)) = (1 : Int32)) (some (I2, (0 : Int32)))) else (ek_ck (kd x0 = 8) (ek_ck (kd (x0 + 2) = 112) (ek_ck (ek_in ir4 12) (if i2 ≤ (I2 (x0 + 2) ir4.toNatClampNeg) then (ek_ck (kd x0 = 8) (ek_ck (kd (x0 + 11) = 112) (ek_ck (ek_in ir4 12) (ek_let (ek_up I2 (x0 + 11) ir4.toNatClampNeg i2) (fun I8 => ek_ck (((1 : Int32)) = (0 : Int32) ∨ ((1 : Int32)) = (1 : Int32)) (some (I8, (1 : Int32)))))))) else (ek_ck (((0 : Int32)) = (0 : Int32) ∨ ((0 : Int32)) = (1 : Int32)) (some (I2, (0 : Int32)))))))))))))
def fMo_use (kd : Nat → Nat) (I : ek_St) (x0 : Nat) (i1 : Int32) (i2 : Int32) : Option (ek_St × Int32) := fMo_use_0 kd I x0 i1 i2
theorem dMo_use_0 : decode prog_9_method_33_code 0 = .ok (.aload_n 0, 1) := by decide +kernel
theorem dMo_use_1 : decode prog_9_method_33_code 1 = .ok (.iconst 0, 1) := by decide +kernel
theorem dMo_use_2 : decode prog_9_method_33_code 2 = .ok (.putfield 70, 3) := by decide +kernel
theorem dMo_use_5 : decode prog_9_method_33_code 5 = .ok (.aload_n 0, 1) := by decide +kernel
theorem dMo_use_6 : decode prog_9_method_33_code 6 = .ok (.iload_n 1, 1) := by decide +kernel
theorem dMo_use_7 : decode prog_9_method_33_code 7 = .ok (.invokevirtual 161, 3) := by decide +kernel
theorem dMo_use_10 : decode prog_9_method_33_code 10 = .ok (.istore_n 3, 1) := by decide +kernel
theorem dMo_use_11 : decode prog_9_method_33_code 11 = .ok (.iload_n 3, 1) := by decide +kernel
theorem dMo_use_12 : decode prog_9_method_33_code 12 = .ok (.iconst (-1), 1) := by decide +kernel
theorem dMo_use_13 : decode prog_9_method_33_code 13 = .ok (.if_icmp .eq 17, 3) := by decide +kernel
theorem dMo_use_16 : decode prog_9_method_33_code 16 = .ok (.iload_n 2, 1) := by decide +kernel
theorem dMo_use_17 : decode prog_9_method_33_code 17 = .ok (.ifCond .lt 13, 3) := by decide +kernel
theorem dMo_use_20 : decode prog_9_method_33_code 20 = .ok (.iload_n 2, 1) := by decide +kernel
theorem dMo_use_21 : decode prog_9_method_33_code 21 = .ok (.aload_n 0, 1) := by decide +kernel
theorem dMo_use_22 : decode prog_9_method_33_code 22 = .ok (.getfield 17, 3) := by decide +kernel
theorem dMo_use_25 : decode prog_9_method_33_code 25 = .ok (.iload_n 3, 1) := by decide +kernel
theorem dMo_use_26 : decode prog_9_method_33_code 26 = .ok (.iaload, 1) := by decide +kernel
theorem dMo_use_27 : decode prog_9_method_33_code 27 = .ok (.if_icmp .le 5, 3) := by decide +kernel
theorem dMo_use_30 : decode prog_9_method_33_code 30 = .ok (.iconst 0, 1) := by decide +kernel
theorem dMo_use_31 : decode prog_9_method_33_code 31 = .ok (.ireturn, 1) := by decide +kernel
theorem dMo_use_32 : decode prog_9_method_33_code 32 = .ok (.aload_n 0, 1) := by decide +kernel
theorem dMo_use_33 : decode prog_9_method_33_code 33 = .ok (.getfield 44, 3) := by decide +kernel
theorem dMo_use_36 : decode prog_9_method_33_code 36 = .ok (.iload_n 3, 1) := by decide +kernel
theorem dMo_use_37 : decode prog_9_method_33_code 37 = .ok (.iload_n 2, 1) := by decide +kernel
theorem dMo_use_38 : decode prog_9_method_33_code 38 = .ok (.iastore, 1) := by decide +kernel
theorem dMo_use_39 : decode prog_9_method_33_code 39 = .ok (.iconst 1, 1) := by decide +kernel
theorem dMo_use_40 : decode prog_9_method_33_code 40 = .ok (.ireturn, 1) := by decide +kernel
set_option maxHeartbeats 4000000 in
set_option maxRecDepth 100000 in
theorem wMo_use_0 {l : Launch} {G : ek_G} {kd : Nat → Nat} {p : Program} {e : Env} {s : State} {m : MethodId} {args : Array Value} {below : List Frame} {meth : Method} {c : Code} (X : ek_X p s m meth c args G prog_9_method_33_code 4 "ElasticKernelModel" (some .boolean)) {q : ek_St × Int32} {I : ek_St} {x0 : Nat} {i1 : Int32} {i2 : Int32} (hf : fMo_use_0 kd I x0 i1 i2 = some q) {H : Heap} {locs : List Loc} {ls : Array Slot} (hw : ek_W G kd I H) (hS : va_S (ek_A G kd) s.heap H locs) (hl : lv_has ls 4 [(0, ek_r G x0), (1, .int i1), (2, .int i2)]) : W p l e ({ frames := 1, cells := 0, slots := 0, locals := 22 } : Room) s m args below meth c H locs 0 0 (MQ below (ek_Q G kd (some (.int q.2)) q.1) args s 0 0 (ek_A G kd)) (F0 m 0 ls []) := by
  obtain ⟨hx, hb, hml, hown, hts, hr, hlocks, hK⟩ := id X
  have hA : ∀ q, ek_A G kd q → ek_A G kd q := fun _ h => h
  unfold fMo_use_0 at hf
  refine ek_aload_n hx hb dMo_use_0 rfl (lv_at hl 0 rfl) ?_
  refine lv_iconst (v := (0 : Int32)) hx hb dMo_use_1 (by decide) ?_
  refine ek_puti hx hb 8 hts (in_Mo) ty_Mo ty_Mo_ok nm_Mo hown hK hw hS hA rfl (by decide) (by decide) 0 (by decide) rfl (hts _ q_576) rfl rfl rfl hf dMo_use_2 (fun I1 H locs hf hw hS => ?_)
  refine ek_aload_n hx hb dMo_use_5 rfl (lv_at hl 0 rfl) ?_
  refine lv_iload_n hx hb dMo_use_6 rfl (lv_at hl 1 rfl) ?_
  obtain ⟨hx3, hf⟩ := ek_ck_s hf
  refine ek_ci hf hS hA (fun I' v hq => ek_rV (As := [.int i1]) ⟨hx, hb, hml, hown, hts⟩ hK hw 8 rfl (by decide) (by decide) hx3 (mMo_find hq) (cwV 1 hts (lw_V q_661 q_663 p_16 q_8 q_664) rfl rfl rfl (by decide +kernel) ⟨Nat.le_of_ble_eq_true rfl, Nat.le_of_ble_eq_true rfl⟩) rfl hl.1 rfl (Nat.le_of_ble_eq_true rfl) dMo_use_7 ⟨Nat.zero_le _, Nat.zero_le _⟩) (fun I2 ir4 H locs hf hw hS => ?_)
  refine ek_istore_n (lv' := [(3, .int ir4), (2, .int i2), (0, ek_r G x0), (1, .int i1)]) hx hb dMo_use_10 rfl hl (by decide) (ek_s1k 2 rfl rfl rfl rfl rfl) (fun ls hl => ?_)
  refine lv_iload_n hx hb dMo_use_11 rfl (lv_at hl 0 rfl) ?_
  refine lv_iconst (v := (-1 : Int32)) hx hb dMo_use_12 (by decide) ?_
  refine lv_icmp_eq (tgt := 30) hx hb dMo_use_13 (by decide) (fun c5 => ?_) (fun c5 => ?_)
  · have hf := ek_t c5 hf
    refine lv_iconst (v := (0 : Int32)) hx hb dMo_use_30 (by decide) ?_
    exact ek_zret hx hb hr hlocks hw hS hf dMo_use_31
  · have hf := ek_f c5 hf
    refine lv_iload_n hx hb dMo_use_16 rfl (lv_at hl 1 rfl) ?_
    refine lv_if_lt (tgt := 30) hx hb dMo_use_17 (by decide) (fun c6 => ?_) (fun c6 => ?_)
    · have hf := ek_t c6 hf
      refine lv_iconst (v := (0 : Int32)) hx hb dMo_use_30 (by decide) ?_
      exact ek_zret hx hb hr hlocks hw hS hf dMo_use_31
    · have hf := ek_f c6 hf
      refine lv_iload_n hx hb dMo_use_20 rfl (lv_at hl 1 rfl) ?_
      refine ek_aload_n hx hb dMo_use_21 rfl (lv_at hl 2 rfl) ?_
      refine ek_getr hx hb 8 hts (in_Mo) hown hK hw rfl (by decide) (by decide) 9 (by decide) (n := 1) rfl rfl (hts _ q_585) hf dMo_use_22 (fun hf => ?_)
      refine lv_iload_n hx hb dMo_use_25 rfl (lv_at hl 0 rfl) ?_
      refine ek_iald hx hb hK hw 12 rfl hf dMo_use_26 (fun hf => ?_)
      refine lv_icmp_le (tgt := 32) hx hb dMo_use_27 (by decide) (fun c7 => ?_) (fun c7 => ?_)
      · have hf := ek_t c7 hf
        refine ek_aload_n hx hb dMo_use_32 rfl (lv_at hl 2 rfl) ?_
        refine ek_getr hx hb 8 hts (in_Mo) hown hK hw rfl (by decide) (by decide) 18 (by decide) (n := 10) rfl rfl (hts _ q_594) hf dMo_use_33 (fun hf => ?_)
        refine lv_iload_n hx hb dMo_use_36 rfl (lv_at hl 0 rfl) ?_
        refine lv_iload_n hx hb dMo_use_37 rfl (lv_at hl 1 rfl) ?_
        refine ek_iast hx hb hK hw hS hA 12 rfl hf dMo_use_38 (fun I8 H locs hf hw hS => ?_)
        refine lv_iconst (v := (1 : Int32)) hx hb dMo_use_39 (by decide) ?_
        exact ek_zret hx hb hr hlocks hw hS hf dMo_use_40
      · have hf := ek_f c7 hf
        refine lv_iconst (v := (0 : Int32)) hx hb dMo_use_30 (by decide) ?_
        exact ek_zret hx hb hr hlocks hw hS hf dMo_use_31
set_option maxHeartbeats 4000000 in
set_option maxRecDepth 100000 in
theorem mMo_use {l : Launch} {G : ek_G} {kd : Nat → Nat} {I : ek_St} {x0 : Nat} {i1 : Int32} {i2 : Int32} {q : ek_St × Int32} (hf : fMo_use kd I x0 i1 i2 = some q) : ek_M l G kd y_Mo_use (.code y_Mo_use prog_9_method_33_code 4 (some .boolean) :: lw_g) ({ frames := 1, cells := 0, slots := 0, locals := 22 } : Room) [ek_r G x0, .int i1, .int i2] I (some (.int q.2)) q.1 :=
  ek_body [(0, ek_r G x0), (1, .int i1), (2, .int i2)] (by decide) (by simp [lg_sl, ek_r_cat, ek_c_i, ek_c_l]) (by simp [lv_args, ek_r_cat, ek_c_i, ek_c_l]) (fun p e s m below meth c ls X hw hS hl => wMo_use_0 X hf hw hS hl)
