theorem dX11_movesNodes_0 : decode cX11_movesNodes 0 = .ok (.aload_n 0, 1) := by decide +kernel
theorem dX11_movesNodes_1 : decode cX11_movesNodes 1 = .ok (.getfield 20, 3) := by decide +kernel
theorem dX11_movesNodes_10 : decode cX11_movesNodes 10 = .ok (.iload_n 2, 1) := by decide +kernel
theorem dX11_movesNodes_100 : decode cX11_movesNodes 100 = .ok (.iload_n 3, 1) := by decide +kernel
theorem dX11_movesNodes_101 : decode cX11_movesNodes 101 = .ok (.iadd, 1) := by decide +kernel
theorem dX11_movesNodes_102 : decode cX11_movesNodes 102 = .ok (.iaload, 1) := by decide +kernel
theorem dX11_movesNodes_103 : decode cX11_movesNodes 103 = .ok (.iload_n 1, 1) := by decide +kernel
theorem dX11_movesNodes_104 : decode cX11_movesNodes 104 = .ok (.isub, 1) := by decide +kernel
theorem dX11_movesNodes_105 : decode cX11_movesNodes 105 = .ok (.iastore, 1) := by decide +kernel
theorem dX11_movesNodes_106 : decode cX11_movesNodes 106 = .ok (.aload_n 0, 1) := by decide +kernel
theorem dX11_movesNodes_107 : decode cX11_movesNodes 107 = .ok (.getfield 14, 3) := by decide +kernel
theorem dX11_movesNodes_11 : decode cX11_movesNodes 11 = .ok (.if_icmp .ge 133, 3) := by decide +kernel
theorem dX11_movesNodes_110 : decode cX11_movesNodes 110 = .ok (.iload_n 3, 1) := by decide +kernel
theorem dX11_movesNodes_111 : decode cX11_movesNodes 111 = .ok (.aload_n 0, 1) := by decide +kernel
theorem dX11_movesNodes_112 : decode cX11_movesNodes 112 = .ok (.getfield 14, 3) := by decide +kernel
theorem dX11_movesNodes_115 : decode cX11_movesNodes 115 = .ok (.iload_n 1, 1) := by decide +kernel
theorem dX11_movesNodes_116 : decode cX11_movesNodes 116 = .ok (.iload_n 3, 1) := by decide +kernel
theorem dX11_movesNodes_117 : decode cX11_movesNodes 117 = .ok (.iadd, 1) := by decide +kernel
theorem dX11_movesNodes_118 : decode cX11_movesNodes 118 = .ok (.iaload, 1) := by decide +kernel
theorem dX11_movesNodes_119 : decode cX11_movesNodes 119 = .ok (.iconst (-1), 1) := by decide +kernel
theorem dX11_movesNodes_120 : decode cX11_movesNodes 120 = .ok (.if_icmp .ne 7, 3) := by decide +kernel
theorem dX11_movesNodes_123 : decode cX11_movesNodes 123 = .ok (.iconst (-1), 1) := by decide +kernel
theorem dX11_movesNodes_124 : decode cX11_movesNodes 124 = .ok (.goto 13, 3) := by decide +kernel
theorem dX11_movesNodes_127 : decode cX11_movesNodes 127 = .ok (.aload_n 0, 1) := by decide +kernel
theorem dX11_movesNodes_128 : decode cX11_movesNodes 128 = .ok (.getfield 14, 3) := by decide +kernel
theorem dX11_movesNodes_131 : decode cX11_movesNodes 131 = .ok (.iload_n 1, 1) := by decide +kernel
theorem dX11_movesNodes_132 : decode cX11_movesNodes 132 = .ok (.iload_n 3, 1) := by decide +kernel
theorem dX11_movesNodes_133 : decode cX11_movesNodes 133 = .ok (.iadd, 1) := by decide +kernel
theorem dX11_movesNodes_134 : decode cX11_movesNodes 134 = .ok (.iaload, 1) := by decide +kernel
theorem dX11_movesNodes_135 : decode cX11_movesNodes 135 = .ok (.iload_n 1, 1) := by decide +kernel
theorem dX11_movesNodes_136 : decode cX11_movesNodes 136 = .ok (.isub, 1) := by decide +kernel
theorem dX11_movesNodes_137 : decode cX11_movesNodes 137 = .ok (.iastore, 1) := by decide +kernel
theorem dX11_movesNodes_138 : decode cX11_movesNodes 138 = .ok (.iinc 3 1, 3) := by decide +kernel
theorem dX11_movesNodes_14 : decode cX11_movesNodes 14 = .ok (.aload_n 0, 1) := by decide +kernel
theorem dX11_movesNodes_141 : decode cX11_movesNodes 141 = .ok (.goto (-132), 3) := by decide +kernel
theorem dX11_movesNodes_144 : decode cX11_movesNodes 144 = .ok (.aload_n 0, 1) := by decide +kernel
theorem dX11_movesNodes_145 : decode cX11_movesNodes 145 = .ok (.iload_n 2, 1) := by decide +kernel
theorem dX11_movesNodes_146 : decode cX11_movesNodes 146 = .ok (.putfield 20, 3) := by decide +kernel
theorem dX11_movesNodes_149 : decode cX11_movesNodes 149 = .ok (.bipush 16, 2) := by decide +kernel
theorem dX11_movesNodes_15 : decode cX11_movesNodes 15 = .ok (.getfield 17, 3) := by decide +kernel
theorem dX11_movesNodes_151 : decode cX11_movesNodes 151 = .ok (.istore_n 3, 1) := by decide +kernel
theorem dX11_movesNodes_152 : decode cX11_movesNodes 152 = .ok (.iload_n 3, 1) := by decide +kernel
theorem dX11_movesNodes_153 : decode cX11_movesNodes 153 = .ok (.aload_n 0, 1) := by decide +kernel
theorem dX11_movesNodes_154 : decode cX11_movesNodes 154 = .ok (.getfield 105, 3) := by decide +kernel
theorem dX11_movesNodes_157 : decode cX11_movesNodes 157 = .ok (.if_icmp .ge 55, 3) := by decide +kernel
theorem dX11_movesNodes_160 : decode cX11_movesNodes 160 = .ok (.iconst 0, 1) := by decide +kernel
theorem dX11_movesNodes_161 : decode cX11_movesNodes 161 = .ok (.istore 4, 2) := by decide +kernel
theorem dX11_movesNodes_163 : decode cX11_movesNodes 163 = .ok (.iload 4, 2) := by decide +kernel
theorem dX11_movesNodes_165 : decode cX11_movesNodes 165 = .ok (.aload_n 0, 1) := by decide +kernel
theorem dX11_movesNodes_166 : decode cX11_movesNodes 166 = .ok (.getfield 142, 3) := by decide +kernel
theorem dX11_movesNodes_169 : decode cX11_movesNodes 169 = .ok (.iload_n 3, 1) := by decide +kernel
theorem dX11_movesNodes_170 : decode cX11_movesNodes 170 = .ok (.iaload, 1) := by decide +kernel
theorem dX11_movesNodes_171 : decode cX11_movesNodes 171 = .ok (.if_icmp .ge 35, 3) := by decide +kernel
theorem dX11_movesNodes_174 : decode cX11_movesNodes 174 = .ok (.aload_n 0, 1) := by decide +kernel
theorem dX11_movesNodes_175 : decode cX11_movesNodes 175 = .ok (.getfield 152, 3) := by decide +kernel
theorem dX11_movesNodes_178 : decode cX11_movesNodes 178 = .ok (.aload_n 0, 1) := by decide +kernel
theorem dX11_movesNodes_179 : decode cX11_movesNodes 179 = .ok (.iload_n 3, 1) := by decide +kernel
theorem dX11_movesNodes_18 : decode cX11_movesNodes 18 = .ok (.iload_n 3, 1) := by decide +kernel
theorem dX11_movesNodes_180 : decode cX11_movesNodes 180 = .ok (.iload 4, 2) := by decide +kernel
theorem dX11_movesNodes_182 : decode cX11_movesNodes 182 = .ok (.invokevirtual 149, 3) := by decide +kernel
theorem dX11_movesNodes_185 : decode cX11_movesNodes 185 = .ok (.aload_n 0, 1) := by decide +kernel
theorem dX11_movesNodes_186 : decode cX11_movesNodes 186 = .ok (.getfield 152, 3) := by decide +kernel
theorem dX11_movesNodes_189 : decode cX11_movesNodes 189 = .ok (.aload_n 0, 1) := by decide +kernel
theorem dX11_movesNodes_19 : decode cX11_movesNodes 19 = .ok (.aload_n 0, 1) := by decide +kernel
theorem dX11_movesNodes_190 : decode cX11_movesNodes 190 = .ok (.iload_n 3, 1) := by decide +kernel
theorem dX11_movesNodes_191 : decode cX11_movesNodes 191 = .ok (.iload 4, 2) := by decide +kernel
theorem dX11_movesNodes_193 : decode cX11_movesNodes 193 = .ok (.invokevirtual 149, 3) := by decide +kernel
theorem dX11_movesNodes_196 : decode cX11_movesNodes 196 = .ok (.iaload, 1) := by decide +kernel
theorem dX11_movesNodes_197 : decode cX11_movesNodes 197 = .ok (.iload_n 1, 1) := by decide +kernel
theorem dX11_movesNodes_198 : decode cX11_movesNodes 198 = .ok (.isub, 1) := by decide +kernel
theorem dX11_movesNodes_199 : decode cX11_movesNodes 199 = .ok (.iastore, 1) := by decide +kernel
theorem dX11_movesNodes_20 : decode cX11_movesNodes 20 = .ok (.getfield 17, 3) := by decide +kernel
theorem dX11_movesNodes_200 : decode cX11_movesNodes 200 = .ok (.iinc 4 1, 3) := by decide +kernel
theorem dX11_movesNodes_203 : decode cX11_movesNodes 203 = .ok (.goto (-40), 3) := by decide +kernel
theorem dX11_movesNodes_206 : decode cX11_movesNodes 206 = .ok (.iinc 3 1, 3) := by decide +kernel
theorem dX11_movesNodes_209 : decode cX11_movesNodes 209 = .ok (.goto (-57), 3) := by decide +kernel
theorem dX11_movesNodes_212 : decode cX11_movesNodes 212 = .ok (.return_, 1) := by decide +kernel
theorem dX11_movesNodes_23 : decode cX11_movesNodes 23 = .ok (.iload_n 1, 1) := by decide +kernel
theorem dX11_movesNodes_24 : decode cX11_movesNodes 24 = .ok (.iload_n 3, 1) := by decide +kernel
theorem dX11_movesNodes_25 : decode cX11_movesNodes 25 = .ok (.iadd, 1) := by decide +kernel
theorem dX11_movesNodes_26 : decode cX11_movesNodes 26 = .ok (.iaload, 1) := by decide +kernel
theorem dX11_movesNodes_27 : decode cX11_movesNodes 27 = .ok (.iastore, 1) := by decide +kernel
theorem dX11_movesNodes_28 : decode cX11_movesNodes 28 = .ok (.aload_n 0, 1) := by decide +kernel
theorem dX11_movesNodes_29 : decode cX11_movesNodes 29 = .ok (.getfield 23, 3) := by decide +kernel
theorem dX11_movesNodes_32 : decode cX11_movesNodes 32 = .ok (.iload_n 3, 1) := by decide +kernel
theorem dX11_movesNodes_33 : decode cX11_movesNodes 33 = .ok (.aload_n 0, 1) := by decide +kernel
theorem dX11_movesNodes_34 : decode cX11_movesNodes 34 = .ok (.getfield 23, 3) := by decide +kernel
theorem dX11_movesNodes_37 : decode cX11_movesNodes 37 = .ok (.iload_n 1, 1) := by decide +kernel
theorem dX11_movesNodes_38 : decode cX11_movesNodes 38 = .ok (.iload_n 3, 1) := by decide +kernel
theorem dX11_movesNodes_39 : decode cX11_movesNodes 39 = .ok (.iadd, 1) := by decide +kernel
theorem dX11_movesNodes_4 : decode cX11_movesNodes 4 = .ok (.iload_n 1, 1) := by decide +kernel
theorem dX11_movesNodes_40 : decode cX11_movesNodes 40 = .ok (.laload, 1) := by decide +kernel
theorem dX11_movesNodes_41 : decode cX11_movesNodes 41 = .ok (.lastore, 1) := by decide +kernel
theorem dX11_movesNodes_42 : decode cX11_movesNodes 42 = .ok (.aload_n 0, 1) := by decide +kernel
theorem dX11_movesNodes_43 : decode cX11_movesNodes 43 = .ok (.getfield 7, 3) := by decide +kernel
theorem dX11_movesNodes_46 : decode cX11_movesNodes 46 = .ok (.iload_n 3, 1) := by decide +kernel
theorem dX11_movesNodes_47 : decode cX11_movesNodes 47 = .ok (.aload_n 0, 1) := by decide +kernel
theorem dX11_movesNodes_48 : decode cX11_movesNodes 48 = .ok (.getfield 7, 3) := by decide +kernel
theorem dX11_movesNodes_5 : decode cX11_movesNodes 5 = .ok (.isub, 1) := by decide +kernel
theorem dX11_movesNodes_51 : decode cX11_movesNodes 51 = .ok (.iload_n 1, 1) := by decide +kernel
theorem dX11_movesNodes_52 : decode cX11_movesNodes 52 = .ok (.iload_n 3, 1) := by decide +kernel
theorem dX11_movesNodes_53 : decode cX11_movesNodes 53 = .ok (.iadd, 1) := by decide +kernel
theorem dX11_movesNodes_54 : decode cX11_movesNodes 54 = .ok (.iaload, 1) := by decide +kernel
theorem dX11_movesNodes_55 : decode cX11_movesNodes 55 = .ok (.iconst (-1), 1) := by decide +kernel
theorem dX11_movesNodes_56 : decode cX11_movesNodes 56 = .ok (.if_icmp .ne 7, 3) := by decide +kernel
theorem dX11_movesNodes_59 : decode cX11_movesNodes 59 = .ok (.iconst (-1), 1) := by decide +kernel
theorem dX11_movesNodes_6 : decode cX11_movesNodes 6 = .ok (.istore_n 2, 1) := by decide +kernel
theorem dX11_movesNodes_60 : decode cX11_movesNodes 60 = .ok (.goto 13, 3) := by decide +kernel
theorem dX11_movesNodes_63 : decode cX11_movesNodes 63 = .ok (.aload_n 0, 1) := by decide +kernel
theorem dX11_movesNodes_64 : decode cX11_movesNodes 64 = .ok (.getfield 7, 3) := by decide +kernel
theorem dX11_movesNodes_67 : decode cX11_movesNodes 67 = .ok (.iload_n 1, 1) := by decide +kernel
theorem dX11_movesNodes_68 : decode cX11_movesNodes 68 = .ok (.iload_n 3, 1) := by decide +kernel
theorem dX11_movesNodes_69 : decode cX11_movesNodes 69 = .ok (.iadd, 1) := by decide +kernel
theorem dX11_movesNodes_7 : decode cX11_movesNodes 7 = .ok (.iconst 0, 1) := by decide +kernel
theorem dX11_movesNodes_70 : decode cX11_movesNodes 70 = .ok (.iaload, 1) := by decide +kernel
theorem dX11_movesNodes_71 : decode cX11_movesNodes 71 = .ok (.iload_n 1, 1) := by decide +kernel
theorem dX11_movesNodes_72 : decode cX11_movesNodes 72 = .ok (.isub, 1) := by decide +kernel
theorem dX11_movesNodes_73 : decode cX11_movesNodes 73 = .ok (.iastore, 1) := by decide +kernel
theorem dX11_movesNodes_74 : decode cX11_movesNodes 74 = .ok (.aload_n 0, 1) := by decide +kernel
theorem dX11_movesNodes_75 : decode cX11_movesNodes 75 = .ok (.getfield 11, 3) := by decide +kernel
theorem dX11_movesNodes_78 : decode cX11_movesNodes 78 = .ok (.iload_n 3, 1) := by decide +kernel
theorem dX11_movesNodes_79 : decode cX11_movesNodes 79 = .ok (.aload_n 0, 1) := by decide +kernel
theorem dX11_movesNodes_8 : decode cX11_movesNodes 8 = .ok (.istore_n 3, 1) := by decide +kernel
theorem dX11_movesNodes_80 : decode cX11_movesNodes 80 = .ok (.getfield 11, 3) := by decide +kernel
theorem dX11_movesNodes_83 : decode cX11_movesNodes 83 = .ok (.iload_n 1, 1) := by decide +kernel
theorem dX11_movesNodes_84 : decode cX11_movesNodes 84 = .ok (.iload_n 3, 1) := by decide +kernel
theorem dX11_movesNodes_85 : decode cX11_movesNodes 85 = .ok (.iadd, 1) := by decide +kernel
theorem dX11_movesNodes_86 : decode cX11_movesNodes 86 = .ok (.iaload, 1) := by decide +kernel
theorem dX11_movesNodes_87 : decode cX11_movesNodes 87 = .ok (.iconst (-1), 1) := by decide +kernel
theorem dX11_movesNodes_88 : decode cX11_movesNodes 88 = .ok (.if_icmp .ne 7, 3) := by decide +kernel
theorem dX11_movesNodes_9 : decode cX11_movesNodes 9 = .ok (.iload_n 3, 1) := by decide +kernel
theorem dX11_movesNodes_91 : decode cX11_movesNodes 91 = .ok (.iconst (-1), 1) := by decide +kernel
theorem dX11_movesNodes_92 : decode cX11_movesNodes 92 = .ok (.goto 13, 3) := by decide +kernel
theorem dX11_movesNodes_95 : decode cX11_movesNodes 95 = .ok (.aload_n 0, 1) := by decide +kernel
theorem dX11_movesNodes_96 : decode cX11_movesNodes 96 = .ok (.getfield 11, 3) := by decide +kernel
theorem dX11_movesNodes_99 : decode cX11_movesNodes 99 = .ok (.iload_n 1, 1) := by decide +kernel
abbrev mo128 (v : Nat → Value) (a1 a2 a3 a4 a5 a6 a8 a12 a24 : Value) : List Value := ((v 0) :: a1 :: a2 :: a3 :: a4 :: a5 :: a6 :: (v 7) :: a8 :: (v 9) :: (v 10) :: (v 11) :: a12 :: (v 13) :: (v 14) :: (v 15) :: (v 16) :: (v 17) :: (v 18) :: (v 19) :: (v 20) :: (v 21) :: (v 22) :: (v 23) :: a24 :: (v 25) :: (v 26) :: (v 27) :: (v 28) :: (v 29) :: (v 30) :: (v 31) :: (v 32) :: (v 33) :: (v 34) :: (v 35) :: (v 36) :: (v 37) :: (v 38) :: (v 39) :: (v 40) :: (v 41) :: (v 42) :: [(v 43), (v 44), (v 45), (v 46), (v 47), (v 48), (v 49), (v 50), (v 51), (v 52), (v 53), (v 54), (v 55), (v 56), (v 57), (v 58), (v 59), (v 60), (v 61), (v 62), (v 63), (v 64), (v 65), (v 66), (v 67), (v 68), (v 69), (v 70)])
set_option maxHeartbeats 8000000 in
set_option maxRecDepth 100000 in
theorem c_X11_copiesClause_e (l : Launch) (dC : Nat → ClassId) (dI : Nat → Nat → Nat) (sz : Nat) (h_mm : Nat) (h_mny : Nat) (h_vrs : Nat) (h_let : Nat) (h_isn : Nat) (h_tem : Nat) (v_mm : Nat → Value) (cy_mny : ClassId) (f_mny : Nat → Int32) (cy_vrs : ClassId) (f_vrs : Nat → Int32) (cy_let : ClassId) (f_let : Nat → Int32) (cy_isn : ClassId) (f_isn : Nat → Int32) (cy_tem : ClassId) (f_tem : Nat → Int32) (p1 : Int32) (p2 : Int32) (hf_mny : Rg 0 6 f_mny) (hf_vrs : Rg 0 8 f_vrs) (hf_isn : Rg 0 1 f_isn) (hf_tem : Rg 0 7999 f_tem) (q0 : 0 ≤ (p1).toInt ∧ (p1).toInt ≤ 31) (q1 : 0 ≤ (p2).toInt ∧ (p2).toInt ≤ 31) : Met l yX11_copiesClause (Ws yX11_copiesClause cX11_copiesClause 4 none) (({ frames := 1, cells := 0, slots := 0, locals := 22 } : Room)) (PRE (dC, dI) cls [(cy_mny, .int), (cy_vrs, .int), (cy_let, .int), (cy_isn, .boolean), (cy_tem, .int)] [(h_mm, .inr (8, (mo102 v_mm (.ref h_mny) (.ref h_vrs) (.ref h_let) (.ref h_isn) (.ref h_tem)))), (h_mny, .inl (cy_mny, 32, .inl f_mny)), (h_vrs, .inl (cy_vrs, 32, .inl f_vrs)), (h_let, .inl (cy_let, 256, .inl f_let)), (h_isn, .inl (cy_isn, 192, .inl f_isn)), (h_tem, .inl (cy_tem, 192, .inl f_tem))] sz [.ref h_mm, .int p1, .int p2]) (va_Qv (fun (u : (Nat → Int32) × (Nat → Int32) × (Nat → Int32) × (Nat → Int32) × (Nat → Int32)) => (Rg 0 6 u.1) ∧ (Rg 0 8 u.2.1) ∧ (Rg 0 1 u.2.2.2.1) ∧ (Rg 0 7999 u.2.2.2.2) ∧ (u.1 = upd f_mny (Int32.toNatClampNeg p2) (f_mny (Int32.toNatClampNeg p1))) ∧ (CPT 6 f_tem u.2.2.2.2 p1 p2) ∧ (u.2.1 = upd f_vrs (Int32.toNatClampNeg p2) (f_vrs (Int32.toNatClampNeg p1))) ∧ (CPT 6 f_isn u.2.2.2.1 p1 p2)) (fun (u : (Nat → Int32) × (Nat → Int32) × (Nat → Int32) × (Nat → Int32) × (Nat → Int32)) (t : State) => va_P (dC, dI) cls [(h_mm, .inr (8, (mo102 v_mm (.ref h_mny) (.ref h_vrs) (.ref h_let) (.ref h_isn) (.ref h_tem)))), (h_mny, .inl (cy_mny, 32, .inl u.1)), (h_vrs, .inl (cy_vrs, 32, .inl u.2.1)), (h_let, .inl (cy_let, 256, .inl u.2.2.1)), (h_isn, .inl (cy_isn, 192, .inl u.2.2.2.1)), (h_tem, .inl (cy_tem, 192, .inl u.2.2.2.2))] t.heap ∧ va_D (va_A [(h_mm, .inr (8, (mo102 v_mm (.ref h_mny) (.ref h_vrs) (.ref h_let) (.ref h_isn) (.ref h_tem)))), (h_mny, .inl (cy_mny, 32, .inl f_mny)), (h_vrs, .inl (cy_vrs, 32, .inl f_vrs)), (h_let, .inl (cy_let, 256, .inl f_let)), (h_isn, .inl (cy_isn, 192, .inl f_isn)), (h_tem, .inl (cy_tem, 192, .inl f_tem))] sz) [(h_mm, .inr (8, (mo102 v_mm (.ref h_mny) (.ref h_vrs) (.ref h_let) (.ref h_isn) (.ref h_tem)))), (h_mny, .inl (cy_mny, 32, .inl u.1)), (h_vrs, .inl (cy_vrs, 32, .inl u.2.1)), (h_let, .inl (cy_let, 256, .inl u.2.2.1)), (h_isn, .inl (cy_isn, 192, .inl u.2.2.2.1)), (h_tem, .inl (cy_tem, 192, .inl u.2.2.2.2))]) (va_A [(h_mm, .inr (8, (mo102 v_mm (.ref h_mny) (.ref h_vrs) (.ref h_let) (.ref h_isn) (.ref h_tem)))), (h_mny, .inl (cy_mny, 32, .inl f_mny)), (h_vrs, .inl (cy_vrs, 32, .inl f_vrs)), (h_let, .inl (cy_let, 256, .inl f_let)), (h_isn, .inl (cy_isn, 192, .inl f_isn)), (h_tem, .inl (cy_tem, 192, .inl f_tem))] sz)) 0 0 (va_A [(h_mm, .inr (8, (mo102 v_mm (.ref h_mny) (.ref h_vrs) (.ref h_let) (.ref h_isn) (.ref h_tem)))), (h_mny, .inl (cy_mny, 32, .inl f_mny)), (h_vrs, .inl (cy_vrs, 32, .inl f_vrs)), (h_let, .inl (cy_let, 256, .inl f_let)), (h_isn, .inl (cy_isn, 192, .inl f_isn)), (h_tem, .inl (cy_tem, 192, .inl f_tem))] sz) := by
  refine Met.ofW (cc := cX11_copiesClause) (maxL := 4) (ret := none) (by decide) rfl ?_
  intro p e s m args below meth c s₁ B hml hv
  obtain ⟨rfl, hsz, hP, hK, hD0, hN⟩ := hv
  have hx := B.exec
  have hb := B.bytes
  have hr := B.returns
  have hts := atoms_spec (ws := Ws yX11_copiesClause cX11_copiesClause 4 none) B.pre
  have hT : ∀ w ∈ WALL, w ∈ Ws yX11_copiesClause cX11_copiesClause 4 none := fun w h => List.mem_cons_of_mem _ h
  have hw := fun w (h : w ∈ WALL) => hts w (hT w h)
  have hown : s.vm.findClass RX11 = some m.cls := findClass_of_methodNamed B.named
  have hlocks := B.notSynchronized
  subst hsz
  have hD := hD0.self (sz := s.heap.size)
  generalize hAe : va_A [(h_mm, .inr (8, (mo102 v_mm (.ref h_mny) (.ref h_vrs) (.ref h_let) (.ref h_isn) (.ref h_tem)))), (h_mny, .inl (cy_mny, 32, .inl f_mny)), (h_vrs, .inl (cy_vrs, 32, .inl f_vrs)), (h_let, .inl (cy_let, 256, .inl f_let)), (h_isn, .inl (cy_isn, 192, .inl f_isn)), (h_tem, .inl (cy_tem, 192, .inl f_tem))] s.heap.size = A at hD ⊢
  have hA : ∀ q : Nat, s.heap.size ≤ q → A q := fun q h => by rw [← hAe]; exact Or.inr h
  have hS : va_S A s.heap s.heap [] := va_S.rf
  have hl := lv_entry ([.ref h_mm, .int p1, .int p2]) (n := 4) (Nat.le_of_ble_eq_true rfl)
  rw [lg_entry_eq]
  generalize (lg_sl ([.ref h_mm, .int p1, .int p2]) ++ List.replicate (4 - (lg_sl ([.ref h_mm, .int p1, .int p2])).length) Slot.unset).toArray = ls at hl ⊢
  have hl : lv_has ls 4 [(0, .ref h_mm), (1, .int p1), (2, .int p2)] := hl
  refine lv_aload_n hx hb dX11_copiesClause_0 rfl (lv_at hl 0 rfl) ?_
  refine va_get (D := (dC, dI)) (ci := 8) (v := .ref h_mny) (C := RX11) (T := TX11) (N := 71) hx hb hw iwX11 hown hK hP 0 rfl rfl 8 (by decide) (hw _ w_f_X11_142) (fun _ h9 => h9) rfl dX11_copiesClause_1 ?_
  refine lv_iload_n hx hb dX11_copiesClause_4 rfl (lv_at hl 2 rfl) ?_
  refine lv_aload_n hx hb dX11_copiesClause_5 rfl (lv_at hl 0 rfl) ?_
  refine va_get (D := (dC, dI)) (ci := 8) (v := .ref h_mny) (C := RX11) (T := TX11) (N := 71) hx hb hw iwX11 hown hK hP 0 rfl rfl 8 (by decide) (hw _ w_f_X11_142) (fun _ h9 => h9) rfl dX11_copiesClause_6 ?_
  refine lv_iload_n hx hb dX11_copiesClause_9 rfl (lv_at hl 1 rfl) ?_
  refine va_iald hx hb hK hP 1 0 rfl rfl (i := p1) (vp_in_iff.mpr (by omega)) dX11_copiesClause_10 ?_
  refine lv_topi (fun z1 ez1 => ?_)
  have rz1 : 0 ≤ (z1).toInt ∧ (z1).toInt ≤ 6 := by rw [ez1]; exact hf_mny _
  refine va_iast hx hb hK hP hD hS 1 0 rfl rfl (i := p2) (x := z1) (vp_in_iff.mpr (by omega)) dX11_copiesClause_11 (fun H locs hP9 hD9 hS9 => ?_)
  obtain ⟨f2, ef2⟩ : ∃ g : Nat → Int32, g = upd f_mny (Int32.toNatClampNeg p2) z1 := ⟨_, rfl⟩
  clear hP hD hS
  have hP : va_P (dC, dI) cls [(h_mm, .inr (8, (mo102 v_mm (.ref h_mny) (.ref h_vrs) (.ref h_let) (.ref h_isn) (.ref h_tem)))), (h_mny, .inl (cy_mny, 32, .inl f2)), (h_vrs, .inl (cy_vrs, 32, .inl f_vrs)), (h_let, .inl (cy_let, 256, .inl f_let)), (h_isn, .inl (cy_isn, 192, .inl f_isn)), (h_tem, .inl (cy_tem, 192, .inl f_tem))] H := by rw [ef2]; exact hP9
  have hD : va_D A [(h_mm, .inr (8, (mo102 v_mm (.ref h_mny) (.ref h_vrs) (.ref h_let) (.ref h_isn) (.ref h_tem)))), (h_mny, .inl (cy_mny, 32, .inl f2)), (h_vrs, .inl (cy_vrs, 32, .inl f_vrs)), (h_let, .inl (cy_let, 256, .inl f_let)), (h_isn, .inl (cy_isn, 192, .inl f_isn)), (h_tem, .inl (cy_tem, 192, .inl f_tem))] := by rw [ef2]; exact hD9
  have hS := hS9
  clear hP9 hD9 hS9
  have hf2 : Rg 0 6 f2 := by rw [ef2]; exact rg_upd hf_mny (by omega)
  have cm3 : f2 = upd f_mny (Int32.toNatClampNeg p2) (f_mny (Int32.toNatClampNeg p1)) := by rw [ef2, ez1]
  clear ef2
  refine lv_aload_n hx hb dX11_copiesClause_12 rfl (lv_at hl 0 rfl) ?_
  refine va_get (D := (dC, dI)) (ci := 8) (v := .ref h_vrs) (C := RX11) (T := TX11) (N := 71) hx hb hw iwX11 hown hK hP 0 rfl rfl 9 (by decide) (hw _ w_f_X11_102) (fun _ h9 => h9) rfl dX11_copiesClause_13 ?_
  refine lv_iload_n hx hb dX11_copiesClause_16 rfl (lv_at hl 2 rfl) ?_
  refine lv_aload_n hx hb dX11_copiesClause_17 rfl (lv_at hl 0 rfl) ?_
  refine va_get (D := (dC, dI)) (ci := 8) (v := .ref h_vrs) (C := RX11) (T := TX11) (N := 71) hx hb hw iwX11 hown hK hP 0 rfl rfl 9 (by decide) (hw _ w_f_X11_102) (fun _ h9 => h9) rfl dX11_copiesClause_18 ?_
  refine lv_iload_n hx hb dX11_copiesClause_21 rfl (lv_at hl 1 rfl) ?_
  refine va_iald hx hb hK hP 2 1 rfl rfl (i := p1) (vp_in_iff.mpr (by omega)) dX11_copiesClause_22 ?_
  refine lv_topi (fun z4 ez4 => ?_)
  have rz4 : 0 ≤ (z4).toInt ∧ (z4).toInt ≤ 8 := by rw [ez4]; exact hf_vrs _
  refine va_iast hx hb hK hP hD hS 2 1 rfl rfl (i := p2) (x := z4) (vp_in_iff.mpr (by omega)) dX11_copiesClause_23 (fun H locs hP9 hD9 hS9 => ?_)
  obtain ⟨f5, ef5⟩ : ∃ g : Nat → Int32, g = upd f_vrs (Int32.toNatClampNeg p2) z4 := ⟨_, rfl⟩
  clear hP hD hS
  have hP : va_P (dC, dI) cls [(h_mm, .inr (8, (mo102 v_mm (.ref h_mny) (.ref h_vrs) (.ref h_let) (.ref h_isn) (.ref h_tem)))), (h_mny, .inl (cy_mny, 32, .inl f2)), (h_vrs, .inl (cy_vrs, 32, .inl f5)), (h_let, .inl (cy_let, 256, .inl f_let)), (h_isn, .inl (cy_isn, 192, .inl f_isn)), (h_tem, .inl (cy_tem, 192, .inl f_tem))] H := by rw [ef5]; exact hP9
  have hD : va_D A [(h_mm, .inr (8, (mo102 v_mm (.ref h_mny) (.ref h_vrs) (.ref h_let) (.ref h_isn) (.ref h_tem)))), (h_mny, .inl (cy_mny, 32, .inl f2)), (h_vrs, .inl (cy_vrs, 32, .inl f5)), (h_let, .inl (cy_let, 256, .inl f_let)), (h_isn, .inl (cy_isn, 192, .inl f_isn)), (h_tem, .inl (cy_tem, 192, .inl f_tem))] := by rw [ef5]; exact hD9
  have hS := hS9
  clear hP9 hD9 hS9
  have hf5 : Rg 0 8 f5 := by rw [ef5]; exact rg_upd hf_vrs (by omega)
  have cv6 : f5 = upd f_vrs (Int32.toNatClampNeg p2) (f_vrs (Int32.toNatClampNeg p1)) := by rw [ef5, ez4]
  clear ef5
  refine lv_iconst (v := 0) hx hb dX11_copiesClause_24 (by decide) ?_
  refine lv_istore_n (lv' := [(3, .int 0), (0, .ref h_mm), (1, .int p1), (2, .int p2)]) hx hb dX11_copiesClause_25 rfl hl (by decide) rfl (fun ls hl => ?_)
  have lp9 : ∀ (n : Nat) (x7 : Int32) (f8 : Nat → Int32) (H : Heap) (locs : List Loc) (ls : Array Slot), (0 ≤ (x7).toInt ∧ (x7).toInt ≤ 8) → (8 - (x7).toInt).toNat + 1 ≤ n → va_P (dC, dI) cls [(h_mm, .inr (8, (mo102 v_mm (.ref h_mny) (.ref h_vrs) (.ref h_let) (.ref h_isn) (.ref h_tem)))), (h_mny, .inl (cy_mny, 32, .inl f2)), (h_vrs, .inl (cy_vrs, 32, .inl f5)), (h_let, .inl (cy_let, 256, .inl f8)), (h_isn, .inl (cy_isn, 192, .inl f_isn)), (h_tem, .inl (cy_tem, 192, .inl f_tem))] H → va_D A [(h_mm, .inr (8, (mo102 v_mm (.ref h_mny) (.ref h_vrs) (.ref h_let) (.ref h_isn) (.ref h_tem)))), (h_mny, .inl (cy_mny, 32, .inl f2)), (h_vrs, .inl (cy_vrs, 32, .inl f5)), (h_let, .inl (cy_let, 256, .inl f8)), (h_isn, .inl (cy_isn, 192, .inl f_isn)), (h_tem, .inl (cy_tem, 192, .inl f_tem))] → va_S A s.heap H locs → lv_has ls 4 [(0, .ref h_mm), (1, .int p1), (2, .int p2), (3, .int x7)] → W p l e ({ frames := 1, cells := 0, slots := 0, locals := 22 } : Room) s m ([.ref h_mm, .int p1, .int p2] : List Value).toArray below meth c H locs 0 0 (MQ below (va_Qv (fun (u : (Nat → Int32) × (Nat → Int32) × (Nat → Int32) × (Nat → Int32) × (Nat → Int32)) => (Rg 0 6 u.1) ∧ (Rg 0 8 u.2.1) ∧ (Rg 0 1 u.2.2.2.1) ∧ (Rg 0 7999 u.2.2.2.2) ∧ (u.1 = upd f_mny (Int32.toNatClampNeg p2) (f_mny (Int32.toNatClampNeg p1))) ∧ (CPT 6 f_tem u.2.2.2.2 p1 p2) ∧ (u.2.1 = upd f_vrs (Int32.toNatClampNeg p2) (f_vrs (Int32.toNatClampNeg p1))) ∧ (CPT 6 f_isn u.2.2.2.1 p1 p2)) (fun (u : (Nat → Int32) × (Nat → Int32) × (Nat → Int32) × (Nat → Int32) × (Nat → Int32)) (t : State) => va_P (dC, dI) cls [(h_mm, .inr (8, (mo102 v_mm (.ref h_mny) (.ref h_vrs) (.ref h_let) (.ref h_isn) (.ref h_tem)))), (h_mny, .inl (cy_mny, 32, .inl u.1)), (h_vrs, .inl (cy_vrs, 32, .inl u.2.1)), (h_let, .inl (cy_let, 256, .inl u.2.2.1)), (h_isn, .inl (cy_isn, 192, .inl u.2.2.2.1)), (h_tem, .inl (cy_tem, 192, .inl u.2.2.2.2))] t.heap ∧ va_D A [(h_mm, .inr (8, (mo102 v_mm (.ref h_mny) (.ref h_vrs) (.ref h_let) (.ref h_isn) (.ref h_tem)))), (h_mny, .inl (cy_mny, 32, .inl u.1)), (h_vrs, .inl (cy_vrs, 32, .inl u.2.1)), (h_let, .inl (cy_let, 256, .inl u.2.2.1)), (h_isn, .inl (cy_isn, 192, .inl u.2.2.2.1)), (h_tem, .inl (cy_tem, 192, .inl u.2.2.2.2))]) A) ([.ref h_mm, .int p1, .int p2] : List Value).toArray s 0 0 A) (F0 m 26 ls []) := by
    clear hP hD hS hl
    intro n
    induction n with
    | zero => intro x7 f8 H locs ls klp9_0 hm hP hD hS hl; exact False.elim (by omega)
    | succ n ih => 
      intro x7 f8 H locs ls klp9_0 hm hP hD hS hl
      have ih10 := ih
      clear ih
      refine lv_iload_n hx hb dX11_copiesClause_26 rfl (lv_at hl 3 rfl) ?_
      refine lv_bipush (v := 8) hx hb dX11_copiesClause_27 (by decide) ?_
      refine lv_icmp_ge (tgt := 60) hx hb dX11_copiesClause_29 (by decide) (fun c11 => ?_) (fun c11 => ?_)
      · have kc11 := (cv_le (by decide : (8 : Int32).toInt = 8) (rfl : (x7).toInt = (x7).toInt)).mp c11
        refine lv_iconst (v := 0) hx hb dX11_copiesClause_60 (by decide) ?_
        have ci12 : CPT 0 f_isn f_isn p1 p2 := cpt_zero
        have ct13 : CPT 0 f_tem f_tem p1 p2 := cpt_zero
        refine lv_istore_n (lv' := [(3, .int 0), (0, .ref h_mm), (1, .int p1), (2, .int p2)]) hx hb dX11_copiesClause_61 rfl hl (by decide) rfl (fun ls hl => ?_)
        have lp17 : ∀ (n : Nat) (x14 : Int32) (f15 : Nat → Int32) (f16 : Nat → Int32) (H : Heap) (locs : List Loc) (ls : Array Slot), (0 ≤ (x14).toInt ∧ (x14).toInt ≤ 6) → (Rg 0 1 f15) → (Rg 0 7999 f16) → (CPT (x14).toInt f_tem f16 p1 p2) → (CPT (x14).toInt f_isn f15 p1 p2) → (6 - (x14).toInt).toNat + 1 ≤ n → va_P (dC, dI) cls [(h_mm, .inr (8, (mo102 v_mm (.ref h_mny) (.ref h_vrs) (.ref h_let) (.ref h_isn) (.ref h_tem)))), (h_mny, .inl (cy_mny, 32, .inl f2)), (h_vrs, .inl (cy_vrs, 32, .inl f5)), (h_let, .inl (cy_let, 256, .inl f8)), (h_isn, .inl (cy_isn, 192, .inl f15)), (h_tem, .inl (cy_tem, 192, .inl f16))] H → va_D A [(h_mm, .inr (8, (mo102 v_mm (.ref h_mny) (.ref h_vrs) (.ref h_let) (.ref h_isn) (.ref h_tem)))), (h_mny, .inl (cy_mny, 32, .inl f2)), (h_vrs, .inl (cy_vrs, 32, .inl f5)), (h_let, .inl (cy_let, 256, .inl f8)), (h_isn, .inl (cy_isn, 192, .inl f15)), (h_tem, .inl (cy_tem, 192, .inl f16))] → va_S A s.heap H locs → lv_has ls 4 [(0, .ref h_mm), (1, .int p1), (2, .int p2), (3, .int x14)] → W p l e ({ frames := 1, cells := 0, slots := 0, locals := 22 } : Room) s m ([.ref h_mm, .int p1, .int p2] : List Value).toArray below meth c H locs 0 0 (MQ below (va_Qv (fun (u : (Nat → Int32) × (Nat → Int32) × (Nat → Int32) × (Nat → Int32) × (Nat → Int32)) => (Rg 0 6 u.1) ∧ (Rg 0 8 u.2.1) ∧ (Rg 0 1 u.2.2.2.1) ∧ (Rg 0 7999 u.2.2.2.2) ∧ (u.1 = upd f_mny (Int32.toNatClampNeg p2) (f_mny (Int32.toNatClampNeg p1))) ∧ (CPT 6 f_tem u.2.2.2.2 p1 p2) ∧ (u.2.1 = upd f_vrs (Int32.toNatClampNeg p2) (f_vrs (Int32.toNatClampNeg p1))) ∧ (CPT 6 f_isn u.2.2.2.1 p1 p2)) (fun (u : (Nat → Int32) × (Nat → Int32) × (Nat → Int32) × (Nat → Int32) × (Nat → Int32)) (t : State) => va_P (dC, dI) cls [(h_mm, .inr (8, (mo102 v_mm (.ref h_mny) (.ref h_vrs) (.ref h_let) (.ref h_isn) (.ref h_tem)))), (h_mny, .inl (cy_mny, 32, .inl u.1)), (h_vrs, .inl (cy_vrs, 32, .inl u.2.1)), (h_let, .inl (cy_let, 256, .inl u.2.2.1)), (h_isn, .inl (cy_isn, 192, .inl u.2.2.2.1)), (h_tem, .inl (cy_tem, 192, .inl u.2.2.2.2))] t.heap ∧ va_D A [(h_mm, .inr (8, (mo102 v_mm (.ref h_mny) (.ref h_vrs) (.ref h_let) (.ref h_isn) (.ref h_tem)))), (h_mny, .inl (cy_mny, 32, .inl u.1)), (h_vrs, .inl (cy_vrs, 32, .inl u.2.1)), (h_let, .inl (cy_let, 256, .inl u.2.2.1)), (h_isn, .inl (cy_isn, 192, .inl u.2.2.2.1)), (h_tem, .inl (cy_tem, 192, .inl u.2.2.2.2))]) A) ([.ref h_mm, .int p1, .int p2] : List Value).toArray s 0 0 A) (F0 m 62 ls []) := by
          clear hP hD hS hl
          intro n
          induction n with
          | zero => intro x14 f15 f16 H locs ls klp17_0 hf15 hf16 klp17_3 klp17_4 hm hP hD hS hl; exact False.elim (by omega)
          | succ n ih => 
            intro x14 f15 f16 H locs ls klp17_0 hf15 hf16 klp17_3 klp17_4 hm hP hD hS hl
            have ih18 := ih
            clear ih
            refine lv_iload_n hx hb dX11_copiesClause_62 rfl (lv_at hl 3 rfl) ?_
            refine lv_bipush (v := 6) hx hb dX11_copiesClause_63 (by decide) ?_
            refine lv_icmp_ge (tgt := 118) hx hb dX11_copiesClause_65 (by decide) (fun c19 => ?_) (fun c19 => ?_)
            · have kc19 := (cv_le (by decide : (6 : Int32).toInt = 6) (rfl : (x14).toInt = (x14).toInt)).mp c19
              refine W.widen (k := 0) (n := 0) (Nat.le_of_ble_eq_true rfl) (Nat.le_of_ble_eq_true rfl) ?_
              have w20 : (f2) = upd f_mny (Int32.toNatClampNeg p2) (f_mny (Int32.toNatClampNeg p1)) := cm3
              have w21 : CPT 6 f_tem (f16) p1 p2 := (cpt_cast klp17_3 (by omega))
              have w22 : (f5) = upd f_vrs (Int32.toNatClampNeg p2) (f_vrs (Int32.toNatClampNeg p1)) := cv6
              have w23 : CPT 6 f_isn (f15) p1 p2 := (cpt_cast klp17_4 (by omega))
              exact W.vret hx hb hr (fun t ht hW => ⟨⟨(f2, f5, f8, f15, f16), rfl, ⟨hf2, hf5, hf15, hf16, w20, w21, w22, w23⟩, by rw [ht]; exact hP, hD⟩, hS.F ht⟩) hS.2.2 dX11_copiesClause_118
            · have kc19 := (not_congr (cv_le (by decide : (6 : Int32).toInt = 6) (rfl : (x14).toInt = (x14).toInt))).mp c19
              refine lv_aload_n hx hb dX11_copiesClause_68 rfl (lv_at hl 0 rfl) ?_
              refine va_get (D := (dC, dI)) (ci := 8) (v := .ref h_isn) (C := RX11) (T := TX11) (N := 71) hx hb hw iwX11 hown hK hP 0 rfl rfl 11 (by decide) (hw _ w_f_X11_145) (fun _ h9 => h9) rfl dX11_copiesClause_69 ?_
              refine lv_aload_n hx hb dX11_copiesClause_72 rfl (lv_at hl 0 rfl) ?_
              refine lv_iload_n hx hb dX11_copiesClause_73 rfl (lv_at hl 2 rfl) ?_
              refine lv_iload_n hx hb dX11_copiesClause_74 rfl (lv_at hl 3 rfl) ?_
              have hPc := hP.sub (ws' := []) [] rfl
              have hDc := hD.sub (ws' := []) [] (by decide) rfl
              have hKc := hK.sub (tys' := []) [] rfl
              have hFc := va_free (wc := []) hD hS hA [] rfl
              refine va_calli (va_runV (As := [.int p2, .int x14]) (rest := [.ref h_isn]) ⟨hx, hb, hml, hown, hts⟩ (c_X11_litAt l dC dI H.size h_mm p2 x14 (by first | exact q1 | omega) (by omega)) (cwV 2 hts (gv hT w_m_X11_149 w_instanceMethod_X11_litAt ws_sel_X11_litAt w_ini_X11 w_code_X11_litAt) rfl rfl rfl (by decide +kernel) ⟨(Nat.le_of_ble_eq_true rfl), (Nat.le_of_ble_eq_true rfl)⟩) ⟨pre_blind, va_recv hK hP (ci := 8) (q0 := 0) rfl rfl, pre_of hPc hKc hDc hN⟩ rfl rfl hl.1 rfl (lv_room (Nat.le_of_ble_eq_true rfl)) dX11_copiesClause_75 ⟨(Nat.le_of_ble_eq_true rfl), (Nat.le_of_ble_eq_true rfl)⟩) hS (fun q _ h => hFc q h) hFc (fun r24 u t H locs ht hvm hq hB hz1 hk1 hS9 => ?_)
              obtain ⟨hP1, hD1⟩ := hB
              rw [ht] at hP1
              obtain ⟨hP9, hD9⟩ := va_join (wr := [(h_mm, .inr (8, (mo102 v_mm (.ref h_mny) (.ref h_vrs) (.ref h_let) (.ref h_isn) (.ref h_tem)))), (h_mny, .inl (cy_mny, 32, .inl f2)), (h_vrs, .inl (cy_vrs, 32, .inl f5)), (h_let, .inl (cy_let, 256, .inl f8)), (h_isn, .inl (cy_isn, 192, .inl f15)), (h_tem, .inl (cy_tem, 192, .inl f16))]) (w1 := []) hP hD [] [0, 1, 2, 3, 4, 5] rfl rfl (by decide) (by decide) hk1 hFc hP1 hD1
              clear hP hD hS hPc hDc hKc hFc hP1 hD1 hk1 hz1 ht hvm
              have hP : va_P (dC, dI) cls [(h_mm, .inr (8, (mo102 v_mm (.ref h_mny) (.ref h_vrs) (.ref h_let) (.ref h_isn) (.ref h_tem)))), (h_mny, .inl (cy_mny, 32, .inl f2)), (h_vrs, .inl (cy_vrs, 32, .inl f5)), (h_let, .inl (cy_let, 256, .inl f8)), (h_isn, .inl (cy_isn, 192, .inl f15)), (h_tem, .inl (cy_tem, 192, .inl f16))] H := hP9
              have hD : va_D A [(h_mm, .inr (8, (mo102 v_mm (.ref h_mny) (.ref h_vrs) (.ref h_let) (.ref h_isn) (.ref h_tem)))), (h_mny, .inl (cy_mny, 32, .inl f2)), (h_vrs, .inl (cy_vrs, 32, .inl f5)), (h_let, .inl (cy_let, 256, .inl f8)), (h_isn, .inl (cy_isn, 192, .inl f15)), (h_tem, .inl (cy_tem, 192, .inl f16))] := hD9
              have hS := hS9
              clear hP9 hD9 hS9
              obtain ⟨k25, k26⟩ := hq
              replace k25 : 0 ≤ (r24).toInt ∧ (r24).toInt ≤ 191 := k25
              replace k26 : ((r24)).toInt = 6 * ((p2)).toInt + ((x14)).toInt := k26
              refine lv_aload_n hx hb dX11_copiesClause_78 rfl (lv_at hl 0 rfl) ?_
              refine va_get (D := (dC, dI)) (ci := 8) (v := .ref h_isn) (C := RX11) (T := TX11) (N := 71) hx hb hw iwX11 hown hK hP 0 rfl rfl 11 (by decide) (hw _ w_f_X11_145) (fun _ h9 => h9) rfl dX11_copiesClause_79 ?_
              refine lv_aload_n hx hb dX11_copiesClause_82 rfl (lv_at hl 0 rfl) ?_
              refine lv_iload_n hx hb dX11_copiesClause_83 rfl (lv_at hl 1 rfl) ?_
              refine lv_iload_n hx hb dX11_copiesClause_84 rfl (lv_at hl 3 rfl) ?_
              have hPc := hP.sub (ws' := []) [] rfl
              have hDc := hD.sub (ws' := []) [] (by decide) rfl
              have hKc := hK.sub (tys' := []) [] rfl
              have hFc := va_free (wc := []) hD hS hA [] rfl
              refine va_calli (va_runV (As := [.int p1, .int x14]) (rest := [.ref h_isn, .int r24, .ref h_isn]) ⟨hx, hb, hml, hown, hts⟩ (c_X11_litAt l dC dI H.size h_mm p1 x14 (by first | exact q0 | omega) (by omega)) (cwV 2 hts (gv hT w_m_X11_149 w_instanceMethod_X11_litAt ws_sel_X11_litAt w_ini_X11 w_code_X11_litAt) rfl rfl rfl (by decide +kernel) ⟨(Nat.le_of_ble_eq_true rfl), (Nat.le_of_ble_eq_true rfl)⟩) ⟨pre_blind, va_recv hK hP (ci := 8) (q0 := 0) rfl rfl, pre_of hPc hKc hDc hN⟩ rfl rfl hl.1 rfl (lv_room (Nat.le_of_ble_eq_true rfl)) dX11_copiesClause_85 ⟨(Nat.le_of_ble_eq_true rfl), (Nat.le_of_ble_eq_true rfl)⟩) hS (fun q _ h => hFc q h) hFc (fun r27 u t H locs ht hvm hq hB hz1 hk1 hS9 => ?_)
              obtain ⟨hP1, hD1⟩ := hB
              rw [ht] at hP1
              obtain ⟨hP9, hD9⟩ := va_join (wr := [(h_mm, .inr (8, (mo102 v_mm (.ref h_mny) (.ref h_vrs) (.ref h_let) (.ref h_isn) (.ref h_tem)))), (h_mny, .inl (cy_mny, 32, .inl f2)), (h_vrs, .inl (cy_vrs, 32, .inl f5)), (h_let, .inl (cy_let, 256, .inl f8)), (h_isn, .inl (cy_isn, 192, .inl f15)), (h_tem, .inl (cy_tem, 192, .inl f16))]) (w1 := []) hP hD [] [0, 1, 2, 3, 4, 5] rfl rfl (by decide) (by decide) hk1 hFc hP1 hD1
              clear hP hD hS hPc hDc hKc hFc hP1 hD1 hk1 hz1 ht hvm
              have hP : va_P (dC, dI) cls [(h_mm, .inr (8, (mo102 v_mm (.ref h_mny) (.ref h_vrs) (.ref h_let) (.ref h_isn) (.ref h_tem)))), (h_mny, .inl (cy_mny, 32, .inl f2)), (h_vrs, .inl (cy_vrs, 32, .inl f5)), (h_let, .inl (cy_let, 256, .inl f8)), (h_isn, .inl (cy_isn, 192, .inl f15)), (h_tem, .inl (cy_tem, 192, .inl f16))] H := hP9
              have hD : va_D A [(h_mm, .inr (8, (mo102 v_mm (.ref h_mny) (.ref h_vrs) (.ref h_let) (.ref h_isn) (.ref h_tem)))), (h_mny, .inl (cy_mny, 32, .inl f2)), (h_vrs, .inl (cy_vrs, 32, .inl f5)), (h_let, .inl (cy_let, 256, .inl f8)), (h_isn, .inl (cy_isn, 192, .inl f15)), (h_tem, .inl (cy_tem, 192, .inl f16))] := hD9
              have hS := hS9
              clear hP9 hD9 hS9
              obtain ⟨k28, k29⟩ := hq
              replace k28 : 0 ≤ (r27).toInt ∧ (r27).toInt ≤ 191 := k28
              replace k29 : ((r27)).toInt = 6 * ((p1)).toInt + ((x14)).toInt := k29
              refine va_zald hx hb hK hP 4 3 rfl rfl (i := r27) (vp_in_iff.mpr (by omega)) dX11_copiesClause_88 ?_
              refine lv_topi (fun z30 ez30 => ?_)
              have rz30 : 0 ≤ (z30).toInt ∧ (z30).toInt ≤ 1 := by rw [ez30]; exact hf15 _
              refine va_zast hx hb hK hP hD hS 4 3 rfl rfl (i := r24) (x := z30) (vp_in_iff.mpr (by omega)) dX11_copiesClause_89 (fun H locs hP9 hD9 hS9 => ?_)
              obtain ⟨f31, ef31⟩ : ∃ g : Nat → Int32, g = upd f15 (Int32.toNatClampNeg r24) (vp_nar .boolean z30) := ⟨_, rfl⟩
              clear hP hD hS
              have hP : va_P (dC, dI) cls [(h_mm, .inr (8, (mo102 v_mm (.ref h_mny) (.ref h_vrs) (.ref h_let) (.ref h_isn) (.ref h_tem)))), (h_mny, .inl (cy_mny, 32, .inl f2)), (h_vrs, .inl (cy_vrs, 32, .inl f5)), (h_let, .inl (cy_let, 256, .inl f8)), (h_isn, .inl (cy_isn, 192, .inl f31)), (h_tem, .inl (cy_tem, 192, .inl f16))] H := by rw [ef31]; exact hP9
              have hD : va_D A [(h_mm, .inr (8, (mo102 v_mm (.ref h_mny) (.ref h_vrs) (.ref h_let) (.ref h_isn) (.ref h_tem)))), (h_mny, .inl (cy_mny, 32, .inl f2)), (h_vrs, .inl (cy_vrs, 32, .inl f5)), (h_let, .inl (cy_let, 256, .inl f8)), (h_isn, .inl (cy_isn, 192, .inl f31)), (h_tem, .inl (cy_tem, 192, .inl f16))] := by rw [ef31]; exact hD9
              have hS := hS9
              clear hP9 hD9 hS9
              have hf31 : Rg 0 1 f31 := by rw [ef31]; exact rg_upd hf15 (nar_b01 _)
              have ci32 : CPT ((x14).toInt + 1) f_isn f31 p1 p2 := cpi_step (j := r27) (z := z30) klp17_4 (by omega) (by omega) (by omega) (by omega) (by omega) ez30 (by omega) ef31
              clear ef31
              refine lv_aload_n hx hb dX11_copiesClause_90 rfl (lv_at hl 0 rfl) ?_
              refine va_get (D := (dC, dI)) (ci := 8) (v := .ref h_tem) (C := RX11) (T := TX11) (N := 71) hx hb hw iwX11 hown hK hP 0 rfl rfl 12 (by decide) (hw _ w_f_X11_152) (fun _ h9 => h9) rfl dX11_copiesClause_91 ?_
              refine lv_aload_n hx hb dX11_copiesClause_94 rfl (lv_at hl 0 rfl) ?_
              refine lv_iload_n hx hb dX11_copiesClause_95 rfl (lv_at hl 2 rfl) ?_
              refine lv_iload_n hx hb dX11_copiesClause_96 rfl (lv_at hl 3 rfl) ?_
              have hPc := hP.sub (ws' := []) [] rfl
              have hDc := hD.sub (ws' := []) [] (by decide) rfl
              have hKc := hK.sub (tys' := []) [] rfl
              have hFc := va_free (wc := []) hD hS hA [] rfl
              refine va_calli (va_runV (As := [.int p2, .int x14]) (rest := [.ref h_tem]) ⟨hx, hb, hml, hown, hts⟩ (c_X11_litAt l dC dI H.size h_mm p2 x14 (by first | exact q1 | omega) (by omega)) (cwV 2 hts (gv hT w_m_X11_149 w_instanceMethod_X11_litAt ws_sel_X11_litAt w_ini_X11 w_code_X11_litAt) rfl rfl rfl (by decide +kernel) ⟨(Nat.le_of_ble_eq_true rfl), (Nat.le_of_ble_eq_true rfl)⟩) ⟨pre_blind, va_recv hK hP (ci := 8) (q0 := 0) rfl rfl, pre_of hPc hKc hDc hN⟩ rfl rfl hl.1 rfl (lv_room (Nat.le_of_ble_eq_true rfl)) dX11_copiesClause_97 ⟨(Nat.le_of_ble_eq_true rfl), (Nat.le_of_ble_eq_true rfl)⟩) hS (fun q _ h => hFc q h) hFc (fun r33 u t H locs ht hvm hq hB hz1 hk1 hS9 => ?_)
              obtain ⟨hP1, hD1⟩ := hB
              rw [ht] at hP1
              obtain ⟨hP9, hD9⟩ := va_join (wr := [(h_mm, .inr (8, (mo102 v_mm (.ref h_mny) (.ref h_vrs) (.ref h_let) (.ref h_isn) (.ref h_tem)))), (h_mny, .inl (cy_mny, 32, .inl f2)), (h_vrs, .inl (cy_vrs, 32, .inl f5)), (h_let, .inl (cy_let, 256, .inl f8)), (h_isn, .inl (cy_isn, 192, .inl f31)), (h_tem, .inl (cy_tem, 192, .inl f16))]) (w1 := []) hP hD [] [0, 1, 2, 3, 4, 5] rfl rfl (by decide) (by decide) hk1 hFc hP1 hD1
              clear hP hD hS hPc hDc hKc hFc hP1 hD1 hk1 hz1 ht hvm
              have hP : va_P (dC, dI) cls [(h_mm, .inr (8, (mo102 v_mm (.ref h_mny) (.ref h_vrs) (.ref h_let) (.ref h_isn) (.ref h_tem)))), (h_mny, .inl (cy_mny, 32, .inl f2)), (h_vrs, .inl (cy_vrs, 32, .inl f5)), (h_let, .inl (cy_let, 256, .inl f8)), (h_isn, .inl (cy_isn, 192, .inl f31)), (h_tem, .inl (cy_tem, 192, .inl f16))] H := hP9
              have hD : va_D A [(h_mm, .inr (8, (mo102 v_mm (.ref h_mny) (.ref h_vrs) (.ref h_let) (.ref h_isn) (.ref h_tem)))), (h_mny, .inl (cy_mny, 32, .inl f2)), (h_vrs, .inl (cy_vrs, 32, .inl f5)), (h_let, .inl (cy_let, 256, .inl f8)), (h_isn, .inl (cy_isn, 192, .inl f31)), (h_tem, .inl (cy_tem, 192, .inl f16))] := hD9
              have hS := hS9
              clear hP9 hD9 hS9
              obtain ⟨k34, k35⟩ := hq
              replace k34 : 0 ≤ (r33).toInt ∧ (r33).toInt ≤ 191 := k34
              replace k35 : ((r33)).toInt = 6 * ((p2)).toInt + ((x14)).toInt := k35
              refine lv_aload_n hx hb dX11_copiesClause_100 rfl (lv_at hl 0 rfl) ?_
              refine va_get (D := (dC, dI)) (ci := 8) (v := .ref h_tem) (C := RX11) (T := TX11) (N := 71) hx hb hw iwX11 hown hK hP 0 rfl rfl 12 (by decide) (hw _ w_f_X11_152) (fun _ h9 => h9) rfl dX11_copiesClause_101 ?_
              refine lv_aload_n hx hb dX11_copiesClause_104 rfl (lv_at hl 0 rfl) ?_
              refine lv_iload_n hx hb dX11_copiesClause_105 rfl (lv_at hl 1 rfl) ?_
              refine lv_iload_n hx hb dX11_copiesClause_106 rfl (lv_at hl 3 rfl) ?_
              have hPc := hP.sub (ws' := []) [] rfl
              have hDc := hD.sub (ws' := []) [] (by decide) rfl
              have hKc := hK.sub (tys' := []) [] rfl
              have hFc := va_free (wc := []) hD hS hA [] rfl
              refine va_calli (va_runV (As := [.int p1, .int x14]) (rest := [.ref h_tem, .int r33, .ref h_tem]) ⟨hx, hb, hml, hown, hts⟩ (c_X11_litAt l dC dI H.size h_mm p1 x14 (by first | exact q0 | omega) (by omega)) (cwV 2 hts (gv hT w_m_X11_149 w_instanceMethod_X11_litAt ws_sel_X11_litAt w_ini_X11 w_code_X11_litAt) rfl rfl rfl (by decide +kernel) ⟨(Nat.le_of_ble_eq_true rfl), (Nat.le_of_ble_eq_true rfl)⟩) ⟨pre_blind, va_recv hK hP (ci := 8) (q0 := 0) rfl rfl, pre_of hPc hKc hDc hN⟩ rfl rfl hl.1 rfl (lv_room (Nat.le_of_ble_eq_true rfl)) dX11_copiesClause_107 ⟨(Nat.le_of_ble_eq_true rfl), (Nat.le_of_ble_eq_true rfl)⟩) hS (fun q _ h => hFc q h) hFc (fun r36 u t H locs ht hvm hq hB hz1 hk1 hS9 => ?_)
              obtain ⟨hP1, hD1⟩ := hB
              rw [ht] at hP1
              obtain ⟨hP9, hD9⟩ := va_join (wr := [(h_mm, .inr (8, (mo102 v_mm (.ref h_mny) (.ref h_vrs) (.ref h_let) (.ref h_isn) (.ref h_tem)))), (h_mny, .inl (cy_mny, 32, .inl f2)), (h_vrs, .inl (cy_vrs, 32, .inl f5)), (h_let, .inl (cy_let, 256, .inl f8)), (h_isn, .inl (cy_isn, 192, .inl f31)), (h_tem, .inl (cy_tem, 192, .inl f16))]) (w1 := []) hP hD [] [0, 1, 2, 3, 4, 5] rfl rfl (by decide) (by decide) hk1 hFc hP1 hD1
              clear hP hD hS hPc hDc hKc hFc hP1 hD1 hk1 hz1 ht hvm
              have hP : va_P (dC, dI) cls [(h_mm, .inr (8, (mo102 v_mm (.ref h_mny) (.ref h_vrs) (.ref h_let) (.ref h_isn) (.ref h_tem)))), (h_mny, .inl (cy_mny, 32, .inl f2)), (h_vrs, .inl (cy_vrs, 32, .inl f5)), (h_let, .inl (cy_let, 256, .inl f8)), (h_isn, .inl (cy_isn, 192, .inl f31)), (h_tem, .inl (cy_tem, 192, .inl f16))] H := hP9
              have hD : va_D A [(h_mm, .inr (8, (mo102 v_mm (.ref h_mny) (.ref h_vrs) (.ref h_let) (.ref h_isn) (.ref h_tem)))), (h_mny, .inl (cy_mny, 32, .inl f2)), (h_vrs, .inl (cy_vrs, 32, .inl f5)), (h_let, .inl (cy_let, 256, .inl f8)), (h_isn, .inl (cy_isn, 192, .inl f31)), (h_tem, .inl (cy_tem, 192, .inl f16))] := hD9
              have hS := hS9
              clear hP9 hD9 hS9
              obtain ⟨k37, k38⟩ := hq
              replace k37 : 0 ≤ (r36).toInt ∧ (r36).toInt ≤ 191 := k37
              replace k38 : ((r36)).toInt = 6 * ((p1)).toInt + ((x14)).toInt := k38
              refine va_iald hx hb hK hP 5 4 rfl rfl (i := r36) (vp_in_iff.mpr (by omega)) dX11_copiesClause_110 ?_
              refine lv_topi (fun z39 ez39 => ?_)
              have rz39 : 0 ≤ (z39).toInt ∧ (z39).toInt ≤ 7999 := by rw [ez39]; exact hf16 _
              refine va_iast hx hb hK hP hD hS 5 4 rfl rfl (i := r33) (x := z39) (vp_in_iff.mpr (by omega)) dX11_copiesClause_111 (fun H locs hP9 hD9 hS9 => ?_)
              obtain ⟨f40, ef40⟩ : ∃ g : Nat → Int32, g = upd f16 (Int32.toNatClampNeg r33) z39 := ⟨_, rfl⟩
              clear hP hD hS
              have hP : va_P (dC, dI) cls [(h_mm, .inr (8, (mo102 v_mm (.ref h_mny) (.ref h_vrs) (.ref h_let) (.ref h_isn) (.ref h_tem)))), (h_mny, .inl (cy_mny, 32, .inl f2)), (h_vrs, .inl (cy_vrs, 32, .inl f5)), (h_let, .inl (cy_let, 256, .inl f8)), (h_isn, .inl (cy_isn, 192, .inl f31)), (h_tem, .inl (cy_tem, 192, .inl f40))] H := by rw [ef40]; exact hP9
              have hD : va_D A [(h_mm, .inr (8, (mo102 v_mm (.ref h_mny) (.ref h_vrs) (.ref h_let) (.ref h_isn) (.ref h_tem)))), (h_mny, .inl (cy_mny, 32, .inl f2)), (h_vrs, .inl (cy_vrs, 32, .inl f5)), (h_let, .inl (cy_let, 256, .inl f8)), (h_isn, .inl (cy_isn, 192, .inl f31)), (h_tem, .inl (cy_tem, 192, .inl f40))] := by rw [ef40]; exact hD9
              have hS := hS9
              clear hP9 hD9 hS9
              have hf40 : Rg 0 7999 f40 := by rw [ef40]; exact rg_upd hf16 (by omega)
              have ct41 : CPT ((x14).toInt + 1) f_tem f40 p1 p2 := by rw [ef40, ez39]; exact cpt_step (i := r33) (j := r36) klp17_3 (by omega) (by omega) (by omega) (by omega) (by omega)
              clear ef40
              obtain ⟨z42, ez42⟩ : ∃ y : Int32, y = x14 + 1 := ⟨_, rfl⟩
              have tz42 : (z42).toInt = (x14).toInt + 1 := by rw [ez42]; exact i_add rfl (by decide) (by omega)
              refine lv_iinc (v := z42) (lv' := [(3, .int z42), (0, .ref h_mm), (1, .int p1), (2, .int p2)]) hx hb dX11_copiesClause_112 hl (k := 3) rfl (by rw [ez42]; rfl) (by decide) rfl (fun ls hl => ?_)
              refine lv_goto (tgt := 62) hx hb dX11_copiesClause_115 (by decide) ?_
              exact ih18 (z42) (f31) (f40) _ _ _ (by omega) hf31 hf40 (cpt_cast ct41 (by omega)) (cpt_cast ci32 (by omega)) (by omega) hP hD hS (lv_sub hl [1, 2, 3, 0] rfl)
        have cst0 : (0 : Int32).toInt = 0 := by decide
        exact lp17 _ (0) (f_isn) (f_tem) _ _ _ (by decide) hf_isn hf_tem (cpt_cast ct13 (by omega)) (cpt_cast ci12 (by omega)) (Nat.le_refl _) hP hD hS (lv_sub hl [1, 2, 3, 0] rfl)
      · have kc11 := (not_congr (cv_le (by decide : (8 : Int32).toInt = 8) (rfl : (x7).toInt = (x7).toInt))).mp c11
        refine lv_aload_n hx hb dX11_copiesClause_32 rfl (lv_at hl 0 rfl) ?_
        refine va_get (D := (dC, dI)) (ci := 8) (v := .ref h_let) (C := RX11) (T := TX11) (N := 71) hx hb hw iwX11 hown hK hP 0 rfl rfl 10 (by decide) (hw _ w_f_X11_108) (fun _ h9 => h9) rfl dX11_copiesClause_33 ?_
        refine lv_bipush (v := 8) hx hb dX11_copiesClause_36 (by decide) ?_
        refine lv_iload_n hx hb dX11_copiesClause_38 rfl (lv_at hl 2 rfl) ?_
        refine lv_imul hx hb dX11_copiesClause_39 ?_
        refine lv_topi (fun z43 ez43 => ?_)
        have tz43 : (z43).toInt = 8 * (p2).toInt := by rw [ez43]; exact i_mul (by decide) rfl (by omega)
        refine lv_iload_n hx hb dX11_copiesClause_40 rfl (lv_at hl 3 rfl) ?_
        refine lv_iadd hx hb dX11_copiesClause_41 ?_
        refine lv_topi (fun z44 ez44 => ?_)
        have tz44 : (z44).toInt = (z43).toInt + (x7).toInt := by rw [ez44]; exact i_add rfl rfl (by omega)
        refine lv_aload_n hx hb dX11_copiesClause_42 rfl (lv_at hl 0 rfl) ?_
        refine va_get (D := (dC, dI)) (ci := 8) (v := .ref h_let) (C := RX11) (T := TX11) (N := 71) hx hb hw iwX11 hown hK hP 0 rfl rfl 10 (by decide) (hw _ w_f_X11_108) (fun _ h9 => h9) rfl dX11_copiesClause_43 ?_
        refine lv_bipush (v := 8) hx hb dX11_copiesClause_46 (by decide) ?_
        refine lv_iload_n hx hb dX11_copiesClause_48 rfl (lv_at hl 1 rfl) ?_
        refine lv_imul hx hb dX11_copiesClause_49 ?_
        refine lv_topi (fun z45 ez45 => ?_)
        have tz45 : (z45).toInt = 8 * (p1).toInt := by rw [ez45]; exact i_mul (by decide) rfl (by omega)
        refine lv_iload_n hx hb dX11_copiesClause_50 rfl (lv_at hl 3 rfl) ?_
        refine lv_iadd hx hb dX11_copiesClause_51 ?_
        refine lv_topi (fun z46 ez46 => ?_)
        have tz46 : (z46).toInt = (z45).toInt + (x7).toInt := by rw [ez46]; exact i_add rfl rfl (by omega)
        refine va_iald hx hb hK hP 3 2 rfl rfl (i := z46) (vp_in_iff.mpr (by omega)) dX11_copiesClause_52 ?_
        refine lv_topi (fun z47 ez47 => ?_)
        refine va_iast hx hb hK hP hD hS 3 2 rfl rfl (i := z44) (x := z47) (vp_in_iff.mpr (by omega)) dX11_copiesClause_53 (fun H locs hP9 hD9 hS9 => ?_)
        obtain ⟨f48, ef48⟩ : ∃ g : Nat → Int32, g = upd f8 (Int32.toNatClampNeg z44) z47 := ⟨_, rfl⟩
        clear hP hD hS
        have hP : va_P (dC, dI) cls [(h_mm, .inr (8, (mo102 v_mm (.ref h_mny) (.ref h_vrs) (.ref h_let) (.ref h_isn) (.ref h_tem)))), (h_mny, .inl (cy_mny, 32, .inl f2)), (h_vrs, .inl (cy_vrs, 32, .inl f5)), (h_let, .inl (cy_let, 256, .inl f48)), (h_isn, .inl (cy_isn, 192, .inl f_isn)), (h_tem, .inl (cy_tem, 192, .inl f_tem))] H := by rw [ef48]; exact hP9
        have hD : va_D A [(h_mm, .inr (8, (mo102 v_mm (.ref h_mny) (.ref h_vrs) (.ref h_let) (.ref h_isn) (.ref h_tem)))), (h_mny, .inl (cy_mny, 32, .inl f2)), (h_vrs, .inl (cy_vrs, 32, .inl f5)), (h_let, .inl (cy_let, 256, .inl f48)), (h_isn, .inl (cy_isn, 192, .inl f_isn)), (h_tem, .inl (cy_tem, 192, .inl f_tem))] := by rw [ef48]; exact hD9
        have hS := hS9
        clear hP9 hD9 hS9
        clear ef48
        obtain ⟨z49, ez49⟩ : ∃ y : Int32, y = x7 + 1 := ⟨_, rfl⟩
        have tz49 : (z49).toInt = (x7).toInt + 1 := by rw [ez49]; exact i_add rfl (by decide) (by omega)
        refine lv_iinc (v := z49) (lv' := [(3, .int z49), (0, .ref h_mm), (1, .int p1), (2, .int p2)]) hx hb dX11_copiesClause_54 hl (k := 3) rfl (by rw [ez49]; rfl) (by decide) rfl (fun ls hl => ?_)
        refine lv_goto (tgt := 26) hx hb dX11_copiesClause_57 (by decide) ?_
        exact ih10 (z49) (f48) _ _ _ (by omega) (by omega) hP hD hS (lv_sub hl [1, 2, 3, 0] rfl)
  have cst0 : (0 : Int32).toInt = 0 := by decide
  exact lp9 _ (0) (f_let) _ _ _ (by decide) (Nat.le_refl _) hP hD hS (lv_sub hl [1, 2, 3, 0] rfl)

set_option maxHeartbeats 8000000 in
set_option maxRecDepth 100000 in
theorem c_X11_movesNodes (l : Launch) (dC : Nat → ClassId) (dI : Nat → Nat → Nat) (sz : Nat) (h_mm : Nat) (h_nv : Nat) (h_nn : Nat) (h_na : Nat) (h_nb : Nat) (h_nc : Nat) (h_mny : Nat) (h_tem : Nat) (v_mm : Nat → Value) (x_mm_nodes : Int32) (x_mm_reading : Int32) (cy_nv : ClassId) (f_nv : Nat → Int32) (cy_nn : ClassId) (f_nn : Nat → Int64) (cy_na : ClassId) (f_na : Nat → Int32) (cy_nb : ClassId) (f_nb : Nat → Int32) (cy_nc : ClassId) (f_nc : Nat → Int32) (cy_mny : ClassId) (f_mny : Nat → Int32) (cy_tem : ClassId) (f_tem : Nat → Int32) (p1 : Int32) (hh : Nat → Nat) (hx_mm_nodes : 0 ≤ (x_mm_nodes).toInt ∧ (x_mm_nodes).toInt ≤ 1200) (hx_mm_reading : 16 ≤ (x_mm_reading).toInt ∧ (x_mm_reading).toInt ≤ 32) (hf_nv : Rg (-1) 7 f_nv) (hf_na : Rg (-1) 7999 f_na) (hf_nb : Rg (-1) 7999 f_nb) (hf_nc : Rg (-1) 7999 f_nc) (hf_mny : Rg 0 6 f_mny) (hf_tem : Rg 0 7999 f_tem) (q0 : 0 ≤ (p1).toInt ∧ (p1).toInt ≤ 600) (q1 : (p1).toInt ≤ (x_mm_nodes).toInt) (q2 : (x_mm_nodes).toInt ≤ (p1).toInt + 600) (hn_nd : ND (p1).toInt (x_mm_nodes).toInt hh f_na f_nb f_nc) (hn_tm : TM (p1).toInt (x_mm_nodes).toInt hh 16 (x_mm_reading).toInt f_mny f_tem) : Met l yX11_movesNodes (Ws yX11_movesNodes cX11_movesNodes 5 none) (({ frames := 1, cells := 0, slots := 0, locals := 22 } : Room)) (PRE (dC, dI) cls [(cy_nv, .int), (cy_nn, .long), (cy_na, .int), (cy_nb, .int), (cy_nc, .int), (cy_mny, .int), (cy_tem, .int)] [(h_mm, .inr (8, (mo128 v_mm (.ref h_nv) (.ref h_nn) (.ref h_na) (.ref h_nb) (.ref h_nc) (.int x_mm_nodes) (.ref h_mny) (.ref h_tem) (.int x_mm_reading)))), (h_nv, .inl (cy_nv, 8000, .inl f_nv)), (h_nn, .inl (cy_nn, 8000, .inr (.inl f_nn))), (h_na, .inl (cy_na, 8000, .inl f_na)), (h_nb, .inl (cy_nb, 8000, .inl f_nb)), (h_nc, .inl (cy_nc, 8000, .inl f_nc)), (h_mny, .inl (cy_mny, 32, .inl f_mny)), (h_tem, .inl (cy_tem, 192, .inl f_tem))] sz [.ref h_mm, .int p1]) (va_Qv (fun (u : (Int32) × (Nat → Int32) × (Nat → Int64) × (Nat → Int32) × (Nat → Int32) × (Nat → Int32) × (Nat → Int32)) => (0 ≤ (u.1).toInt ∧ (u.1).toInt ≤ 1200) ∧ (Rg (-1) 7 u.2.1) ∧ (Rg (-1) 7999 u.2.2.2.1) ∧ (Rg (-1) 7999 u.2.2.2.2.1) ∧ (Rg (-1) 7999 u.2.2.2.2.2.1) ∧ (Rg 0 7999 u.2.2.2.2.2.2) ∧ ((u.1).toInt = (x_mm_nodes).toInt - (p1).toInt) ∧ (ND 0 (u.1).toInt (hsh hh (p1).toInt) u.2.2.2.1 u.2.2.2.2.1 u.2.2.2.2.2.1) ∧ (TM 0 (u.1).toInt (hsh hh (p1).toInt) 16 (x_mm_reading).toInt f_mny u.2.2.2.2.2.2) ∧ (VSH (RVW f_nv f_nn f_na f_nb f_nc) (RVW u.2.1 u.2.2.1 u.2.2.2.1 u.2.2.2.2.1 u.2.2.2.2.2.1) ((p1).toInt).toNat ((p1).toInt).toNat ((x_mm_nodes).toInt).toNat) ∧ (TME (p1).toInt (x_mm_reading).toInt (x_mm_reading).toInt 0 f_mny f_tem u.2.2.2.2.2.2)) (fun (u : (Int32) × (Nat → Int32) × (Nat → Int64) × (Nat → Int32) × (Nat → Int32) × (Nat → Int32) × (Nat → Int32)) (t : State) => va_P (dC, dI) cls [(h_mm, .inr (8, (mo128 v_mm (.ref h_nv) (.ref h_nn) (.ref h_na) (.ref h_nb) (.ref h_nc) (.int u.1) (.ref h_mny) (.ref h_tem) (.int x_mm_reading)))), (h_nv, .inl (cy_nv, 8000, .inl u.2.1)), (h_nn, .inl (cy_nn, 8000, .inr (.inl u.2.2.1))), (h_na, .inl (cy_na, 8000, .inl u.2.2.2.1)), (h_nb, .inl (cy_nb, 8000, .inl u.2.2.2.2.1)), (h_nc, .inl (cy_nc, 8000, .inl u.2.2.2.2.2.1)), (h_mny, .inl (cy_mny, 32, .inl f_mny)), (h_tem, .inl (cy_tem, 192, .inl u.2.2.2.2.2.2))] t.heap ∧ va_D (va_A [(h_mm, .inr (8, (mo128 v_mm (.ref h_nv) (.ref h_nn) (.ref h_na) (.ref h_nb) (.ref h_nc) (.int x_mm_nodes) (.ref h_mny) (.ref h_tem) (.int x_mm_reading)))), (h_nv, .inl (cy_nv, 8000, .inl f_nv)), (h_nn, .inl (cy_nn, 8000, .inr (.inl f_nn))), (h_na, .inl (cy_na, 8000, .inl f_na)), (h_nb, .inl (cy_nb, 8000, .inl f_nb)), (h_nc, .inl (cy_nc, 8000, .inl f_nc)), (h_mny, .inl (cy_mny, 32, .inl f_mny)), (h_tem, .inl (cy_tem, 192, .inl f_tem))] sz) [(h_mm, .inr (8, (mo128 v_mm (.ref h_nv) (.ref h_nn) (.ref h_na) (.ref h_nb) (.ref h_nc) (.int u.1) (.ref h_mny) (.ref h_tem) (.int x_mm_reading)))), (h_nv, .inl (cy_nv, 8000, .inl u.2.1)), (h_nn, .inl (cy_nn, 8000, .inr (.inl u.2.2.1))), (h_na, .inl (cy_na, 8000, .inl u.2.2.2.1)), (h_nb, .inl (cy_nb, 8000, .inl u.2.2.2.2.1)), (h_nc, .inl (cy_nc, 8000, .inl u.2.2.2.2.2.1)), (h_mny, .inl (cy_mny, 32, .inl f_mny)), (h_tem, .inl (cy_tem, 192, .inl u.2.2.2.2.2.2))]) (va_A [(h_mm, .inr (8, (mo128 v_mm (.ref h_nv) (.ref h_nn) (.ref h_na) (.ref h_nb) (.ref h_nc) (.int x_mm_nodes) (.ref h_mny) (.ref h_tem) (.int x_mm_reading)))), (h_nv, .inl (cy_nv, 8000, .inl f_nv)), (h_nn, .inl (cy_nn, 8000, .inr (.inl f_nn))), (h_na, .inl (cy_na, 8000, .inl f_na)), (h_nb, .inl (cy_nb, 8000, .inl f_nb)), (h_nc, .inl (cy_nc, 8000, .inl f_nc)), (h_mny, .inl (cy_mny, 32, .inl f_mny)), (h_tem, .inl (cy_tem, 192, .inl f_tem))] sz)) 0 0 (va_A [(h_mm, .inr (8, (mo128 v_mm (.ref h_nv) (.ref h_nn) (.ref h_na) (.ref h_nb) (.ref h_nc) (.int x_mm_nodes) (.ref h_mny) (.ref h_tem) (.int x_mm_reading)))), (h_nv, .inl (cy_nv, 8000, .inl f_nv)), (h_nn, .inl (cy_nn, 8000, .inr (.inl f_nn))), (h_na, .inl (cy_na, 8000, .inl f_na)), (h_nb, .inl (cy_nb, 8000, .inl f_nb)), (h_nc, .inl (cy_nc, 8000, .inl f_nc)), (h_mny, .inl (cy_mny, 32, .inl f_mny)), (h_tem, .inl (cy_tem, 192, .inl f_tem))] sz) := by
  refine Met.ofW (cc := cX11_movesNodes) (maxL := 5) (ret := none) (by decide) rfl ?_
  intro p e s m args below meth c s₁ B hml hv
  obtain ⟨rfl, hsz, hP, hK, hD0, hN⟩ := hv
  have hx := B.exec
  have hb := B.bytes
  have hr := B.returns
  have hts := atoms_spec (ws := Ws yX11_movesNodes cX11_movesNodes 5 none) B.pre
  have hT : ∀ w ∈ WALL, w ∈ Ws yX11_movesNodes cX11_movesNodes 5 none := fun w h => List.mem_cons_of_mem _ h
  have hw := fun w (h : w ∈ WALL) => hts w (hT w h)
  have hown : s.vm.findClass RX11 = some m.cls := findClass_of_methodNamed B.named
  have hlocks := B.notSynchronized
  subst hsz
  have hD := hD0.self (sz := s.heap.size)
  generalize hAe : va_A [(h_mm, .inr (8, (mo128 v_mm (.ref h_nv) (.ref h_nn) (.ref h_na) (.ref h_nb) (.ref h_nc) (.int x_mm_nodes) (.ref h_mny) (.ref h_tem) (.int x_mm_reading)))), (h_nv, .inl (cy_nv, 8000, .inl f_nv)), (h_nn, .inl (cy_nn, 8000, .inr (.inl f_nn))), (h_na, .inl (cy_na, 8000, .inl f_na)), (h_nb, .inl (cy_nb, 8000, .inl f_nb)), (h_nc, .inl (cy_nc, 8000, .inl f_nc)), (h_mny, .inl (cy_mny, 32, .inl f_mny)), (h_tem, .inl (cy_tem, 192, .inl f_tem))] s.heap.size = A at hD ⊢
  have hA : ∀ q : Nat, s.heap.size ≤ q → A q := fun q h => by rw [← hAe]; exact Or.inr h
  have hS : va_S A s.heap s.heap [] := va_S.rf
  have hl := lv_entry ([.ref h_mm, .int p1]) (n := 5) (Nat.le_of_ble_eq_true rfl)
  rw [lg_entry_eq]
  generalize (lg_sl ([.ref h_mm, .int p1]) ++ List.replicate (5 - (lg_sl ([.ref h_mm, .int p1])).length) Slot.unset).toArray = ls at hl ⊢
  have hl : lv_has ls 5 [(0, .ref h_mm), (1, .int p1)] := hl
  refine lv_aload_n hx hb dX11_movesNodes_0 rfl (lv_at hl 0 rfl) ?_
  refine va_get (D := (dC, dI)) (ci := 8) (v := .int x_mm_nodes) (C := RX11) (T := TX11) (N := 71) hx hb hw iwX11 hown hK hP 0 rfl rfl 6 (by decide) (hw _ w_f_X11_20) (fun _ h9 => h9) rfl dX11_movesNodes_1 ?_
  refine lv_iload_n hx hb dX11_movesNodes_4 rfl (lv_at hl 1 rfl) ?_
  refine lv_isub hx hb dX11_movesNodes_5 ?_
  refine lv_topi (fun z1 ez1 => ?_)
  have tz1 : (z1).toInt = (x_mm_nodes).toInt - (p1).toInt := by rw [ez1]; exact i_sub rfl rfl (by omega)
  refine lv_istore_n (lv' := [(2, .int z1), (0, .ref h_mm), (1, .int p1)]) hx hb dX11_movesNodes_6 rfl hl (by decide) rfl (fun ls hl => ?_)
  refine lv_iconst (v := 0) hx hb dX11_movesNodes_7 (by decide) ?_
  have mv2 : MV (p1).toInt (x_mm_nodes).toInt hh 0 f_na := mv_zA hn_nd
  have mv3 : MV (p1).toInt (x_mm_nodes).toInt hh 0 f_nb := mv_zB hn_nd
  have mv4 : MV (p1).toInt (x_mm_nodes).toInt hh 0 f_nc := mv_zC hn_nd
  refine lv_istore_n (lv' := [(3, .int 0), (2, .int z1), (0, .ref h_mm), (1, .int p1)]) hx hb dX11_movesNodes_8 rfl hl (by decide) rfl (fun ls hl => ?_)
  have lp11 : ∀ (n : Nat) (x5 : Int32) (f6 : Nat → Int32) (f7 : Nat → Int64) (f8 : Nat → Int32) (f9 : Nat → Int32) (f10 : Nat → Int32) (H : Heap) (locs : List Loc) (ls : Array Slot), (0 ≤ (x5).toInt ∧ (x5).toInt ≤ 600) → (Rg (-1) 7 f6) → (Rg (-1) 7999 f8) → (Rg (-1) 7999 f9) → (Rg (-1) 7999 f10) → ((x5).toInt ≤ (z1).toInt) → (MV (p1).toInt (x_mm_nodes).toInt hh (x5).toInt f8) → (MV (p1).toInt (x_mm_nodes).toInt hh (x5).toInt f9) → (MV (p1).toInt (x_mm_nodes).toInt hh (x5).toInt f10) → (MVE (p1).toInt (x5).toInt f_nv f6) → (MVE (p1).toInt (x5).toInt f_nn f7) → (MVC (p1).toInt (x5).toInt f_na f8) → (MVC (p1).toInt (x5).toInt f_nb f9) → (MVC (p1).toInt (x5).toInt f_nc f10) → (600 - (x5).toInt).toNat + 1 ≤ n → va_P (dC, dI) cls [(h_mm, .inr (8, (mo128 v_mm (.ref h_nv) (.ref h_nn) (.ref h_na) (.ref h_nb) (.ref h_nc) (.int x_mm_nodes) (.ref h_mny) (.ref h_tem) (.int x_mm_reading)))), (h_nv, .inl (cy_nv, 8000, .inl f6)), (h_nn, .inl (cy_nn, 8000, .inr (.inl f7))), (h_na, .inl (cy_na, 8000, .inl f8)), (h_nb, .inl (cy_nb, 8000, .inl f9)), (h_nc, .inl (cy_nc, 8000, .inl f10)), (h_mny, .inl (cy_mny, 32, .inl f_mny)), (h_tem, .inl (cy_tem, 192, .inl f_tem))] H → va_D A [(h_mm, .inr (8, (mo128 v_mm (.ref h_nv) (.ref h_nn) (.ref h_na) (.ref h_nb) (.ref h_nc) (.int x_mm_nodes) (.ref h_mny) (.ref h_tem) (.int x_mm_reading)))), (h_nv, .inl (cy_nv, 8000, .inl f6)), (h_nn, .inl (cy_nn, 8000, .inr (.inl f7))), (h_na, .inl (cy_na, 8000, .inl f8)), (h_nb, .inl (cy_nb, 8000, .inl f9)), (h_nc, .inl (cy_nc, 8000, .inl f10)), (h_mny, .inl (cy_mny, 32, .inl f_mny)), (h_tem, .inl (cy_tem, 192, .inl f_tem))] → va_S A s.heap H locs → lv_has ls 5 [(0, .ref h_mm), (1, .int p1), (2, .int z1), (3, .int x5)] → W p l e ({ frames := 1, cells := 0, slots := 0, locals := 22 } : Room) s m ([.ref h_mm, .int p1] : List Value).toArray below meth c H locs 0 0 (MQ below (va_Qv (fun (u : (Int32) × (Nat → Int32) × (Nat → Int64) × (Nat → Int32) × (Nat → Int32) × (Nat → Int32) × (Nat → Int32)) => (0 ≤ (u.1).toInt ∧ (u.1).toInt ≤ 1200) ∧ (Rg (-1) 7 u.2.1) ∧ (Rg (-1) 7999 u.2.2.2.1) ∧ (Rg (-1) 7999 u.2.2.2.2.1) ∧ (Rg (-1) 7999 u.2.2.2.2.2.1) ∧ (Rg 0 7999 u.2.2.2.2.2.2) ∧ ((u.1).toInt = (x_mm_nodes).toInt - (p1).toInt) ∧ (ND 0 (u.1).toInt (hsh hh (p1).toInt) u.2.2.2.1 u.2.2.2.2.1 u.2.2.2.2.2.1) ∧ (TM 0 (u.1).toInt (hsh hh (p1).toInt) 16 (x_mm_reading).toInt f_mny u.2.2.2.2.2.2) ∧ (VSH (RVW f_nv f_nn f_na f_nb f_nc) (RVW u.2.1 u.2.2.1 u.2.2.2.1 u.2.2.2.2.1 u.2.2.2.2.2.1) ((p1).toInt).toNat ((p1).toInt).toNat ((x_mm_nodes).toInt).toNat) ∧ (TME (p1).toInt (x_mm_reading).toInt (x_mm_reading).toInt 0 f_mny f_tem u.2.2.2.2.2.2)) (fun (u : (Int32) × (Nat → Int32) × (Nat → Int64) × (Nat → Int32) × (Nat → Int32) × (Nat → Int32) × (Nat → Int32)) (t : State) => va_P (dC, dI) cls [(h_mm, .inr (8, (mo128 v_mm (.ref h_nv) (.ref h_nn) (.ref h_na) (.ref h_nb) (.ref h_nc) (.int u.1) (.ref h_mny) (.ref h_tem) (.int x_mm_reading)))), (h_nv, .inl (cy_nv, 8000, .inl u.2.1)), (h_nn, .inl (cy_nn, 8000, .inr (.inl u.2.2.1))), (h_na, .inl (cy_na, 8000, .inl u.2.2.2.1)), (h_nb, .inl (cy_nb, 8000, .inl u.2.2.2.2.1)), (h_nc, .inl (cy_nc, 8000, .inl u.2.2.2.2.2.1)), (h_mny, .inl (cy_mny, 32, .inl f_mny)), (h_tem, .inl (cy_tem, 192, .inl u.2.2.2.2.2.2))] t.heap ∧ va_D A [(h_mm, .inr (8, (mo128 v_mm (.ref h_nv) (.ref h_nn) (.ref h_na) (.ref h_nb) (.ref h_nc) (.int u.1) (.ref h_mny) (.ref h_tem) (.int x_mm_reading)))), (h_nv, .inl (cy_nv, 8000, .inl u.2.1)), (h_nn, .inl (cy_nn, 8000, .inr (.inl u.2.2.1))), (h_na, .inl (cy_na, 8000, .inl u.2.2.2.1)), (h_nb, .inl (cy_nb, 8000, .inl u.2.2.2.2.1)), (h_nc, .inl (cy_nc, 8000, .inl u.2.2.2.2.2.1)), (h_mny, .inl (cy_mny, 32, .inl f_mny)), (h_tem, .inl (cy_tem, 192, .inl u.2.2.2.2.2.2))]) A) ([.ref h_mm, .int p1] : List Value).toArray s 0 0 A) (F0 m 9 ls []) := by
    clear hP hD hS hl
    intro n
    induction n with
    | zero => intro x5 f6 f7 f8 f9 f10 H locs ls klp11_0 hf6 hf8 hf9 hf10 klp11_5 klp11_6 klp11_7 klp11_8 klp11_9 klp11_10 klp11_11 klp11_12 klp11_13 hm hP hD hS hl; exact False.elim (by omega)
    | succ n ih => 
      intro x5 f6 f7 f8 f9 f10 H locs ls klp11_0 hf6 hf8 hf9 hf10 klp11_5 klp11_6 klp11_7 klp11_8 klp11_9 klp11_10 klp11_11 klp11_12 klp11_13 hm hP hD hS hl
      have ih12 := ih
      clear ih
      refine lv_iload_n hx hb dX11_movesNodes_9 rfl (lv_at hl 3 rfl) ?_
      refine lv_iload_n hx hb dX11_movesNodes_10 rfl (lv_at hl 2 rfl) ?_
      refine lv_icmp_ge (tgt := 144) hx hb dX11_movesNodes_11 (by decide) (fun c13 => ?_) (fun c13 => ?_)
      · have kc13 := (cv_le (rfl : (z1).toInt = (z1).toInt) (rfl : (x5).toInt = (x5).toInt)).mp c13
        have nd14 : ND 0 (z1).toInt (hsh hh (p1).toInt) f8 f9 f10 := nd_mv hn_nd klp11_6 klp11_7 klp11_8 (by omega) (by omega) (by omega)
        have vs15 : VSH (RVW f_nv f_nn f_na f_nb f_nc) (RVW f6 f7 f8 f9 f10) ((p1).toInt).toNat ((p1).toInt).toNat ((x_mm_nodes).toInt).toNat := vsh_mv (k := (x5).toInt) (by omega) (by omega) hn_nd klp11_9 klp11_10 klp11_11 klp11_12 klp11_13
        refine lv_aload_n hx hb dX11_movesNodes_144 rfl (lv_at hl 0 rfl) ?_
        refine lv_iload_n hx hb dX11_movesNodes_145 rfl (lv_at hl 2 rfl) ?_
        refine va_put (D := (dC, dI)) (ci := 8) (v := .int z1) (ty := tyX11 6) (C := RX11) (T := TX11) (N := 71) hx hb hw iwX11 tyX11 tyX11_ok nmX11 hown hK hP hD hS 0 rfl rfl 6 (by decide) (hw _ w_f_X11_20) (fun _ h9 => h9) rfl (tyX11_ok 6 (by decide)) rfl rfl (Nat.le_of_ble_eq_true rfl) dX11_movesNodes_146 (fun H locs hP9 hD9 hS9 => ?_)
        clear hP hD hS
        have hP : va_P (dC, dI) cls [(h_mm, .inr (8, (mo128 v_mm (.ref h_nv) (.ref h_nn) (.ref h_na) (.ref h_nb) (.ref h_nc) (.int z1) (.ref h_mny) (.ref h_tem) (.int x_mm_reading)))), (h_nv, .inl (cy_nv, 8000, .inl f6)), (h_nn, .inl (cy_nn, 8000, .inr (.inl f7))), (h_na, .inl (cy_na, 8000, .inl f8)), (h_nb, .inl (cy_nb, 8000, .inl f9)), (h_nc, .inl (cy_nc, 8000, .inl f10)), (h_mny, .inl (cy_mny, 32, .inl f_mny)), (h_tem, .inl (cy_tem, 192, .inl f_tem))] H := hP9
        have hD : va_D A [(h_mm, .inr (8, (mo128 v_mm (.ref h_nv) (.ref h_nn) (.ref h_na) (.ref h_nb) (.ref h_nc) (.int z1) (.ref h_mny) (.ref h_tem) (.int x_mm_reading)))), (h_nv, .inl (cy_nv, 8000, .inl f6)), (h_nn, .inl (cy_nn, 8000, .inr (.inl f7))), (h_na, .inl (cy_na, 8000, .inl f8)), (h_nb, .inl (cy_nb, 8000, .inl f9)), (h_nc, .inl (cy_nc, 8000, .inl f10)), (h_mny, .inl (cy_mny, 32, .inl f_mny)), (h_tem, .inl (cy_tem, 192, .inl f_tem))] := hD9
        have hS := hS9
        clear hP9 hD9 hS9
        refine lv_bipush (v := 16) hx hb dX11_movesNodes_149 (by decide) ?_
        have tv16 : TMV (p1).toInt (x_mm_nodes).toInt hh (x_mm_reading).toInt 16 0 f_mny f_tem := tmv_zero hn_tm
        refine lv_istore_n (lv' := [(3, .int 16), (0, .ref h_mm), (1, .int p1), (2, .int z1)]) hx hb dX11_movesNodes_151 rfl hl (by decide) rfl (fun ls hl => ?_)
        have lp19 : ∀ (n : Nat) (x17 : Int32) (f18 : Nat → Int32) (H : Heap) (locs : List Loc) (ls : Array Slot), (16 ≤ (x17).toInt ∧ (x17).toInt ≤ 32) → (Rg 0 7999 f18) → ((x17).toInt ≤ (x_mm_reading).toInt) → (TMV (p1).toInt (x_mm_nodes).toInt hh (x_mm_reading).toInt (x17).toInt 0 f_mny f18) → (TME (p1).toInt (x_mm_reading).toInt (x17).toInt 0 f_mny f_tem f18) → (32 - (x17).toInt).toNat + 1 ≤ n → va_P (dC, dI) cls [(h_mm, .inr (8, (mo128 v_mm (.ref h_nv) (.ref h_nn) (.ref h_na) (.ref h_nb) (.ref h_nc) (.int z1) (.ref h_mny) (.ref h_tem) (.int x_mm_reading)))), (h_nv, .inl (cy_nv, 8000, .inl f6)), (h_nn, .inl (cy_nn, 8000, .inr (.inl f7))), (h_na, .inl (cy_na, 8000, .inl f8)), (h_nb, .inl (cy_nb, 8000, .inl f9)), (h_nc, .inl (cy_nc, 8000, .inl f10)), (h_mny, .inl (cy_mny, 32, .inl f_mny)), (h_tem, .inl (cy_tem, 192, .inl f18))] H → va_D A [(h_mm, .inr (8, (mo128 v_mm (.ref h_nv) (.ref h_nn) (.ref h_na) (.ref h_nb) (.ref h_nc) (.int z1) (.ref h_mny) (.ref h_tem) (.int x_mm_reading)))), (h_nv, .inl (cy_nv, 8000, .inl f6)), (h_nn, .inl (cy_nn, 8000, .inr (.inl f7))), (h_na, .inl (cy_na, 8000, .inl f8)), (h_nb, .inl (cy_nb, 8000, .inl f9)), (h_nc, .inl (cy_nc, 8000, .inl f10)), (h_mny, .inl (cy_mny, 32, .inl f_mny)), (h_tem, .inl (cy_tem, 192, .inl f18))] → va_S A s.heap H locs → lv_has ls 5 [(0, .ref h_mm), (1, .int p1), (2, .int z1), (3, .int x17)] → W p l e ({ frames := 1, cells := 0, slots := 0, locals := 22 } : Room) s m ([.ref h_mm, .int p1] : List Value).toArray below meth c H locs 0 0 (MQ below (va_Qv (fun (u : (Int32) × (Nat → Int32) × (Nat → Int64) × (Nat → Int32) × (Nat → Int32) × (Nat → Int32) × (Nat → Int32)) => (0 ≤ (u.1).toInt ∧ (u.1).toInt ≤ 1200) ∧ (Rg (-1) 7 u.2.1) ∧ (Rg (-1) 7999 u.2.2.2.1) ∧ (Rg (-1) 7999 u.2.2.2.2.1) ∧ (Rg (-1) 7999 u.2.2.2.2.2.1) ∧ (Rg 0 7999 u.2.2.2.2.2.2) ∧ ((u.1).toInt = (x_mm_nodes).toInt - (p1).toInt) ∧ (ND 0 (u.1).toInt (hsh hh (p1).toInt) u.2.2.2.1 u.2.2.2.2.1 u.2.2.2.2.2.1) ∧ (TM 0 (u.1).toInt (hsh hh (p1).toInt) 16 (x_mm_reading).toInt f_mny u.2.2.2.2.2.2) ∧ (VSH (RVW f_nv f_nn f_na f_nb f_nc) (RVW u.2.1 u.2.2.1 u.2.2.2.1 u.2.2.2.2.1 u.2.2.2.2.2.1) ((p1).toInt).toNat ((p1).toInt).toNat ((x_mm_nodes).toInt).toNat) ∧ (TME (p1).toInt (x_mm_reading).toInt (x_mm_reading).toInt 0 f_mny f_tem u.2.2.2.2.2.2)) (fun (u : (Int32) × (Nat → Int32) × (Nat → Int64) × (Nat → Int32) × (Nat → Int32) × (Nat → Int32) × (Nat → Int32)) (t : State) => va_P (dC, dI) cls [(h_mm, .inr (8, (mo128 v_mm (.ref h_nv) (.ref h_nn) (.ref h_na) (.ref h_nb) (.ref h_nc) (.int u.1) (.ref h_mny) (.ref h_tem) (.int x_mm_reading)))), (h_nv, .inl (cy_nv, 8000, .inl u.2.1)), (h_nn, .inl (cy_nn, 8000, .inr (.inl u.2.2.1))), (h_na, .inl (cy_na, 8000, .inl u.2.2.2.1)), (h_nb, .inl (cy_nb, 8000, .inl u.2.2.2.2.1)), (h_nc, .inl (cy_nc, 8000, .inl u.2.2.2.2.2.1)), (h_mny, .inl (cy_mny, 32, .inl f_mny)), (h_tem, .inl (cy_tem, 192, .inl u.2.2.2.2.2.2))] t.heap ∧ va_D A [(h_mm, .inr (8, (mo128 v_mm (.ref h_nv) (.ref h_nn) (.ref h_na) (.ref h_nb) (.ref h_nc) (.int u.1) (.ref h_mny) (.ref h_tem) (.int x_mm_reading)))), (h_nv, .inl (cy_nv, 8000, .inl u.2.1)), (h_nn, .inl (cy_nn, 8000, .inr (.inl u.2.2.1))), (h_na, .inl (cy_na, 8000, .inl u.2.2.2.1)), (h_nb, .inl (cy_nb, 8000, .inl u.2.2.2.2.1)), (h_nc, .inl (cy_nc, 8000, .inl u.2.2.2.2.2.1)), (h_mny, .inl (cy_mny, 32, .inl f_mny)), (h_tem, .inl (cy_tem, 192, .inl u.2.2.2.2.2.2))]) A) ([.ref h_mm, .int p1] : List Value).toArray s 0 0 A) (F0 m 152 ls []) := by
          clear hP hD hS hl
          intro n
          induction n with
          | zero => intro x17 f18 H locs ls klp19_0 hf18 klp19_2 klp19_3 klp19_4 hm hP hD hS hl; exact False.elim (by omega)
          | succ n ih => 
            intro x17 f18 H locs ls klp19_0 hf18 klp19_2 klp19_3 klp19_4 hm hP hD hS hl
            have ih20 := ih
            clear ih
            refine lv_iload_n hx hb dX11_movesNodes_152 rfl (lv_at hl 3 rfl) ?_
            refine lv_aload_n hx hb dX11_movesNodes_153 rfl (lv_at hl 0 rfl) ?_
            refine va_get (D := (dC, dI)) (ci := 8) (v := .int x_mm_reading) (C := RX11) (T := TX11) (N := 71) hx hb hw iwX11 hown hK hP 0 rfl rfl 24 (by decide) (hw _ w_f_X11_105) (fun _ h9 => h9) rfl dX11_movesNodes_154 ?_
            refine lv_icmp_ge (tgt := 212) hx hb dX11_movesNodes_157 (by decide) (fun c21 => ?_) (fun c21 => ?_)
            · have kc21 := (cv_le (rfl : (x_mm_reading).toInt = (x_mm_reading).toInt) (rfl : (x17).toInt = (x17).toInt)).mp c21
              have tm22 : TM 0 (z1).toInt (hsh hh (p1).toInt) 16 (x_mm_reading).toInt f_mny f18 := tm_tmv klp19_3 (by omega) (by omega)
              refine W.widen (k := 0) (n := 0) (Nat.le_of_ble_eq_true rfl) (Nat.le_of_ble_eq_true rfl) ?_
              have w23 : 0 ≤ ((z1)).toInt ∧ ((z1)).toInt ≤ 1200 := by omega
              have w24 : ((z1)).toInt = (x_mm_nodes).toInt - (p1).toInt := by omega
              have w25 : ND 0 ((z1)).toInt (hsh hh (p1).toInt) (f8) (f9) (f10) := nd14
              have w26 : TM 0 ((z1)).toInt (hsh hh (p1).toInt) 16 (x_mm_reading).toInt f_mny (f18) := tm22
              have w27 : VSH (RVW f_nv f_nn f_na f_nb f_nc) (RVW (f6) (f7) (f8) (f9) (f10)) ((p1).toInt).toNat ((p1).toInt).toNat ((x_mm_nodes).toInt).toNat := vs15
              have w28 : TME (p1).toInt (x_mm_reading).toInt (x_mm_reading).toInt 0 f_mny f_tem (f18) := (tme_cast klp19_4 (by omega) (by omega))
              exact W.vret hx hb hr (fun t ht hW => ⟨⟨(z1, f6, f7, f8, f9, f10, f18), rfl, ⟨w23, hf6, hf8, hf9, hf10, hf18, w24, w25, w26, w27, w28⟩, by rw [ht]; exact hP, hD⟩, hS.F ht⟩) hS.2.2 dX11_movesNodes_212
            · have kc21 := (not_congr (cv_le (rfl : (x_mm_reading).toInt = (x_mm_reading).toInt) (rfl : (x17).toInt = (x17).toInt))).mp c21
              refine lv_iconst (v := 0) hx hb dX11_movesNodes_160 (by decide) ?_
              refine lv_istore (lv' := [(4, .int 0), (0, .ref h_mm), (1, .int p1), (2, .int z1), (3, .int x17)]) hx hb dX11_movesNodes_161 hl (by decide) rfl (fun ls hl => ?_)
              have lp31 : ∀ (n : Nat) (x29 : Int32) (f30 : Nat → Int32) (H : Heap) (locs : List Loc) (ls : Array Slot), (0 ≤ (x29).toInt ∧ (x29).toInt ≤ 6) → (Rg 0 7999 f30) → (TMV (p1).toInt (x_mm_nodes).toInt hh (x_mm_reading).toInt (x17).toInt (x29).toInt f_mny f30) → (TME (p1).toInt (x_mm_reading).toInt (x17).toInt (x29).toInt f_mny f_tem f30) → (6 - (x29).toInt).toNat + 1 ≤ n → va_P (dC, dI) cls [(h_mm, .inr (8, (mo128 v_mm (.ref h_nv) (.ref h_nn) (.ref h_na) (.ref h_nb) (.ref h_nc) (.int z1) (.ref h_mny) (.ref h_tem) (.int x_mm_reading)))), (h_nv, .inl (cy_nv, 8000, .inl f6)), (h_nn, .inl (cy_nn, 8000, .inr (.inl f7))), (h_na, .inl (cy_na, 8000, .inl f8)), (h_nb, .inl (cy_nb, 8000, .inl f9)), (h_nc, .inl (cy_nc, 8000, .inl f10)), (h_mny, .inl (cy_mny, 32, .inl f_mny)), (h_tem, .inl (cy_tem, 192, .inl f30))] H → va_D A [(h_mm, .inr (8, (mo128 v_mm (.ref h_nv) (.ref h_nn) (.ref h_na) (.ref h_nb) (.ref h_nc) (.int z1) (.ref h_mny) (.ref h_tem) (.int x_mm_reading)))), (h_nv, .inl (cy_nv, 8000, .inl f6)), (h_nn, .inl (cy_nn, 8000, .inr (.inl f7))), (h_na, .inl (cy_na, 8000, .inl f8)), (h_nb, .inl (cy_nb, 8000, .inl f9)), (h_nc, .inl (cy_nc, 8000, .inl f10)), (h_mny, .inl (cy_mny, 32, .inl f_mny)), (h_tem, .inl (cy_tem, 192, .inl f30))] → va_S A s.heap H locs → lv_has ls 5 [(0, .ref h_mm), (1, .int p1), (2, .int z1), (3, .int x17), (4, .int x29)] → W p l e ({ frames := 1, cells := 0, slots := 0, locals := 22 } : Room) s m ([.ref h_mm, .int p1] : List Value).toArray below meth c H locs 0 0 (MQ below (va_Qv (fun (u : (Int32) × (Nat → Int32) × (Nat → Int64) × (Nat → Int32) × (Nat → Int32) × (Nat → Int32) × (Nat → Int32)) => (0 ≤ (u.1).toInt ∧ (u.1).toInt ≤ 1200) ∧ (Rg (-1) 7 u.2.1) ∧ (Rg (-1) 7999 u.2.2.2.1) ∧ (Rg (-1) 7999 u.2.2.2.2.1) ∧ (Rg (-1) 7999 u.2.2.2.2.2.1) ∧ (Rg 0 7999 u.2.2.2.2.2.2) ∧ ((u.1).toInt = (x_mm_nodes).toInt - (p1).toInt) ∧ (ND 0 (u.1).toInt (hsh hh (p1).toInt) u.2.2.2.1 u.2.2.2.2.1 u.2.2.2.2.2.1) ∧ (TM 0 (u.1).toInt (hsh hh (p1).toInt) 16 (x_mm_reading).toInt f_mny u.2.2.2.2.2.2) ∧ (VSH (RVW f_nv f_nn f_na f_nb f_nc) (RVW u.2.1 u.2.2.1 u.2.2.2.1 u.2.2.2.2.1 u.2.2.2.2.2.1) ((p1).toInt).toNat ((p1).toInt).toNat ((x_mm_nodes).toInt).toNat) ∧ (TME (p1).toInt (x_mm_reading).toInt (x_mm_reading).toInt 0 f_mny f_tem u.2.2.2.2.2.2)) (fun (u : (Int32) × (Nat → Int32) × (Nat → Int64) × (Nat → Int32) × (Nat → Int32) × (Nat → Int32) × (Nat → Int32)) (t : State) => va_P (dC, dI) cls [(h_mm, .inr (8, (mo128 v_mm (.ref h_nv) (.ref h_nn) (.ref h_na) (.ref h_nb) (.ref h_nc) (.int u.1) (.ref h_mny) (.ref h_tem) (.int x_mm_reading)))), (h_nv, .inl (cy_nv, 8000, .inl u.2.1)), (h_nn, .inl (cy_nn, 8000, .inr (.inl u.2.2.1))), (h_na, .inl (cy_na, 8000, .inl u.2.2.2.1)), (h_nb, .inl (cy_nb, 8000, .inl u.2.2.2.2.1)), (h_nc, .inl (cy_nc, 8000, .inl u.2.2.2.2.2.1)), (h_mny, .inl (cy_mny, 32, .inl f_mny)), (h_tem, .inl (cy_tem, 192, .inl u.2.2.2.2.2.2))] t.heap ∧ va_D A [(h_mm, .inr (8, (mo128 v_mm (.ref h_nv) (.ref h_nn) (.ref h_na) (.ref h_nb) (.ref h_nc) (.int u.1) (.ref h_mny) (.ref h_tem) (.int x_mm_reading)))), (h_nv, .inl (cy_nv, 8000, .inl u.2.1)), (h_nn, .inl (cy_nn, 8000, .inr (.inl u.2.2.1))), (h_na, .inl (cy_na, 8000, .inl u.2.2.2.1)), (h_nb, .inl (cy_nb, 8000, .inl u.2.2.2.2.1)), (h_nc, .inl (cy_nc, 8000, .inl u.2.2.2.2.2.1)), (h_mny, .inl (cy_mny, 32, .inl f_mny)), (h_tem, .inl (cy_tem, 192, .inl u.2.2.2.2.2.2))]) A) ([.ref h_mm, .int p1] : List Value).toArray s 0 0 A) (F0 m 163 ls []) := by
                clear hP hD hS hl
                intro n
                induction n with
                | zero => intro x29 f30 H locs ls klp31_0 hf30 klp31_2 klp31_3 hm hP hD hS hl; exact False.elim (by omega)
                | succ n ih => 
                  intro x29 f30 H locs ls klp31_0 hf30 klp31_2 klp31_3 hm hP hD hS hl
                  have ih32 := ih
                  clear ih
                  refine lv_iload hx hb dX11_movesNodes_163 (lv_at hl 4 rfl) ?_
                  refine lv_aload_n hx hb dX11_movesNodes_165 rfl (lv_at hl 0 rfl) ?_
                  refine va_get (D := (dC, dI)) (ci := 8) (v := .ref h_mny) (C := RX11) (T := TX11) (N := 71) hx hb hw iwX11 hown hK hP 0 rfl rfl 8 (by decide) (hw _ w_f_X11_142) (fun _ h9 => h9) rfl dX11_movesNodes_166 ?_
                  refine lv_iload_n hx hb dX11_movesNodes_169 rfl (lv_at hl 3 rfl) ?_
                  refine va_iald hx hb hK hP 6 5 rfl rfl (i := x17) (vp_in_iff.mpr (by omega)) dX11_movesNodes_170 ?_
                  refine lv_topi (fun z33 ez33 => ?_)
                  have rz33 : 0 ≤ (z33).toInt ∧ (z33).toInt ≤ 6 := by rw [ez33]; exact hf_mny _
                  refine lv_icmp_ge (tgt := 206) hx hb dX11_movesNodes_171 (by decide) (fun c34 => ?_) (fun c34 => ?_)
                  · have kc34 := (cv_le (rfl : (z33).toInt = (z33).toInt) (rfl : (x29).toInt = (x29).toInt)).mp c34
                    have mzz33 : (f_mny (Int32.toNatClampNeg x17)).toInt = (z33).toInt := by rw [ez33]
                    have tv35 : TMV (p1).toInt (x_mm_nodes).toInt hh (x_mm_reading).toInt ((x17).toInt + 1) 0 f_mny f30 := tmv_next (i := x17) klp31_2 rfl (by omega) (by omega)
                    have te36 : TME (p1).toInt (x_mm_reading).toInt ((x17).toInt + 1) 0 f_mny f_tem f30 := tme_next (i := x17) klp31_3 rfl (by omega) (by omega) rfl
                    obtain ⟨z37, ez37⟩ : ∃ y : Int32, y = x17 + 1 := ⟨_, rfl⟩
                    have tz37 : (z37).toInt = (x17).toInt + 1 := by rw [ez37]; exact i_add rfl (by decide) (by omega)
                    refine lv_iinc (v := z37) (lv' := [(3, .int z37), (0, .ref h_mm), (1, .int p1), (2, .int z1), (4, .int x29)]) hx hb dX11_movesNodes_206 hl (k := 3) rfl (by rw [ez37]; rfl) (by decide) rfl (fun ls hl => ?_)
                    refine lv_goto (tgt := 152) hx hb dX11_movesNodes_209 (by decide) ?_
                    exact ih20 (z37) (f30) _ _ _ (by omega) hf30 (by omega) (tmv_cast tv35 (by omega) (by omega)) (tme_cast te36 (by omega) (by omega)) (by omega) hP hD hS (lv_sub hl [1, 2, 3, 0] rfl)
                  · have kc34 := (not_congr (cv_le (rfl : (z33).toInt = (z33).toInt) (rfl : (x29).toInt = (x29).toInt))).mp c34
                    refine lv_aload_n hx hb dX11_movesNodes_174 rfl (lv_at hl 0 rfl) ?_
                    refine va_get (D := (dC, dI)) (ci := 8) (v := .ref h_tem) (C := RX11) (T := TX11) (N := 71) hx hb hw iwX11 hown hK hP 0 rfl rfl 12 (by decide) (hw _ w_f_X11_152) (fun _ h9 => h9) rfl dX11_movesNodes_175 ?_
                    refine lv_aload_n hx hb dX11_movesNodes_178 rfl (lv_at hl 0 rfl) ?_
                    refine lv_iload_n hx hb dX11_movesNodes_179 rfl (lv_at hl 3 rfl) ?_
                    refine lv_iload hx hb dX11_movesNodes_180 (lv_at hl 4 rfl) ?_
                    have hPc := hP.sub (ws' := []) [] rfl
                    have hDc := hD.sub (ws' := []) [] (by decide) rfl
                    have hKc := hK.sub (tys' := []) [] rfl
                    have hFc := va_free (wc := []) hD hS hA [] rfl
                    refine va_calli (va_runV (As := [.int x17, .int x29]) (rest := [.ref h_tem]) ⟨hx, hb, hml, hown, hts⟩ (c_X11_litAt l dC dI H.size h_mm x17 x29 (by omega) (by omega)) (cwV 2 hts (gv hT w_m_X11_149 w_instanceMethod_X11_litAt ws_sel_X11_litAt w_ini_X11 w_code_X11_litAt) rfl rfl rfl (by decide +kernel) ⟨(Nat.le_of_ble_eq_true rfl), (Nat.le_of_ble_eq_true rfl)⟩) ⟨pre_blind, va_recv hK hP (ci := 8) (q0 := 0) rfl rfl, pre_of hPc hKc hDc hN⟩ rfl rfl hl.1 rfl (lv_room (Nat.le_of_ble_eq_true rfl)) dX11_movesNodes_182 ⟨(Nat.le_of_ble_eq_true rfl), (Nat.le_of_ble_eq_true rfl)⟩) hS (fun q _ h => hFc q h) hFc (fun r38 u t H locs ht hvm hq hB hz1 hk1 hS9 => ?_)
                    obtain ⟨hP1, hD1⟩ := hB
                    rw [ht] at hP1
                    obtain ⟨hP9, hD9⟩ := va_join (wr := [(h_mm, .inr (8, (mo128 v_mm (.ref h_nv) (.ref h_nn) (.ref h_na) (.ref h_nb) (.ref h_nc) (.int z1) (.ref h_mny) (.ref h_tem) (.int x_mm_reading)))), (h_nv, .inl (cy_nv, 8000, .inl f6)), (h_nn, .inl (cy_nn, 8000, .inr (.inl f7))), (h_na, .inl (cy_na, 8000, .inl f8)), (h_nb, .inl (cy_nb, 8000, .inl f9)), (h_nc, .inl (cy_nc, 8000, .inl f10)), (h_mny, .inl (cy_mny, 32, .inl f_mny)), (h_tem, .inl (cy_tem, 192, .inl f30))]) (w1 := []) hP hD [] [0, 1, 2, 3, 4, 5, 6, 7] rfl rfl (by decide) (by decide) hk1 hFc hP1 hD1
                    clear hP hD hS hPc hDc hKc hFc hP1 hD1 hk1 hz1 ht hvm
                    have hP : va_P (dC, dI) cls [(h_mm, .inr (8, (mo128 v_mm (.ref h_nv) (.ref h_nn) (.ref h_na) (.ref h_nb) (.ref h_nc) (.int z1) (.ref h_mny) (.ref h_tem) (.int x_mm_reading)))), (h_nv, .inl (cy_nv, 8000, .inl f6)), (h_nn, .inl (cy_nn, 8000, .inr (.inl f7))), (h_na, .inl (cy_na, 8000, .inl f8)), (h_nb, .inl (cy_nb, 8000, .inl f9)), (h_nc, .inl (cy_nc, 8000, .inl f10)), (h_mny, .inl (cy_mny, 32, .inl f_mny)), (h_tem, .inl (cy_tem, 192, .inl f30))] H := hP9
                    have hD : va_D A [(h_mm, .inr (8, (mo128 v_mm (.ref h_nv) (.ref h_nn) (.ref h_na) (.ref h_nb) (.ref h_nc) (.int z1) (.ref h_mny) (.ref h_tem) (.int x_mm_reading)))), (h_nv, .inl (cy_nv, 8000, .inl f6)), (h_nn, .inl (cy_nn, 8000, .inr (.inl f7))), (h_na, .inl (cy_na, 8000, .inl f8)), (h_nb, .inl (cy_nb, 8000, .inl f9)), (h_nc, .inl (cy_nc, 8000, .inl f10)), (h_mny, .inl (cy_mny, 32, .inl f_mny)), (h_tem, .inl (cy_tem, 192, .inl f30))] := hD9
                    have hS := hS9
                    clear hP9 hD9 hS9
                    obtain ⟨k39, k40⟩ := hq
                    replace k39 : 0 ≤ (r38).toInt ∧ (r38).toInt ≤ 191 := k39
                    replace k40 : ((r38)).toInt = 6 * ((x17)).toInt + ((x29)).toInt := k40
                    refine lv_aload_n hx hb dX11_movesNodes_185 rfl (lv_at hl 0 rfl) ?_
                    refine va_get (D := (dC, dI)) (ci := 8) (v := .ref h_tem) (C := RX11) (T := TX11) (N := 71) hx hb hw iwX11 hown hK hP 0 rfl rfl 12 (by decide) (hw _ w_f_X11_152) (fun _ h9 => h9) rfl dX11_movesNodes_186 ?_
                    refine lv_aload_n hx hb dX11_movesNodes_189 rfl (lv_at hl 0 rfl) ?_
                    refine lv_iload_n hx hb dX11_movesNodes_190 rfl (lv_at hl 3 rfl) ?_
                    refine lv_iload hx hb dX11_movesNodes_191 (lv_at hl 4 rfl) ?_
                    have hPc := hP.sub (ws' := []) [] rfl
                    have hDc := hD.sub (ws' := []) [] (by decide) rfl
                    have hKc := hK.sub (tys' := []) [] rfl
                    have hFc := va_free (wc := []) hD hS hA [] rfl
                    refine va_calli (va_runV (As := [.int x17, .int x29]) (rest := [.ref h_tem, .int r38, .ref h_tem]) ⟨hx, hb, hml, hown, hts⟩ (c_X11_litAt l dC dI H.size h_mm x17 x29 (by omega) (by omega)) (cwV 2 hts (gv hT w_m_X11_149 w_instanceMethod_X11_litAt ws_sel_X11_litAt w_ini_X11 w_code_X11_litAt) rfl rfl rfl (by decide +kernel) ⟨(Nat.le_of_ble_eq_true rfl), (Nat.le_of_ble_eq_true rfl)⟩) ⟨pre_blind, va_recv hK hP (ci := 8) (q0 := 0) rfl rfl, pre_of hPc hKc hDc hN⟩ rfl rfl hl.1 rfl (lv_room (Nat.le_of_ble_eq_true rfl)) dX11_movesNodes_193 ⟨(Nat.le_of_ble_eq_true rfl), (Nat.le_of_ble_eq_true rfl)⟩) hS (fun q _ h => hFc q h) hFc (fun r41 u t H locs ht hvm hq hB hz1 hk1 hS9 => ?_)
                    obtain ⟨hP1, hD1⟩ := hB
                    rw [ht] at hP1
                    obtain ⟨hP9, hD9⟩ := va_join (wr := [(h_mm, .inr (8, (mo128 v_mm (.ref h_nv) (.ref h_nn) (.ref h_na) (.ref h_nb) (.ref h_nc) (.int z1) (.ref h_mny) (.ref h_tem) (.int x_mm_reading)))), (h_nv, .inl (cy_nv, 8000, .inl f6)), (h_nn, .inl (cy_nn, 8000, .inr (.inl f7))), (h_na, .inl (cy_na, 8000, .inl f8)), (h_nb, .inl (cy_nb, 8000, .inl f9)), (h_nc, .inl (cy_nc, 8000, .inl f10)), (h_mny, .inl (cy_mny, 32, .inl f_mny)), (h_tem, .inl (cy_tem, 192, .inl f30))]) (w1 := []) hP hD [] [0, 1, 2, 3, 4, 5, 6, 7] rfl rfl (by decide) (by decide) hk1 hFc hP1 hD1
                    clear hP hD hS hPc hDc hKc hFc hP1 hD1 hk1 hz1 ht hvm
                    have hP : va_P (dC, dI) cls [(h_mm, .inr (8, (mo128 v_mm (.ref h_nv) (.ref h_nn) (.ref h_na) (.ref h_nb) (.ref h_nc) (.int z1) (.ref h_mny) (.ref h_tem) (.int x_mm_reading)))), (h_nv, .inl (cy_nv, 8000, .inl f6)), (h_nn, .inl (cy_nn, 8000, .inr (.inl f7))), (h_na, .inl (cy_na, 8000, .inl f8)), (h_nb, .inl (cy_nb, 8000, .inl f9)), (h_nc, .inl (cy_nc, 8000, .inl f10)), (h_mny, .inl (cy_mny, 32, .inl f_mny)), (h_tem, .inl (cy_tem, 192, .inl f30))] H := hP9
                    have hD : va_D A [(h_mm, .inr (8, (mo128 v_mm (.ref h_nv) (.ref h_nn) (.ref h_na) (.ref h_nb) (.ref h_nc) (.int z1) (.ref h_mny) (.ref h_tem) (.int x_mm_reading)))), (h_nv, .inl (cy_nv, 8000, .inl f6)), (h_nn, .inl (cy_nn, 8000, .inr (.inl f7))), (h_na, .inl (cy_na, 8000, .inl f8)), (h_nb, .inl (cy_nb, 8000, .inl f9)), (h_nc, .inl (cy_nc, 8000, .inl f10)), (h_mny, .inl (cy_mny, 32, .inl f_mny)), (h_tem, .inl (cy_tem, 192, .inl f30))] := hD9
                    have hS := hS9
                    clear hP9 hD9 hS9
                    obtain ⟨k42, k43⟩ := hq
                    replace k42 : 0 ≤ (r41).toInt ∧ (r41).toInt ≤ 191 := k42
                    replace k43 : ((r41)).toInt = 6 * ((x17)).toInt + ((x29)).toInt := k43
                    refine va_iald hx hb hK hP 7 6 rfl rfl (i := r41) (vp_in_iff.mpr (by omega)) dX11_movesNodes_196 ?_
                    refine lv_topi (fun z44 ez44 => ?_)
                    have rz44 : 0 ≤ (z44).toInt ∧ (z44).toInt ≤ 7999 := by rw [ez44]; exact hf30 _
                    have mzz33 : (f_mny (Int32.toNatClampNeg x17)).toInt = (z33).toInt := by rw [ez33]
                    have gz44 := tmv_get (i := x17) (t := r41) klp31_2 rfl (by omega) (by omega) (by omega) ez44
                    refine lv_iload_n hx hb dX11_movesNodes_197 rfl (lv_at hl 1 rfl) ?_
                    refine lv_isub hx hb dX11_movesNodes_198 ?_
                    refine lv_topi (fun z45 ez45 => ?_)
                    have tz45 : (z45).toInt = (z44).toInt - (p1).toInt := by rw [ez45]; exact i_sub rfl rfl (by omega)
                    have sz45 : 0 ≤ (z45).toInt ∧ (z45).toInt ≤ 7999 := by omega
                    refine va_iast hx hb hK hP hD hS 7 6 rfl rfl (i := r38) (x := z45) (vp_in_iff.mpr (by omega)) dX11_movesNodes_199 (fun H locs hP9 hD9 hS9 => ?_)
                    obtain ⟨f46, ef46⟩ : ∃ g : Nat → Int32, g = upd f30 (Int32.toNatClampNeg r38) z45 := ⟨_, rfl⟩
                    clear hP hD hS
                    have hP : va_P (dC, dI) cls [(h_mm, .inr (8, (mo128 v_mm (.ref h_nv) (.ref h_nn) (.ref h_na) (.ref h_nb) (.ref h_nc) (.int z1) (.ref h_mny) (.ref h_tem) (.int x_mm_reading)))), (h_nv, .inl (cy_nv, 8000, .inl f6)), (h_nn, .inl (cy_nn, 8000, .inr (.inl f7))), (h_na, .inl (cy_na, 8000, .inl f8)), (h_nb, .inl (cy_nb, 8000, .inl f9)), (h_nc, .inl (cy_nc, 8000, .inl f10)), (h_mny, .inl (cy_mny, 32, .inl f_mny)), (h_tem, .inl (cy_tem, 192, .inl f46))] H := by rw [ef46]; exact hP9
                    have hD : va_D A [(h_mm, .inr (8, (mo128 v_mm (.ref h_nv) (.ref h_nn) (.ref h_na) (.ref h_nb) (.ref h_nc) (.int z1) (.ref h_mny) (.ref h_tem) (.int x_mm_reading)))), (h_nv, .inl (cy_nv, 8000, .inl f6)), (h_nn, .inl (cy_nn, 8000, .inr (.inl f7))), (h_na, .inl (cy_na, 8000, .inl f8)), (h_nb, .inl (cy_nb, 8000, .inl f9)), (h_nc, .inl (cy_nc, 8000, .inl f10)), (h_mny, .inl (cy_mny, 32, .inl f_mny)), (h_tem, .inl (cy_tem, 192, .inl f46))] := by rw [ef46]; exact hD9
                    have hS := hS9
                    clear hP9 hD9 hS9
                    have hf46 : Rg 0 7999 f46 := by rw [ef46]; exact rg_upd hf30 (by omega)
                    have tv47 : TMV (p1).toInt (x_mm_nodes).toInt hh (x_mm_reading).toInt (x17).toInt ((x29).toInt + 1) f_mny f46 := by rw [ef46]; exact tmv_step (i := x17) (t := r38) (u := r41) klp31_2 rfl (by omega) (by omega) (by omega) (by omega) (by omega) (by rw [← ez44]; omega)
                    have te48 : TME (p1).toInt (x_mm_reading).toInt (x17).toInt ((x29).toInt + 1) f_mny f_tem f46 := tme_step (t := r41) (w := z44) klp31_3 (by omega) (by omega) (by omega) (by omega) ez44 (by omega) ef46 rfl
                    clear ef46
                    obtain ⟨z49, ez49⟩ : ∃ y : Int32, y = x29 + 1 := ⟨_, rfl⟩
                    have tz49 : (z49).toInt = (x29).toInt + 1 := by rw [ez49]; exact i_add rfl (by decide) (by omega)
                    refine lv_iinc (v := z49) (lv' := [(4, .int z49), (0, .ref h_mm), (1, .int p1), (2, .int z1), (3, .int x17)]) hx hb dX11_movesNodes_200 hl (k := 4) rfl (by rw [ez49]; rfl) (by decide) rfl (fun ls hl => ?_)
                    refine lv_goto (tgt := 163) hx hb dX11_movesNodes_203 (by decide) ?_
                    exact ih32 (z49) (f46) _ _ _ (by omega) hf46 (tmv_cast tv47 (by omega) (by omega)) (tme_cast te48 (by omega) (by omega)) (by omega) hP hD hS (lv_sub hl [1, 2, 3, 4, 0] rfl)
              have cst0 : (0 : Int32).toInt = 0 := by decide
              exact lp31 _ (0) (f18) _ _ _ (by decide) hf18 (tmv_cast klp19_3 (by omega) (by omega)) (tme_cast klp19_4 (by omega) (by omega)) (Nat.le_refl _) hP hD hS (lv_sub hl [1, 2, 3, 4, 0] rfl)
        have cst16 : (16 : Int32).toInt = 16 := by decide
        exact lp19 _ (16) (f_tem) _ _ _ (by decide) hf_tem (by omega) (tmv_cast tv16 (by omega) (by omega)) (tme_cast (tme_zero (K := 16) (L := 0) rfl rfl) (by omega) (by omega)) (Nat.le_refl _) hP hD hS (lv_sub hl [1, 2, 3, 0] rfl)
      · have kc13 := (not_congr (cv_le (rfl : (z1).toInt = (z1).toInt) (rfl : (x5).toInt = (x5).toInt))).mp c13
        refine lv_aload_n hx hb dX11_movesNodes_14 rfl (lv_at hl 0 rfl) ?_
        refine va_get (D := (dC, dI)) (ci := 8) (v := .ref h_nv) (C := RX11) (T := TX11) (N := 71) hx hb hw iwX11 hown hK hP 0 rfl rfl 1 (by decide) (hw _ w_f_X11_17) (fun _ h9 => h9) rfl dX11_movesNodes_15 ?_
        refine lv_iload_n hx hb dX11_movesNodes_18 rfl (lv_at hl 3 rfl) ?_
        refine lv_aload_n hx hb dX11_movesNodes_19 rfl (lv_at hl 0 rfl) ?_
        refine va_get (D := (dC, dI)) (ci := 8) (v := .ref h_nv) (C := RX11) (T := TX11) (N := 71) hx hb hw iwX11 hown hK hP 0 rfl rfl 1 (by decide) (hw _ w_f_X11_17) (fun _ h9 => h9) rfl dX11_movesNodes_20 ?_
        refine lv_iload_n hx hb dX11_movesNodes_23 rfl (lv_at hl 1 rfl) ?_
        refine lv_iload_n hx hb dX11_movesNodes_24 rfl (lv_at hl 3 rfl) ?_
        refine lv_iadd hx hb dX11_movesNodes_25 ?_
        refine lv_topi (fun z50 ez50 => ?_)
        have tz50 : (z50).toInt = (p1).toInt + (x5).toInt := by rw [ez50]; exact i_add rfl rfl (by omega)
        refine va_iald hx hb hK hP 1 0 rfl rfl (i := z50) (vp_in_iff.mpr (by omega)) dX11_movesNodes_26 ?_
        refine lv_topi (fun z51 ez51 => ?_)
        have rz51 : -1 ≤ (z51).toInt ∧ (z51).toInt ≤ 7 := by rw [ez51]; exact hf6 _
        refine va_iast hx hb hK hP hD hS 1 0 rfl rfl (i := x5) (x := z51) (vp_in_iff.mpr (by omega)) dX11_movesNodes_27 (fun H locs hP9 hD9 hS9 => ?_)
        obtain ⟨f52, ef52⟩ : ∃ g : Nat → Int32, g = upd f6 (Int32.toNatClampNeg x5) z51 := ⟨_, rfl⟩
        clear hP hD hS
        have hP : va_P (dC, dI) cls [(h_mm, .inr (8, (mo128 v_mm (.ref h_nv) (.ref h_nn) (.ref h_na) (.ref h_nb) (.ref h_nc) (.int x_mm_nodes) (.ref h_mny) (.ref h_tem) (.int x_mm_reading)))), (h_nv, .inl (cy_nv, 8000, .inl f52)), (h_nn, .inl (cy_nn, 8000, .inr (.inl f7))), (h_na, .inl (cy_na, 8000, .inl f8)), (h_nb, .inl (cy_nb, 8000, .inl f9)), (h_nc, .inl (cy_nc, 8000, .inl f10)), (h_mny, .inl (cy_mny, 32, .inl f_mny)), (h_tem, .inl (cy_tem, 192, .inl f_tem))] H := by rw [ef52]; exact hP9
        have hD : va_D A [(h_mm, .inr (8, (mo128 v_mm (.ref h_nv) (.ref h_nn) (.ref h_na) (.ref h_nb) (.ref h_nc) (.int x_mm_nodes) (.ref h_mny) (.ref h_tem) (.int x_mm_reading)))), (h_nv, .inl (cy_nv, 8000, .inl f52)), (h_nn, .inl (cy_nn, 8000, .inr (.inl f7))), (h_na, .inl (cy_na, 8000, .inl f8)), (h_nb, .inl (cy_nb, 8000, .inl f9)), (h_nc, .inl (cy_nc, 8000, .inl f10)), (h_mny, .inl (cy_mny, 32, .inl f_mny)), (h_tem, .inl (cy_tem, 192, .inl f_tem))] := by rw [ef52]; exact hD9
        have hS := hS9
        clear hP9 hD9 hS9
        have hf52 : Rg (-1) 7 f52 := by rw [ef52]; exact rg_upd hf6 (by omega)
        have me53 : MVE (p1).toInt ((x5).toInt + 1) f_nv f52 := mve_step (j := z50) klp11_9 (by omega) (by omega) rfl (by omega) ez51 ef52 rfl
        clear ef52
        refine lv_aload_n hx hb dX11_movesNodes_28 rfl (lv_at hl 0 rfl) ?_
        refine va_get (D := (dC, dI)) (ci := 8) (v := .ref h_nn) (C := RX11) (T := TX11) (N := 71) hx hb hw iwX11 hown hK hP 0 rfl rfl 2 (by decide) (hw _ w_f_X11_23) (fun _ h9 => h9) rfl dX11_movesNodes_29 ?_
        refine lv_iload_n hx hb dX11_movesNodes_32 rfl (lv_at hl 3 rfl) ?_
        refine lv_aload_n hx hb dX11_movesNodes_33 rfl (lv_at hl 0 rfl) ?_
        refine va_get (D := (dC, dI)) (ci := 8) (v := .ref h_nn) (C := RX11) (T := TX11) (N := 71) hx hb hw iwX11 hown hK hP 0 rfl rfl 2 (by decide) (hw _ w_f_X11_23) (fun _ h9 => h9) rfl dX11_movesNodes_34 ?_
        refine lv_iload_n hx hb dX11_movesNodes_37 rfl (lv_at hl 1 rfl) ?_
        refine lv_iload_n hx hb dX11_movesNodes_38 rfl (lv_at hl 3 rfl) ?_
        refine lv_iadd hx hb dX11_movesNodes_39 ?_
        refine lv_topi (fun z54 ez54 => ?_)
        have qz54 : (z54).toInt = (z50).toInt := by rw [ez54, ez50]
        have tz54 : (z54).toInt = (p1).toInt + (x5).toInt := by rw [ez54]; exact i_add rfl rfl (by omega)
        refine va_lald hx hb hK hP 2 1 rfl rfl (i := z54) (vp_in_iff.mpr (by omega)) dX11_movesNodes_40 ?_
        refine lv_topl (fun z55 ez55 => ?_)
        refine va_last hx hb hK hP hD hS 2 1 rfl rfl (i := x5) (x := z55) (vp_in_iff.mpr (by omega)) dX11_movesNodes_41 (fun H locs hP9 hD9 hS9 => ?_)
        obtain ⟨f56, ef56⟩ : ∃ g : Nat → Int64, g = vp_updL f7 (Int32.toNatClampNeg x5) z55 := ⟨_, rfl⟩
        clear hP hD hS
        have hP : va_P (dC, dI) cls [(h_mm, .inr (8, (mo128 v_mm (.ref h_nv) (.ref h_nn) (.ref h_na) (.ref h_nb) (.ref h_nc) (.int x_mm_nodes) (.ref h_mny) (.ref h_tem) (.int x_mm_reading)))), (h_nv, .inl (cy_nv, 8000, .inl f52)), (h_nn, .inl (cy_nn, 8000, .inr (.inl f56))), (h_na, .inl (cy_na, 8000, .inl f8)), (h_nb, .inl (cy_nb, 8000, .inl f9)), (h_nc, .inl (cy_nc, 8000, .inl f10)), (h_mny, .inl (cy_mny, 32, .inl f_mny)), (h_tem, .inl (cy_tem, 192, .inl f_tem))] H := by rw [ef56]; exact hP9
        have hD : va_D A [(h_mm, .inr (8, (mo128 v_mm (.ref h_nv) (.ref h_nn) (.ref h_na) (.ref h_nb) (.ref h_nc) (.int x_mm_nodes) (.ref h_mny) (.ref h_tem) (.int x_mm_reading)))), (h_nv, .inl (cy_nv, 8000, .inl f52)), (h_nn, .inl (cy_nn, 8000, .inr (.inl f56))), (h_na, .inl (cy_na, 8000, .inl f8)), (h_nb, .inl (cy_nb, 8000, .inl f9)), (h_nc, .inl (cy_nc, 8000, .inl f10)), (h_mny, .inl (cy_mny, 32, .inl f_mny)), (h_tem, .inl (cy_tem, 192, .inl f_tem))] := by rw [ef56]; exact hD9
        have hS := hS9
        clear hP9 hD9 hS9
        have me57 : MVE (p1).toInt ((x5).toInt + 1) f_nn f56 := mve_stepL (j := z54) klp11_10 (by omega) (by omega) rfl (by omega) ez55 ef56 rfl
        clear ef56
        refine lv_aload_n hx hb dX11_movesNodes_42 rfl (lv_at hl 0 rfl) ?_
        refine va_get (D := (dC, dI)) (ci := 8) (v := .ref h_na) (C := RX11) (T := TX11) (N := 71) hx hb hw iwX11 hown hK hP 0 rfl rfl 3 (by decide) (hw _ w_f_X11_7) (fun _ h9 => h9) rfl dX11_movesNodes_43 ?_
        refine lv_iload_n hx hb dX11_movesNodes_46 rfl (lv_at hl 3 rfl) ?_
        refine lv_aload_n hx hb dX11_movesNodes_47 rfl (lv_at hl 0 rfl) ?_
        refine va_get (D := (dC, dI)) (ci := 8) (v := .ref h_na) (C := RX11) (T := TX11) (N := 71) hx hb hw iwX11 hown hK hP 0 rfl rfl 3 (by decide) (hw _ w_f_X11_7) (fun _ h9 => h9) rfl dX11_movesNodes_48 ?_
        refine lv_iload_n hx hb dX11_movesNodes_51 rfl (lv_at hl 1 rfl) ?_
        refine lv_iload_n hx hb dX11_movesNodes_52 rfl (lv_at hl 3 rfl) ?_
        refine lv_iadd hx hb dX11_movesNodes_53 ?_
        refine lv_topi (fun z58 ez58 => ?_)
        have qz58 : (z58).toInt = (z50).toInt := by rw [ez58, ez50]
        have tz58 : (z58).toInt = (p1).toInt + (x5).toInt := by rw [ez58]; exact i_add rfl rfl (by omega)
        refine va_iald hx hb hK hP 3 2 rfl rfl (i := z58) (vp_in_iff.mpr (by omega)) dX11_movesNodes_54 ?_
        refine lv_topi (fun z59 ez59 => ?_)
        have rz59 : -1 ≤ (z59).toInt ∧ (z59).toInt ≤ 7999 := by rw [ez59]; exact hf8 _
        refine lv_iconst (v := (-1)) hx hb dX11_movesNodes_55 (by decide) ?_
        refine lv_icmp_ne (tgt := 63) hx hb dX11_movesNodes_56 (by decide) (fun c60 => ?_) (fun c60 => ?_)
        · have kc60 := (not_congr (cv_eq (rfl : (z59).toInt = (z59).toInt) (by decide : ((-1) : Int32).toInt = -1))).mp c60
          refine lv_aload_n hx hb dX11_movesNodes_63 rfl (lv_at hl 0 rfl) ?_
          refine va_get (D := (dC, dI)) (ci := 8) (v := .ref h_na) (C := RX11) (T := TX11) (N := 71) hx hb hw iwX11 hown hK hP 0 rfl rfl 3 (by decide) (hw _ w_f_X11_7) (fun _ h9 => h9) rfl dX11_movesNodes_64 ?_
          refine lv_iload_n hx hb dX11_movesNodes_67 rfl (lv_at hl 1 rfl) ?_
          refine lv_iload_n hx hb dX11_movesNodes_68 rfl (lv_at hl 3 rfl) ?_
          refine lv_iadd hx hb dX11_movesNodes_69 ?_
          refine lv_topi (fun z61 ez61 => ?_)
          have qz61 : (z61).toInt = (z50).toInt := by rw [ez61, ez50]
          have tz61 : (z61).toInt = (p1).toInt + (x5).toInt := by rw [ez61]; exact i_add rfl rfl (by omega)
          refine va_iald hx hb hK hP 3 2 rfl rfl (i := z61) (vp_in_iff.mpr (by omega)) dX11_movesNodes_70 ?_
          refine lv_topi (fun z62 ez62 => ?_)
          have rz62 : -1 ≤ (z62).toInt ∧ (z62).toInt ≤ 7999 := by rw [ez62]; exact hf8 _
          have gz62 := mv_get (j := z61) klp11_6 (by omega) ez62
          have qz62 : (z62).toInt = (z59).toInt := by rw [ez62, ez61, ez59, ez58]
          refine lv_iload_n hx hb dX11_movesNodes_71 rfl (lv_at hl 1 rfl) ?_
          refine lv_isub hx hb dX11_movesNodes_72 ?_
          refine lv_topi (fun z63 ez63 => ?_)
          have tz63 : (z63).toInt = (z62).toInt - (p1).toInt := by rw [ez63]; exact i_sub rfl rfl (by omega)
          have sz63 : -1 ≤ (z63).toInt ∧ (z63).toInt ≤ 7999 := by omega
          refine va_iast hx hb hK hP hD hS 3 2 rfl rfl (i := x5) (x := z63) (vp_in_iff.mpr (by omega)) dX11_movesNodes_73 (fun H locs hP9 hD9 hS9 => ?_)
          obtain ⟨f64, ef64⟩ : ∃ g : Nat → Int32, g = upd f8 (Int32.toNatClampNeg x5) z63 := ⟨_, rfl⟩
          clear hP hD hS
          have hP : va_P (dC, dI) cls [(h_mm, .inr (8, (mo128 v_mm (.ref h_nv) (.ref h_nn) (.ref h_na) (.ref h_nb) (.ref h_nc) (.int x_mm_nodes) (.ref h_mny) (.ref h_tem) (.int x_mm_reading)))), (h_nv, .inl (cy_nv, 8000, .inl f52)), (h_nn, .inl (cy_nn, 8000, .inr (.inl f56))), (h_na, .inl (cy_na, 8000, .inl f64)), (h_nb, .inl (cy_nb, 8000, .inl f9)), (h_nc, .inl (cy_nc, 8000, .inl f10)), (h_mny, .inl (cy_mny, 32, .inl f_mny)), (h_tem, .inl (cy_tem, 192, .inl f_tem))] H := by rw [ef64]; exact hP9
          have hD : va_D A [(h_mm, .inr (8, (mo128 v_mm (.ref h_nv) (.ref h_nn) (.ref h_na) (.ref h_nb) (.ref h_nc) (.int x_mm_nodes) (.ref h_mny) (.ref h_tem) (.int x_mm_reading)))), (h_nv, .inl (cy_nv, 8000, .inl f52)), (h_nn, .inl (cy_nn, 8000, .inr (.inl f56))), (h_na, .inl (cy_na, 8000, .inl f64)), (h_nb, .inl (cy_nb, 8000, .inl f9)), (h_nc, .inl (cy_nc, 8000, .inl f10)), (h_mny, .inl (cy_mny, 32, .inl f_mny)), (h_tem, .inl (cy_tem, 192, .inl f_tem))] := by rw [ef64]; exact hD9
          have hS := hS9
          clear hP9 hD9 hS9
          have hf64 : Rg (-1) 7999 f64 := by rw [ef64]; exact rg_upd hf8 (by omega)
          have mv65 : MV (p1).toInt (x_mm_nodes).toInt hh ((x5).toInt + 1) f64 := by rw [ef64]; exact mv_step (i := x5) (j := z61) klp11_6 rfl (by omega) (by omega) (by omega) (Or.inr (by rw [← ez62]; omega))
          have mx66 : MVC (p1).toInt ((x5).toInt + 1) f_na f64 := mvc_step (j := z61) (w := z62) klp11_11 (by omega) (by omega) rfl (by omega) ez62 (Or.inr ⟨by omega, by omega⟩) ef64 rfl
          clear ef64
          refine lv_aload_n hx hb dX11_movesNodes_74 rfl (lv_at hl 0 rfl) ?_
          refine va_get (D := (dC, dI)) (ci := 8) (v := .ref h_nb) (C := RX11) (T := TX11) (N := 71) hx hb hw iwX11 hown hK hP 0 rfl rfl 4 (by decide) (hw _ w_f_X11_11) (fun _ h9 => h9) rfl dX11_movesNodes_75 ?_
          refine lv_iload_n hx hb dX11_movesNodes_78 rfl (lv_at hl 3 rfl) ?_
          refine lv_aload_n hx hb dX11_movesNodes_79 rfl (lv_at hl 0 rfl) ?_
          refine va_get (D := (dC, dI)) (ci := 8) (v := .ref h_nb) (C := RX11) (T := TX11) (N := 71) hx hb hw iwX11 hown hK hP 0 rfl rfl 4 (by decide) (hw _ w_f_X11_11) (fun _ h9 => h9) rfl dX11_movesNodes_80 ?_
          refine lv_iload_n hx hb dX11_movesNodes_83 rfl (lv_at hl 1 rfl) ?_
          refine lv_iload_n hx hb dX11_movesNodes_84 rfl (lv_at hl 3 rfl) ?_
          refine lv_iadd hx hb dX11_movesNodes_85 ?_
          refine lv_topi (fun z67 ez67 => ?_)
          have qz67 : (z67).toInt = (z50).toInt := by rw [ez67, ez50]
          have tz67 : (z67).toInt = (p1).toInt + (x5).toInt := by rw [ez67]; exact i_add rfl rfl (by omega)
          refine va_iald hx hb hK hP 4 3 rfl rfl (i := z67) (vp_in_iff.mpr (by omega)) dX11_movesNodes_86 ?_
          refine lv_topi (fun z68 ez68 => ?_)
          have rz68 : -1 ≤ (z68).toInt ∧ (z68).toInt ≤ 7999 := by rw [ez68]; exact hf9 _
          refine lv_iconst (v := (-1)) hx hb dX11_movesNodes_87 (by decide) ?_
          refine lv_icmp_ne (tgt := 95) hx hb dX11_movesNodes_88 (by decide) (fun c69 => ?_) (fun c69 => ?_)
          · have kc69 := (not_congr (cv_eq (rfl : (z68).toInt = (z68).toInt) (by decide : ((-1) : Int32).toInt = -1))).mp c69
            refine lv_aload_n hx hb dX11_movesNodes_95 rfl (lv_at hl 0 rfl) ?_
            refine va_get (D := (dC, dI)) (ci := 8) (v := .ref h_nb) (C := RX11) (T := TX11) (N := 71) hx hb hw iwX11 hown hK hP 0 rfl rfl 4 (by decide) (hw _ w_f_X11_11) (fun _ h9 => h9) rfl dX11_movesNodes_96 ?_
            refine lv_iload_n hx hb dX11_movesNodes_99 rfl (lv_at hl 1 rfl) ?_
            refine lv_iload_n hx hb dX11_movesNodes_100 rfl (lv_at hl 3 rfl) ?_
            refine lv_iadd hx hb dX11_movesNodes_101 ?_
            refine lv_topi (fun z70 ez70 => ?_)
            have qz70 : (z70).toInt = (z50).toInt := by rw [ez70, ez50]
            have tz70 : (z70).toInt = (p1).toInt + (x5).toInt := by rw [ez70]; exact i_add rfl rfl (by omega)
            refine va_iald hx hb hK hP 4 3 rfl rfl (i := z70) (vp_in_iff.mpr (by omega)) dX11_movesNodes_102 ?_
            refine lv_topi (fun z71 ez71 => ?_)
            have rz71 : -1 ≤ (z71).toInt ∧ (z71).toInt ≤ 7999 := by rw [ez71]; exact hf9 _
            have gz71 := mv_get (j := z70) klp11_7 (by omega) ez71
            have qz71 : (z71).toInt = (z68).toInt := by rw [ez71, ez70, ez68, ez67]
            refine lv_iload_n hx hb dX11_movesNodes_103 rfl (lv_at hl 1 rfl) ?_
            refine lv_isub hx hb dX11_movesNodes_104 ?_
            refine lv_topi (fun z72 ez72 => ?_)
            have tz72 : (z72).toInt = (z71).toInt - (p1).toInt := by rw [ez72]; exact i_sub rfl rfl (by omega)
            have sz72 : -1 ≤ (z72).toInt ∧ (z72).toInt ≤ 7999 := by omega
            refine va_iast hx hb hK hP hD hS 4 3 rfl rfl (i := x5) (x := z72) (vp_in_iff.mpr (by omega)) dX11_movesNodes_105 (fun H locs hP9 hD9 hS9 => ?_)
            obtain ⟨f73, ef73⟩ : ∃ g : Nat → Int32, g = upd f9 (Int32.toNatClampNeg x5) z72 := ⟨_, rfl⟩
            clear hP hD hS
            have hP : va_P (dC, dI) cls [(h_mm, .inr (8, (mo128 v_mm (.ref h_nv) (.ref h_nn) (.ref h_na) (.ref h_nb) (.ref h_nc) (.int x_mm_nodes) (.ref h_mny) (.ref h_tem) (.int x_mm_reading)))), (h_nv, .inl (cy_nv, 8000, .inl f52)), (h_nn, .inl (cy_nn, 8000, .inr (.inl f56))), (h_na, .inl (cy_na, 8000, .inl f64)), (h_nb, .inl (cy_nb, 8000, .inl f73)), (h_nc, .inl (cy_nc, 8000, .inl f10)), (h_mny, .inl (cy_mny, 32, .inl f_mny)), (h_tem, .inl (cy_tem, 192, .inl f_tem))] H := by rw [ef73]; exact hP9
            have hD : va_D A [(h_mm, .inr (8, (mo128 v_mm (.ref h_nv) (.ref h_nn) (.ref h_na) (.ref h_nb) (.ref h_nc) (.int x_mm_nodes) (.ref h_mny) (.ref h_tem) (.int x_mm_reading)))), (h_nv, .inl (cy_nv, 8000, .inl f52)), (h_nn, .inl (cy_nn, 8000, .inr (.inl f56))), (h_na, .inl (cy_na, 8000, .inl f64)), (h_nb, .inl (cy_nb, 8000, .inl f73)), (h_nc, .inl (cy_nc, 8000, .inl f10)), (h_mny, .inl (cy_mny, 32, .inl f_mny)), (h_tem, .inl (cy_tem, 192, .inl f_tem))] := by rw [ef73]; exact hD9
            have hS := hS9
            clear hP9 hD9 hS9
            have hf73 : Rg (-1) 7999 f73 := by rw [ef73]; exact rg_upd hf9 (by omega)
            have mv74 : MV (p1).toInt (x_mm_nodes).toInt hh ((x5).toInt + 1) f73 := by rw [ef73]; exact mv_step (i := x5) (j := z70) klp11_7 rfl (by omega) (by omega) (by omega) (Or.inr (by rw [← ez71]; omega))
            have mx75 : MVC (p1).toInt ((x5).toInt + 1) f_nb f73 := mvc_step (j := z70) (w := z71) klp11_12 (by omega) (by omega) rfl (by omega) ez71 (Or.inr ⟨by omega, by omega⟩) ef73 rfl
            clear ef73
            refine lv_aload_n hx hb dX11_movesNodes_106 rfl (lv_at hl 0 rfl) ?_
            refine va_get (D := (dC, dI)) (ci := 8) (v := .ref h_nc) (C := RX11) (T := TX11) (N := 71) hx hb hw iwX11 hown hK hP 0 rfl rfl 5 (by decide) (hw _ w_f_X11_14) (fun _ h9 => h9) rfl dX11_movesNodes_107 ?_
            refine lv_iload_n hx hb dX11_movesNodes_110 rfl (lv_at hl 3 rfl) ?_
            refine lv_aload_n hx hb dX11_movesNodes_111 rfl (lv_at hl 0 rfl) ?_
            refine va_get (D := (dC, dI)) (ci := 8) (v := .ref h_nc) (C := RX11) (T := TX11) (N := 71) hx hb hw iwX11 hown hK hP 0 rfl rfl 5 (by decide) (hw _ w_f_X11_14) (fun _ h9 => h9) rfl dX11_movesNodes_112 ?_
            refine lv_iload_n hx hb dX11_movesNodes_115 rfl (lv_at hl 1 rfl) ?_
            refine lv_iload_n hx hb dX11_movesNodes_116 rfl (lv_at hl 3 rfl) ?_
            refine lv_iadd hx hb dX11_movesNodes_117 ?_
            refine lv_topi (fun z76 ez76 => ?_)
            have qz76 : (z76).toInt = (z50).toInt := by rw [ez76, ez50]
            have tz76 : (z76).toInt = (p1).toInt + (x5).toInt := by rw [ez76]; exact i_add rfl rfl (by omega)
            refine va_iald hx hb hK hP 5 4 rfl rfl (i := z76) (vp_in_iff.mpr (by omega)) dX11_movesNodes_118 ?_
            refine lv_topi (fun z77 ez77 => ?_)
            have rz77 : -1 ≤ (z77).toInt ∧ (z77).toInt ≤ 7999 := by rw [ez77]; exact hf10 _
            refine lv_iconst (v := (-1)) hx hb dX11_movesNodes_119 (by decide) ?_
            refine lv_icmp_ne (tgt := 127) hx hb dX11_movesNodes_120 (by decide) (fun c78 => ?_) (fun c78 => ?_)
            · have kc78 := (not_congr (cv_eq (rfl : (z77).toInt = (z77).toInt) (by decide : ((-1) : Int32).toInt = -1))).mp c78
              refine lv_aload_n hx hb dX11_movesNodes_127 rfl (lv_at hl 0 rfl) ?_
              refine va_get (D := (dC, dI)) (ci := 8) (v := .ref h_nc) (C := RX11) (T := TX11) (N := 71) hx hb hw iwX11 hown hK hP 0 rfl rfl 5 (by decide) (hw _ w_f_X11_14) (fun _ h9 => h9) rfl dX11_movesNodes_128 ?_
              refine lv_iload_n hx hb dX11_movesNodes_131 rfl (lv_at hl 1 rfl) ?_
              refine lv_iload_n hx hb dX11_movesNodes_132 rfl (lv_at hl 3 rfl) ?_
              refine lv_iadd hx hb dX11_movesNodes_133 ?_
              refine lv_topi (fun z79 ez79 => ?_)
              have qz79 : (z79).toInt = (z50).toInt := by rw [ez79, ez50]
              have tz79 : (z79).toInt = (p1).toInt + (x5).toInt := by rw [ez79]; exact i_add rfl rfl (by omega)
              refine va_iald hx hb hK hP 5 4 rfl rfl (i := z79) (vp_in_iff.mpr (by omega)) dX11_movesNodes_134 ?_
              refine lv_topi (fun z80 ez80 => ?_)
              have rz80 : -1 ≤ (z80).toInt ∧ (z80).toInt ≤ 7999 := by rw [ez80]; exact hf10 _
              have gz80 := mv_get (j := z79) klp11_8 (by omega) ez80
              have qz80 : (z80).toInt = (z77).toInt := by rw [ez80, ez79, ez77, ez76]
              refine lv_iload_n hx hb dX11_movesNodes_135 rfl (lv_at hl 1 rfl) ?_
              refine lv_isub hx hb dX11_movesNodes_136 ?_
              refine lv_topi (fun z81 ez81 => ?_)
              have tz81 : (z81).toInt = (z80).toInt - (p1).toInt := by rw [ez81]; exact i_sub rfl rfl (by omega)
              have sz81 : -1 ≤ (z81).toInt ∧ (z81).toInt ≤ 7999 := by omega
              refine va_iast hx hb hK hP hD hS 5 4 rfl rfl (i := x5) (x := z81) (vp_in_iff.mpr (by omega)) dX11_movesNodes_137 (fun H locs hP9 hD9 hS9 => ?_)
              obtain ⟨f82, ef82⟩ : ∃ g : Nat → Int32, g = upd f10 (Int32.toNatClampNeg x5) z81 := ⟨_, rfl⟩
              clear hP hD hS
              have hP : va_P (dC, dI) cls [(h_mm, .inr (8, (mo128 v_mm (.ref h_nv) (.ref h_nn) (.ref h_na) (.ref h_nb) (.ref h_nc) (.int x_mm_nodes) (.ref h_mny) (.ref h_tem) (.int x_mm_reading)))), (h_nv, .inl (cy_nv, 8000, .inl f52)), (h_nn, .inl (cy_nn, 8000, .inr (.inl f56))), (h_na, .inl (cy_na, 8000, .inl f64)), (h_nb, .inl (cy_nb, 8000, .inl f73)), (h_nc, .inl (cy_nc, 8000, .inl f82)), (h_mny, .inl (cy_mny, 32, .inl f_mny)), (h_tem, .inl (cy_tem, 192, .inl f_tem))] H := by rw [ef82]; exact hP9
              have hD : va_D A [(h_mm, .inr (8, (mo128 v_mm (.ref h_nv) (.ref h_nn) (.ref h_na) (.ref h_nb) (.ref h_nc) (.int x_mm_nodes) (.ref h_mny) (.ref h_tem) (.int x_mm_reading)))), (h_nv, .inl (cy_nv, 8000, .inl f52)), (h_nn, .inl (cy_nn, 8000, .inr (.inl f56))), (h_na, .inl (cy_na, 8000, .inl f64)), (h_nb, .inl (cy_nb, 8000, .inl f73)), (h_nc, .inl (cy_nc, 8000, .inl f82)), (h_mny, .inl (cy_mny, 32, .inl f_mny)), (h_tem, .inl (cy_tem, 192, .inl f_tem))] := by rw [ef82]; exact hD9
              have hS := hS9
              clear hP9 hD9 hS9
              have hf82 : Rg (-1) 7999 f82 := by rw [ef82]; exact rg_upd hf10 (by omega)
              have mv83 : MV (p1).toInt (x_mm_nodes).toInt hh ((x5).toInt + 1) f82 := by rw [ef82]; exact mv_step (i := x5) (j := z79) klp11_8 rfl (by omega) (by omega) (by omega) (Or.inr (by rw [← ez80]; omega))
              have mx84 : MVC (p1).toInt ((x5).toInt + 1) f_nc f82 := mvc_step (j := z79) (w := z80) klp11_13 (by omega) (by omega) rfl (by omega) ez80 (Or.inr ⟨by omega, by omega⟩) ef82 rfl
              clear ef82
              obtain ⟨z85, ez85⟩ : ∃ y : Int32, y = x5 + 1 := ⟨_, rfl⟩
              have tz85 : (z85).toInt = (x5).toInt + 1 := by rw [ez85]; exact i_add rfl (by decide) (by omega)
              refine lv_iinc (v := z85) (lv' := [(3, .int z85), (0, .ref h_mm), (1, .int p1), (2, .int z1)]) hx hb dX11_movesNodes_138 hl (k := 3) rfl (by rw [ez85]; rfl) (by decide) rfl (fun ls hl => ?_)
              refine lv_goto (tgt := 9) hx hb dX11_movesNodes_141 (by decide) ?_
              exact ih12 (z85) (f52) (f56) (f64) (f73) (f82) _ _ _ (by omega) hf52 hf64 hf73 hf82 (by omega) (mv_cast mv65 (by omega)) (mv_cast mv74 (by omega)) (mv_cast mv83 (by omega)) (mve_cast me53 (by omega)) (mve_cast me57 (by omega)) (mvc_cast mx66 (by omega)) (mvc_cast mx75 (by omega)) (mvc_cast mx84 (by omega)) (by omega) hP hD hS (lv_sub hl [1, 2, 3, 0] rfl)
            · have kc78 := (cv_eq (rfl : (z77).toInt = (z77).toInt) (by decide : ((-1) : Int32).toInt = -1)).mp c78
              refine lv_iconst (v := (-1)) hx hb dX11_movesNodes_123 (by decide) ?_
              refine lv_goto (tgt := 137) hx hb dX11_movesNodes_124 (by decide) ?_
              refine va_iast hx hb hK hP hD hS 5 4 rfl rfl (i := x5) (x := (-1)) (vp_in_iff.mpr (by omega)) dX11_movesNodes_137 (fun H locs hP9 hD9 hS9 => ?_)
              obtain ⟨f86, ef86⟩ : ∃ g : Nat → Int32, g = upd f10 (Int32.toNatClampNeg x5) (-1) := ⟨_, rfl⟩
              clear hP hD hS
              have hP : va_P (dC, dI) cls [(h_mm, .inr (8, (mo128 v_mm (.ref h_nv) (.ref h_nn) (.ref h_na) (.ref h_nb) (.ref h_nc) (.int x_mm_nodes) (.ref h_mny) (.ref h_tem) (.int x_mm_reading)))), (h_nv, .inl (cy_nv, 8000, .inl f52)), (h_nn, .inl (cy_nn, 8000, .inr (.inl f56))), (h_na, .inl (cy_na, 8000, .inl f64)), (h_nb, .inl (cy_nb, 8000, .inl f73)), (h_nc, .inl (cy_nc, 8000, .inl f86)), (h_mny, .inl (cy_mny, 32, .inl f_mny)), (h_tem, .inl (cy_tem, 192, .inl f_tem))] H := by rw [ef86]; exact hP9
              have hD : va_D A [(h_mm, .inr (8, (mo128 v_mm (.ref h_nv) (.ref h_nn) (.ref h_na) (.ref h_nb) (.ref h_nc) (.int x_mm_nodes) (.ref h_mny) (.ref h_tem) (.int x_mm_reading)))), (h_nv, .inl (cy_nv, 8000, .inl f52)), (h_nn, .inl (cy_nn, 8000, .inr (.inl f56))), (h_na, .inl (cy_na, 8000, .inl f64)), (h_nb, .inl (cy_nb, 8000, .inl f73)), (h_nc, .inl (cy_nc, 8000, .inl f86)), (h_mny, .inl (cy_mny, 32, .inl f_mny)), (h_tem, .inl (cy_tem, 192, .inl f_tem))] := by rw [ef86]; exact hD9
              have hS := hS9
              clear hP9 hD9 hS9
              have hf86 : Rg (-1) 7999 f86 := by rw [ef86]; exact rg_upd hf10 (by decide)
              have mv87 : MV (p1).toInt (x_mm_nodes).toInt hh ((x5).toInt + 1) f86 := by rw [ef86]; exact mv_step (i := x5) (j := z76) klp11_8 rfl (by omega) (by omega) (by omega) (Or.inl (by decide))
              have mx88 : MVC (p1).toInt ((x5).toInt + 1) f_nc f86 := mvc_step (j := z76) (w := z77) klp11_13 (by omega) (by omega) rfl (by omega) ez77 (Or.inl ⟨by omega, by decide⟩) ef86 rfl
              clear ef86
              obtain ⟨z89, ez89⟩ : ∃ y : Int32, y = x5 + 1 := ⟨_, rfl⟩
              have tz89 : (z89).toInt = (x5).toInt + 1 := by rw [ez89]; exact i_add rfl (by decide) (by omega)
              refine lv_iinc (v := z89) (lv' := [(3, .int z89), (0, .ref h_mm), (1, .int p1), (2, .int z1)]) hx hb dX11_movesNodes_138 hl (k := 3) rfl (by rw [ez89]; rfl) (by decide) rfl (fun ls hl => ?_)
              refine lv_goto (tgt := 9) hx hb dX11_movesNodes_141 (by decide) ?_
              exact ih12 (z89) (f52) (f56) (f64) (f73) (f86) _ _ _ (by omega) hf52 hf64 hf73 hf86 (by omega) (mv_cast mv65 (by omega)) (mv_cast mv74 (by omega)) (mv_cast mv87 (by omega)) (mve_cast me53 (by omega)) (mve_cast me57 (by omega)) (mvc_cast mx66 (by omega)) (mvc_cast mx75 (by omega)) (mvc_cast mx88 (by omega)) (by omega) hP hD hS (lv_sub hl [1, 2, 3, 0] rfl)
          · have kc69 := (cv_eq (rfl : (z68).toInt = (z68).toInt) (by decide : ((-1) : Int32).toInt = -1)).mp c69
            refine lv_iconst (v := (-1)) hx hb dX11_movesNodes_91 (by decide) ?_
            refine lv_goto (tgt := 105) hx hb dX11_movesNodes_92 (by decide) ?_
            refine va_iast hx hb hK hP hD hS 4 3 rfl rfl (i := x5) (x := (-1)) (vp_in_iff.mpr (by omega)) dX11_movesNodes_105 (fun H locs hP9 hD9 hS9 => ?_)
            obtain ⟨f90, ef90⟩ : ∃ g : Nat → Int32, g = upd f9 (Int32.toNatClampNeg x5) (-1) := ⟨_, rfl⟩
            clear hP hD hS
            have hP : va_P (dC, dI) cls [(h_mm, .inr (8, (mo128 v_mm (.ref h_nv) (.ref h_nn) (.ref h_na) (.ref h_nb) (.ref h_nc) (.int x_mm_nodes) (.ref h_mny) (.ref h_tem) (.int x_mm_reading)))), (h_nv, .inl (cy_nv, 8000, .inl f52)), (h_nn, .inl (cy_nn, 8000, .inr (.inl f56))), (h_na, .inl (cy_na, 8000, .inl f64)), (h_nb, .inl (cy_nb, 8000, .inl f90)), (h_nc, .inl (cy_nc, 8000, .inl f10)), (h_mny, .inl (cy_mny, 32, .inl f_mny)), (h_tem, .inl (cy_tem, 192, .inl f_tem))] H := by rw [ef90]; exact hP9
            have hD : va_D A [(h_mm, .inr (8, (mo128 v_mm (.ref h_nv) (.ref h_nn) (.ref h_na) (.ref h_nb) (.ref h_nc) (.int x_mm_nodes) (.ref h_mny) (.ref h_tem) (.int x_mm_reading)))), (h_nv, .inl (cy_nv, 8000, .inl f52)), (h_nn, .inl (cy_nn, 8000, .inr (.inl f56))), (h_na, .inl (cy_na, 8000, .inl f64)), (h_nb, .inl (cy_nb, 8000, .inl f90)), (h_nc, .inl (cy_nc, 8000, .inl f10)), (h_mny, .inl (cy_mny, 32, .inl f_mny)), (h_tem, .inl (cy_tem, 192, .inl f_tem))] := by rw [ef90]; exact hD9
            have hS := hS9
            clear hP9 hD9 hS9
            have hf90 : Rg (-1) 7999 f90 := by rw [ef90]; exact rg_upd hf9 (by decide)
            have mv91 : MV (p1).toInt (x_mm_nodes).toInt hh ((x5).toInt + 1) f90 := by rw [ef90]; exact mv_step (i := x5) (j := z67) klp11_7 rfl (by omega) (by omega) (by omega) (Or.inl (by decide))
            have mx92 : MVC (p1).toInt ((x5).toInt + 1) f_nb f90 := mvc_step (j := z67) (w := z68) klp11_12 (by omega) (by omega) rfl (by omega) ez68 (Or.inl ⟨by omega, by decide⟩) ef90 rfl
            clear ef90
            refine lv_aload_n hx hb dX11_movesNodes_106 rfl (lv_at hl 0 rfl) ?_
            refine va_get (D := (dC, dI)) (ci := 8) (v := .ref h_nc) (C := RX11) (T := TX11) (N := 71) hx hb hw iwX11 hown hK hP 0 rfl rfl 5 (by decide) (hw _ w_f_X11_14) (fun _ h9 => h9) rfl dX11_movesNodes_107 ?_
            refine lv_iload_n hx hb dX11_movesNodes_110 rfl (lv_at hl 3 rfl) ?_
            refine lv_aload_n hx hb dX11_movesNodes_111 rfl (lv_at hl 0 rfl) ?_
            refine va_get (D := (dC, dI)) (ci := 8) (v := .ref h_nc) (C := RX11) (T := TX11) (N := 71) hx hb hw iwX11 hown hK hP 0 rfl rfl 5 (by decide) (hw _ w_f_X11_14) (fun _ h9 => h9) rfl dX11_movesNodes_112 ?_
            refine lv_iload_n hx hb dX11_movesNodes_115 rfl (lv_at hl 1 rfl) ?_
            refine lv_iload_n hx hb dX11_movesNodes_116 rfl (lv_at hl 3 rfl) ?_
            refine lv_iadd hx hb dX11_movesNodes_117 ?_
            refine lv_topi (fun z93 ez93 => ?_)
            have qz93 : (z93).toInt = (z50).toInt := by rw [ez93, ez50]
            have tz93 : (z93).toInt = (p1).toInt + (x5).toInt := by rw [ez93]; exact i_add rfl rfl (by omega)
            refine va_iald hx hb hK hP 5 4 rfl rfl (i := z93) (vp_in_iff.mpr (by omega)) dX11_movesNodes_118 ?_
            refine lv_topi (fun z94 ez94 => ?_)
            have rz94 : -1 ≤ (z94).toInt ∧ (z94).toInt ≤ 7999 := by rw [ez94]; exact hf10 _
            refine lv_iconst (v := (-1)) hx hb dX11_movesNodes_119 (by decide) ?_
            refine lv_icmp_ne (tgt := 127) hx hb dX11_movesNodes_120 (by decide) (fun c95 => ?_) (fun c95 => ?_)
            · have kc95 := (not_congr (cv_eq (rfl : (z94).toInt = (z94).toInt) (by decide : ((-1) : Int32).toInt = -1))).mp c95
              refine lv_aload_n hx hb dX11_movesNodes_127 rfl (lv_at hl 0 rfl) ?_
              refine va_get (D := (dC, dI)) (ci := 8) (v := .ref h_nc) (C := RX11) (T := TX11) (N := 71) hx hb hw iwX11 hown hK hP 0 rfl rfl 5 (by decide) (hw _ w_f_X11_14) (fun _ h9 => h9) rfl dX11_movesNodes_128 ?_
              refine lv_iload_n hx hb dX11_movesNodes_131 rfl (lv_at hl 1 rfl) ?_
              refine lv_iload_n hx hb dX11_movesNodes_132 rfl (lv_at hl 3 rfl) ?_
              refine lv_iadd hx hb dX11_movesNodes_133 ?_
              refine lv_topi (fun z96 ez96 => ?_)
              have qz96 : (z96).toInt = (z50).toInt := by rw [ez96, ez50]
              have tz96 : (z96).toInt = (p1).toInt + (x5).toInt := by rw [ez96]; exact i_add rfl rfl (by omega)
              refine va_iald hx hb hK hP 5 4 rfl rfl (i := z96) (vp_in_iff.mpr (by omega)) dX11_movesNodes_134 ?_
              refine lv_topi (fun z97 ez97 => ?_)
              have rz97 : -1 ≤ (z97).toInt ∧ (z97).toInt ≤ 7999 := by rw [ez97]; exact hf10 _
              have gz97 := mv_get (j := z96) klp11_8 (by omega) ez97
              have qz97 : (z97).toInt = (z94).toInt := by rw [ez97, ez96, ez94, ez93]
              refine lv_iload_n hx hb dX11_movesNodes_135 rfl (lv_at hl 1 rfl) ?_
              refine lv_isub hx hb dX11_movesNodes_136 ?_
              refine lv_topi (fun z98 ez98 => ?_)
              have tz98 : (z98).toInt = (z97).toInt - (p1).toInt := by rw [ez98]; exact i_sub rfl rfl (by omega)
              have sz98 : -1 ≤ (z98).toInt ∧ (z98).toInt ≤ 7999 := by omega
              refine va_iast hx hb hK hP hD hS 5 4 rfl rfl (i := x5) (x := z98) (vp_in_iff.mpr (by omega)) dX11_movesNodes_137 (fun H locs hP9 hD9 hS9 => ?_)
              obtain ⟨f99, ef99⟩ : ∃ g : Nat → Int32, g = upd f10 (Int32.toNatClampNeg x5) z98 := ⟨_, rfl⟩
              clear hP hD hS
              have hP : va_P (dC, dI) cls [(h_mm, .inr (8, (mo128 v_mm (.ref h_nv) (.ref h_nn) (.ref h_na) (.ref h_nb) (.ref h_nc) (.int x_mm_nodes) (.ref h_mny) (.ref h_tem) (.int x_mm_reading)))), (h_nv, .inl (cy_nv, 8000, .inl f52)), (h_nn, .inl (cy_nn, 8000, .inr (.inl f56))), (h_na, .inl (cy_na, 8000, .inl f64)), (h_nb, .inl (cy_nb, 8000, .inl f90)), (h_nc, .inl (cy_nc, 8000, .inl f99)), (h_mny, .inl (cy_mny, 32, .inl f_mny)), (h_tem, .inl (cy_tem, 192, .inl f_tem))] H := by rw [ef99]; exact hP9
              have hD : va_D A [(h_mm, .inr (8, (mo128 v_mm (.ref h_nv) (.ref h_nn) (.ref h_na) (.ref h_nb) (.ref h_nc) (.int x_mm_nodes) (.ref h_mny) (.ref h_tem) (.int x_mm_reading)))), (h_nv, .inl (cy_nv, 8000, .inl f52)), (h_nn, .inl (cy_nn, 8000, .inr (.inl f56))), (h_na, .inl (cy_na, 8000, .inl f64)), (h_nb, .inl (cy_nb, 8000, .inl f90)), (h_nc, .inl (cy_nc, 8000, .inl f99)), (h_mny, .inl (cy_mny, 32, .inl f_mny)), (h_tem, .inl (cy_tem, 192, .inl f_tem))] := by rw [ef99]; exact hD9
              have hS := hS9
              clear hP9 hD9 hS9
              have hf99 : Rg (-1) 7999 f99 := by rw [ef99]; exact rg_upd hf10 (by omega)
              have mv100 : MV (p1).toInt (x_mm_nodes).toInt hh ((x5).toInt + 1) f99 := by rw [ef99]; exact mv_step (i := x5) (j := z96) klp11_8 rfl (by omega) (by omega) (by omega) (Or.inr (by rw [← ez97]; omega))
              have mx101 : MVC (p1).toInt ((x5).toInt + 1) f_nc f99 := mvc_step (j := z96) (w := z97) klp11_13 (by omega) (by omega) rfl (by omega) ez97 (Or.inr ⟨by omega, by omega⟩) ef99 rfl
              clear ef99
              obtain ⟨z102, ez102⟩ : ∃ y : Int32, y = x5 + 1 := ⟨_, rfl⟩
              have tz102 : (z102).toInt = (x5).toInt + 1 := by rw [ez102]; exact i_add rfl (by decide) (by omega)
              refine lv_iinc (v := z102) (lv' := [(3, .int z102), (0, .ref h_mm), (1, .int p1), (2, .int z1)]) hx hb dX11_movesNodes_138 hl (k := 3) rfl (by rw [ez102]; rfl) (by decide) rfl (fun ls hl => ?_)
              refine lv_goto (tgt := 9) hx hb dX11_movesNodes_141 (by decide) ?_
              exact ih12 (z102) (f52) (f56) (f64) (f90) (f99) _ _ _ (by omega) hf52 hf64 hf90 hf99 (by omega) (mv_cast mv65 (by omega)) (mv_cast mv91 (by omega)) (mv_cast mv100 (by omega)) (mve_cast me53 (by omega)) (mve_cast me57 (by omega)) (mvc_cast mx66 (by omega)) (mvc_cast mx92 (by omega)) (mvc_cast mx101 (by omega)) (by omega) hP hD hS (lv_sub hl [1, 2, 3, 0] rfl)
            · have kc95 := (cv_eq (rfl : (z94).toInt = (z94).toInt) (by decide : ((-1) : Int32).toInt = -1)).mp c95
              refine lv_iconst (v := (-1)) hx hb dX11_movesNodes_123 (by decide) ?_
              refine lv_goto (tgt := 137) hx hb dX11_movesNodes_124 (by decide) ?_
              refine va_iast hx hb hK hP hD hS 5 4 rfl rfl (i := x5) (x := (-1)) (vp_in_iff.mpr (by omega)) dX11_movesNodes_137 (fun H locs hP9 hD9 hS9 => ?_)
              obtain ⟨f103, ef103⟩ : ∃ g : Nat → Int32, g = upd f10 (Int32.toNatClampNeg x5) (-1) := ⟨_, rfl⟩
              clear hP hD hS
              have hP : va_P (dC, dI) cls [(h_mm, .inr (8, (mo128 v_mm (.ref h_nv) (.ref h_nn) (.ref h_na) (.ref h_nb) (.ref h_nc) (.int x_mm_nodes) (.ref h_mny) (.ref h_tem) (.int x_mm_reading)))), (h_nv, .inl (cy_nv, 8000, .inl f52)), (h_nn, .inl (cy_nn, 8000, .inr (.inl f56))), (h_na, .inl (cy_na, 8000, .inl f64)), (h_nb, .inl (cy_nb, 8000, .inl f90)), (h_nc, .inl (cy_nc, 8000, .inl f103)), (h_mny, .inl (cy_mny, 32, .inl f_mny)), (h_tem, .inl (cy_tem, 192, .inl f_tem))] H := by rw [ef103]; exact hP9
              have hD : va_D A [(h_mm, .inr (8, (mo128 v_mm (.ref h_nv) (.ref h_nn) (.ref h_na) (.ref h_nb) (.ref h_nc) (.int x_mm_nodes) (.ref h_mny) (.ref h_tem) (.int x_mm_reading)))), (h_nv, .inl (cy_nv, 8000, .inl f52)), (h_nn, .inl (cy_nn, 8000, .inr (.inl f56))), (h_na, .inl (cy_na, 8000, .inl f64)), (h_nb, .inl (cy_nb, 8000, .inl f90)), (h_nc, .inl (cy_nc, 8000, .inl f103)), (h_mny, .inl (cy_mny, 32, .inl f_mny)), (h_tem, .inl (cy_tem, 192, .inl f_tem))] := by rw [ef103]; exact hD9
              have hS := hS9
              clear hP9 hD9 hS9
              have hf103 : Rg (-1) 7999 f103 := by rw [ef103]; exact rg_upd hf10 (by decide)
              have mv104 : MV (p1).toInt (x_mm_nodes).toInt hh ((x5).toInt + 1) f103 := by rw [ef103]; exact mv_step (i := x5) (j := z93) klp11_8 rfl (by omega) (by omega) (by omega) (Or.inl (by decide))
              have mx105 : MVC (p1).toInt ((x5).toInt + 1) f_nc f103 := mvc_step (j := z93) (w := z94) klp11_13 (by omega) (by omega) rfl (by omega) ez94 (Or.inl ⟨by omega, by decide⟩) ef103 rfl
              clear ef103
              obtain ⟨z106, ez106⟩ : ∃ y : Int32, y = x5 + 1 := ⟨_, rfl⟩
              have tz106 : (z106).toInt = (x5).toInt + 1 := by rw [ez106]; exact i_add rfl (by decide) (by omega)
              refine lv_iinc (v := z106) (lv' := [(3, .int z106), (0, .ref h_mm), (1, .int p1), (2, .int z1)]) hx hb dX11_movesNodes_138 hl (k := 3) rfl (by rw [ez106]; rfl) (by decide) rfl (fun ls hl => ?_)
              refine lv_goto (tgt := 9) hx hb dX11_movesNodes_141 (by decide) ?_
              exact ih12 (z106) (f52) (f56) (f64) (f90) (f103) _ _ _ (by omega) hf52 hf64 hf90 hf103 (by omega) (mv_cast mv65 (by omega)) (mv_cast mv91 (by omega)) (mv_cast mv104 (by omega)) (mve_cast me53 (by omega)) (mve_cast me57 (by omega)) (mvc_cast mx66 (by omega)) (mvc_cast mx92 (by omega)) (mvc_cast mx105 (by omega)) (by omega) hP hD hS (lv_sub hl [1, 2, 3, 0] rfl)
        · have kc60 := (cv_eq (rfl : (z59).toInt = (z59).toInt) (by decide : ((-1) : Int32).toInt = -1)).mp c60
          refine lv_iconst (v := (-1)) hx hb dX11_movesNodes_59 (by decide) ?_
          refine lv_goto (tgt := 73) hx hb dX11_movesNodes_60 (by decide) ?_
          refine va_iast hx hb hK hP hD hS 3 2 rfl rfl (i := x5) (x := (-1)) (vp_in_iff.mpr (by omega)) dX11_movesNodes_73 (fun H locs hP9 hD9 hS9 => ?_)
          obtain ⟨f107, ef107⟩ : ∃ g : Nat → Int32, g = upd f8 (Int32.toNatClampNeg x5) (-1) := ⟨_, rfl⟩
          clear hP hD hS
          have hP : va_P (dC, dI) cls [(h_mm, .inr (8, (mo128 v_mm (.ref h_nv) (.ref h_nn) (.ref h_na) (.ref h_nb) (.ref h_nc) (.int x_mm_nodes) (.ref h_mny) (.ref h_tem) (.int x_mm_reading)))), (h_nv, .inl (cy_nv, 8000, .inl f52)), (h_nn, .inl (cy_nn, 8000, .inr (.inl f56))), (h_na, .inl (cy_na, 8000, .inl f107)), (h_nb, .inl (cy_nb, 8000, .inl f9)), (h_nc, .inl (cy_nc, 8000, .inl f10)), (h_mny, .inl (cy_mny, 32, .inl f_mny)), (h_tem, .inl (cy_tem, 192, .inl f_tem))] H := by rw [ef107]; exact hP9
          have hD : va_D A [(h_mm, .inr (8, (mo128 v_mm (.ref h_nv) (.ref h_nn) (.ref h_na) (.ref h_nb) (.ref h_nc) (.int x_mm_nodes) (.ref h_mny) (.ref h_tem) (.int x_mm_reading)))), (h_nv, .inl (cy_nv, 8000, .inl f52)), (h_nn, .inl (cy_nn, 8000, .inr (.inl f56))), (h_na, .inl (cy_na, 8000, .inl f107)), (h_nb, .inl (cy_nb, 8000, .inl f9)), (h_nc, .inl (cy_nc, 8000, .inl f10)), (h_mny, .inl (cy_mny, 32, .inl f_mny)), (h_tem, .inl (cy_tem, 192, .inl f_tem))] := by rw [ef107]; exact hD9
          have hS := hS9
          clear hP9 hD9 hS9
          have hf107 : Rg (-1) 7999 f107 := by rw [ef107]; exact rg_upd hf8 (by decide)
          have mv108 : MV (p1).toInt (x_mm_nodes).toInt hh ((x5).toInt + 1) f107 := by rw [ef107]; exact mv_step (i := x5) (j := z58) klp11_6 rfl (by omega) (by omega) (by omega) (Or.inl (by decide))
          have mx109 : MVC (p1).toInt ((x5).toInt + 1) f_na f107 := mvc_step (j := z58) (w := z59) klp11_11 (by omega) (by omega) rfl (by omega) ez59 (Or.inl ⟨by omega, by decide⟩) ef107 rfl
          clear ef107
          refine lv_aload_n hx hb dX11_movesNodes_74 rfl (lv_at hl 0 rfl) ?_
          refine va_get (D := (dC, dI)) (ci := 8) (v := .ref h_nb) (C := RX11) (T := TX11) (N := 71) hx hb hw iwX11 hown hK hP 0 rfl rfl 4 (by decide) (hw _ w_f_X11_11) (fun _ h9 => h9) rfl dX11_movesNodes_75 ?_
          refine lv_iload_n hx hb dX11_movesNodes_78 rfl (lv_at hl 3 rfl) ?_
          refine lv_aload_n hx hb dX11_movesNodes_79 rfl (lv_at hl 0 rfl) ?_
          refine va_get (D := (dC, dI)) (ci := 8) (v := .ref h_nb) (C := RX11) (T := TX11) (N := 71) hx hb hw iwX11 hown hK hP 0 rfl rfl 4 (by decide) (hw _ w_f_X11_11) (fun _ h9 => h9) rfl dX11_movesNodes_80 ?_
          refine lv_iload_n hx hb dX11_movesNodes_83 rfl (lv_at hl 1 rfl) ?_
          refine lv_iload_n hx hb dX11_movesNodes_84 rfl (lv_at hl 3 rfl) ?_
          refine lv_iadd hx hb dX11_movesNodes_85 ?_
          refine lv_topi (fun z110 ez110 => ?_)
          have qz110 : (z110).toInt = (z50).toInt := by rw [ez110, ez50]
          have tz110 : (z110).toInt = (p1).toInt + (x5).toInt := by rw [ez110]; exact i_add rfl rfl (by omega)
          refine va_iald hx hb hK hP 4 3 rfl rfl (i := z110) (vp_in_iff.mpr (by omega)) dX11_movesNodes_86 ?_
          refine lv_topi (fun z111 ez111 => ?_)
          have rz111 : -1 ≤ (z111).toInt ∧ (z111).toInt ≤ 7999 := by rw [ez111]; exact hf9 _
          refine lv_iconst (v := (-1)) hx hb dX11_movesNodes_87 (by decide) ?_
          refine lv_icmp_ne (tgt := 95) hx hb dX11_movesNodes_88 (by decide) (fun c112 => ?_) (fun c112 => ?_)
          · have kc112 := (not_congr (cv_eq (rfl : (z111).toInt = (z111).toInt) (by decide : ((-1) : Int32).toInt = -1))).mp c112
            refine lv_aload_n hx hb dX11_movesNodes_95 rfl (lv_at hl 0 rfl) ?_
            refine va_get (D := (dC, dI)) (ci := 8) (v := .ref h_nb) (C := RX11) (T := TX11) (N := 71) hx hb hw iwX11 hown hK hP 0 rfl rfl 4 (by decide) (hw _ w_f_X11_11) (fun _ h9 => h9) rfl dX11_movesNodes_96 ?_
            refine lv_iload_n hx hb dX11_movesNodes_99 rfl (lv_at hl 1 rfl) ?_
            refine lv_iload_n hx hb dX11_movesNodes_100 rfl (lv_at hl 3 rfl) ?_
            refine lv_iadd hx hb dX11_movesNodes_101 ?_
            refine lv_topi (fun z113 ez113 => ?_)
            have qz113 : (z113).toInt = (z50).toInt := by rw [ez113, ez50]
            have tz113 : (z113).toInt = (p1).toInt + (x5).toInt := by rw [ez113]; exact i_add rfl rfl (by omega)
            refine va_iald hx hb hK hP 4 3 rfl rfl (i := z113) (vp_in_iff.mpr (by omega)) dX11_movesNodes_102 ?_
            refine lv_topi (fun z114 ez114 => ?_)
            have rz114 : -1 ≤ (z114).toInt ∧ (z114).toInt ≤ 7999 := by rw [ez114]; exact hf9 _
            have gz114 := mv_get (j := z113) klp11_7 (by omega) ez114
            have qz114 : (z114).toInt = (z111).toInt := by rw [ez114, ez113, ez111, ez110]
            refine lv_iload_n hx hb dX11_movesNodes_103 rfl (lv_at hl 1 rfl) ?_
            refine lv_isub hx hb dX11_movesNodes_104 ?_
            refine lv_topi (fun z115 ez115 => ?_)
            have tz115 : (z115).toInt = (z114).toInt - (p1).toInt := by rw [ez115]; exact i_sub rfl rfl (by omega)
            have sz115 : -1 ≤ (z115).toInt ∧ (z115).toInt ≤ 7999 := by omega
            refine va_iast hx hb hK hP hD hS 4 3 rfl rfl (i := x5) (x := z115) (vp_in_iff.mpr (by omega)) dX11_movesNodes_105 (fun H locs hP9 hD9 hS9 => ?_)
            obtain ⟨f116, ef116⟩ : ∃ g : Nat → Int32, g = upd f9 (Int32.toNatClampNeg x5) z115 := ⟨_, rfl⟩
            clear hP hD hS
            have hP : va_P (dC, dI) cls [(h_mm, .inr (8, (mo128 v_mm (.ref h_nv) (.ref h_nn) (.ref h_na) (.ref h_nb) (.ref h_nc) (.int x_mm_nodes) (.ref h_mny) (.ref h_tem) (.int x_mm_reading)))), (h_nv, .inl (cy_nv, 8000, .inl f52)), (h_nn, .inl (cy_nn, 8000, .inr (.inl f56))), (h_na, .inl (cy_na, 8000, .inl f107)), (h_nb, .inl (cy_nb, 8000, .inl f116)), (h_nc, .inl (cy_nc, 8000, .inl f10)), (h_mny, .inl (cy_mny, 32, .inl f_mny)), (h_tem, .inl (cy_tem, 192, .inl f_tem))] H := by rw [ef116]; exact hP9
            have hD : va_D A [(h_mm, .inr (8, (mo128 v_mm (.ref h_nv) (.ref h_nn) (.ref h_na) (.ref h_nb) (.ref h_nc) (.int x_mm_nodes) (.ref h_mny) (.ref h_tem) (.int x_mm_reading)))), (h_nv, .inl (cy_nv, 8000, .inl f52)), (h_nn, .inl (cy_nn, 8000, .inr (.inl f56))), (h_na, .inl (cy_na, 8000, .inl f107)), (h_nb, .inl (cy_nb, 8000, .inl f116)), (h_nc, .inl (cy_nc, 8000, .inl f10)), (h_mny, .inl (cy_mny, 32, .inl f_mny)), (h_tem, .inl (cy_tem, 192, .inl f_tem))] := by rw [ef116]; exact hD9
            have hS := hS9
            clear hP9 hD9 hS9
            have hf116 : Rg (-1) 7999 f116 := by rw [ef116]; exact rg_upd hf9 (by omega)
            have mv117 : MV (p1).toInt (x_mm_nodes).toInt hh ((x5).toInt + 1) f116 := by rw [ef116]; exact mv_step (i := x5) (j := z113) klp11_7 rfl (by omega) (by omega) (by omega) (Or.inr (by rw [← ez114]; omega))
            have mx118 : MVC (p1).toInt ((x5).toInt + 1) f_nb f116 := mvc_step (j := z113) (w := z114) klp11_12 (by omega) (by omega) rfl (by omega) ez114 (Or.inr ⟨by omega, by omega⟩) ef116 rfl
            clear ef116
            refine lv_aload_n hx hb dX11_movesNodes_106 rfl (lv_at hl 0 rfl) ?_
            refine va_get (D := (dC, dI)) (ci := 8) (v := .ref h_nc) (C := RX11) (T := TX11) (N := 71) hx hb hw iwX11 hown hK hP 0 rfl rfl 5 (by decide) (hw _ w_f_X11_14) (fun _ h9 => h9) rfl dX11_movesNodes_107 ?_
            refine lv_iload_n hx hb dX11_movesNodes_110 rfl (lv_at hl 3 rfl) ?_
            refine lv_aload_n hx hb dX11_movesNodes_111 rfl (lv_at hl 0 rfl) ?_
            refine va_get (D := (dC, dI)) (ci := 8) (v := .ref h_nc) (C := RX11) (T := TX11) (N := 71) hx hb hw iwX11 hown hK hP 0 rfl rfl 5 (by decide) (hw _ w_f_X11_14) (fun _ h9 => h9) rfl dX11_movesNodes_112 ?_
            refine lv_iload_n hx hb dX11_movesNodes_115 rfl (lv_at hl 1 rfl) ?_
            refine lv_iload_n hx hb dX11_movesNodes_116 rfl (lv_at hl 3 rfl) ?_
            refine lv_iadd hx hb dX11_movesNodes_117 ?_
            refine lv_topi (fun z119 ez119 => ?_)
            have qz119 : (z119).toInt = (z50).toInt := by rw [ez119, ez50]
            have tz119 : (z119).toInt = (p1).toInt + (x5).toInt := by rw [ez119]; exact i_add rfl rfl (by omega)
            refine va_iald hx hb hK hP 5 4 rfl rfl (i := z119) (vp_in_iff.mpr (by omega)) dX11_movesNodes_118 ?_
            refine lv_topi (fun z120 ez120 => ?_)
            have rz120 : -1 ≤ (z120).toInt ∧ (z120).toInt ≤ 7999 := by rw [ez120]; exact hf10 _
            refine lv_iconst (v := (-1)) hx hb dX11_movesNodes_119 (by decide) ?_
            refine lv_icmp_ne (tgt := 127) hx hb dX11_movesNodes_120 (by decide) (fun c121 => ?_) (fun c121 => ?_)
            · have kc121 := (not_congr (cv_eq (rfl : (z120).toInt = (z120).toInt) (by decide : ((-1) : Int32).toInt = -1))).mp c121
              refine lv_aload_n hx hb dX11_movesNodes_127 rfl (lv_at hl 0 rfl) ?_
              refine va_get (D := (dC, dI)) (ci := 8) (v := .ref h_nc) (C := RX11) (T := TX11) (N := 71) hx hb hw iwX11 hown hK hP 0 rfl rfl 5 (by decide) (hw _ w_f_X11_14) (fun _ h9 => h9) rfl dX11_movesNodes_128 ?_
              refine lv_iload_n hx hb dX11_movesNodes_131 rfl (lv_at hl 1 rfl) ?_
              refine lv_iload_n hx hb dX11_movesNodes_132 rfl (lv_at hl 3 rfl) ?_
              refine lv_iadd hx hb dX11_movesNodes_133 ?_
              refine lv_topi (fun z122 ez122 => ?_)
              have qz122 : (z122).toInt = (z50).toInt := by rw [ez122, ez50]
              have tz122 : (z122).toInt = (p1).toInt + (x5).toInt := by rw [ez122]; exact i_add rfl rfl (by omega)
              refine va_iald hx hb hK hP 5 4 rfl rfl (i := z122) (vp_in_iff.mpr (by omega)) dX11_movesNodes_134 ?_
              refine lv_topi (fun z123 ez123 => ?_)
              have rz123 : -1 ≤ (z123).toInt ∧ (z123).toInt ≤ 7999 := by rw [ez123]; exact hf10 _
              have gz123 := mv_get (j := z122) klp11_8 (by omega) ez123
              have qz123 : (z123).toInt = (z120).toInt := by rw [ez123, ez122, ez120, ez119]
              refine lv_iload_n hx hb dX11_movesNodes_135 rfl (lv_at hl 1 rfl) ?_
              refine lv_isub hx hb dX11_movesNodes_136 ?_
              refine lv_topi (fun z124 ez124 => ?_)
              have tz124 : (z124).toInt = (z123).toInt - (p1).toInt := by rw [ez124]; exact i_sub rfl rfl (by omega)
              have sz124 : -1 ≤ (z124).toInt ∧ (z124).toInt ≤ 7999 := by omega
              refine va_iast hx hb hK hP hD hS 5 4 rfl rfl (i := x5) (x := z124) (vp_in_iff.mpr (by omega)) dX11_movesNodes_137 (fun H locs hP9 hD9 hS9 => ?_)
              obtain ⟨f125, ef125⟩ : ∃ g : Nat → Int32, g = upd f10 (Int32.toNatClampNeg x5) z124 := ⟨_, rfl⟩
              clear hP hD hS
              have hP : va_P (dC, dI) cls [(h_mm, .inr (8, (mo128 v_mm (.ref h_nv) (.ref h_nn) (.ref h_na) (.ref h_nb) (.ref h_nc) (.int x_mm_nodes) (.ref h_mny) (.ref h_tem) (.int x_mm_reading)))), (h_nv, .inl (cy_nv, 8000, .inl f52)), (h_nn, .inl (cy_nn, 8000, .inr (.inl f56))), (h_na, .inl (cy_na, 8000, .inl f107)), (h_nb, .inl (cy_nb, 8000, .inl f116)), (h_nc, .inl (cy_nc, 8000, .inl f125)), (h_mny, .inl (cy_mny, 32, .inl f_mny)), (h_tem, .inl (cy_tem, 192, .inl f_tem))] H := by rw [ef125]; exact hP9
              have hD : va_D A [(h_mm, .inr (8, (mo128 v_mm (.ref h_nv) (.ref h_nn) (.ref h_na) (.ref h_nb) (.ref h_nc) (.int x_mm_nodes) (.ref h_mny) (.ref h_tem) (.int x_mm_reading)))), (h_nv, .inl (cy_nv, 8000, .inl f52)), (h_nn, .inl (cy_nn, 8000, .inr (.inl f56))), (h_na, .inl (cy_na, 8000, .inl f107)), (h_nb, .inl (cy_nb, 8000, .inl f116)), (h_nc, .inl (cy_nc, 8000, .inl f125)), (h_mny, .inl (cy_mny, 32, .inl f_mny)), (h_tem, .inl (cy_tem, 192, .inl f_tem))] := by rw [ef125]; exact hD9
              have hS := hS9
              clear hP9 hD9 hS9
              have hf125 : Rg (-1) 7999 f125 := by rw [ef125]; exact rg_upd hf10 (by omega)
              have mv126 : MV (p1).toInt (x_mm_nodes).toInt hh ((x5).toInt + 1) f125 := by rw [ef125]; exact mv_step (i := x5) (j := z122) klp11_8 rfl (by omega) (by omega) (by omega) (Or.inr (by rw [← ez123]; omega))
              have mx127 : MVC (p1).toInt ((x5).toInt + 1) f_nc f125 := mvc_step (j := z122) (w := z123) klp11_13 (by omega) (by omega) rfl (by omega) ez123 (Or.inr ⟨by omega, by omega⟩) ef125 rfl
              clear ef125
              obtain ⟨z128, ez128⟩ : ∃ y : Int32, y = x5 + 1 := ⟨_, rfl⟩
              have tz128 : (z128).toInt = (x5).toInt + 1 := by rw [ez128]; exact i_add rfl (by decide) (by omega)
              refine lv_iinc (v := z128) (lv' := [(3, .int z128), (0, .ref h_mm), (1, .int p1), (2, .int z1)]) hx hb dX11_movesNodes_138 hl (k := 3) rfl (by rw [ez128]; rfl) (by decide) rfl (fun ls hl => ?_)
              refine lv_goto (tgt := 9) hx hb dX11_movesNodes_141 (by decide) ?_
              exact ih12 (z128) (f52) (f56) (f107) (f116) (f125) _ _ _ (by omega) hf52 hf107 hf116 hf125 (by omega) (mv_cast mv108 (by omega)) (mv_cast mv117 (by omega)) (mv_cast mv126 (by omega)) (mve_cast me53 (by omega)) (mve_cast me57 (by omega)) (mvc_cast mx109 (by omega)) (mvc_cast mx118 (by omega)) (mvc_cast mx127 (by omega)) (by omega) hP hD hS (lv_sub hl [1, 2, 3, 0] rfl)
            · have kc121 := (cv_eq (rfl : (z120).toInt = (z120).toInt) (by decide : ((-1) : Int32).toInt = -1)).mp c121
              refine lv_iconst (v := (-1)) hx hb dX11_movesNodes_123 (by decide) ?_
              refine lv_goto (tgt := 137) hx hb dX11_movesNodes_124 (by decide) ?_
              refine va_iast hx hb hK hP hD hS 5 4 rfl rfl (i := x5) (x := (-1)) (vp_in_iff.mpr (by omega)) dX11_movesNodes_137 (fun H locs hP9 hD9 hS9 => ?_)
              obtain ⟨f129, ef129⟩ : ∃ g : Nat → Int32, g = upd f10 (Int32.toNatClampNeg x5) (-1) := ⟨_, rfl⟩
              clear hP hD hS
              have hP : va_P (dC, dI) cls [(h_mm, .inr (8, (mo128 v_mm (.ref h_nv) (.ref h_nn) (.ref h_na) (.ref h_nb) (.ref h_nc) (.int x_mm_nodes) (.ref h_mny) (.ref h_tem) (.int x_mm_reading)))), (h_nv, .inl (cy_nv, 8000, .inl f52)), (h_nn, .inl (cy_nn, 8000, .inr (.inl f56))), (h_na, .inl (cy_na, 8000, .inl f107)), (h_nb, .inl (cy_nb, 8000, .inl f116)), (h_nc, .inl (cy_nc, 8000, .inl f129)), (h_mny, .inl (cy_mny, 32, .inl f_mny)), (h_tem, .inl (cy_tem, 192, .inl f_tem))] H := by rw [ef129]; exact hP9
              have hD : va_D A [(h_mm, .inr (8, (mo128 v_mm (.ref h_nv) (.ref h_nn) (.ref h_na) (.ref h_nb) (.ref h_nc) (.int x_mm_nodes) (.ref h_mny) (.ref h_tem) (.int x_mm_reading)))), (h_nv, .inl (cy_nv, 8000, .inl f52)), (h_nn, .inl (cy_nn, 8000, .inr (.inl f56))), (h_na, .inl (cy_na, 8000, .inl f107)), (h_nb, .inl (cy_nb, 8000, .inl f116)), (h_nc, .inl (cy_nc, 8000, .inl f129)), (h_mny, .inl (cy_mny, 32, .inl f_mny)), (h_tem, .inl (cy_tem, 192, .inl f_tem))] := by rw [ef129]; exact hD9
              have hS := hS9
              clear hP9 hD9 hS9
              have hf129 : Rg (-1) 7999 f129 := by rw [ef129]; exact rg_upd hf10 (by decide)
              have mv130 : MV (p1).toInt (x_mm_nodes).toInt hh ((x5).toInt + 1) f129 := by rw [ef129]; exact mv_step (i := x5) (j := z119) klp11_8 rfl (by omega) (by omega) (by omega) (Or.inl (by decide))
              have mx131 : MVC (p1).toInt ((x5).toInt + 1) f_nc f129 := mvc_step (j := z119) (w := z120) klp11_13 (by omega) (by omega) rfl (by omega) ez120 (Or.inl ⟨by omega, by decide⟩) ef129 rfl
              clear ef129
              obtain ⟨z132, ez132⟩ : ∃ y : Int32, y = x5 + 1 := ⟨_, rfl⟩
              have tz132 : (z132).toInt = (x5).toInt + 1 := by rw [ez132]; exact i_add rfl (by decide) (by omega)
              refine lv_iinc (v := z132) (lv' := [(3, .int z132), (0, .ref h_mm), (1, .int p1), (2, .int z1)]) hx hb dX11_movesNodes_138 hl (k := 3) rfl (by rw [ez132]; rfl) (by decide) rfl (fun ls hl => ?_)
              refine lv_goto (tgt := 9) hx hb dX11_movesNodes_141 (by decide) ?_
              exact ih12 (z132) (f52) (f56) (f107) (f116) (f129) _ _ _ (by omega) hf52 hf107 hf116 hf129 (by omega) (mv_cast mv108 (by omega)) (mv_cast mv117 (by omega)) (mv_cast mv130 (by omega)) (mve_cast me53 (by omega)) (mve_cast me57 (by omega)) (mvc_cast mx109 (by omega)) (mvc_cast mx118 (by omega)) (mvc_cast mx131 (by omega)) (by omega) hP hD hS (lv_sub hl [1, 2, 3, 0] rfl)
          · have kc112 := (cv_eq (rfl : (z111).toInt = (z111).toInt) (by decide : ((-1) : Int32).toInt = -1)).mp c112
            refine lv_iconst (v := (-1)) hx hb dX11_movesNodes_91 (by decide) ?_
            refine lv_goto (tgt := 105) hx hb dX11_movesNodes_92 (by decide) ?_
            refine va_iast hx hb hK hP hD hS 4 3 rfl rfl (i := x5) (x := (-1)) (vp_in_iff.mpr (by omega)) dX11_movesNodes_105 (fun H locs hP9 hD9 hS9 => ?_)
            obtain ⟨f133, ef133⟩ : ∃ g : Nat → Int32, g = upd f9 (Int32.toNatClampNeg x5) (-1) := ⟨_, rfl⟩
            clear hP hD hS
            have hP : va_P (dC, dI) cls [(h_mm, .inr (8, (mo128 v_mm (.ref h_nv) (.ref h_nn) (.ref h_na) (.ref h_nb) (.ref h_nc) (.int x_mm_nodes) (.ref h_mny) (.ref h_tem) (.int x_mm_reading)))), (h_nv, .inl (cy_nv, 8000, .inl f52)), (h_nn, .inl (cy_nn, 8000, .inr (.inl f56))), (h_na, .inl (cy_na, 8000, .inl f107)), (h_nb, .inl (cy_nb, 8000, .inl f133)), (h_nc, .inl (cy_nc, 8000, .inl f10)), (h_mny, .inl (cy_mny, 32, .inl f_mny)), (h_tem, .inl (cy_tem, 192, .inl f_tem))] H := by rw [ef133]; exact hP9
            have hD : va_D A [(h_mm, .inr (8, (mo128 v_mm (.ref h_nv) (.ref h_nn) (.ref h_na) (.ref h_nb) (.ref h_nc) (.int x_mm_nodes) (.ref h_mny) (.ref h_tem) (.int x_mm_reading)))), (h_nv, .inl (cy_nv, 8000, .inl f52)), (h_nn, .inl (cy_nn, 8000, .inr (.inl f56))), (h_na, .inl (cy_na, 8000, .inl f107)), (h_nb, .inl (cy_nb, 8000, .inl f133)), (h_nc, .inl (cy_nc, 8000, .inl f10)), (h_mny, .inl (cy_mny, 32, .inl f_mny)), (h_tem, .inl (cy_tem, 192, .inl f_tem))] := by rw [ef133]; exact hD9
            have hS := hS9
            clear hP9 hD9 hS9
            have hf133 : Rg (-1) 7999 f133 := by rw [ef133]; exact rg_upd hf9 (by decide)
            have mv134 : MV (p1).toInt (x_mm_nodes).toInt hh ((x5).toInt + 1) f133 := by rw [ef133]; exact mv_step (i := x5) (j := z110) klp11_7 rfl (by omega) (by omega) (by omega) (Or.inl (by decide))
            have mx135 : MVC (p1).toInt ((x5).toInt + 1) f_nb f133 := mvc_step (j := z110) (w := z111) klp11_12 (by omega) (by omega) rfl (by omega) ez111 (Or.inl ⟨by omega, by decide⟩) ef133 rfl
            clear ef133
            refine lv_aload_n hx hb dX11_movesNodes_106 rfl (lv_at hl 0 rfl) ?_
            refine va_get (D := (dC, dI)) (ci := 8) (v := .ref h_nc) (C := RX11) (T := TX11) (N := 71) hx hb hw iwX11 hown hK hP 0 rfl rfl 5 (by decide) (hw _ w_f_X11_14) (fun _ h9 => h9) rfl dX11_movesNodes_107 ?_
            refine lv_iload_n hx hb dX11_movesNodes_110 rfl (lv_at hl 3 rfl) ?_
            refine lv_aload_n hx hb dX11_movesNodes_111 rfl (lv_at hl 0 rfl) ?_
            refine va_get (D := (dC, dI)) (ci := 8) (v := .ref h_nc) (C := RX11) (T := TX11) (N := 71) hx hb hw iwX11 hown hK hP 0 rfl rfl 5 (by decide) (hw _ w_f_X11_14) (fun _ h9 => h9) rfl dX11_movesNodes_112 ?_
            refine lv_iload_n hx hb dX11_movesNodes_115 rfl (lv_at hl 1 rfl) ?_
            refine lv_iload_n hx hb dX11_movesNodes_116 rfl (lv_at hl 3 rfl) ?_
            refine lv_iadd hx hb dX11_movesNodes_117 ?_
            refine lv_topi (fun z136 ez136 => ?_)
            have qz136 : (z136).toInt = (z50).toInt := by rw [ez136, ez50]
            have tz136 : (z136).toInt = (p1).toInt + (x5).toInt := by rw [ez136]; exact i_add rfl rfl (by omega)
            refine va_iald hx hb hK hP 5 4 rfl rfl (i := z136) (vp_in_iff.mpr (by omega)) dX11_movesNodes_118 ?_
            refine lv_topi (fun z137 ez137 => ?_)
            have rz137 : -1 ≤ (z137).toInt ∧ (z137).toInt ≤ 7999 := by rw [ez137]; exact hf10 _
            refine lv_iconst (v := (-1)) hx hb dX11_movesNodes_119 (by decide) ?_
            refine lv_icmp_ne (tgt := 127) hx hb dX11_movesNodes_120 (by decide) (fun c138 => ?_) (fun c138 => ?_)
            · have kc138 := (not_congr (cv_eq (rfl : (z137).toInt = (z137).toInt) (by decide : ((-1) : Int32).toInt = -1))).mp c138
              refine lv_aload_n hx hb dX11_movesNodes_127 rfl (lv_at hl 0 rfl) ?_
              refine va_get (D := (dC, dI)) (ci := 8) (v := .ref h_nc) (C := RX11) (T := TX11) (N := 71) hx hb hw iwX11 hown hK hP 0 rfl rfl 5 (by decide) (hw _ w_f_X11_14) (fun _ h9 => h9) rfl dX11_movesNodes_128 ?_
              refine lv_iload_n hx hb dX11_movesNodes_131 rfl (lv_at hl 1 rfl) ?_
              refine lv_iload_n hx hb dX11_movesNodes_132 rfl (lv_at hl 3 rfl) ?_
              refine lv_iadd hx hb dX11_movesNodes_133 ?_
              refine lv_topi (fun z139 ez139 => ?_)
              have qz139 : (z139).toInt = (z50).toInt := by rw [ez139, ez50]
              have tz139 : (z139).toInt = (p1).toInt + (x5).toInt := by rw [ez139]; exact i_add rfl rfl (by omega)
              refine va_iald hx hb hK hP 5 4 rfl rfl (i := z139) (vp_in_iff.mpr (by omega)) dX11_movesNodes_134 ?_
              refine lv_topi (fun z140 ez140 => ?_)
              have rz140 : -1 ≤ (z140).toInt ∧ (z140).toInt ≤ 7999 := by rw [ez140]; exact hf10 _
              have gz140 := mv_get (j := z139) klp11_8 (by omega) ez140
              have qz140 : (z140).toInt = (z137).toInt := by rw [ez140, ez139, ez137, ez136]
              refine lv_iload_n hx hb dX11_movesNodes_135 rfl (lv_at hl 1 rfl) ?_
              refine lv_isub hx hb dX11_movesNodes_136 ?_
              refine lv_topi (fun z141 ez141 => ?_)
              have tz141 : (z141).toInt = (z140).toInt - (p1).toInt := by rw [ez141]; exact i_sub rfl rfl (by omega)
              have sz141 : -1 ≤ (z141).toInt ∧ (z141).toInt ≤ 7999 := by omega
              refine va_iast hx hb hK hP hD hS 5 4 rfl rfl (i := x5) (x := z141) (vp_in_iff.mpr (by omega)) dX11_movesNodes_137 (fun H locs hP9 hD9 hS9 => ?_)
              obtain ⟨f142, ef142⟩ : ∃ g : Nat → Int32, g = upd f10 (Int32.toNatClampNeg x5) z141 := ⟨_, rfl⟩
              clear hP hD hS
              have hP : va_P (dC, dI) cls [(h_mm, .inr (8, (mo128 v_mm (.ref h_nv) (.ref h_nn) (.ref h_na) (.ref h_nb) (.ref h_nc) (.int x_mm_nodes) (.ref h_mny) (.ref h_tem) (.int x_mm_reading)))), (h_nv, .inl (cy_nv, 8000, .inl f52)), (h_nn, .inl (cy_nn, 8000, .inr (.inl f56))), (h_na, .inl (cy_na, 8000, .inl f107)), (h_nb, .inl (cy_nb, 8000, .inl f133)), (h_nc, .inl (cy_nc, 8000, .inl f142)), (h_mny, .inl (cy_mny, 32, .inl f_mny)), (h_tem, .inl (cy_tem, 192, .inl f_tem))] H := by rw [ef142]; exact hP9
              have hD : va_D A [(h_mm, .inr (8, (mo128 v_mm (.ref h_nv) (.ref h_nn) (.ref h_na) (.ref h_nb) (.ref h_nc) (.int x_mm_nodes) (.ref h_mny) (.ref h_tem) (.int x_mm_reading)))), (h_nv, .inl (cy_nv, 8000, .inl f52)), (h_nn, .inl (cy_nn, 8000, .inr (.inl f56))), (h_na, .inl (cy_na, 8000, .inl f107)), (h_nb, .inl (cy_nb, 8000, .inl f133)), (h_nc, .inl (cy_nc, 8000, .inl f142)), (h_mny, .inl (cy_mny, 32, .inl f_mny)), (h_tem, .inl (cy_tem, 192, .inl f_tem))] := by rw [ef142]; exact hD9
              have hS := hS9
              clear hP9 hD9 hS9
              have hf142 : Rg (-1) 7999 f142 := by rw [ef142]; exact rg_upd hf10 (by omega)
              have mv143 : MV (p1).toInt (x_mm_nodes).toInt hh ((x5).toInt + 1) f142 := by rw [ef142]; exact mv_step (i := x5) (j := z139) klp11_8 rfl (by omega) (by omega) (by omega) (Or.inr (by rw [← ez140]; omega))
              have mx144 : MVC (p1).toInt ((x5).toInt + 1) f_nc f142 := mvc_step (j := z139) (w := z140) klp11_13 (by omega) (by omega) rfl (by omega) ez140 (Or.inr ⟨by omega, by omega⟩) ef142 rfl
              clear ef142
              obtain ⟨z145, ez145⟩ : ∃ y : Int32, y = x5 + 1 := ⟨_, rfl⟩
              have tz145 : (z145).toInt = (x5).toInt + 1 := by rw [ez145]; exact i_add rfl (by decide) (by omega)
              refine lv_iinc (v := z145) (lv' := [(3, .int z145), (0, .ref h_mm), (1, .int p1), (2, .int z1)]) hx hb dX11_movesNodes_138 hl (k := 3) rfl (by rw [ez145]; rfl) (by decide) rfl (fun ls hl => ?_)
              refine lv_goto (tgt := 9) hx hb dX11_movesNodes_141 (by decide) ?_
              exact ih12 (z145) (f52) (f56) (f107) (f133) (f142) _ _ _ (by omega) hf52 hf107 hf133 hf142 (by omega) (mv_cast mv108 (by omega)) (mv_cast mv134 (by omega)) (mv_cast mv143 (by omega)) (mve_cast me53 (by omega)) (mve_cast me57 (by omega)) (mvc_cast mx109 (by omega)) (mvc_cast mx135 (by omega)) (mvc_cast mx144 (by omega)) (by omega) hP hD hS (lv_sub hl [1, 2, 3, 0] rfl)
            · have kc138 := (cv_eq (rfl : (z137).toInt = (z137).toInt) (by decide : ((-1) : Int32).toInt = -1)).mp c138
              refine lv_iconst (v := (-1)) hx hb dX11_movesNodes_123 (by decide) ?_
              refine lv_goto (tgt := 137) hx hb dX11_movesNodes_124 (by decide) ?_
              refine va_iast hx hb hK hP hD hS 5 4 rfl rfl (i := x5) (x := (-1)) (vp_in_iff.mpr (by omega)) dX11_movesNodes_137 (fun H locs hP9 hD9 hS9 => ?_)
              obtain ⟨f146, ef146⟩ : ∃ g : Nat → Int32, g = upd f10 (Int32.toNatClampNeg x5) (-1) := ⟨_, rfl⟩
              clear hP hD hS
              have hP : va_P (dC, dI) cls [(h_mm, .inr (8, (mo128 v_mm (.ref h_nv) (.ref h_nn) (.ref h_na) (.ref h_nb) (.ref h_nc) (.int x_mm_nodes) (.ref h_mny) (.ref h_tem) (.int x_mm_reading)))), (h_nv, .inl (cy_nv, 8000, .inl f52)), (h_nn, .inl (cy_nn, 8000, .inr (.inl f56))), (h_na, .inl (cy_na, 8000, .inl f107)), (h_nb, .inl (cy_nb, 8000, .inl f133)), (h_nc, .inl (cy_nc, 8000, .inl f146)), (h_mny, .inl (cy_mny, 32, .inl f_mny)), (h_tem, .inl (cy_tem, 192, .inl f_tem))] H := by rw [ef146]; exact hP9
              have hD : va_D A [(h_mm, .inr (8, (mo128 v_mm (.ref h_nv) (.ref h_nn) (.ref h_na) (.ref h_nb) (.ref h_nc) (.int x_mm_nodes) (.ref h_mny) (.ref h_tem) (.int x_mm_reading)))), (h_nv, .inl (cy_nv, 8000, .inl f52)), (h_nn, .inl (cy_nn, 8000, .inr (.inl f56))), (h_na, .inl (cy_na, 8000, .inl f107)), (h_nb, .inl (cy_nb, 8000, .inl f133)), (h_nc, .inl (cy_nc, 8000, .inl f146)), (h_mny, .inl (cy_mny, 32, .inl f_mny)), (h_tem, .inl (cy_tem, 192, .inl f_tem))] := by rw [ef146]; exact hD9
              have hS := hS9
              clear hP9 hD9 hS9
              have hf146 : Rg (-1) 7999 f146 := by rw [ef146]; exact rg_upd hf10 (by decide)
              have mv147 : MV (p1).toInt (x_mm_nodes).toInt hh ((x5).toInt + 1) f146 := by rw [ef146]; exact mv_step (i := x5) (j := z136) klp11_8 rfl (by omega) (by omega) (by omega) (Or.inl (by decide))
              have mx148 : MVC (p1).toInt ((x5).toInt + 1) f_nc f146 := mvc_step (j := z136) (w := z137) klp11_13 (by omega) (by omega) rfl (by omega) ez137 (Or.inl ⟨by omega, by decide⟩) ef146 rfl
              clear ef146
              obtain ⟨z149, ez149⟩ : ∃ y : Int32, y = x5 + 1 := ⟨_, rfl⟩
              have tz149 : (z149).toInt = (x5).toInt + 1 := by rw [ez149]; exact i_add rfl (by decide) (by omega)
              refine lv_iinc (v := z149) (lv' := [(3, .int z149), (0, .ref h_mm), (1, .int p1), (2, .int z1)]) hx hb dX11_movesNodes_138 hl (k := 3) rfl (by rw [ez149]; rfl) (by decide) rfl (fun ls hl => ?_)
              refine lv_goto (tgt := 9) hx hb dX11_movesNodes_141 (by decide) ?_
              exact ih12 (z149) (f52) (f56) (f107) (f133) (f146) _ _ _ (by omega) hf52 hf107 hf133 hf146 (by omega) (mv_cast mv108 (by omega)) (mv_cast mv134 (by omega)) (mv_cast mv147 (by omega)) (mve_cast me53 (by omega)) (mve_cast me57 (by omega)) (mvc_cast mx109 (by omega)) (mvc_cast mx135 (by omega)) (mvc_cast mx148 (by omega)) (by omega) hP hD hS (lv_sub hl [1, 2, 3, 0] rfl)
  have cst0 : (0 : Int32).toInt = 0 := by decide
  exact lp11 _ (0) (f_nv) (f_nn) (f_na) (f_nb) (f_nc) _ _ _ (by decide) hf_nv hf_na hf_nb hf_nc (by omega) (mv_cast mv2 (by omega)) (mv_cast mv3 (by omega)) (mv_cast mv4 (by omega)) (mve_cast (mve_zero rfl) (by omega)) (mve_cast (mve_zero rfl) (by omega)) (mvc_cast (mvc_zero rfl) (by omega)) (mvc_cast (mvc_zero rfl) (by omega)) (mvc_cast (mvc_zero rfl) (by omega)) (Nat.le_refl _) hP hD hS (lv_sub hl [2, 3, 1, 0] rfl)

