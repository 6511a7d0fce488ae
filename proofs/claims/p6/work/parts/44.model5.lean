theorem dX11_movesNodes_0 : decode cX11_movesNodes 0 = .ok (.aload_n 0, 1) := by decide +kernel
theorem dX11_movesNodes_1 : decode cX11_movesNodes 1 = .ok (.getfield 20, 3) := by decide +kernel
theorem dX11_movesNodes_10 : decode cX11_movesNodes 10 = .ok (.iload_n 2, 1) := by decide +kernel
theorem dX11_movesNodes_100 : decode cX11_movesNodes 100 = .ok (.iload_n 3, 1) := by decide +kernel
theorem dX11_movesNodes_101 : decode cX11_movesNodes 101 = .ok (.iadd, 1) := by decide +kernel
theorem dX11_movesNodes_102 : decode cX11_movesNodes 102 = .ok (.iaload, 1) := by decide +kernel
theorem dX11_movesNodes_103 : decode cX11_movesNodes 103 = .ok (.iload_n 1, 1) := by decide +kernel
theorem dX11_movesNodes_104 : decode cX11_movesNodes 104 = .ok (.isub, 1) := by decide +kernel
theorem dX11_movesNodes_105 : decode cX11_movesNodes 105 = .ok (.iastore, 1) := by decide +kernel
theorem dX11_movesNodes_106 : decode cX11_movesNodes 106 = .ok (.aload_n 0, 1) := by decide +kernel
theorem dX11_movesNodes_107 : decode cX11_movesNodes 107 = .ok (.getfield 14, 3) := by decide +kernel
theorem dX11_movesNodes_11 : decode cX11_movesNodes 11 = .ok (.if_icmp .ge 133, 3) := by decide +kernel
theorem dX11_movesNodes_110 : decode cX11_movesNodes 110 = .ok (.iload_n 3, 1) := by decide +kernel
theorem dX11_movesNodes_111 : decode cX11_movesNodes 111 = .ok (.aload_n 0, 1) := by decide +kernel
theorem dX11_movesNodes_112 : decode cX11_movesNodes 112 = .ok (.getfield 14, 3) := by decide +kernel
theorem dX11_movesNodes_115 : decode cX11_movesNodes 115 = .ok (.iload_n 1, 1) := by decide +kernel
theorem dX11_movesNodes_116 : decode cX11_movesNodes 116 = .ok (.iload_n 3, 1) := by decide +kernel
theorem dX11_movesNodes_117 : decode cX11_movesNodes 117 = .ok (.iadd, 1) := by decide +kernel
theorem dX11_movesNodes_118 : decode cX11_movesNodes 118 = .ok (.iaload, 1) := by decide +kernel
theorem dX11_movesNodes_119 : decode cX11_movesNodes 119 = .ok (.iconst (-1), 1) := by decide +kernel
theorem dX11_movesNodes_120 : decode cX11_movesNodes 120 = .ok (.if_icmp .ne 7, 3) := by decide +kernel
theorem dX11_movesNodes_123 : decode cX11_movesNodes 123 = .ok (.iconst (-1), 1) := by decide +kernel
theorem dX11_movesNodes_124 : decode cX11_movesNodes 124 = .ok (.goto 13, 3) := by decide +kernel
theorem dX11_movesNodes_127 : decode cX11_movesNodes 127 = .ok (.aload_n 0, 1) := by decide +kernel
theorem dX11_movesNodes_128 : decode cX11_movesNodes 128 = .ok (.getfield 14, 3) := by decide +kernel
theorem dX11_movesNodes_131 : decode cX11_movesNodes 131 = .ok (.iload_n 1, 1) := by decide +kernel
theorem dX11_movesNodes_132 : decode cX11_movesNodes 132 = .ok (.iload_n 3, 1) := by decide +kernel
theorem dX11_movesNodes_133 : decode cX11_movesNodes 133 = .ok (.iadd, 1) := by decide +kernel
theorem dX11_movesNodes_134 : decode cX11_movesNodes 134 = .ok (.iaload, 1) := by decide +kernel
theorem dX11_movesNodes_135 : decode cX11_movesNodes 135 = .ok (.iload_n 1, 1) := by decide +kernel
theorem dX11_movesNodes_136 : decode cX11_movesNodes 136 = .ok (.isub, 1) := by decide +kernel
theorem dX11_movesNodes_137 : decode cX11_movesNodes 137 = .ok (.iastore, 1) := by decide +kernel
theorem dX11_movesNodes_138 : decode cX11_movesNodes 138 = .ok (.iinc 3 1, 3) := by decide +kernel
theorem dX11_movesNodes_14 : decode cX11_movesNodes 14 = .ok (.aload_n 0, 1) := by decide +kernel
theorem dX11_movesNodes_141 : decode cX11_movesNodes 141 = .ok (.goto (-132), 3) := by decide +kernel
theorem dX11_movesNodes_144 : decode cX11_movesNodes 144 = .ok (.aload_n 0, 1) := by decide +kernel
theorem dX11_movesNodes_145 : decode cX11_movesNodes 145 = .ok (.iload_n 2, 1) := by decide +kernel
theorem dX11_movesNodes_146 : decode cX11_movesNodes 146 = .ok (.putfield 20, 3) := by decide +kernel
theorem dX11_movesNodes_149 : decode cX11_movesNodes 149 = .ok (.bipush 16, 2) := by decide +kernel
theorem dX11_movesNodes_15 : decode cX11_movesNodes 15 = .ok (.getfield 17, 3) := by decide +kernel
theorem dX11_movesNodes_151 : decode cX11_movesNodes 151 = .ok (.istore_n 3, 1) := by decide +kernel
theorem dX11_movesNodes_152 : decode cX11_movesNodes 152 = .ok (.iload_n 3, 1) := by decide +kernel
theorem dX11_movesNodes_153 : decode cX11_movesNodes 153 = .ok (.aload_n 0, 1) := by decide +kernel
theorem dX11_movesNodes_154 : decode cX11_movesNodes 154 = .ok (.getfield 105, 3) := by decide +kernel
theorem dX11_movesNodes_157 : decode cX11_movesNodes 157 = .ok (.if_icmp .ge 55, 3) := by decide +kernel
theorem dX11_movesNodes_160 : decode cX11_movesNodes 160 = .ok (.iconst 0, 1) := by decide +kernel
theorem dX11_movesNodes_161 : decode cX11_movesNodes 161 = .ok (.istore 4, 2) := by decide +kernel
theorem dX11_movesNodes_163 : decode cX11_movesNodes 163 = .ok (.iload 4, 2) := by decide +kernel
theorem dX11_movesNodes_165 : decode cX11_movesNodes 165 = .ok (.aload_n 0, 1) := by decide +kernel
theorem dX11_movesNodes_166 : decode cX11_movesNodes 166 = .ok (.getfield 142, 3) := by decide +kernel
theorem dX11_movesNodes_169 : decode cX11_movesNodes 169 = .ok (.iload_n 3, 1) := by decide +kernel
theorem dX11_movesNodes_170 : decode cX11_movesNodes 170 = .ok (.iaload, 1) := by decide +kernel
theorem dX11_movesNodes_171 : decode cX11_movesNodes 171 = .ok (.if_icmp .ge 35, 3) := by decide +kernel
theorem dX11_movesNodes_174 : decode cX11_movesNodes 174 = .ok (.aload_n 0, 1) := by decide +kernel
theorem dX11_movesNodes_175 : decode cX11_movesNodes 175 = .ok (.getfield 152, 3) := by decide +kernel
theorem dX11_movesNodes_178 : decode cX11_movesNodes 178 = .ok (.aload_n 0, 1) := by decide +kernel
theorem dX11_movesNodes_179 : decode cX11_movesNodes 179 = .ok (.iload_n 3, 1) := by decide +kernel
theorem dX11_movesNodes_18 : decode cX11_movesNodes 18 = .ok (.iload_n 3, 1) := by decide +kernel
theorem dX11_movesNodes_180 : decode cX11_movesNodes 180 = .ok (.iload 4, 2) := by decide +kernel
theorem dX11_movesNodes_182 : decode cX11_movesNodes 182 = .ok (.invokevirtual 149, 3) := by decide +kernel
theorem dX11_movesNodes_185 : decode cX11_movesNodes 185 = .ok (.aload_n 0, 1) := by decide +kernel
theorem dX11_movesNodes_186 : decode cX11_movesNodes 186 = .ok (.getfield 152, 3) := by decide +kernel
theorem dX11_movesNodes_189 : decode cX11_movesNodes 189 = .ok (.aload_n 0, 1) := by decide +kernel
theorem dX11_movesNodes_19 : decode cX11_movesNodes 19 = .ok (.aload_n 0, 1) := by decide +kernel
theorem dX11_movesNodes_190 : decode cX11_movesNodes 190 = .ok (.iload_n 3, 1) := by decide +kernel
theorem dX11_movesNodes_191 : decode cX11_movesNodes 191 = .ok (.iload 4, 2) := by decide +kernel
theorem dX11_movesNodes_193 : decode cX11_movesNodes 193 = .ok (.invokevirtual 149, 3) := by decide +kernel
theorem dX11_movesNodes_196 : decode cX11_movesNodes 196 = .ok (.iaload, 1) := by decide +kernel
theorem dX11_movesNodes_197 : decode cX11_movesNodes 197 = .ok (.iload_n 1, 1) := by decide +kernel
theorem dX11_movesNodes_198 : decode cX11_movesNodes 198 = .ok (.isub, 1) := by decide +kernel
theorem dX11_movesNodes_199 : decode cX11_movesNodes 199 = .ok (.iastore, 1) := by decide +kernel
theorem dX11_movesNodes_20 : decode cX11_movesNodes 20 = .ok (.getfield 17, 3) := by decide +kernel
theorem dX11_movesNodes_200 : decode cX11_movesNodes 200 = .ok (.iinc 4 1, 3) := by decide +kernel
theorem dX11_movesNodes_203 : decode cX11_movesNodes 203 = .ok (.goto (-40), 3) := by decide +kernel
theorem dX11_movesNodes_206 : decode cX11_movesNodes 206 = .ok (.iinc 3 1, 3) := by decide +kernel
theorem dX11_movesNodes_209 : decode cX11_movesNodes 209 = .ok (.goto (-57), 3) := by decide +kernel
theorem dX11_movesNodes_212 : decode cX11_movesNodes 212 = .ok (.return_, 1) := by decide +kernel
theorem dX11_movesNodes_23 : decode cX11_movesNodes 23 = .ok (.iload_n 1, 1) := by decide +kernel
theorem dX11_movesNodes_24 : decode cX11_movesNodes 24 = .ok (.iload_n 3, 1) := by decide +kernel
theorem dX11_movesNodes_25 : decode cX11_movesNodes 25 = .ok (.iadd, 1) := by decide +kernel
theorem dX11_movesNodes_26 : decode cX11_movesNodes 26 = .ok (.iaload, 1) := by decide +kernel
theorem dX11_movesNodes_27 : decode cX11_movesNodes 27 = .ok (.iastore, 1) := by decide +kernel
theorem dX11_movesNodes_28 : decode cX11_movesNodes 28 = .ok (.aload_n 0, 1) := by decide +kernel
theorem dX11_movesNodes_29 : decode cX11_movesNodes 29 = .ok (.getfield 23, 3) := by decide +kernel
theorem dX11_movesNodes_32 : decode cX11_movesNodes 32 = .ok (.iload_n 3, 1) := by decide +kernel
theorem dX11_movesNodes_33 : decode cX11_movesNodes 33 = .ok (.aload_n 0, 1) := by decide +kernel
theorem dX11_movesNodes_34 : decode cX11_movesNodes 34 = .ok (.getfield 23, 3) := by decide +kernel
theorem dX11_movesNodes_37 : decode cX11_movesNodes 37 = .ok (.iload_n 1, 1) := by decide +kernel
theorem dX11_movesNodes_38 : decode cX11_movesNodes 38 = .ok (.iload_n 3, 1) := by decide +kernel
theorem dX11_movesNodes_39 : decode cX11_movesNodes 39 = .ok (.iadd, 1) := by decide +kernel
theorem dX11_movesNodes_4 : decode cX11_movesNodes 4 = .ok (.iload_n 1, 1) := by decide +kernel
theorem dX11_movesNodes_40 : decode cX11_movesNodes 40 = .ok (.laload, 1) := by decide +kernel
theorem dX11_movesNodes_41 : decode cX11_movesNodes 41 = .ok (.lastore, 1) := by decide +kernel
theorem dX11_movesNodes_42 : decode cX11_movesNodes 42 = .ok (.aload_n 0, 1) := by decide +kernel
theorem dX11_movesNodes_43 : decode cX11_movesNodes 43 = .ok (.getfield 7, 3) := by decide +kernel
theorem dX11_movesNodes_46 : decode cX11_movesNodes 46 = .ok (.iload_n 3, 1) := by decide +kernel
theorem dX11_movesNodes_47 : decode cX11_movesNodes 47 = .ok (.aload_n 0, 1) := by decide +kernel
theorem dX11_movesNodes_48 : decode cX11_movesNodes 48 = .ok (.getfield 7, 3) := by decide +kernel
theorem dX11_movesNodes_5 : decode cX11_movesNodes 5 = .ok (.isub, 1) := by decide +kernel
theorem dX11_movesNodes_51 : decode cX11_movesNodes 51 = .ok (.iload_n 1, 1) := by decide +kernel
theorem dX11_movesNodes_52 : decode cX11_movesNodes 52 = .ok (.iload_n 3, 1) := by decide +kernel
theorem dX11_movesNodes_53 : decode cX11_movesNodes 53 = .ok (.iadd, 1) := by decide +kernel
theorem dX11_movesNodes_54 : decode cX11_movesNodes 54 = .ok (.iaload, 1) := by decide +kernel
theorem dX11_movesNodes_55 : decode cX11_movesNodes 55 = .ok (.iconst (-1), 1) := by decide +kernel
theorem dX11_movesNodes_56 : decode cX11_movesNodes 56 = .ok (.if_icmp .ne 7, 3) := by decide +kernel
theorem dX11_movesNodes_59 : decode cX11_movesNodes 59 = .ok (.iconst (-1), 1) := by decide +kernel
theorem dX11_movesNodes_6 : decode cX11_movesNodes 6 = .ok (.istore_n 2, 1) := by decide +kernel
theorem dX11_movesNodes_60 : decode cX11_movesNodes 60 = .ok (.goto 13, 3) := by decide +kernel
theorem dX11_movesNodes_63 : decode cX11_movesNodes 63 = .ok (.aload_n 0, 1) := by decide +kernel
theorem dX11_movesNodes_64 : decode cX11_movesNodes 64 = .ok (.getfield 7, 3) := by decide +kernel
theorem dX11_movesNodes_67 : decode cX11_movesNodes 67 = .ok (.iload_n 1, 1) := by decide +kernel
theorem dX11_movesNodes_68 : decode cX11_movesNodes 68 = .ok (.iload_n 3, 1) := by decide +kernel
theorem dX11_movesNodes_69 : decode cX11_movesNodes 69 = .ok (.iadd, 1) := by decide +kernel
theorem dX11_movesNodes_7 : decode cX11_movesNodes 7 = .ok (.iconst 0, 1) := by decide +kernel
theorem dX11_movesNodes_70 : decode cX11_movesNodes 70 = .ok (.iaload, 1) := by decide +kernel
theorem dX11_movesNodes_71 : decode cX11_movesNodes 71 = .ok (.iload_n 1, 1) := by decide +kernel
theorem dX11_movesNodes_72 : decode cX11_movesNodes 72 = .ok (.isub, 1) := by decide +kernel
theorem dX11_movesNodes_73 : decode cX11_movesNodes 73 = .ok (.iastore, 1) := by decide +kernel
theorem dX11_movesNodes_74 : decode cX11_movesNodes 74 = .ok (.aload_n 0, 1) := by decide +kernel
theorem dX11_movesNodes_75 : decode cX11_movesNodes 75 = .ok (.getfield 11, 3) := by decide +kernel
theorem dX11_movesNodes_78 : decode cX11_movesNodes 78 = .ok (.iload_n 3, 1) := by decide +kernel
theorem dX11_movesNodes_79 : decode cX11_movesNodes 79 = .ok (.aload_n 0, 1) := by decide +kernel
theorem dX11_movesNodes_8 : decode cX11_movesNodes 8 = .ok (.istore_n 3, 1) := by decide +kernel
theorem dX11_movesNodes_80 : decode cX11_movesNodes 80 = .ok (.getfield 11, 3) := by decide +kernel
theorem dX11_movesNodes_83 : decode cX11_movesNodes 83 = .ok (.iload_n 1, 1) := by decide +kernel
theorem dX11_movesNodes_84 : decode cX11_movesNodes 84 = .ok (.iload_n 3, 1) := by decide +kernel
theorem dX11_movesNodes_85 : decode cX11_movesNodes 85 = .ok (.iadd, 1) := by decide +kernel
theorem dX11_movesNodes_86 : decode cX11_movesNodes 86 = .ok (.iaload, 1) := by decide +kernel
theorem dX11_movesNodes_87 : decode cX11_movesNodes 87 = .ok (.iconst (-1), 1) := by decide +kernel
theorem dX11_movesNodes_88 : decode cX11_movesNodes 88 = .ok (.if_icmp .ne 7, 3) := by decide +kernel
theorem dX11_movesNodes_9 : decode cX11_movesNodes 9 = .ok (.iload_n 3, 1) := by decide +kernel
theorem dX11_movesNodes_91 : decode cX11_movesNodes 91 = .ok (.iconst (-1), 1) := by decide +kernel
theorem dX11_movesNodes_92 : decode cX11_movesNodes 92 = .ok (.goto 13, 3) := by decide +kernel
theorem dX11_movesNodes_95 : decode cX11_movesNodes 95 = .ok (.aload_n 0, 1) := by decide +kernel
theorem dX11_movesNodes_96 : decode cX11_movesNodes 96 = .ok (.getfield 11, 3) := by decide +kernel
theorem dX11_movesNodes_99 : decode cX11_movesNodes 99 = .ok (.iload_n 1, 1) := by decide +kernel
abbrev mo128 (v : Nat → Value) (a1 a2 a3 a4 a5 a6 a8 a12 a24 : Value) : List Value := ((v 0) :: a1 :: a2 :: a3 :: a4 :: a5 :: a6 :: (v 7) :: a8 :: (v 9) :: (v 10) :: (v 11) :: a12 :: (v 13) :: (v 14) :: (v 15) :: (v 16) :: (v 17) :: (v 18) :: (v 19) :: (v 20) :: (v 21) :: (v 22) :: (v 23) :: a24 :: (v 25) :: (v 26) :: (v 27) :: (v 28) :: (v 29) :: (v 30) :: (v 31) :: (v 32) :: (v 33) :: (v 34) :: (v 35) :: (v 36) :: (v 37) :: (v 38) :: (v 39) :: (v 40) :: (v 41) :: (v 42) :: [(v 43), (v 44), (v 45), (v 46), (v 47), (v 48), (v 49), (v 50), (v 51), (v 52), (v 53), (v 54), (v 55), (v 56), (v 57), (v 58), (v 59), (v 60), (v 61), (v 62), (v 63), (v 64), (v 65), (v 66), (v 67), (v 68), (v 69), (v 70)])
set_option maxHeartbeats 8000000 in
set_option maxRecDepth 100000 in
theorem c_X11_copiesClause_e (l : Launch) (dC : Nat → ClassId) (dI : Nat → Nat → Nat) (sz : Nat) (h_mm : Nat) (h_mny : Nat) (h_vrs : Nat) (h_let : Nat) (h_isn : Nat) (h_tem : Nat) (v_mm : Nat → Value) (cy_mny : ClassId) (f_mny : Nat → Int32) (cy_vrs : ClassId) (f_vrs : Nat → Int32) (cy_let : ClassId) (f_let : Nat → Int32) (cy_isn : ClassId) (f_isn : Nat → Int32) (cy_tem : ClassId) (f_tem : Nat → Int32) (p1 : Int32) (p2 : Int32) (hf_mny : Rg 0 6 f_mny) (hf_vrs : Rg 0 8 f_vrs) (hf_tem : Rg 0 7999 f_tem) (q0 : 0 ≤ (p1).toInt ∧ (p1).toInt ≤ 31) (q1 : 0 ≤ (p2).toInt ∧ (p2).toInt ≤ 31) : Met l yX11_copiesClause (Ws yX11_copiesClause cX11_copiesClause 4 none) (({ frames := 1, cells := 0, slots := 0, locals := 22 } : Room)) (PRE (dC, dI) cls [(cy_mny, .int), (cy_vrs, .int), (cy_let, .int), (cy_isn, .boolean), (cy_tem, .int)] [(h_mm, .inr (8, (mo102 v_mm (.ref h_mny) (.ref h_vrs) (.ref h_let) (.ref h_isn) (.ref h_tem)))), (h_mny, .inl (cy_mny, 32, .inl f_mny)), (h_vrs, .inl (cy_vrs, 32, .inl f_vrs)), (h_let, .inl (cy_let, 256, .inl f_let)), (h_isn, .inl (cy_isn, 192, .inl f_isn)), (h_tem, .inl (cy_tem, 192, .inl f_tem))] sz [.ref h_mm, .int p1, .int p2]) (va_Qv (fun (u : (Nat → Int32) × (Nat → Int32) × (Nat → Int32) × (Nat → Int32) × (Nat → Int32)) => (Rg 0 6 u.1) ∧ (Rg 0 8 u.2.1) ∧ (Rg 0 7999 u.2.2.2.2) ∧ (u.1 = upd f_mny (Int32.toNatClampNeg p2) (f_mny (Int32.toNatClampNeg p1))) ∧ (CPT 6 f_tem u.2.2.2.2 p1 p2)) (fun (u : (Nat → Int32) × (Nat → Int32) × (Nat → Int32) × (Nat → Int32) × (Nat → Int32)) (t : State) => va_P (dC, dI) cls [(h_mm, .inr (8, (mo102 v_mm (.ref h_mny) (.ref h_vrs) (.ref h_let) (.ref h_isn) (.ref h_tem)))), (h_mny, .inl (cy_mny, 32, .inl u.1)), (h_vrs, .inl (cy_vrs, 32, .inl u.2.1)), (h_let, .inl (cy_let, 256, .inl u.2.2.1)), (h_isn, .inl (cy_isn, 192, .inl u.2.2.2.1)), (h_tem, .inl (cy_tem, 192, .inl u.2.2.2.2))] t.heap ∧ va_D (va_A [(h_mm, .inr (8, (mo102 v_mm (.ref h_mny) (.ref h_vrs) (.ref h_let) (.ref h_isn) (.ref h_tem)))), (h_mny, .inl (cy_mny, 32, .inl f_mny)), (h_vrs, .inl (cy_vrs, 32, .inl f_vrs)), (h_let, .inl (cy_let, 256, .inl f_let)), (h_isn, .inl (cy_isn, 192, .inl f_isn)), (h_tem, .inl (cy_tem, 192, .inl f_tem))] sz) [(h_mm, .inr (8, (mo102 v_mm (.ref h_mny) (.ref h_vrs) (.ref h_let) (.ref h_isn) (.ref h_tem)))), (h_mny, .inl (cy_mny, 32, .inl u.1)), (h_vrs, .inl (cy_vrs, 32, .inl u.2.1)), (h_let, .inl (cy_let, 256, .inl u.2.2.1)), (h_isn, .inl (cy_isn, 192, .inl u.2.2.2.1)), (h_tem, .inl (cy_tem, 192, .inl u.2.2.2.2))]) (va_A [(h_mm, .inr (8, (mo102 v_mm (.ref h_mny) (.ref h_vrs) (.ref h_let) (.ref h_isn) (.ref h_tem)))), (h_mny, .inl (cy_mny, 32, .inl f_mny)), (h_vrs, .inl (cy_vrs, 32, .inl f_vrs)), (h_let, .inl (cy_let, 256, .inl f_let)), (h_isn, .inl (cy_isn, 192, .inl f_isn)), (h_tem, .inl (cy_tem, 192, .inl f_tem))] sz)) 0 0 (va_A [(h_mm, .inr (8, (mo102 v_mm (.ref h_mny) (.ref h_vrs) (.ref h_let) (.ref h_isn) (.ref h_tem)))), (h_mny, .inl (cy_mny, 32, .inl f_mny)), (h_vrs, .inl (cy_vrs, 32, .inl f_vrs)), (h_let, .inl (cy_let, 256, .inl f_let)), (h_isn, .inl (cy_isn, 192, .inl f_isn)), (h_tem, .inl (cy_tem, 192, .inl f_tem))] sz) := by
  refine Met.ofW (cc := cX11_copiesClause) (maxL := 4) (ret := none) (by decide) rfl ?_
  intro p e s m args below meth c s₁ B hml hv
  obtain ⟨rfl, hsz, hP, hK, hD0, hN⟩ := hv
  have hx := B.exec
  have hb := B.bytes
  have hr := B.returns
  have hts := atoms_spec (ws := Ws yX11_copiesClause cX11_copiesClause 4 none) B.pre
  have hT : ∀ w ∈ WALL, w ∈ Ws yX11_copiesClause cX11_copiesClause 4 none := fun w h => List.mem_cons_of_mem _ h
  have hw := fun w (h : w ∈ WALL) => hts w (hT w h)
  have hown : s.vm.findClass RX11 = some m.cls := findClass_of_methodNamed B.named
  have hlocks := B.notSynchronized
  subst hsz
  have hD := hD0.self (sz := s.heap.size)
  generalize hAe : va_A [(h_mm, .inr (8, (mo102 v_mm (.ref h_mny) (.ref h_vrs) (.ref h_let) (.ref h_isn) (.ref h_tem)))), (h_mny, .inl (cy_mny, 32, .inl f_mny)), (h_vrs, .inl (cy_vrs, 32, .inl f_vrs)), (h_let, .inl (cy_let, 256, .inl f_let)), (h_isn, .inl (cy_isn, 192, .inl f_isn)), (h_tem, .inl (cy_tem, 192, .inl f_tem))] s.heap.size = A at hD ⊢
  have hA : ∀ q : Nat, s.heap.size ≤ q → A q := fun q h => by rw [← hAe]; exact Or.inr h
  have hS : va_S A s.heap s.heap [] := va_S.rf
  have hl := lv_entry ([.ref h_mm, .int p1, .int p2]) (n := 4) (Nat.le_of_ble_eq_true rfl)
  rw [lg_entry_eq]
  generalize (lg_sl ([.ref h_mm, .int p1, .int p2]) ++ List.replicate (4 - (lg_sl ([.ref h_mm, .int p1, .int p2])).length) Slot.unset).toArray = ls at hl ⊢
  have hl : lv_has ls 4 [(0, .ref h_mm), (1, .int p1), (2, .int p2)] := hl
  refine lv_aload_n hx hb dX11_copiesClause_0 rfl (lv_at hl 0 rfl) ?_
  refine va_get (D := (dC, dI)) (ci := 8) (v := .ref h_mny) (C := RX11) (T := TX11) (N := 71) hx hb hw iwX11 hown hK hP 0 rfl rfl 8 (by decide) (hw _ w_f_X11_142) (fun _ h9 => h9) rfl dX11_copiesClause_1 ?_
  refine lv_iload_n hx hb dX11_copiesClause_4 rfl (lv_at hl 2 rfl) ?_
  refine lv_aload_n hx hb dX11_copiesClause_5 rfl (lv_at hl 0 rfl) ?_
  refine va_get (D := (dC, dI)) (ci := 8) (v := .ref h_mny) (C := RX11) (T := TX11) (N := 71) hx hb hw iwX11 hown hK hP 0 rfl rfl 8 (by decide) (hw _ w_f_X11_142) (fun _ h9 => h9) rfl dX11_copiesClause_6 ?_
  refine lv_iload_n hx hb dX11_copiesClause_9 rfl (lv_at hl 1 rfl) ?_
  refine va_iald hx hb hK hP 1 0 rfl rfl (i := p1) (vp_in_iff.mpr (by omega)) dX11_copiesClause_10 ?_
  refine lv_topi (fun z1 ez1 => ?_)
  have rz1 : 0 ≤ (z1).toInt ∧ (z1).toInt ≤ 6 := by rw [ez1]; exact hf_mny _
  refine va_iast hx hb hK hP hD hS 1 0 rfl rfl (i := p2) (x := z1) (vp_in_iff.mpr (by omega)) dX11_copiesClause_11 (fun H locs hP9 hD9 hS9 => ?_)
  obtain ⟨f2, ef2⟩ : ∃ g : Nat → Int32, g = upd f_mny (Int32.toNatClampNeg p2) z1 := ⟨_, rfl⟩
  clear hP hD hS
  have hP : va_P (dC, dI) cls [(h_mm, .inr (8, (mo102 v_mm (.ref h_mny) (.ref h_vrs) (.ref h_let) (.ref h_isn) (.ref h_tem)))), (h_mny, .inl (cy_mny, 32, .inl f2)), (h_vrs, .inl (cy_vrs, 32, .inl f_vrs)), (h_let, .inl (cy_let, 256, .inl f_let)), (h_isn, .inl (cy_isn, 192, .inl f_isn)), (h_tem, .inl (cy_tem, 192, .inl f_tem))] H := by rw [ef2]; exact hP9
  have hD : va_D A [(h_mm, .inr (8, (mo102 v_mm (.ref h_mny) (.ref h_vrs) (.ref h_let) (.ref h_isn) (.ref h_tem)))), (h_mny, .inl (cy_mny, 32, .inl f2)), (h_vrs, .inl (cy_vrs, 32, .inl f_vrs)), (h_let, .inl (cy_let, 256, .inl f_let)), (h_isn, .inl (cy_isn, 192, .inl f_isn)), (h_tem, .inl (cy_tem, 192, .inl f_tem))] := by rw [ef2]; exact hD9
  have hS := hS9
  clear hP9 hD9 hS9
  have hf2 : Rg 0 6 f2 := by rw [ef2]; exact rg_upd hf_mny (by omega)
  have cm3 : f2 = upd f_mny (Int32.toNatClampNeg p2) (f_mny (Int32.toNatClampNeg p1)) := by rw [ef2, ez1]
  clear ef2
  refine lv_aload_n hx hb dX11_copiesClause_12 rfl (lv_at hl 0 rfl) ?_
  refine va_get (D := (dC, dI)) (ci := 8) (v := .ref h_vrs) (C := RX11) (T := TX11) (N := 71) hx hb hw iwX11 hown hK hP 0 rfl rfl 9 (by decide) (hw _ w_f_X11_102) (fun _ h9 => h9) rfl dX11_copiesClause_13 ?_
  refine lv_iload_n hx hb dX11_copiesClause_16 rfl (lv_at hl 2 rfl) ?_
  refine lv_aload_n hx hb dX11_copiesClause_17 rfl (lv_at hl 0 rfl) ?_
  refine va_get (D := (dC, dI)) (ci := 8) (v := .ref h_vrs) (C := RX11) (T := TX11) (N := 71) hx hb hw iwX11 hown hK hP 0 rfl rfl 9 (by decide) (hw _ w_f_X11_102) (fun _ h9 => h9) rfl dX11_copiesClause_18 ?_
  refine lv_iload_n hx hb dX11_copiesClause_21 rfl (lv_at hl 1 rfl) ?_
  refine va_iald hx hb hK hP 2 1 rfl rfl (i := p1) (vp_in_iff.mpr (by omega)) dX11_copiesClause_22 ?_
  refine lv_topi (fun z4 ez4 => ?_)
  have rz4 : 0 ≤ (z4).toInt ∧ (z4).toInt ≤ 8 := by rw [ez4]; exact hf_vrs _
  refine va_iast hx hb hK hP hD hS 2 1 rfl rfl (i := p2) (x := z4) (vp_in_iff.mpr (by omega)) dX11_copiesClause_23 (fun H locs hP9 hD9 hS9 => ?_)
  obtain ⟨f5, ef5⟩ : ∃ g : Nat → Int32, g = upd f_vrs (Int32.toNatClampNeg p2) z4 := ⟨_, rfl⟩
  clear hP hD hS
  have hP : va_P (dC, dI) cls [(h_mm, .inr (8, (mo102 v_mm (.ref h_mny) (.ref h_vrs) (.ref h_let) (.ref h_isn) (.ref h_tem)))), (h_mny, .inl (cy_mny, 32, .inl f2)), (h_vrs, .inl (cy_vrs, 32, .inl f5)), (h_let, .inl (cy_let, 256, .inl f_let)), (h_isn, .inl (cy_isn, 192, .inl f_isn)), (h_tem, .inl (cy_tem, 192, .inl f_tem))] H := by rw [ef5]; exact hP9
  have hD : va_D A [(h_mm, .inr (8, (mo102 v_mm (.ref h_mny) (.ref h_vrs) (.ref h_let) (.ref h_isn) (.ref h_tem)))), (h_mny, .inl (cy_mny, 32, .inl f2)), (h_vrs, .inl (cy_vrs, 32, .inl f5)), (h_let, .inl (cy_let, 256, .inl f_let)), (h_isn, .inl (cy_isn, 192, .inl f_isn)), (h_tem, .inl (cy_tem, 192, .inl f_tem))] := by rw [ef5]; exact hD9
  have hS := hS9
  clear hP9 hD9 hS9
  have hf5 : Rg 0 8 f5 := by rw [ef5]; exact rg_upd hf_vrs (by omega)
  clear ef5
  refine lv_iconst (v := 0) hx hb dX11_copiesClause_24 (by decide) ?_
  refine lv_istore_n (lv' := [(3, .int 0), (0, .ref h_mm), (1, .int p1), (2, .int p2)]) hx hb dX11_copiesClause_25 rfl hl (by decide) rfl (fun ls hl => ?_)
  have lp8 : ∀ (n : Nat) (x6 : Int32) (f7 : Nat → Int32) (H : Heap) (locs : List Loc) (ls : Array Slot), (0 ≤ (x6).toInt ∧ (x6).toInt ≤ 8) → (8 - (x6).toInt).toNat + 1 ≤ n → va_P (dC, dI) cls [(h_mm, .inr (8, (mo102 v_mm (.ref h_mny) (.ref h_vrs) (.ref h_let) (.ref h_isn) (.ref h_tem)))), (h_mny, .inl (cy_mny, 32, .inl f2)), (h_vrs, .inl (cy_vrs, 32, .inl f5)), (h_let, .inl (cy_let, 256, .inl f7)), (h_isn, .inl (cy_isn, 192, .inl f_isn)), (h_tem, .inl (cy_tem, 192, .inl f_tem))] H → va_D A [(h_mm, .inr (8, (mo102 v_mm (.ref h_mny) (.ref h_vrs) (.ref h_let) (.ref h_isn) (.ref h_tem)))), (h_mny, .inl (cy_mny, 32, .inl f2)), (h_vrs, .inl (cy_vrs, 32, .inl f5)), (h_let, .inl (cy_let, 256, .inl f7)), (h_isn, .inl (cy_isn, 192, .inl f_isn)), (h_tem, .inl (cy_tem, 192, .inl f_tem))] → va_S A s.heap H locs → lv_has ls 4 [(0, .ref h_mm), (1, .int p1), (2, .int p2), (3, .int x6)] → W p l e ({ frames := 1, cells := 0, slots := 0, locals := 22 } : Room) s m ([.ref h_mm, .int p1, .int p2] : List Value).toArray below meth c H locs 0 0 (MQ below (va_Qv (fun (u : (Nat → Int32) × (Nat → Int32) × (Nat → Int32) × (Nat → Int32) × (Nat → Int32)) => (Rg 0 6 u.1) ∧ (Rg 0 8 u.2.1) ∧ (Rg 0 7999 u.2.2.2.2) ∧ (u.1 = upd f_mny (Int32.toNatClampNeg p2) (f_mny (Int32.toNatClampNeg p1))) ∧ (CPT 6 f_tem u.2.2.2.2 p1 p2)) (fun (u : (Nat → Int32) × (Nat → Int32) × (Nat → Int32) × (Nat → Int32) × (Nat → Int32)) (t : State) => va_P (dC, dI) cls [(h_mm, .inr (8, (mo102 v_mm (.ref h_mny) (.ref h_vrs) (.ref h_let) (.ref h_isn) (.ref h_tem)))), (h_mny, .inl (cy_mny, 32, .inl u.1)), (h_vrs, .inl (cy_vrs, 32, .inl u.2.1)), (h_let, .inl (cy_let, 256, .inl u.2.2.1)), (h_isn, .inl (cy_isn, 192, .inl u.2.2.2.1)), (h_tem, .inl (cy_tem, 192, .inl u.2.2.2.2))] t.heap ∧ va_D A [(h_mm, .inr (8, (mo102 v_mm (.ref h_mny) (.ref h_vrs) (.ref h_let) (.ref h_isn) (.ref h_tem)))), (h_mny, .inl (cy_mny, 32, .inl u.1)), (h_vrs, .inl (cy_vrs, 32, .inl u.2.1)), (h_let, .inl (cy_let, 256, .inl u.2.2.1)), (h_isn, .inl (cy_isn, 192, .inl u.2.2.2.1)), (h_tem, .inl (cy_tem, 192, .inl u.2.2.2.2))]) A) ([.ref h_mm, .int p1, .int p2] : List Value).toArray s 0 0 A) (F0 m 26 ls []) := by
    clear hP hD hS hl
    intro n
    induction n with
    | zero => intro x6 f7 H locs ls klp8_0 hm hP hD hS hl; exact False.elim (by omega)
    | succ n ih => 
      intro x6 f7 H locs ls klp8_0 hm hP hD hS hl
      have ih9 := ih
      clear ih
      refine lv_iload_n hx hb dX11_copiesClause_26 rfl (lv_at hl 3 rfl) ?_
      refine lv_bipush (v := 8) hx hb dX11_copiesClause_27 (by decide) ?_
      refine lv_icmp_ge (tgt := 60) hx hb dX11_copiesClause_29 (by decide) (fun c10 => ?_) (fun c10 => ?_)
      · have kc10 := (cv_le (by decide : (8 : Int32).toInt = 8) (rfl : (x6).toInt = (x6).toInt)).mp c10
        refine lv_iconst (v := 0) hx hb dX11_copiesClause_60 (by decide) ?_
        have ct11 : CPT 0 f_tem f_tem p1 p2 := cpt_zero
        refine lv_istore_n (lv' := [(3, .int 0), (0, .ref h_mm), (1, .int p1), (2, .int p2)]) hx hb dX11_copiesClause_61 rfl hl (by decide) rfl (fun ls hl => ?_)
        have lp15 : ∀ (n : Nat) (x12 : Int32) (f13 : Nat → Int32) (f14 : Nat → Int32) (H : Heap) (locs : List Loc) (ls : Array Slot), (0 ≤ (x12).toInt ∧ (x12).toInt ≤ 6) → (Rg 0 7999 f14) → (CPT (x12).toInt f_tem f14 p1 p2) → (6 - (x12).toInt).toNat + 1 ≤ n → va_P (dC, dI) cls [(h_mm, .inr (8, (mo102 v_mm (.ref h_mny) (.ref h_vrs) (.ref h_let) (.ref h_isn) (.ref h_tem)))), (h_mny, .inl (cy_mny, 32, .inl f2)), (h_vrs, .inl (cy_vrs, 32, .inl f5)), (h_let, .inl (cy_let, 256, .inl f7)), (h_isn, .inl (cy_isn, 192, .inl f13)), (h_tem, .inl (cy_tem, 192, .inl f14))] H → va_D A [(h_mm, .inr (8, (mo102 v_mm (.ref h_mny) (.ref h_vrs) (.ref h_let) (.ref h_isn) (.ref h_tem)))), (h_mny, .inl (cy_mny, 32, .inl f2)), (h_vrs, .inl (cy_vrs, 32, .inl f5)), (h_let, .inl (cy_let, 256, .inl f7)), (h_isn, .inl (cy_isn, 192, .inl f13)), (h_tem, .inl (cy_tem, 192, .inl f14))] → va_S A s.heap H locs → lv_has ls 4 [(0, .ref h_mm), (1, .int p1), (2, .int p2), (3, .int x12)] → W p l e ({ frames := 1, cells := 0, slots := 0, locals := 22 } : Room) s m ([.ref h_mm, .int p1, .int p2] : List Value).toArray below meth c H locs 0 0 (MQ below (va_Qv (fun (u : (Nat → Int32) × (Nat → Int32) × (Nat → Int32) × (Nat → Int32) × (Nat → Int32)) => (Rg 0 6 u.1) ∧ (Rg 0 8 u.2.1) ∧ (Rg 0 7999 u.2.2.2.2) ∧ (u.1 = upd f_mny (Int32.toNatClampNeg p2) (f_mny (Int32.toNatClampNeg p1))) ∧ (CPT 6 f_tem u.2.2.2.2 p1 p2)) (fun (u : (Nat → Int32) × (Nat → Int32) × (Nat → Int32) × (Nat → Int32) × (Nat → Int32)) (t : State) => va_P (dC, dI) cls [(h_mm, .inr (8, (mo102 v_mm (.ref h_mny) (.ref h_vrs) (.ref h_let) (.ref h_isn) (.ref h_tem)))), (h_mny, .inl (cy_mny, 32, .inl u.1)), (h_vrs, .inl (cy_vrs, 32, .inl u.2.1)), (h_let, .inl (cy_let, 256, .inl u.2.2.1)), (h_isn, .inl (cy_isn, 192, .inl u.2.2.2.1)), (h_tem, .inl (cy_tem, 192, .inl u.2.2.2.2))] t.heap ∧ va_D A [(h_mm, .inr (8, (mo102 v_mm (.ref h_mny) (.ref h_vrs) (.ref h_let) (.ref h_isn) (.ref h_tem)))), (h_mny, .inl (cy_mny, 32, .inl u.1)), (h_vrs, .inl (cy_vrs, 32, .inl u.2.1)), (h_let, .inl (cy_let, 256, .inl u.2.2.1)), (h_isn, .inl (cy_isn, 192, .inl u.2.2.2.1)), (h_tem, .inl (cy_tem, 192, .inl u.2.2.2.2))]) A) ([.ref h_mm, .int p1, .int p2] : List Value).toArray s 0 0 A) (F0 m 62 ls []) := by
          clear hP hD hS hl
          intro n
          induction n with
          | zero => intro x12 f13 f14 H locs ls klp15_0 hf14 klp15_2 hm hP hD hS hl; exact False.elim (by omega)
          | succ n ih => 
            intro x12 f13 f14 H locs ls klp15_0 hf14 klp15_2 hm hP hD hS hl
            have ih16 := ih
            clear ih
            refine lv_iload_n hx hb dX11_copiesClause_62 rfl (lv_at hl 3 rfl) ?_
            refine lv_bipush (v := 6) hx hb dX11_copiesClause_63 (by decide) ?_
            refine lv_icmp_ge (tgt := 118) hx hb dX11_copiesClause_65 (by decide) (fun c17 => ?_) (fun c17 => ?_)
            · have kc17 := (cv_le (by decide : (6 : Int32).toInt = 6) (rfl : (x12).toInt = (x12).toInt)).mp c17
              refine W.widen (k := 0) (n := 0) (Nat.le_of_ble_eq_true rfl) (Nat.le_of_ble_eq_true rfl) ?_
              have w18 : (f2) = upd f_mny (Int32.toNatClampNeg p2) (f_mny (Int32.toNatClampNeg p1)) := cm3
              have w19 : CPT 6 f_tem (f14) p1 p2 := (cpt_cast klp15_2 (by omega))
              exact W.vret hx hb hr (fun t ht hW => ⟨⟨(f2, f5, f7, f13, f14), rfl, ⟨hf2, hf5, hf14, w18, w19⟩, by rw [ht]; exact hP, hD⟩, hS.F ht⟩) hS.2.2 dX11_copiesClause_118
            · have kc17 := (not_congr (cv_le (by decide : (6 : Int32).toInt = 6) (rfl : (x12).toInt = (x12).toInt))).mp c17
              refine lv_aload_n hx hb dX11_copiesClause_68 rfl (lv_at hl 0 rfl) ?_
              refine va_get (D := (dC, dI)) (ci := 8) (v := .ref h_isn) (C := RX11) (T := TX11) (N := 71) hx hb hw iwX11 hown hK hP 0 rfl rfl 11 (by decide) (hw _ w_f_X11_145) (fun _ h9 => h9) rfl dX11_copiesClause_69 ?_
              refine lv_aload_n hx hb dX11_copiesClause_72 rfl (lv_at hl 0 rfl) ?_
              refine lv_iload_n hx hb dX11_copiesClause_73 rfl (lv_at hl 2 rfl) ?_
              refine lv_iload_n hx hb dX11_copiesClause_74 rfl (lv_at hl 3 rfl) ?_
              have hPc := hP.sub (ws' := []) [] rfl
              have hDc := hD.sub (ws' := []) [] (by decide) rfl
              have hKc := hK.sub (tys' := []) [] rfl
              have hFc := va_free (wc := []) hD hS hA [] rfl
              refine va_calli (va_runV (As := [.int p2, .int x12]) (rest := [.ref h_isn]) ⟨hx, hb, hml, hown, hts⟩ (c_X11_litAt l dC dI H.size h_mm p2 x12 (by first | exact q1 | omega) (by omega)) (cwV 2 hts (gv hT w_m_X11_149 w_instanceMethod_X11_litAt ws_sel_X11_litAt w_ini_X11 w_code_X11_litAt) rfl rfl rfl (by decide +kernel) ⟨(Nat.le_of_ble_eq_true rfl), (Nat.le_of_ble_eq_true rfl)⟩) ⟨pre_blind, va_recv hK hP (ci := 8) (q0 := 0) rfl rfl, pre_of hPc hKc hDc hN⟩ rfl rfl hl.1 rfl (lv_room (Nat.le_of_ble_eq_true rfl)) dX11_copiesClause_75 ⟨(Nat.le_of_ble_eq_true rfl), (Nat.le_of_ble_eq_true rfl)⟩) hS (fun q _ h => hFc q h) hFc (fun r20 u t H locs ht hvm hq hB hz1 hk1 hS9 => ?_)
              obtain ⟨hP1, hD1⟩ := hB
              rw [ht] at hP1
              obtain ⟨hP9, hD9⟩ := va_join (wr := [(h_mm, .inr (8, (mo102 v_mm (.ref h_mny) (.ref h_vrs) (.ref h_let) (.ref h_isn) (.ref h_tem)))), (h_mny, .inl (cy_mny, 32, .inl f2)), (h_vrs, .inl (cy_vrs, 32, .inl f5)), (h_let, .inl (cy_let, 256, .inl f7)), (h_isn, .inl (cy_isn, 192, .inl f13)), (h_tem, .inl (cy_tem, 192, .inl f14))]) (w1 := []) hP hD [] [0, 1, 2, 3, 4, 5] rfl rfl (by decide) (by decide) hk1 hFc hP1 hD1
              clear hP hD hS hPc hDc hKc hFc hP1 hD1 hk1 hz1 ht hvm
              have hP : va_P (dC, dI) cls [(h_mm, .inr (8, (mo102 v_mm (.ref h_mny) (.ref h_vrs) (.ref h_let) (.ref h_isn) (.ref h_tem)))), (h_mny, .inl (cy_mny, 32, .inl f2)), (h_vrs, .inl (cy_vrs, 32, .inl f5)), (h_let, .inl (cy_let, 256, .inl f7)), (h_isn, .inl (cy_isn, 192, .inl f13)), (h_tem, .inl (cy_tem, 192, .inl f14))] H := hP9
              have hD : va_D A [(h_mm, .inr (8, (mo102 v_mm (.ref h_mny) (.ref h_vrs) (.ref h_let) (.ref h_isn) (.ref h_tem)))), (h_mny, .inl (cy_mny, 32, .inl f2)), (h_vrs, .inl (cy_vrs, 32, .inl f5)), (h_let, .inl (cy_let, 256, .inl f7)), (h_isn, .inl (cy_isn, 192, .inl f13)), (h_tem, .inl (cy_tem, 192, .inl f14))] := hD9
              have hS := hS9
              clear hP9 hD9 hS9
              obtain ⟨k21, k22⟩ := hq
              replace k21 : 0 ≤ (r20).toInt ∧ (r20).toInt ≤ 191 := k21
              replace k22 : ((r20)).toInt = 6 * ((p2)).toInt + ((x12)).toInt := k22
              refine lv_aload_n hx hb dX11_copiesClause_78 rfl (lv_at hl 0 rfl) ?_
              refine va_get (D := (dC, dI)) (ci := 8) (v := .ref h_isn) (C := RX11) (T := TX11) (N := 71) hx hb hw iwX11 hown hK hP 0 rfl rfl 11 (by decide) (hw _ w_f_X11_145) (fun _ h9 => h9) rfl dX11_copiesClause_79 ?_
              refine lv_aload_n hx hb dX11_copiesClause_82 rfl (lv_at hl 0 rfl) ?_
              refine lv_iload_n hx hb dX11_copiesClause_83 rfl (lv_at hl 1 rfl) ?_
              refine lv_iload_n hx hb dX11_copiesClause_84 rfl (lv_at hl 3 rfl) ?_
              have hPc := hP.sub (ws' := []) [] rfl
              have hDc := hD.sub (ws' := []) [] (by decide) rfl
              have hKc := hK.sub (tys' := []) [] rfl
              have hFc := va_free (wc := []) hD hS hA [] rfl
              refine va_calli (va_runV (As := [.int p1, .int x12]) (rest := [.ref h_isn, .int r20, .ref h_isn]) ⟨hx, hb, hml, hown, hts⟩ (c_X11_litAt l dC dI H.size h_mm p1 x12 (by first | exact q0 | omega) (by omega)) (cwV 2 hts (gv hT w_m_X11_149 w_instanceMethod_X11_litAt ws_sel_X11_litAt w_ini_X11 w_code_X11_litAt) rfl rfl rfl (by decide +kernel) ⟨(Nat.le_of_ble_eq_true rfl), (Nat.le_of_ble_eq_true rfl)⟩) ⟨pre_blind, va_recv hK hP (ci := 8) (q0 := 0) rfl rfl, pre_of hPc hKc hDc hN⟩ rfl rfl hl.1 rfl (lv_room (Nat.le_of_ble_eq_true rfl)) dX11_copiesClause_85 ⟨(Nat.le_of_ble_eq_true rfl), (Nat.le_of_ble_eq_true rfl)⟩) hS (fun q _ h => hFc q h) hFc (fun r23 u t H locs ht hvm hq hB hz1 hk1 hS9 => ?_)
              obtain ⟨hP1, hD1⟩ := hB
              rw [ht] at hP1
              obtain ⟨hP9, hD9⟩ := va_join (wr := [(h_mm, .inr (8, (mo102 v_mm (.ref h_mny) (.ref h_vrs) (.ref h_let) (.ref h_isn) (.ref h_tem)))), (h_mny, .inl (cy_mny, 32, .inl f2)), (h_vrs, .inl (cy_vrs, 32, .inl f5)), (h_let, .inl (cy_let, 256, .inl f7)), (h_isn, .inl (cy_isn, 192, .inl f13)), (h_tem, .inl (cy_tem, 192, .inl f14))]) (w1 := []) hP hD [] [0, 1, 2, 3, 4, 5] rfl rfl (by decide) (by decide) hk1 hFc hP1 hD1
              clear hP hD hS hPc hDc hKc hFc hP1 hD1 hk1 hz1 ht hvm
              have hP : va_P (dC, dI) cls [(h_mm, .inr (8, (mo102 v_mm (.ref h_mny) (.ref h_vrs) (.ref h_let) (.ref h_isn) (.ref h_tem)))), (h_mny, .inl (cy_mny, 32, .inl f2)), (h_vrs, .inl (cy_vrs, 32, .inl f5)), (h_let, .inl (cy_let, 256, .inl f7)), (h_isn, .inl (cy_isn, 192, .inl f13)), (h_tem, .inl (cy_tem, 192, .inl f14))] H := hP9
              have hD : va_D A [(h_mm, .inr (8, (mo102 v_mm (.ref h_mny) (.ref h_vrs) (.ref h_let) (.ref h_isn) (.ref h_tem)))), (h_mny, .inl (cy_mny, 32, .inl f2)), (h_vrs, .inl (cy_vrs, 32, .inl f5)), (h_let, .inl (cy_let, 256, .inl f7)), (h_isn, .inl (cy_isn, 192, .inl f13)), (h_tem, .inl (cy_tem, 192, .inl f14))] := hD9
              have hS := hS9
              clear hP9 hD9 hS9
              obtain ⟨k24, k25⟩ := hq
              replace k24 : 0 ≤ (r23).toInt ∧ (r23).toInt ≤ 191 := k24
              replace k25 : ((r23)).toInt = 6 * ((p1)).toInt + ((x12)).toInt := k25
              refine va_zald hx hb hK hP 4 3 rfl rfl (i := r23) (vp_in_iff.mpr (by omega)) dX11_copiesClause_88 ?_
              refine lv_topi (fun z26 ez26 => ?_)
              refine va_zast hx hb hK hP hD hS 4 3 rfl rfl (i := r20) (x := z26) (vp_in_iff.mpr (by omega)) dX11_copiesClause_89 (fun H locs hP9 hD9 hS9 => ?_)
              obtain ⟨f27, ef27⟩ : ∃ g : Nat → Int32, g = upd f13 (Int32.toNatClampNeg r20) (vp_nar .boolean z26) := ⟨_, rfl⟩
              clear hP hD hS
              have hP : va_P (dC, dI) cls [(h_mm, .inr (8, (mo102 v_mm (.ref h_mny) (.ref h_vrs) (.ref h_let) (.ref h_isn) (.ref h_tem)))), (h_mny, .inl (cy_mny, 32, .inl f2)), (h_vrs, .inl (cy_vrs, 32, .inl f5)), (h_let, .inl (cy_let, 256, .inl f7)), (h_isn, .inl (cy_isn, 192, .inl f27)), (h_tem, .inl (cy_tem, 192, .inl f14))] H := by rw [ef27]; exact hP9
              have hD : va_D A [(h_mm, .inr (8, (mo102 v_mm (.ref h_mny) (.ref h_vrs) (.ref h_let) (.ref h_isn) (.ref h_tem)))), (h_mny, .inl (cy_mny, 32, .inl f2)), (h_vrs, .inl (cy_vrs, 32, .inl f5)), (h_let, .inl (cy_let, 256, .inl f7)), (h_isn, .inl (cy_isn, 192, .inl f27)), (h_tem, .inl (cy_tem, 192, .inl f14))] := by rw [ef27]; exact hD9
              have hS := hS9
              clear hP9 hD9 hS9
              clear ef27
              refine lv_aload_n hx hb dX11_copiesClause_90 rfl (lv_at hl 0 rfl) ?_
              refine va_get (D := (dC, dI)) (ci := 8) (v := .ref h_tem) (C := RX11) (T := TX11) (N := 71) hx hb hw iwX11 hown hK hP 0 rfl rfl 12 (by decide) (hw _ w_f_X11_152) (fun _ h9 => h9) rfl dX11_copiesClause_91 ?_
              refine lv_aload_n hx hb dX11_copiesClause_94 rfl (lv_at hl 0 rfl) ?_
              refine lv_iload_n hx hb dX11_copiesClause_95 rfl (lv_at hl 2 rfl) ?_
              refine lv_iload_n hx hb dX11_copiesClause_96 rfl (lv_at hl 3 rfl) ?_
              have hPc := hP.sub (ws' := []) [] rfl
              have hDc := hD.sub (ws' := []) [] (by decide) rfl
              have hKc := hK.sub (tys' := []) [] rfl
              have hFc := va_free (wc := []) hD hS hA [] rfl
              refine va_calli (va_runV (As := [.int p2, .int x12]) (rest := [.ref h_tem]) ⟨hx, hb, hml, hown, hts⟩ (c_X11_litAt l dC dI H.size h_mm p2 x12 (by first | exact q1 | omega) (by omega)) (cwV 2 hts (gv hT w_m_X11_149 w_instanceMethod_X11_litAt ws_sel_X11_litAt w_ini_X11 w_code_X11_litAt) rfl rfl rfl (by decide +kernel) ⟨(Nat.le_of_ble_eq_true rfl), (Nat.le_of_ble_eq_true rfl)⟩) ⟨pre_blind, va_recv hK hP (ci := 8) (q0 := 0) rfl rfl, pre_of hPc hKc hDc hN⟩ rfl rfl hl.1 rfl (lv_room (Nat.le_of_ble_eq_true rfl)) dX11_copiesClause_97 ⟨(Nat.le_of_ble_eq_true rfl), (Nat.le_of_ble_eq_true rfl)⟩) hS (fun q _ h => hFc q h) hFc (fun r28 u t H locs ht hvm hq hB hz1 hk1 hS9 => ?_)
              obtain ⟨hP1, hD1⟩ := hB
              rw [ht] at hP1
              obtain ⟨hP9, hD9⟩ := va_join (wr := [(h_mm, .inr (8, (mo102 v_mm (.ref h_mny) (.ref h_vrs) (.ref h_let) (.ref h_isn) (.ref h_tem)))), (h_mny, .inl (cy_mny, 32, .inl f2)), (h_vrs, .inl (cy_vrs, 32, .inl f5)), (h_let, .inl (cy_let, 256, .inl f7)), (h_isn, .inl (cy_isn, 192, .inl f27)), (h_tem, .inl (cy_tem, 192, .inl f14))]) (w1 := []) hP hD [] [0, 1, 2, 3, 4, 5] rfl rfl (by decide) (by decide) hk1 hFc hP1 hD1
              clear hP hD hS hPc hDc hKc hFc hP1 hD1 hk1 hz1 ht hvm
              have hP : va_P (dC, dI) cls [(h_mm, .inr (8, (mo102 v_mm (.ref h_mny) (.ref h_vrs) (.ref h_let) (.ref h_isn) (.ref h_tem)))), (h_mny, .inl (cy_mny, 32, .inl f2)), (h_vrs, .inl (cy_vrs, 32, .inl f5)), (h_let, .inl (cy_let, 256, .inl f7)), (h_isn, .inl (cy_isn, 192, .inl f27)), (h_tem, .inl (cy_tem, 192, .inl f14))] H := hP9
              have hD : va_D A [(h_mm, .inr (8, (mo102 v_mm (.ref h_mny) (.ref h_vrs) (.ref h_let) (.ref h_isn) (.ref h_tem)))), (h_mny, .inl (cy_mny, 32, .inl f2)), (h_vrs, .inl (cy_vrs, 32, .inl f5)), (h_let, .inl (cy_let, 256, .inl f7)), (h_isn, .inl (cy_isn, 192, .inl f27)), (h_tem, .inl (cy_tem, 192, .inl f14))] := hD9
              have hS := hS9
              clear hP9 hD9 hS9
              obtain ⟨k29, k30⟩ := hq
              replace k29 : 0 ≤ (r28).toInt ∧ (r28).toInt ≤ 191 := k29
              replace k30 : ((r28)).toInt = 6 * ((p2)).toInt + ((x12)).toInt := k30
              refine lv_aload_n hx hb dX11_copiesClause_100 rfl (lv_at hl 0 rfl) ?_
              refine va_get (D := (dC, dI)) (ci := 8) (v := .ref h_tem) (C := RX11) (T := TX11) (N := 71) hx hb hw iwX11 hown hK hP 0 rfl rfl 12 (by decide) (hw _ w_f_X11_152) (fun _ h9 => h9) rfl dX11_copiesClause_101 ?_
              refine lv_aload_n hx hb dX11_copiesClause_104 rfl (lv_at hl 0 rfl) ?_
              refine lv_iload_n hx hb dX11_copiesClause_105 rfl (lv_at hl 1 rfl) ?_
              refine lv_iload_n hx hb dX11_copiesClause_106 rfl (lv_at hl 3 rfl) ?_
              have hPc := hP.sub (ws' := []) [] rfl
              have hDc := hD.sub (ws' := []) [] (by decide) rfl
              have hKc := hK.sub (tys' := []) [] rfl
              have hFc := va_free (wc := []) hD hS hA [] rfl
              refine va_calli (va_runV (As := [.int p1, .int x12]) (rest := [.ref h_tem, .int r28, .ref h_tem]) ⟨hx, hb, hml, hown, hts⟩ (c_X11_litAt l dC dI H.size h_mm p1 x12 (by first | exact q0 | omega) (by omega)) (cwV 2 hts (gv hT w_m_X11_149 w_instanceMethod_X11_litAt ws_sel_X11_litAt w_ini_X11 w_code_X11_litAt) rfl rfl rfl (by decide +kernel) ⟨(Nat.le_of_ble_eq_true rfl), (Nat.le_of_ble_eq_true rfl)⟩) ⟨pre_blind, va_recv hK hP (ci := 8) (q0 := 0) rfl rfl, pre_of hPc hKc hDc hN⟩ rfl rfl hl.1 rfl (lv_room (Nat.le_of_ble_eq_true rfl)) dX11_copiesClause_107 ⟨(Nat.le_of_ble_eq_true rfl), (Nat.le_of_ble_eq_true rfl)⟩) hS (fun q _ h => hFc q h) hFc (fun r31 u t H locs ht hvm hq hB hz1 hk1 hS9 => ?_)
              obtain ⟨hP1, hD1⟩ := hB
              rw [ht] at hP1
              obtain ⟨hP9, hD9⟩ := va_join (wr := [(h_mm, .inr (8, (mo102 v_mm (.ref h_mny) (.ref h_vrs) (.ref h_let) (.ref h_isn) (.ref h_tem)))), (h_mny, .inl (cy_mny, 32, .inl f2)), (h_vrs, .inl (cy_vrs, 32, .inl f5)), (h_let, .inl (cy_let, 256, .inl f7)), (h_isn, .inl (cy_isn, 192, .inl f27)), (h_tem, .inl (cy_tem, 192, .inl f14))]) (w1 := []) hP hD [] [0, 1, 2, 3, 4, 5] rfl rfl (by decide) (by decide) hk1 hFc hP1 hD1
              clear hP hD hS hPc hDc hKc hFc hP1 hD1 hk1 hz1 ht hvm
              have hP : va_P (dC, dI) cls [(h_mm, .inr (8, (mo102 v_mm (.ref h_mny) (.ref h_vrs) (.ref h_let) (.ref h_isn) (.ref h_tem)))), (h_mny, .inl (cy_mny, 32, .inl f2)), (h_vrs, .inl (cy_vrs, 32, .inl f5)), (h_let, .inl (cy_let, 256, .inl f7)), (h_isn, .inl (cy_isn, 192, .inl f27)), (h_tem, .inl (cy_tem, 192, .inl f14))] H := hP9
              have hD : va_D A [(h_mm, .inr (8, (mo102 v_mm (.ref h_mny) (.ref h_vrs) (.ref h_let) (.ref h_isn) (.ref h_tem)))), (h_mny, .inl (cy_mny, 32, .inl f2)), (h_vrs, .inl (cy_vrs, 32, .inl f5)), (h_let, .inl (cy_let, 256, .inl f7)), (h_isn, .inl (cy_isn, 192, .inl f27)), (h_tem, .inl (cy_tem, 192, .inl f14))] := hD9
              have hS := hS9
              clear hP9 hD9 hS9
              obtain ⟨k32, k33⟩ := hq
              replace k32 : 0 ≤ (r31).toInt ∧ (r31).toInt ≤ 191 := k32
              replace k33 : ((r31)).toInt = 6 * ((p1)).toInt + ((x12)).toInt := k33
              refine va_iald hx hb hK hP 5 4 rfl rfl (i := r31) (vp_in_iff.mpr (by omega)) dX11_copiesClause_110 ?_
              refine lv_topi (fun z34 ez34 => ?_)
              have rz34 : 0 ≤ (z34).toInt ∧ (z34).toInt ≤ 7999 := by rw [ez34]; exact hf14 _
              refine va_iast hx hb hK hP hD hS 5 4 rfl rfl (i := r28) (x := z34) (vp_in_iff.mpr (by omega)) dX11_copiesClause_111 (fun H locs hP9 hD9 hS9 => ?_)
              obtain ⟨f35, ef35⟩ : ∃ g : Nat → Int32, g = upd f14 (Int32.toNatClampNeg r28) z34 := ⟨_, rfl⟩
              clear hP hD hS
              have hP : va_P (dC, dI) cls [(h_mm, .inr (8, (mo102 v_mm (.ref h_mny) (.ref h_vrs) (.ref h_let) (.ref h_isn) (.ref h_tem)))), (h_mny, .inl (cy_mny, 32, .inl f2)), (h_vrs, .inl (cy_vrs, 32, .inl f5)), (h_let, .inl (cy_let, 256, .inl f7)), (h_isn, .inl (cy_isn, 192, .inl f27)), (h_tem, .inl (cy_tem, 192, .inl f35))] H := by rw [ef35]; exact hP9
              have hD : va_D A [(h_mm, .inr (8, (mo102 v_mm (.ref h_mny) (.ref h_vrs) (.ref h_let) (.ref h_isn) (.ref h_tem)))), (h_mny, .inl (cy_mny, 32, .inl f2)), (h_vrs, .inl (cy_vrs, 32, .inl f5)), (h_let, .inl (cy_let, 256, .inl f7)), (h_isn, .inl (cy_isn, 192, .inl f27)), (h_tem, .inl (cy_tem, 192, .inl f35))] := by rw [ef35]; exact hD9
              have hS := hS9
              clear hP9 hD9 hS9
              have hf35 : Rg 0 7999 f35 := by rw [ef35]; exact rg_upd hf14 (by omega)
              have ct36 : CPT ((x12).toInt + 1) f_tem f35 p1 p2 := by rw [ef35, ez34]; exact cpt_step (i := r28) (j := r31) klp15_2 (by omega) (by omega) (by omega) (by omega) (by omega)
              clear ef35
              obtain ⟨z37, ez37⟩ : ∃ y : Int32, y = x12 + 1 := ⟨_, rfl⟩
              have tz37 : (z37).toInt = (x12).toInt + 1 := by rw [ez37]; exact i_add rfl (by decide) (by omega)
              refine lv_iinc (v := z37) (lv' := [(3, .int z37), (0, .ref h_mm), (1, .int p1), (2, .int p2)]) hx hb dX11_copiesClause_112 hl (k := 3) rfl (by rw [ez37]; rfl) (by decide) rfl (fun ls hl => ?_)
              refine lv_goto (tgt := 62) hx hb dX11_copiesClause_115 (by decide) ?_
              exact ih16 (z37) (f27) (f35) _ _ _ (by omega) hf35 (cpt_cast ct36 (by omega)) (by omega) hP hD hS (lv_sub hl [1, 2, 3, 0] rfl)
        have cst0 : (0 : Int32).toInt = 0 := by decide
        exact lp15 _ (0) (f_isn) (f_tem) _ _ _ (by decide) hf_tem (cpt_cast ct11 (by omega)) (Nat.le_refl _) hP hD hS (lv_sub hl [1, 2, 3, 0] rfl)
      · have kc10 := (not_congr (cv_le (by decide : (8 : Int32).toInt = 8) (rfl : (x6).toInt = (x6).toInt))).mp c10
        refine lv_aload_n hx hb dX11_copiesClause_32 rfl (lv_at hl 0 rfl) ?_
        refine va_get (D := (dC, dI)) (ci := 8) (v := .ref h_let) (C := RX11) (T := TX11) (N := 71) hx hb hw iwX11 hown hK hP 0 rfl rfl 10 (by decide) (hw _ w_f_X11_108) (fun _ h9 => h9) rfl dX11_copiesClause_33 ?_
        refine lv_bipush (v := 8) hx hb dX11_copiesClause_36 (by decide) ?_
        refine lv_iload_n hx hb dX11_copiesClause_38 rfl (lv_at hl 2 rfl) ?_
        refine lv_imul hx hb dX11_copiesClause_39 ?_
        refine lv_topi (fun z38 ez38 => ?_)
        have tz38 : (z38).toInt = 8 * (p2).toInt := by rw [ez38]; exact i_mul (by decide) rfl (by omega)
        refine lv_iload_n hx hb dX11_copiesClause_40 rfl (lv_at hl 3 rfl) ?_
        refine lv_iadd hx hb dX11_copiesClause_41 ?_
        refine lv_topi (fun z39 ez39 => ?_)
        have tz39 : (z39).toInt = (z38).toInt + (x6).toInt := by rw [ez39]; exact i_add rfl rfl (by omega)
        refine lv_aload_n hx hb dX11_copiesClause_42 rfl (lv_at hl 0 rfl) ?_
        refine va_get (D := (dC, dI)) (ci := 8) (v := .ref h_let) (C := RX11) (T := TX11) (N := 71) hx hb hw iwX11 hown hK hP 0 rfl rfl 10 (by decide) (hw _ w_f_X11_108) (fun _ h9 => h9) rfl dX11_copiesClause_43 ?_
        refine lv_bipush (v := 8) hx hb dX11_copiesClause_46 (by decide) ?_
        refine lv_iload_n hx hb dX11_copiesClause_48 rfl (lv_at hl 1 rfl) ?_
        refine lv_imul hx hb dX11_copiesClause_49 ?_
        refine lv_topi (fun z40 ez40 => ?_)
        have tz40 : (z40).toInt = 8 * (p1).toInt := by rw [ez40]; exact i_mul (by decide) rfl (by omega)
        refine lv_iload_n hx hb dX11_copiesClause_50 rfl (lv_at hl 3 rfl) ?_
        refine lv_iadd hx hb dX11_copiesClause_51 ?_
        refine lv_topi (fun z41 ez41 => ?_)
        have tz41 : (z41).toInt = (z40).toInt + (x6).toInt := by rw [ez41]; exact i_add rfl rfl (by omega)
        refine va_iald hx hb hK hP 3 2 rfl rfl (i := z41) (vp_in_iff.mpr (by omega)) dX11_copiesClause_52 ?_
        refine lv_topi (fun z42 ez42 => ?_)
        refine va_iast hx hb hK hP hD hS 3 2 rfl rfl (i := z39) (x := z42) (vp_in_iff.mpr (by omega)) dX11_copiesClause_53 (fun H locs hP9 hD9 hS9 => ?_)
        obtain ⟨f43, ef43⟩ : ∃ g : Nat → Int32, g = upd f7 (Int32.toNatClampNeg z39) z42 := ⟨_, rfl⟩
        clear hP hD hS
        have hP : va_P (dC, dI) cls [(h_mm, .inr (8, (mo102 v_mm (.ref h_mny) (.ref h_vrs) (.ref h_let) (.ref h_isn) (.ref h_tem)))), (h_mny, .inl (cy_mny, 32, .inl f2)), (h_vrs, .inl (cy_vrs, 32, .inl f5)), (h_let, .inl (cy_let, 256, .inl f43)), (h_isn, .inl (cy_isn, 192, .inl f_isn)), (h_tem, .inl (cy_tem, 192, .inl f_tem))] H := by rw [ef43]; exact hP9
        have hD : va_D A [(h_mm, .inr (8, (mo102 v_mm (.ref h_mny) (.ref h_vrs) (.ref h_let) (.ref h_isn) (.ref h_tem)))), (h_mny, .inl (cy_mny, 32, .inl f2)), (h_vrs, .inl (cy_vrs, 32, .inl f5)), (h_let, .inl (cy_let, 256, .inl f43)), (h_isn, .inl (cy_isn, 192, .inl f_isn)), (h_tem, .inl (cy_tem, 192, .inl f_tem))] := by rw [ef43]; exact hD9
        have hS := hS9
        clear hP9 hD9 hS9
        clear ef43
        obtain ⟨z44, ez44⟩ : ∃ y : Int32, y = x6 + 1 := ⟨_, rfl⟩
        have tz44 : (z44).toInt = (x6).toInt + 1 := by rw [ez44]; exact i_add rfl (by decide) (by omega)
        refine lv_iinc (v := z44) (lv' := [(3, .int z44), (0, .ref h_mm), (1, .int p1), (2, .int p2)]) hx hb dX11_copiesClause_54 hl (k := 3) rfl (by rw [ez44]; rfl) (by decide) rfl (fun ls hl => ?_)
        refine lv_goto (tgt := 26) hx hb dX11_copiesClause_57 (by decide) ?_
        exact ih9 (z44) (f43) _ _ _ (by omega) (by omega) hP hD hS (lv_sub hl [1, 2, 3, 0] rfl)
  have cst0 : (0 : Int32).toInt = 0 := by decide
  exact lp8 _ (0) (f_let) _ _ _ (by decide) (Nat.le_refl _) hP hD hS (lv_sub hl [1, 2, 3, 0] rfl)

set_option maxHeartbeats 8000000 in
set_option maxRecDepth 100000 in
theorem c_X11_movesNodes (l : Launch) (dC : Nat → ClassId) (dI : Nat → Nat → Nat) (sz : Nat) (h_mm : Nat) (h_nv : Nat) (h_nn : Nat) (h_na : Nat) (h_nb : Nat) (h_nc : Nat) (h_mny : Nat) (h_tem : Nat) (v_mm : Nat → Value) (x_mm_nodes : Int32) (x_mm_reading : Int32) (cy_nv : ClassId) (f_nv : Nat → Int32) (cy_nn : ClassId) (f_nn : Nat → Int64) (cy_na : ClassId) (f_na : Nat → Int32) (cy_nb : ClassId) (f_nb : Nat → Int32) (cy_nc : ClassId) (f_nc : Nat → Int32) (cy_mny : ClassId) (f_mny : Nat → Int32) (cy_tem : ClassId) (f_tem : Nat → Int32) (p1 : Int32) (hh : Nat → Nat) (hx_mm_nodes : 0 ≤ (x_mm_nodes).toInt ∧ (x_mm_nodes).toInt ≤ 1200) (hx_mm_reading : 16 ≤ (x_mm_reading).toInt ∧ (x_mm_reading).toInt ≤ 32) (hf_nv : Rg (-1) 7 f_nv) (hf_na : Rg (-1) 7999 f_na) (hf_nb : Rg (-1) 7999 f_nb) (hf_nc : Rg (-1) 7999 f_nc) (hf_mny : Rg 0 6 f_mny) (hf_tem : Rg 0 7999 f_tem) (q0 : 0 ≤ (p1).toInt ∧ (p1).toInt ≤ 600) (q1 : (p1).toInt ≤ (x_mm_nodes).toInt) (q2 : (x_mm_nodes).toInt ≤ (p1).toInt + 600) (hn_nd : ND (p1).toInt (x_mm_nodes).toInt hh f_na f_nb f_nc) (hn_tm : TM (p1).toInt (x_mm_nodes).toInt hh 16 (x_mm_reading).toInt f_mny f_tem) : Met l yX11_movesNodes (Ws yX11_movesNodes cX11_movesNodes 5 none) (({ frames := 1, cells := 0, slots := 0, locals := 22 } : Room)) (PRE (dC, dI) cls [(cy_nv, .int), (cy_nn, .long), (cy_na, .int), (cy_nb, .int), (cy_nc, .int), (cy_mny, .int), (cy_tem, .int)] [(h_mm, .inr (8, (mo128 v_mm (.ref h_nv) (.ref h_nn) (.ref h_na) (.ref h_nb) (.ref h_nc) (.int x_mm_nodes) (.ref h_mny) (.ref h_tem) (.int x_mm_reading)))), (h_nv, .inl (cy_nv, 8000, .inl f_nv)), (h_nn, .inl (cy_nn, 8000, .inr (.inl f_nn))), (h_na, .inl (cy_na, 8000, .inl f_na)), (h_nb, .inl (cy_nb, 8000, .inl f_nb)), (h_nc, .inl (cy_nc, 8000, .inl f_nc)), (h_mny, .inl (cy_mny, 32, .inl f_mny)), (h_tem, .inl (cy_tem, 192, .inl f_tem))] sz [.ref h_mm, .int p1]) (va_Qv (fun (u : (Int32) × (Nat → Int32) × (Nat → Int64) × (Nat → Int32) × (Nat → Int32) × (Nat → Int32) × (Nat → Int32)) => (0 ≤ (u.1).toInt ∧ (u.1).toInt ≤ 1200) ∧ (Rg (-1) 7 u.2.1) ∧ (Rg (-1) 7999 u.2.2.2.1) ∧ (Rg (-1) 7999 u.2.2.2.2.1) ∧ (Rg (-1) 7999 u.2.2.2.2.2.1) ∧ (Rg 0 7999 u.2.2.2.2.2.2) ∧ ((u.1).toInt = (x_mm_nodes).toInt - (p1).toInt) ∧ (ND 0 (u.1).toInt (hsh hh (p1).toInt) u.2.2.2.1 u.2.2.2.2.1 u.2.2.2.2.2.1) ∧ (TM 0 (u.1).toInt (hsh hh (p1).toInt) 16 (x_mm_reading).toInt f_mny u.2.2.2.2.2.2)) (fun (u : (Int32) × (Nat → Int32) × (Nat → Int64) × (Nat → Int32) × (Nat → Int32) × (Nat → Int32) × (Nat → Int32)) (t : State) => va_P (dC, dI) cls [(h_mm, .inr (8, (mo128 v_mm (.ref h_nv) (.ref h_nn) (.ref h_na) (.ref h_nb) (.ref h_nc) (.int u.1) (.ref h_mny) (.ref h_tem) (.int x_mm_reading)))), (h_nv, .inl (cy_nv, 8000, .inl u.2.1)), (h_nn, .inl (cy_nn, 8000, .inr (.inl u.2.2.1))), (h_na, .inl (cy_na, 8000, .inl u.2.2.2.1)), (h_nb, .inl (cy_nb, 8000, .inl u.2.2.2.2.1)), (h_nc, .inl (cy_nc, 8000, .inl u.2.2.2.2.2.1)), (h_mny, .inl (cy_mny, 32, .inl f_mny)), (h_tem, .inl (cy_tem, 192, .inl u.2.2.2.2.2.2))] t.heap ∧ va_D (va_A [(h_mm, .inr (8, (mo128 v_mm (.ref h_nv) (.ref h_nn) (.ref h_na) (.ref h_nb) (.ref h_nc) (.int x_mm_nodes) (.ref h_mny) (.ref h_tem) (.int x_mm_reading)))), (h_nv, .inl (cy_nv, 8000, .inl f_nv)), (h_nn, .inl (cy_nn, 8000, .inr (.inl f_nn))), (h_na, .inl (cy_na, 8000, .inl f_na)), (h_nb, .inl (cy_nb, 8000, .inl f_nb)), (h_nc, .inl (cy_nc, 8000, .inl f_nc)), (h_mny, .inl (cy_mny, 32, .inl f_mny)), (h_tem, .inl (cy_tem, 192, .inl f_tem))] sz) [(h_mm, .inr (8, (mo128 v_mm (.ref h_nv) (.ref h_nn) (.ref h_na) (.ref h_nb) (.ref h_nc) (.int u.1) (.ref h_mny) (.ref h_tem) (.int x_mm_reading)))), (h_nv, .inl (cy_nv, 8000, .inl u.2.1)), (h_nn, .inl (cy_nn, 8000, .inr (.inl u.2.2.1))), (h_na, .inl (cy_na, 8000, .inl u.2.2.2.1)), (h_nb, .inl (cy_nb, 8000, .inl u.2.2.2.2.1)), (h_nc, .inl (cy_nc, 8000, .inl u.2.2.2.2.2.1)), (h_mny, .inl (cy_mny, 32, .inl f_mny)), (h_tem, .inl (cy_tem, 192, .inl u.2.2.2.2.2.2))]) (va_A [(h_mm, .inr (8, (mo128 v_mm (.ref h_nv) (.ref h_nn) (.ref h_na) (.ref h_nb) (.ref h_nc) (.int x_mm_nodes) (.ref h_mny) (.ref h_tem) (.int x_mm_reading)))), (h_nv, .inl (cy_nv, 8000, .inl f_nv)), (h_nn, .inl (cy_nn, 8000, .inr (.inl f_nn))), (h_na, .inl (cy_na, 8000, .inl f_na)), (h_nb, .inl (cy_nb, 8000, .inl f_nb)), (h_nc, .inl (cy_nc, 8000, .inl f_nc)), (h_mny, .inl (cy_mny, 32, .inl f_mny)), (h_tem, .inl (cy_tem, 192, .inl f_tem))] sz)) 0 0 (va_A [(h_mm, .inr (8, (mo128 v_mm (.ref h_nv) (.ref h_nn) (.ref h_na) (.ref h_nb) (.ref h_nc) (.int x_mm_nodes) (.ref h_mny) (.ref h_tem) (.int x_mm_reading)))), (h_nv, .inl (cy_nv, 8000, .inl f_nv)), (h_nn, .inl (cy_nn, 8000, .inr (.inl f_nn))), (h_na, .inl (cy_na, 8000, .inl f_na)), (h_nb, .inl (cy_nb, 8000, .inl f_nb)), (h_nc, .inl (cy_nc, 8000, .inl f_nc)), (h_mny, .inl (cy_mny, 32, .inl f_mny)), (h_tem, .inl (cy_tem, 192, .inl f_tem))] sz) := by
  refine Met.ofW (cc := cX11_movesNodes) (maxL := 5) (ret := none) (by decide) rfl ?_
  intro p e s m args below meth c s₁ B hml hv
  obtain ⟨rfl, hsz, hP, hK, hD0, hN⟩ := hv
  have hx := B.exec
  have hb := B.bytes
  have hr := B.returns
  have hts := atoms_spec (ws := Ws yX11_movesNodes cX11_movesNodes 5 none) B.pre
  have hT : ∀ w ∈ WALL, w ∈ Ws yX11_movesNodes cX11_movesNodes 5 none := fun w h => List.mem_cons_of_mem _ h
  have hw := fun w (h : w ∈ WALL) => hts w (hT w h)
  have hown : s.vm.findClass RX11 = some m.cls := findClass_of_methodNamed B.named
  have hlocks := B.notSynchronized
  subst hsz
  have hD := hD0.self (sz := s.heap.size)
  generalize hAe : va_A [(h_mm, .inr (8, (mo128 v_mm (.ref h_nv) (.ref h_nn) (.ref h_na) (.ref h_nb) (.ref h_nc) (.int x_mm_nodes) (.ref h_mny) (.ref h_tem) (.int x_mm_reading)))), (h_nv, .inl (cy_nv, 8000, .inl f_nv)), (h_nn, .inl (cy_nn, 8000, .inr (.inl f_nn))), (h_na, .inl (cy_na, 8000, .inl f_na)), (h_nb, .inl (cy_nb, 8000, .inl f_nb)), (h_nc, .inl (cy_nc, 8000, .inl f_nc)), (h_mny, .inl (cy_mny, 32, .inl f_mny)), (h_tem, .inl (cy_tem, 192, .inl f_tem))] s.heap.size = A at hD ⊢
  have hA : ∀ q : Nat, s.heap.size ≤ q → A q := fun q h => by rw [← hAe]; exact Or.inr h
  have hS : va_S A s.heap s.heap [] := va_S.rf
  have hl := lv_entry ([.ref h_mm, .int p1]) (n := 5) (Nat.le_of_ble_eq_true rfl)
  rw [lg_entry_eq]
  generalize (lg_sl ([.ref h_mm, .int p1]) ++ List.replicate (5 - (lg_sl ([.ref h_mm, .int p1])).length) Slot.unset).toArray = ls at hl ⊢
  have hl : lv_has ls 5 [(0, .ref h_mm), (1, .int p1)] := hl
  refine lv_aload_n hx hb dX11_movesNodes_0 rfl (lv_at hl 0 rfl) ?_
  refine va_get (D := (dC, dI)) (ci := 8) (v := .int x_mm_nodes) (C := RX11) (T := TX11) (N := 71) hx hb hw iwX11 hown hK hP 0 rfl rfl 6 (by decide) (hw _ w_f_X11_20) (fun _ h9 => h9) rfl dX11_movesNodes_1 ?_
  refine lv_iload_n hx hb dX11_movesNodes_4 rfl (lv_at hl 1 rfl) ?_
  refine lv_isub hx hb dX11_movesNodes_5 ?_
  refine lv_topi (fun z1 ez1 => ?_)
  have tz1 : (z1).toInt = (x_mm_nodes).toInt - (p1).toInt := by rw [ez1]; exact i_sub rfl rfl (by omega)
  refine lv_istore_n (lv' := [(2, .int z1), (0, .ref h_mm), (1, .int p1)]) hx hb dX11_movesNodes_6 rfl hl (by decide) rfl (fun ls hl => ?_)
  refine lv_iconst (v := 0) hx hb dX11_movesNodes_7 (by decide) ?_
  have mv2 : MV (p1).toInt (x_mm_nodes).toInt hh 0 f_na := mv_zA hn_nd
  have mv3 : MV (p1).toInt (x_mm_nodes).toInt hh 0 f_nb := mv_zB hn_nd
  have mv4 : MV (p1).toInt (x_mm_nodes).toInt hh 0 f_nc := mv_zC hn_nd
  refine lv_istore_n (lv' := [(3, .int 0), (2, .int z1), (0, .ref h_mm), (1, .int p1)]) hx hb dX11_movesNodes_8 rfl hl (by decide) rfl (fun ls hl => ?_)
  have lp11 : ∀ (n : Nat) (x5 : Int32) (f6 : Nat → Int32) (f7 : Nat → Int64) (f8 : Nat → Int32) (f9 : Nat → Int32) (f10 : Nat → Int32) (H : Heap) (locs : List Loc) (ls : Array Slot), (0 ≤ (x5).toInt ∧ (x5).toInt ≤ 600) → (Rg (-1) 7 f6) → (Rg (-1) 7999 f8) → (Rg (-1) 7999 f9) → (Rg (-1) 7999 f10) → ((x5).toInt ≤ (z1).toInt) → (MV (p1).toInt (x_mm_nodes).toInt hh (x5).toInt f8) → (MV (p1).toInt (x_mm_nodes).toInt hh (x5).toInt f9) → (MV (p1).toInt (x_mm_nodes).toInt hh (x5).toInt f10) → (600 - (x5).toInt).toNat + 1 ≤ n → va_P (dC, dI) cls [(h_mm, .inr (8, (mo128 v_mm (.ref h_nv) (.ref h_nn) (.ref h_na) (.ref h_nb) (.ref h_nc) (.int x_mm_nodes) (.ref h_mny) (.ref h_tem) (.int x_mm_reading)))), (h_nv, .inl (cy_nv, 8000, .inl f6)), (h_nn, .inl (cy_nn, 8000, .inr (.inl f7))), (h_na, .inl (cy_na, 8000, .inl f8)), (h_nb, .inl (cy_nb, 8000, .inl f9)), (h_nc, .inl (cy_nc, 8000, .inl f10)), (h_mny, .inl (cy_mny, 32, .inl f_mny)), (h_tem, .inl (cy_tem, 192, .inl f_tem))] H → va_D A [(h_mm, .inr (8, (mo128 v_mm (.ref h_nv) (.ref h_nn) (.ref h_na) (.ref h_nb) (.ref h_nc) (.int x_mm_nodes) (.ref h_mny) (.ref h_tem) (.int x_mm_reading)))), (h_nv, .inl (cy_nv, 8000, .inl f6)), (h_nn, .inl (cy_nn, 8000, .inr (.inl f7))), (h_na, .inl (cy_na, 8000, .inl f8)), (h_nb, .inl (cy_nb, 8000, .inl f9)), (h_nc, .inl (cy_nc, 8000, .inl f10)), (h_mny, .inl (cy_mny, 32, .inl f_mny)), (h_tem, .inl (cy_tem, 192, .inl f_tem))] → va_S A s.heap H locs → lv_has ls 5 [(0, .ref h_mm), (1, .int p1), (2, .int z1), (3, .int x5)] → W p l e ({ frames := 1, cells := 0, slots := 0, locals := 22 } : Room) s m ([.ref h_mm, .int p1] : List Value).toArray below meth c H locs 0 0 (MQ below (va_Qv (fun (u : (Int32) × (Nat → Int32) × (Nat → Int64) × (Nat → Int32) × (Nat → Int32) × (Nat → Int32) × (Nat → Int32)) => (0 ≤ (u.1).toInt ∧ (u.1).toInt ≤ 1200) ∧ (Rg (-1) 7 u.2.1) ∧ (Rg (-1) 7999 u.2.2.2.1) ∧ (Rg (-1) 7999 u.2.2.2.2.1) ∧ (Rg (-1) 7999 u.2.2.2.2.2.1) ∧ (Rg 0 7999 u.2.2.2.2.2.2) ∧ ((u.1).toInt = (x_mm_nodes).toInt - (p1).toInt) ∧ (ND 0 (u.1).toInt (hsh hh (p1).toInt) u.2.2.2.1 u.2.2.2.2.1 u.2.2.2.2.2.1) ∧ (TM 0 (u.1).toInt (hsh hh (p1).toInt) 16 (x_mm_reading).toInt f_mny u.2.2.2.2.2.2)) (fun (u : (Int32) × (Nat → Int32) × (Nat → Int64) × (Nat → Int32) × (Nat → Int32) × (Nat → Int32) × (Nat → Int32)) (t : State) => va_P (dC, dI) cls [(h_mm, .inr (8, (mo128 v_mm (.ref h_nv) (.ref h_nn) (.ref h_na) (.ref h_nb) (.ref h_nc) (.int u.1) (.ref h_mny) (.ref h_tem) (.int x_mm_reading)))), (h_nv, .inl (cy_nv, 8000, .inl u.2.1)), (h_nn, .inl (cy_nn, 8000, .inr (.inl u.2.2.1))), (h_na, .inl (cy_na, 8000, .inl u.2.2.2.1)), (h_nb, .inl (cy_nb, 8000, .inl u.2.2.2.2.1)), (h_nc, .inl (cy_nc, 8000, .inl u.2.2.2.2.2.1)), (h_mny, .inl (cy_mny, 32, .inl f_mny)), (h_tem, .inl (cy_tem, 192, .inl u.2.2.2.2.2.2))] t.heap ∧ va_D A [(h_mm, .inr (8, (mo128 v_mm (.ref h_nv) (.ref h_nn) (.ref h_na) (.ref h_nb) (.ref h_nc) (.int u.1) (.ref h_mny) (.ref h_tem) (.int x_mm_reading)))), (h_nv, .inl (cy_nv, 8000, .inl u.2.1)), (h_nn, .inl (cy_nn, 8000, .inr (.inl u.2.2.1))), (h_na, .inl (cy_na, 8000, .inl u.2.2.2.1)), (h_nb, .inl (cy_nb, 8000, .inl u.2.2.2.2.1)), (h_nc, .inl (cy_nc, 8000, .inl u.2.2.2.2.2.1)), (h_mny, .inl (cy_mny, 32, .inl f_mny)), (h_tem, .inl (cy_tem, 192, .inl u.2.2.2.2.2.2))]) A) ([.ref h_mm, .int p1] : List Value).toArray s 0 0 A) (F0 m 9 ls []) := by
    clear hP hD hS hl
    intro n
    induction n with
    | zero => intro x5 f6 f7 f8 f9 f10 H locs ls klp11_0 hf6 hf8 hf9 hf10 klp11_5 klp11_6 klp11_7 klp11_8 hm hP hD hS hl; exact False.elim (by omega)
    | succ n ih => 
      intro x5 f6 f7 f8 f9 f10 H locs ls klp11_0 hf6 hf8 hf9 hf10 klp11_5 klp11_6 klp11_7 klp11_8 hm hP hD hS hl
      have ih12 := ih
      clear ih
      refine lv_iload_n hx hb dX11_movesNodes_9 rfl (lv_at hl 3 rfl) ?_
      refine lv_iload_n hx hb dX11_movesNodes_10 rfl (lv_at hl 2 rfl) ?_
      refine lv_icmp_ge (tgt := 144) hx hb dX11_movesNodes_11 (by decide) (fun c13 => ?_) (fun c13 => ?_)
      · have kc13 := (cv_le (rfl : (z1).toInt = (z1).toInt) (rfl : (x5).toInt = (x5).toInt)).mp c13
        have nd14 : ND 0 (z1).toInt (hsh hh (p1).toInt) f8 f9 f10 := nd_mv hn_nd klp11_6 klp11_7 klp11_8 (by omega) (by omega) (by omega)
        refine lv_aload_n hx hb dX11_movesNodes_144 rfl (lv_at hl 0 rfl) ?_
        refine lv_iload_n hx hb dX11_movesNodes_145 rfl (lv_at hl 2 rfl) ?_
        refine va_put (D := (dC, dI)) (ci := 8) (v := .int z1) (ty := tyX11 6) (C := RX11) (T := TX11) (N := 71) hx hb hw iwX11 tyX11 tyX11_ok nmX11 hown hK hP hD hS 0 rfl rfl 6 (by decide) (hw _ w_f_X11_20) (fun _ h9 => h9) rfl (tyX11_ok 6 (by decide)) rfl rfl (Nat.le_of_ble_eq_true rfl) dX11_movesNodes_146 (fun H locs hP9 hD9 hS9 => ?_)
        clear hP hD hS
        have hP : va_P (dC, dI) cls [(h_mm, .inr (8, (mo128 v_mm (.ref h_nv) (.ref h_nn) (.ref h_na) (.ref h_nb) (.ref h_nc) (.int z1) (.ref h_mny) (.ref h_tem) (.int x_mm_reading)))), (h_nv, .inl (cy_nv, 8000, .inl f6)), (h_nn, .inl (cy_nn, 8000, .inr (.inl f7))), (h_na, .inl (cy_na, 8000, .inl f8)), (h_nb, .inl (cy_nb, 8000, .inl f9)), (h_nc, .inl (cy_nc, 8000, .inl f10)), (h_mny, .inl (cy_mny, 32, .inl f_mny)), (h_tem, .inl (cy_tem, 192, .inl f_tem))] H := hP9
        have hD : va_D A [(h_mm, .inr (8, (mo128 v_mm (.ref h_nv) (.ref h_nn) (.ref h_na) (.ref h_nb) (.ref h_nc) (.int z1) (.ref h_mny) (.ref h_tem) (.int x_mm_reading)))), (h_nv, .inl (cy_nv, 8000, .inl f6)), (h_nn, .inl (cy_nn, 8000, .inr (.inl f7))), (h_na, .inl (cy_na, 8000, .inl f8)), (h_nb, .inl (cy_nb, 8000, .inl f9)), (h_nc, .inl (cy_nc, 8000, .inl f10)), (h_mny, .inl (cy_mny, 32, .inl f_mny)), (h_tem, .inl (cy_tem, 192, .inl f_tem))] := hD9
        have hS := hS9
        clear hP9 hD9 hS9
        refine lv_bipush (v := 16) hx hb dX11_movesNodes_149 (by decide) ?_
        have tv15 : TMV (p1).toInt (x_mm_nodes).toInt hh (x_mm_reading).toInt 16 0 f_mny f_tem := tmv_zero hn_tm
        refine lv_istore_n (lv' := [(3, .int 16), (0, .ref h_mm), (1, .int p1), (2, .int z1)]) hx hb dX11_movesNodes_151 rfl hl (by decide) rfl (fun ls hl => ?_)
        have lp18 : ∀ (n : Nat) (x16 : Int32) (f17 : Nat → Int32) (H : Heap) (locs : List Loc) (ls : Array Slot), (16 ≤ (x16).toInt ∧ (x16).toInt ≤ 32) → (Rg 0 7999 f17) → ((x16).toInt ≤ (x_mm_reading).toInt) → (TMV (p1).toInt (x_mm_nodes).toInt hh (x_mm_reading).toInt (x16).toInt 0 f_mny f17) → (32 - (x16).toInt).toNat + 1 ≤ n → va_P (dC, dI) cls [(h_mm, .inr (8, (mo128 v_mm (.ref h_nv) (.ref h_nn) (.ref h_na) (.ref h_nb) (.ref h_nc) (.int z1) (.ref h_mny) (.ref h_tem) (.int x_mm_reading)))), (h_nv, .inl (cy_nv, 8000, .inl f6)), (h_nn, .inl (cy_nn, 8000, .inr (.inl f7))), (h_na, .inl (cy_na, 8000, .inl f8)), (h_nb, .inl (cy_nb, 8000, .inl f9)), (h_nc, .inl (cy_nc, 8000, .inl f10)), (h_mny, .inl (cy_mny, 32, .inl f_mny)), (h_tem, .inl (cy_tem, 192, .inl f17))] H → va_D A [(h_mm, .inr (8, (mo128 v_mm (.ref h_nv) (.ref h_nn) (.ref h_na) (.ref h_nb) (.ref h_nc) (.int z1) (.ref h_mny) (.ref h_tem) (.int x_mm_reading)))), (h_nv, .inl (cy_nv, 8000, .inl f6)), (h_nn, .inl (cy_nn, 8000, .inr (.inl f7))), (h_na, .inl (cy_na, 8000, .inl f8)), (h_nb, .inl (cy_nb, 8000, .inl f9)), (h_nc, .inl (cy_nc, 8000, .inl f10)), (h_mny, .inl (cy_mny, 32, .inl f_mny)), (h_tem, .inl (cy_tem, 192, .inl f17))] → va_S A s.heap H locs → lv_has ls 5 [(0, .ref h_mm), (1, .int p1), (2, .int z1), (3, .int x16)] → W p l e ({ frames := 1, cells := 0, slots := 0, locals := 22 } : Room) s m ([.ref h_mm, .int p1] : List Value).toArray below meth c H locs 0 0 (MQ below (va_Qv (fun (u : (Int32) × (Nat → Int32) × (Nat → Int64) × (Nat → Int32) × (Nat → Int32) × (Nat → Int32) × (Nat → Int32)) => (0 ≤ (u.1).toInt ∧ (u.1).toInt ≤ 1200) ∧ (Rg (-1) 7 u.2.1) ∧ (Rg (-1) 7999 u.2.2.2.1) ∧ (Rg (-1) 7999 u.2.2.2.2.1) ∧ (Rg (-1) 7999 u.2.2.2.2.2.1) ∧ (Rg 0 7999 u.2.2.2.2.2.2) ∧ ((u.1).toInt = (x_mm_nodes).toInt - (p1).toInt) ∧ (ND 0 (u.1).toInt (hsh hh (p1).toInt) u.2.2.2.1 u.2.2.2.2.1 u.2.2.2.2.2.1) ∧ (TM 0 (u.1).toInt (hsh hh (p1).toInt) 16 (x_mm_reading).toInt f_mny u.2.2.2.2.2.2)) (fun (u : (Int32) × (Nat → Int32) × (Nat → Int64) × (Nat → Int32) × (Nat → Int32) × (Nat → Int32) × (Nat → Int32)) (t : State) => va_P (dC, dI) cls [(h_mm, .inr (8, (mo128 v_mm (.ref h_nv) (.ref h_nn) (.ref h_na) (.ref h_nb) (.ref h_nc) (.int u.1) (.ref h_mny) (.ref h_tem) (.int x_mm_reading)))), (h_nv, .inl (cy_nv, 8000, .inl u.2.1)), (h_nn, .inl (cy_nn, 8000, .inr (.inl u.2.2.1))), (h_na, .inl (cy_na, 8000, .inl u.2.2.2.1)), (h_nb, .inl (cy_nb, 8000, .inl u.2.2.2.2.1)), (h_nc, .inl (cy_nc, 8000, .inl u.2.2.2.2.2.1)), (h_mny, .inl (cy_mny, 32, .inl f_mny)), (h_tem, .inl (cy_tem, 192, .inl u.2.2.2.2.2.2))] t.heap ∧ va_D A [(h_mm, .inr (8, (mo128 v_mm (.ref h_nv) (.ref h_nn) (.ref h_na) (.ref h_nb) (.ref h_nc) (.int u.1) (.ref h_mny) (.ref h_tem) (.int x_mm_reading)))), (h_nv, .inl (cy_nv, 8000, .inl u.2.1)), (h_nn, .inl (cy_nn, 8000, .inr (.inl u.2.2.1))), (h_na, .inl (cy_na, 8000, .inl u.2.2.2.1)), (h_nb, .inl (cy_nb, 8000, .inl u.2.2.2.2.1)), (h_nc, .inl (cy_nc, 8000, .inl u.2.2.2.2.2.1)), (h_mny, .inl (cy_mny, 32, .inl f_mny)), (h_tem, .inl (cy_tem, 192, .inl u.2.2.2.2.2.2))]) A) ([.ref h_mm, .int p1] : List Value).toArray s 0 0 A) (F0 m 152 ls []) := by
          clear hP hD hS hl
          intro n
          induction n with
          | zero => intro x16 f17 H locs ls klp18_0 hf17 klp18_2 klp18_3 hm hP hD hS hl; exact False.elim (by omega)
          | succ n ih => 
            intro x16 f17 H locs ls klp18_0 hf17 klp18_2 klp18_3 hm hP hD hS hl
            have ih19 := ih
            clear ih
            refine lv_iload_n hx hb dX11_movesNodes_152 rfl (lv_at hl 3 rfl) ?_
            refine lv_aload_n hx hb dX11_movesNodes_153 rfl (lv_at hl 0 rfl) ?_
            refine va_get (D := (dC, dI)) (ci := 8) (v := .int x_mm_reading) (C := RX11) (T := TX11) (N := 71) hx hb hw iwX11 hown hK hP 0 rfl rfl 24 (by decide) (hw _ w_f_X11_105) (fun _ h9 => h9) rfl dX11_movesNodes_154 ?_
            refine lv_icmp_ge (tgt := 212) hx hb dX11_movesNodes_157 (by decide) (fun c20 => ?_) (fun c20 => ?_)
            · have kc20 := (cv_le (rfl : (x_mm_reading).toInt = (x_mm_reading).toInt) (rfl : (x16).toInt = (x16).toInt)).mp c20
              have tm21 : TM 0 (z1).toInt (hsh hh (p1).toInt) 16 (x_mm_reading).toInt f_mny f17 := tm_tmv klp18_3 (by omega) (by omega)
              refine W.widen (k := 0) (n := 0) (Nat.le_of_ble_eq_true rfl) (Nat.le_of_ble_eq_true rfl) ?_
              have w22 : 0 ≤ ((z1)).toInt ∧ ((z1)).toInt ≤ 1200 := by omega
              have w23 : ((z1)).toInt = (x_mm_nodes).toInt - (p1).toInt := by omega
              have w24 : ND 0 ((z1)).toInt (hsh hh (p1).toInt) (f8) (f9) (f10) := nd14
              have w25 : TM 0 ((z1)).toInt (hsh hh (p1).toInt) 16 (x_mm_reading).toInt f_mny (f17) := tm21
              exact W.vret hx hb hr (fun t ht hW => ⟨⟨(z1, f6, f7, f8, f9, f10, f17), rfl, ⟨w22, hf6, hf8, hf9, hf10, hf17, w23, w24, w25⟩, by rw [ht]; exact hP, hD⟩, hS.F ht⟩) hS.2.2 dX11_movesNodes_212
            · have kc20 := (not_congr (cv_le (rfl : (x_mm_reading).toInt = (x_mm_reading).toInt) (rfl : (x16).toInt = (x16).toInt))).mp c20
              refine lv_iconst (v := 0) hx hb dX11_movesNodes_160 (by decide) ?_
              refine lv_istore (lv' := [(4, .int 0), (0, .ref h_mm), (1, .int p1), (2, .int z1), (3, .int x16)]) hx hb dX11_movesNodes_161 hl (by decide) rfl (fun ls hl => ?_)
              have lp28 : ∀ (n : Nat) (x26 : Int32) (f27 : Nat → Int32) (H : Heap) (locs : List Loc) (ls : Array Slot), (0 ≤ (x26).toInt ∧ (x26).toInt ≤ 6) → (Rg 0 7999 f27) → (TMV (p1).toInt (x_mm_nodes).toInt hh (x_mm_reading).toInt (x16).toInt (x26).toInt f_mny f27) → (6 - (x26).toInt).toNat + 1 ≤ n → va_P (dC, dI) cls [(h_mm, .inr (8, (mo128 v_mm (.ref h_nv) (.ref h_nn) (.ref h_na) (.ref h_nb) (.ref h_nc) (.int z1) (.ref h_mny) (.ref h_tem) (.int x_mm_reading)))), (h_nv, .inl (cy_nv, 8000, .inl f6)), (h_nn, .inl (cy_nn, 8000, .inr (.inl f7))), (h_na, .inl (cy_na, 8000, .inl f8)), (h_nb, .inl (cy_nb, 8000, .inl f9)), (h_nc, .inl (cy_nc, 8000, .inl f10)), (h_mny, .inl (cy_mny, 32, .inl f_mny)), (h_tem, .inl (cy_tem, 192, .inl f27))] H → va_D A [(h_mm, .inr (8, (mo128 v_mm (.ref h_nv) (.ref h_nn) (.ref h_na) (.ref h_nb) (.ref h_nc) (.int z1) (.ref h_mny) (.ref h_tem) (.int x_mm_reading)))), (h_nv, .inl (cy_nv, 8000, .inl f6)), (h_nn, .inl (cy_nn, 8000, .inr (.inl f7))), (h_na, .inl (cy_na, 8000, .inl f8)), (h_nb, .inl (cy_nb, 8000, .inl f9)), (h_nc, .inl (cy_nc, 8000, .inl f10)), (h_mny, .inl (cy_mny, 32, .inl f_mny)), (h_tem, .inl (cy_tem, 192, .inl f27))] → va_S A s.heap H locs → lv_has ls 5 [(0, .ref h_mm), (1, .int p1), (2, .int z1), (3, .int x16), (4, .int x26)] → W p l e ({ frames := 1, cells := 0, slots := 0, locals := 22 } : Room) s m ([.ref h_mm, .int p1] : List Value).toArray below meth c H locs 0 0 (MQ below (va_Qv (fun (u : (Int32) × (Nat → Int32) × (Nat → Int64) × (Nat → Int32) × (Nat → Int32) × (Nat → Int32) × (Nat → Int32)) => (0 ≤ (u.1).toInt ∧ (u.1).toInt ≤ 1200) ∧ (Rg (-1) 7 u.2.1) ∧ (Rg (-1) 7999 u.2.2.2.1) ∧ (Rg (-1) 7999 u.2.2.2.2.1) ∧ (Rg (-1) 7999 u.2.2.2.2.2.1) ∧ (Rg 0 7999 u.2.2.2.2.2.2) ∧ ((u.1).toInt = (x_mm_nodes).toInt - (p1).toInt) ∧ (ND 0 (u.1).toInt (hsh hh (p1).toInt) u.2.2.2.1 u.2.2.2.2.1 u.2.2.2.2.2.1) ∧ (TM 0 (u.1).toInt (hsh hh (p1).toInt) 16 (x_mm_reading).toInt f_mny u.2.2.2.2.2.2)) (fun (u : (Int32) × (Nat → Int32) × (Nat → Int64) × (Nat → Int32) × (Nat → Int32) × (Nat → Int32) × (Nat → Int32)) (t : State) => va_P (dC, dI) cls [(h_mm, .inr (8, (mo128 v_mm (.ref h_nv) (.ref h_nn) (.ref h_na) (.ref h_nb) (.ref h_nc) (.int u.1) (.ref h_mny) (.ref h_tem) (.int x_mm_reading)))), (h_nv, .inl (cy_nv, 8000, .inl u.2.1)), (h_nn, .inl (cy_nn, 8000, .inr (.inl u.2.2.1))), (h_na, .inl (cy_na, 8000, .inl u.2.2.2.1)), (h_nb, .inl (cy_nb, 8000, .inl u.2.2.2.2.1)), (h_nc, .inl (cy_nc, 8000, .inl u.2.2.2.2.2.1)), (h_mny, .inl (cy_mny, 32, .inl f_mny)), (h_tem, .inl (cy_tem, 192, .inl u.2.2.2.2.2.2))] t.heap ∧ va_D A [(h_mm, .inr (8, (mo128 v_mm (.ref h_nv) (.ref h_nn) (.ref h_na) (.ref h_nb) (.ref h_nc) (.int u.1) (.ref h_mny) (.ref h_tem) (.int x_mm_reading)))), (h_nv, .inl (cy_nv, 8000, .inl u.2.1)), (h_nn, .inl (cy_nn, 8000, .inr (.inl u.2.2.1))), (h_na, .inl (cy_na, 8000, .inl u.2.2.2.1)), (h_nb, .inl (cy_nb, 8000, .inl u.2.2.2.2.1)), (h_nc, .inl (cy_nc, 8000, .inl u.2.2.2.2.2.1)), (h_mny, .inl (cy_mny, 32, .inl f_mny)), (h_tem, .inl (cy_tem, 192, .inl u.2.2.2.2.2.2))]) A) ([.ref h_mm, .int p1] : List Value).toArray s 0 0 A) (F0 m 163 ls []) := by
                clear hP hD hS hl
                intro n
                induction n with
                | zero => intro x26 f27 H locs ls klp28_0 hf27 klp28_2 hm hP hD hS hl; exact False.elim (by omega)
                | succ n ih => 
                  intro x26 f27 H locs ls klp28_0 hf27 klp28_2 hm hP hD hS hl
                  have ih29 := ih
                  clear ih
                  refine lv_iload hx hb dX11_movesNodes_163 (lv_at hl 4 rfl) ?_
                  refine lv_aload_n hx hb dX11_movesNodes_165 rfl (lv_at hl 0 rfl) ?_
                  refine va_get (D := (dC, dI)) (ci := 8) (v := .ref h_mny) (C := RX11) (T := TX11) (N := 71) hx hb hw iwX11 hown hK hP 0 rfl rfl 8 (by decide) (hw _ w_f_X11_142) (fun _ h9 => h9) rfl dX11_movesNodes_166 ?_
                  refine lv_iload_n hx hb dX11_movesNodes_169 rfl (lv_at hl 3 rfl) ?_
                  refine va_iald hx hb hK hP 6 5 rfl rfl (i := x16) (vp_in_iff.mpr (by omega)) dX11_movesNodes_170 ?_
                  refine lv_topi (fun z30 ez30 => ?_)
                  have rz30 : 0 ≤ (z30).toInt ∧ (z30).toInt ≤ 6 := by rw [ez30]; exact hf_mny _
                  refine lv_icmp_ge (tgt := 206) hx hb dX11_movesNodes_171 (by decide) (fun c31 => ?_) (fun c31 => ?_)
                  · have kc31 := (cv_le (rfl : (z30).toInt = (z30).toInt) (rfl : (x26).toInt = (x26).toInt)).mp c31
                    have mzz30 : (f_mny (Int32.toNatClampNeg x16)).toInt = (z30).toInt := by rw [ez30]
                    have tv32 : TMV (p1).toInt (x_mm_nodes).toInt hh (x_mm_reading).toInt ((x16).toInt + 1) 0 f_mny f27 := tmv_next (i := x16) klp28_2 rfl (by omega) (by omega)
                    obtain ⟨z33, ez33⟩ : ∃ y : Int32, y = x16 + 1 := ⟨_, rfl⟩
                    have tz33 : (z33).toInt = (x16).toInt + 1 := by rw [ez33]; exact i_add rfl (by decide) (by omega)
                    refine lv_iinc (v := z33) (lv' := [(3, .int z33), (0, .ref h_mm), (1, .int p1), (2, .int z1), (4, .int x26)]) hx hb dX11_movesNodes_206 hl (k := 3) rfl (by rw [ez33]; rfl) (by decide) rfl (fun ls hl => ?_)
                    refine lv_goto (tgt := 152) hx hb dX11_movesNodes_209 (by decide) ?_
                    exact ih19 (z33) (f27) _ _ _ (by omega) hf27 (by omega) (tmv_cast tv32 (by omega) (by omega)) (by omega) hP hD hS (lv_sub hl [1, 2, 3, 0] rfl)
                  · have kc31 := (not_congr (cv_le (rfl : (z30).toInt = (z30).toInt) (rfl : (x26).toInt = (x26).toInt))).mp c31
                    refine lv_aload_n hx hb dX11_movesNodes_174 rfl (lv_at hl 0 rfl) ?_
                    refine va_get (D := (dC, dI)) (ci := 8) (v := .ref h_tem) (C := RX11) (T := TX11) (N := 71) hx hb hw iwX11 hown hK hP 0 rfl rfl 12 (by decide) (hw _ w_f_X11_152) (fun _ h9 => h9) rfl dX11_movesNodes_175 ?_
                    refine lv_aload_n hx hb dX11_movesNodes_178 rfl (lv_at hl 0 rfl) ?_
                    refine lv_iload_n hx hb dX11_movesNodes_179 rfl (lv_at hl 3 rfl) ?_
                    refine lv_iload hx hb dX11_movesNodes_180 (lv_at hl 4 rfl) ?_
                    have hPc := hP.sub (ws' := []) [] rfl
                    have hDc := hD.sub (ws' := []) [] (by decide) rfl
                    have hKc := hK.sub (tys' := []) [] rfl
                    have hFc := va_free (wc := []) hD hS hA [] rfl
                    refine va_calli (va_runV (As := [.int x16, .int x26]) (rest := [.ref h_tem]) ⟨hx, hb, hml, hown, hts⟩ (c_X11_litAt l dC dI H.size h_mm x16 x26 (by omega) (by omega)) (cwV 2 hts (gv hT w_m_X11_149 w_instanceMethod_X11_litAt ws_sel_X11_litAt w_ini_X11 w_code_X11_litAt) rfl rfl rfl (by decide +kernel) ⟨(Nat.le_of_ble_eq_true rfl), (Nat.le_of_ble_eq_true rfl)⟩) ⟨pre_blind, va_recv hK hP (ci := 8) (q0 := 0) rfl rfl, pre_of hPc hKc hDc hN⟩ rfl rfl hl.1 rfl (lv_room (Nat.le_of_ble_eq_true rfl)) dX11_movesNodes_182 ⟨(Nat.le_of_ble_eq_true rfl), (Nat.le_of_ble_eq_true rfl)⟩) hS (fun q _ h => hFc q h) hFc (fun r34 u t H locs ht hvm hq hB hz1 hk1 hS9 => ?_)
                    obtain ⟨hP1, hD1⟩ := hB
                    rw [ht] at hP1
                    obtain ⟨hP9, hD9⟩ := va_join (wr := [(h_mm, .inr (8, (mo128 v_mm (.ref h_nv) (.ref h_nn) (.ref h_na) (.ref h_nb) (.ref h_nc) (.int z1) (.ref h_mny) (.ref h_tem) (.int x_mm_reading)))), (h_nv, .inl (cy_nv, 8000, .inl f6)), (h_nn, .inl (cy_nn, 8000, .inr (.inl f7))), (h_na, .inl (cy_na, 8000, .inl f8)), (h_nb, .inl (cy_nb, 8000, .inl f9)), (h_nc, .inl (cy_nc, 8000, .inl f10)), (h_mny, .inl (cy_mny, 32, .inl f_mny)), (h_tem, .inl (cy_tem, 192, .inl f27))]) (w1 := []) hP hD [] [0, 1, 2, 3, 4, 5, 6, 7] rfl rfl (by decide) (by decide) hk1 hFc hP1 hD1
                    clear hP hD hS hPc hDc hKc hFc hP1 hD1 hk1 hz1 ht hvm
                    have hP : va_P (dC, dI) cls [(h_mm, .inr (8, (mo128 v_mm (.ref h_nv) (.ref h_nn) (.ref h_na) (.ref h_nb) (.ref h_nc) (.int z1) (.ref h_mny) (.ref h_tem) (.int x_mm_reading)))), (h_nv, .inl (cy_nv, 8000, .inl f6)), (h_nn, .inl (cy_nn, 8000, .inr (.inl f7))), (h_na, .inl (cy_na, 8000, .inl f8)), (h_nb, .inl (cy_nb, 8000, .inl f9)), (h_nc, .inl (cy_nc, 8000, .inl f10)), (h_mny, .inl (cy_mny, 32, .inl f_mny)), (h_tem, .inl (cy_tem, 192, .inl f27))] H := hP9
                    have hD : va_D A [(h_mm, .inr (8, (mo128 v_mm (.ref h_nv) (.ref h_nn) (.ref h_na) (.ref h_nb) (.ref h_nc) (.int z1) (.ref h_mny) (.ref h_tem) (.int x_mm_reading)))), (h_nv, .inl (cy_nv, 8000, .inl f6)), (h_nn, .inl (cy_nn, 8000, .inr (.inl f7))), (h_na, .inl (cy_na, 8000, .inl f8)), (h_nb, .inl (cy_nb, 8000, .inl f9)), (h_nc, .inl (cy_nc, 8000, .inl f10)), (h_mny, .inl (cy_mny, 32, .inl f_mny)), (h_tem, .inl (cy_tem, 192, .inl f27))] := hD9
                    have hS := hS9
                    clear hP9 hD9 hS9
                    obtain ⟨k35, k36⟩ := hq
                    replace k35 : 0 ≤ (r34).toInt ∧ (r34).toInt ≤ 191 := k35
                    replace k36 : ((r34)).toInt = 6 * ((x16)).toInt + ((x26)).toInt := k36
                    refine lv_aload_n hx hb dX11_movesNodes_185 rfl (lv_at hl 0 rfl) ?_
                    refine va_get (D := (dC, dI)) (ci := 8) (v := .ref h_tem) (C := RX11) (T := TX11) (N := 71) hx hb hw iwX11 hown hK hP 0 rfl rfl 12 (by decide) (hw _ w_f_X11_152) (fun _ h9 => h9) rfl dX11_movesNodes_186 ?_
                    refine lv_aload_n hx hb dX11_movesNodes_189 rfl (lv_at hl 0 rfl) ?_
                    refine lv_iload_n hx hb dX11_movesNodes_190 rfl (lv_at hl 3 rfl) ?_
                    refine lv_iload hx hb dX11_movesNodes_191 (lv_at hl 4 rfl) ?_
                    have hPc := hP.sub (ws' := []) [] rfl
                    have hDc := hD.sub (ws' := []) [] (by decide) rfl
                    have hKc := hK.sub (tys' := []) [] rfl
                    have hFc := va_free (wc := []) hD hS hA [] rfl
                    refine va_calli (va_runV (As := [.int x16, .int x26]) (rest := [.ref h_tem, .int r34, .ref h_tem]) ⟨hx, hb, hml, hown, hts⟩ (c_X11_litAt l dC dI H.size h_mm x16 x26 (by omega) (by omega)) (cwV 2 hts (gv hT w_m_X11_149 w_instanceMethod_X11_litAt ws_sel_X11_litAt w_ini_X11 w_code_X11_litAt) rfl rfl rfl (by decide +kernel) ⟨(Nat.le_of_ble_eq_true rfl), (Nat.le_of_ble_eq_true rfl)⟩) ⟨pre_blind, va_recv hK hP (ci := 8) (q0 := 0) rfl rfl, pre_of hPc hKc hDc hN⟩ rfl rfl hl.1 rfl (lv_room (Nat.le_of_ble_eq_true rfl)) dX11_movesNodes_193 ⟨(Nat.le_of_ble_eq_true rfl), (Nat.le_of_ble_eq_true rfl)⟩) hS (fun q _ h => hFc q h) hFc (fun r37 u t H locs ht hvm hq hB hz1 hk1 hS9 => ?_)
                    obtain ⟨hP1, hD1⟩ := hB
                    rw [ht] at hP1
                    obtain ⟨hP9, hD9⟩ := va_join (wr := [(h_mm, .inr (8, (mo128 v_mm (.ref h_nv) (.ref h_nn) (.ref h_na) (.ref h_nb) (.ref h_nc) (.int z1) (.ref h_mny) (.ref h_tem) (.int x_mm_reading)))), (h_nv, .inl (cy_nv, 8000, .inl f6)), (h_nn, .inl (cy_nn, 8000, .inr (.inl f7))), (h_na, .inl (cy_na, 8000, .inl f8)), (h_nb, .inl (cy_nb, 8000, .inl f9)), (h_nc, .inl (cy_nc, 8000, .inl f10)), (h_mny, .inl (cy_mny, 32, .inl f_mny)), (h_tem, .inl (cy_tem, 192, .inl f27))]) (w1 := []) hP hD [] [0, 1, 2, 3, 4, 5, 6, 7] rfl rfl (by decide) (by decide) hk1 hFc hP1 hD1
                    clear hP hD hS hPc hDc hKc hFc hP1 hD1 hk1 hz1 ht hvm
                    have hP : va_P (dC, dI) cls [(h_mm, .inr (8, (mo128 v_mm (.ref h_nv) (.ref h_nn) (.ref h_na) (.ref h_nb) (.ref h_nc) (.int z1) (.ref h_mny) (.ref h_tem) (.int x_mm_reading)))), (h_nv, .inl (cy_nv, 8000, .inl f6)), (h_nn, .inl (cy_nn, 8000, .inr (.inl f7))), (h_na, .inl (cy_na, 8000, .inl f8)), (h_nb, .inl (cy_nb, 8000, .inl f9)), (h_nc, .inl (cy_nc, 8000, .inl f10)), (h_mny, .inl (cy_mny, 32, .inl f_mny)), (h_tem, .inl (cy_tem, 192, .inl f27))] H := hP9
                    have hD : va_D A [(h_mm, .inr (8, (mo128 v_mm (.ref h_nv) (.ref h_nn) (.ref h_na) (.ref h_nb) (.ref h_nc) (.int z1) (.ref h_mny) (.ref h_tem) (.int x_mm_reading)))), (h_nv, .inl (cy_nv, 8000, .inl f6)), (h_nn, .inl (cy_nn, 8000, .inr (.inl f7))), (h_na, .inl (cy_na, 8000, .inl f8)), (h_nb, .inl (cy_nb, 8000, .inl f9)), (h_nc, .inl (cy_nc, 8000, .inl f10)), (h_mny, .inl (cy_mny, 32, .inl f_mny)), (h_tem, .inl (cy_tem, 192, .inl f27))] := hD9
                    have hS := hS9
                    clear hP9 hD9 hS9
                    obtain ⟨k38, k39⟩ := hq
                    replace k38 : 0 ≤ (r37).toInt ∧ (r37).toInt ≤ 191 := k38
                    replace k39 : ((r37)).toInt = 6 * ((x16)).toInt + ((x26)).toInt := k39
                    refine va_iald hx hb hK hP 7 6 rfl rfl (i := r37) (vp_in_iff.mpr (by omega)) dX11_movesNodes_196 ?_
                    refine lv_topi (fun z40 ez40 => ?_)
                    have rz40 : 0 ≤ (z40).toInt ∧ (z40).toInt ≤ 7999 := by rw [ez40]; exact hf27 _
                    have mzz30 : (f_mny (Int32.toNatClampNeg x16)).toInt = (z30).toInt := by rw [ez30]
                    have gz40 := tmv_get (i := x16) (t := r37) klp28_2 rfl (by omega) (by omega) (by omega) ez40
                    refine lv_iload_n hx hb dX11_movesNodes_197 rfl (lv_at hl 1 rfl) ?_
                    refine lv_isub hx hb dX11_movesNodes_198 ?_
                    refine lv_topi (fun z41 ez41 => ?_)
                    have tz41 : (z41).toInt = (z40).toInt - (p1).toInt := by rw [ez41]; exact i_sub rfl rfl (by omega)
                    have sz41 : 0 ≤ (z41).toInt ∧ (z41).toInt ≤ 7999 := by omega
                    refine va_iast hx hb hK hP hD hS 7 6 rfl rfl (i := r34) (x := z41) (vp_in_iff.mpr (by omega)) dX11_movesNodes_199 (fun H locs hP9 hD9 hS9 => ?_)
                    obtain ⟨f42, ef42⟩ : ∃ g : Nat → Int32, g = upd f27 (Int32.toNatClampNeg r34) z41 := ⟨_, rfl⟩
                    clear hP hD hS
                    have hP : va_P (dC, dI) cls [(h_mm, .inr (8, (mo128 v_mm (.ref h_nv) (.ref h_nn) (.ref h_na) (.ref h_nb) (.ref h_nc) (.int z1) (.ref h_mny) (.ref h_tem) (.int x_mm_reading)))), (h_nv, .inl (cy_nv, 8000, .inl f6)), (h_nn, .inl (cy_nn, 8000, .inr (.inl f7))), (h_na, .inl (cy_na, 8000, .inl f8)), (h_nb, .inl (cy_nb, 8000, .inl f9)), (h_nc, .inl (cy_nc, 8000, .inl f10)), (h_mny, .inl (cy_mny, 32, .inl f_mny)), (h_tem, .inl (cy_tem, 192, .inl f42))] H := by rw [ef42]; exact hP9
                    have hD : va_D A [(h_mm, .inr (8, (mo128 v_mm (.ref h_nv) (.ref h_nn) (.ref h_na) (.ref h_nb) (.ref h_nc) (.int z1) (.ref h_mny) (.ref h_tem) (.int x_mm_reading)))), (h_nv, .inl (cy_nv, 8000, .inl f6)), (h_nn, .inl (cy_nn, 8000, .inr (.inl f7))), (h_na, .inl (cy_na, 8000, .inl f8)), (h_nb, .inl (cy_nb, 8000, .inl f9)), (h_nc, .inl (cy_nc, 8000, .inl f10)), (h_mny, .inl (cy_mny, 32, .inl f_mny)), (h_tem, .inl (cy_tem, 192, .inl f42))] := by rw [ef42]; exact hD9
                    have hS := hS9
                    clear hP9 hD9 hS9
                    have hf42 : Rg 0 7999 f42 := by rw [ef42]; exact rg_upd hf27 (by omega)
                    have tv43 : TMV (p1).toInt (x_mm_nodes).toInt hh (x_mm_reading).toInt (x16).toInt ((x26).toInt + 1) f_mny f42 := by rw [ef42]; exact tmv_step (i := x16) (t := r34) (u := r37) klp28_2 rfl (by omega) (by omega) (by omega) (by omega) (by omega) (by rw [← ez40]; omega)
                    clear ef42
                    obtain ⟨z44, ez44⟩ : ∃ y : Int32, y = x26 + 1 := ⟨_, rfl⟩
                    have tz44 : (z44).toInt = (x26).toInt + 1 := by rw [ez44]; exact i_add rfl (by decide) (by omega)
                    refine lv_iinc (v := z44) (lv' := [(4, .int z44), (0, .ref h_mm), (1, .int p1), (2, .int z1), (3, .int x16)]) hx hb dX11_movesNodes_200 hl (k := 4) rfl (by rw [ez44]; rfl) (by decide) rfl (fun ls hl => ?_)
                    refine lv_goto (tgt := 163) hx hb dX11_movesNodes_203 (by decide) ?_
                    exact ih29 (z44) (f42) _ _ _ (by omega) hf42 (tmv_cast tv43 (by omega) (by omega)) (by omega) hP hD hS (lv_sub hl [1, 2, 3, 4, 0] rfl)
              have cst0 : (0 : Int32).toInt = 0 := by decide
              exact lp28 _ (0) (f17) _ _ _ (by decide) hf17 (tmv_cast klp18_3 (by omega) (by omega)) (Nat.le_refl _) hP hD hS (lv_sub hl [1, 2, 3, 4, 0] rfl)
        have cst16 : (16 : Int32).toInt = 16 := by decide
        exact lp18 _ (16) (f_tem) _ _ _ (by decide) hf_tem (by omega) (tmv_cast tv15 (by omega) (by omega)) (Nat.le_refl _) hP hD hS (lv_sub hl [1, 2, 3, 0] rfl)
      · have kc13 := (not_congr (cv_le (rfl : (z1).toInt = (z1).toInt) (rfl : (x5).toInt = (x5).toInt))).mp c13
        refine lv_aload_n hx hb dX11_movesNodes_14 rfl (lv_at hl 0 rfl) ?_
        refine va_get (D := (dC, dI)) (ci := 8) (v := .ref h_nv) (C := RX11) (T := TX11) (N := 71) hx hb hw iwX11 hown hK hP 0 rfl rfl 1 (by decide) (hw _ w_f_X11_17) (fun _ h9 => h9) rfl dX11_movesNodes_15 ?_
        refine lv_iload_n hx hb dX11_movesNodes_18 rfl (lv_at hl 3 rfl) ?_
        refine lv_aload_n hx hb dX11_movesNodes_19 rfl (lv_at hl 0 rfl) ?_
        refine va_get (D := (dC, dI)) (ci := 8) (v := .ref h_nv) (C := RX11) (T := TX11) (N := 71) hx hb hw iwX11 hown hK hP 0 rfl rfl 1 (by decide) (hw _ w_f_X11_17) (fun _ h9 => h9) rfl dX11_movesNodes_20 ?_
        refine lv_iload_n hx hb dX11_movesNodes_23 rfl (lv_at hl 1 rfl) ?_
        refine lv_iload_n hx hb dX11_movesNodes_24 rfl (lv_at hl 3 rfl) ?_
        refine lv_iadd hx hb dX11_movesNodes_25 ?_
        refine lv_topi (fun z45 ez45 => ?_)
        have tz45 : (z45).toInt = (p1).toInt + (x5).toInt := by rw [ez45]; exact i_add rfl rfl (by omega)
        refine va_iald hx hb hK hP 1 0 rfl rfl (i := z45) (vp_in_iff.mpr (by omega)) dX11_movesNodes_26 ?_
        refine lv_topi (fun z46 ez46 => ?_)
        have rz46 : -1 ≤ (z46).toInt ∧ (z46).toInt ≤ 7 := by rw [ez46]; exact hf6 _
        refine va_iast hx hb hK hP hD hS 1 0 rfl rfl (i := x5) (x := z46) (vp_in_iff.mpr (by omega)) dX11_movesNodes_27 (fun H locs hP9 hD9 hS9 => ?_)
        obtain ⟨f47, ef47⟩ : ∃ g : Nat → Int32, g = upd f6 (Int32.toNatClampNeg x5) z46 := ⟨_, rfl⟩
        clear hP hD hS
        have hP : va_P (dC, dI) cls [(h_mm, .inr (8, (mo128 v_mm (.ref h_nv) (.ref h_nn) (.ref h_na) (.ref h_nb) (.ref h_nc) (.int x_mm_nodes) (.ref h_mny) (.ref h_tem) (.int x_mm_reading)))), (h_nv, .inl (cy_nv, 8000, .inl f47)), (h_nn, .inl (cy_nn, 8000, .inr (.inl f7))), (h_na, .inl (cy_na, 8000, .inl f8)), (h_nb, .inl (cy_nb, 8000, .inl f9)), (h_nc, .inl (cy_nc, 8000, .inl f10)), (h_mny, .inl (cy_mny, 32, .inl f_mny)), (h_tem, .inl (cy_tem, 192, .inl f_tem))] H := by rw [ef47]; exact hP9
        have hD : va_D A [(h_mm, .inr (8, (mo128 v_mm (.ref h_nv) (.ref h_nn) (.ref h_na) (.ref h_nb) (.ref h_nc) (.int x_mm_nodes) (.ref h_mny) (.ref h_tem) (.int x_mm_reading)))), (h_nv, .inl (cy_nv, 8000, .inl f47)), (h_nn, .inl (cy_nn, 8000, .inr (.inl f7))), (h_na, .inl (cy_na, 8000, .inl f8)), (h_nb, .inl (cy_nb, 8000, .inl f9)), (h_nc, .inl (cy_nc, 8000, .inl f10)), (h_mny, .inl (cy_mny, 32, .inl f_mny)), (h_tem, .inl (cy_tem, 192, .inl f_tem))] := by rw [ef47]; exact hD9
        have hS := hS9
        clear hP9 hD9 hS9
        have hf47 : Rg (-1) 7 f47 := by rw [ef47]; exact rg_upd hf6 (by omega)
        clear ef47
        refine lv_aload_n hx hb dX11_movesNodes_28 rfl (lv_at hl 0 rfl) ?_
        refine va_get (D := (dC, dI)) (ci := 8) (v := .ref h_nn) (C := RX11) (T := TX11) (N := 71) hx hb hw iwX11 hown hK hP 0 rfl rfl 2 (by decide) (hw _ w_f_X11_23) (fun _ h9 => h9) rfl dX11_movesNodes_29 ?_
        refine lv_iload_n hx hb dX11_movesNodes_32 rfl (lv_at hl 3 rfl) ?_
        refine lv_aload_n hx hb dX11_movesNodes_33 rfl (lv_at hl 0 rfl) ?_
        refine va_get (D := (dC, dI)) (ci := 8) (v := .ref h_nn) (C := RX11) (T := TX11) (N := 71) hx hb hw iwX11 hown hK hP 0 rfl rfl 2 (by decide) (hw _ w_f_X11_23) (fun _ h9 => h9) rfl dX11_movesNodes_34 ?_
        refine lv_iload_n hx hb dX11_movesNodes_37 rfl (lv_at hl 1 rfl) ?_
        refine lv_iload_n hx hb dX11_movesNodes_38 rfl (lv_at hl 3 rfl) ?_
        refine lv_iadd hx hb dX11_movesNodes_39 ?_
        refine lv_topi (fun z48 ez48 => ?_)
        have qz48 : (z48).toInt = (z45).toInt := by rw [ez48, ez45]
        have tz48 : (z48).toInt = (p1).toInt + (x5).toInt := by rw [ez48]; exact i_add rfl rfl (by omega)
        refine va_lald hx hb hK hP 2 1 rfl rfl (i := z48) (vp_in_iff.mpr (by omega)) dX11_movesNodes_40 ?_
        refine lv_topl (fun z49 ez49 => ?_)
        refine va_last hx hb hK hP hD hS 2 1 rfl rfl (i := x5) (x := z49) (vp_in_iff.mpr (by omega)) dX11_movesNodes_41 (fun H locs hP9 hD9 hS9 => ?_)
        obtain ⟨f50, ef50⟩ : ∃ g : Nat → Int64, g = vp_updL f7 (Int32.toNatClampNeg x5) z49 := ⟨_, rfl⟩
        clear hP hD hS
        have hP : va_P (dC, dI) cls [(h_mm, .inr (8, (mo128 v_mm (.ref h_nv) (.ref h_nn) (.ref h_na) (.ref h_nb) (.ref h_nc) (.int x_mm_nodes) (.ref h_mny) (.ref h_tem) (.int x_mm_reading)))), (h_nv, .inl (cy_nv, 8000, .inl f47)), (h_nn, .inl (cy_nn, 8000, .inr (.inl f50))), (h_na, .inl (cy_na, 8000, .inl f8)), (h_nb, .inl (cy_nb, 8000, .inl f9)), (h_nc, .inl (cy_nc, 8000, .inl f10)), (h_mny, .inl (cy_mny, 32, .inl f_mny)), (h_tem, .inl (cy_tem, 192, .inl f_tem))] H := by rw [ef50]; exact hP9
        have hD : va_D A [(h_mm, .inr (8, (mo128 v_mm (.ref h_nv) (.ref h_nn) (.ref h_na) (.ref h_nb) (.ref h_nc) (.int x_mm_nodes) (.ref h_mny) (.ref h_tem) (.int x_mm_reading)))), (h_nv, .inl (cy_nv, 8000, .inl f47)), (h_nn, .inl (cy_nn, 8000, .inr (.inl f50))), (h_na, .inl (cy_na, 8000, .inl f8)), (h_nb, .inl (cy_nb, 8000, .inl f9)), (h_nc, .inl (cy_nc, 8000, .inl f10)), (h_mny, .inl (cy_mny, 32, .inl f_mny)), (h_tem, .inl (cy_tem, 192, .inl f_tem))] := by rw [ef50]; exact hD9
        have hS := hS9
        clear hP9 hD9 hS9
        clear ef50
        refine lv_aload_n hx hb dX11_movesNodes_42 rfl (lv_at hl 0 rfl) ?_
        refine va_get (D := (dC, dI)) (ci := 8) (v := .ref h_na) (C := RX11) (T := TX11) (N := 71) hx hb hw iwX11 hown hK hP 0 rfl rfl 3 (by decide) (hw _ w_f_X11_7) (fun _ h9 => h9) rfl dX11_movesNodes_43 ?_
        refine lv_iload_n hx hb dX11_movesNodes_46 rfl (lv_at hl 3 rfl) ?_
        refine lv_aload_n hx hb dX11_movesNodes_47 rfl (lv_at hl 0 rfl) ?_
        refine va_get (D := (dC, dI)) (ci := 8) (v := .ref h_na) (C := RX11) (T := TX11) (N := 71) hx hb hw iwX11 hown hK hP 0 rfl rfl 3 (by decide) (hw _ w_f_X11_7) (fun _ h9 => h9) rfl dX11_movesNodes_48 ?_
        refine lv_iload_n hx hb dX11_movesNodes_51 rfl (lv_at hl 1 rfl) ?_
        refine lv_iload_n hx hb dX11_movesNodes_52 rfl (lv_at hl 3 rfl) ?_
        refine lv_iadd hx hb dX11_movesNodes_53 ?_
        refine lv_topi (fun z51 ez51 => ?_)
        have qz51 : (z51).toInt = (z45).toInt := by rw [ez51, ez45]
        have tz51 : (z51).toInt = (p1).toInt + (x5).toInt := by rw [ez51]; exact i_add rfl rfl (by omega)
        refine va_iald hx hb hK hP 3 2 rfl rfl (i := z51) (vp_in_iff.mpr (by omega)) dX11_movesNodes_54 ?_
        refine lv_topi (fun z52 ez52 => ?_)
        have rz52 : -1 ≤ (z52).toInt ∧ (z52).toInt ≤ 7999 := by rw [ez52]; exact hf8 _
        refine lv_iconst (v := (-1)) hx hb dX11_movesNodes_55 (by decide) ?_
        refine lv_icmp_ne (tgt := 63) hx hb dX11_movesNodes_56 (by decide) (fun c53 => ?_) (fun c53 => ?_)
        · have kc53 := (not_congr (cv_eq (rfl : (z52).toInt = (z52).toInt) (by decide : ((-1) : Int32).toInt = -1))).mp c53
          refine lv_aload_n hx hb dX11_movesNodes_63 rfl (lv_at hl 0 rfl) ?_
          refine va_get (D := (dC, dI)) (ci := 8) (v := .ref h_na) (C := RX11) (T := TX11) (N := 71) hx hb hw iwX11 hown hK hP 0 rfl rfl 3 (by decide) (hw _ w_f_X11_7) (fun _ h9 => h9) rfl dX11_movesNodes_64 ?_
          refine lv_iload_n hx hb dX11_movesNodes_67 rfl (lv_at hl 1 rfl) ?_
          refine lv_iload_n hx hb dX11_movesNodes_68 rfl (lv_at hl 3 rfl) ?_
          refine lv_iadd hx hb dX11_movesNodes_69 ?_
          refine lv_topi (fun z54 ez54 => ?_)
          have qz54 : (z54).toInt = (z45).toInt := by rw [ez54, ez45]
          have tz54 : (z54).toInt = (p1).toInt + (x5).toInt := by rw [ez54]; exact i_add rfl rfl (by omega)
          refine va_iald hx hb hK hP 3 2 rfl rfl (i := z54) (vp_in_iff.mpr (by omega)) dX11_movesNodes_70 ?_
          refine lv_topi (fun z55 ez55 => ?_)
          have rz55 : -1 ≤ (z55).toInt ∧ (z55).toInt ≤ 7999 := by rw [ez55]; exact hf8 _
          have gz55 := mv_get (j := z54) klp11_6 (by omega) ez55
          have qz55 : (z55).toInt = (z52).toInt := by rw [ez55, ez54, ez52, ez51]
          refine lv_iload_n hx hb dX11_movesNodes_71 rfl (lv_at hl 1 rfl) ?_
          refine lv_isub hx hb dX11_movesNodes_72 ?_
          refine lv_topi (fun z56 ez56 => ?_)
          have tz56 : (z56).toInt = (z55).toInt - (p1).toInt := by rw [ez56]; exact i_sub rfl rfl (by omega)
          have sz56 : -1 ≤ (z56).toInt ∧ (z56).toInt ≤ 7999 := by omega
          refine va_iast hx hb hK hP hD hS 3 2 rfl rfl (i := x5) (x := z56) (vp_in_iff.mpr (by omega)) dX11_movesNodes_73 (fun H locs hP9 hD9 hS9 => ?_)
          obtain ⟨f57, ef57⟩ : ∃ g : Nat → Int32, g = upd f8 (Int32.toNatClampNeg x5) z56 := ⟨_, rfl⟩
          clear hP hD hS
          have hP : va_P (dC, dI) cls [(h_mm, .inr (8, (mo128 v_mm (.ref h_nv) (.ref h_nn) (.ref h_na) (.ref h_nb) (.ref h_nc) (.int x_mm_nodes) (.ref h_mny) (.ref h_tem) (.int x_mm_reading)))), (h_nv, .inl (cy_nv, 8000, .inl f47)), (h_nn, .inl (cy_nn, 8000, .inr (.inl f50))), (h_na, .inl (cy_na, 8000, .inl f57)), (h_nb, .inl (cy_nb, 8000, .inl f9)), (h_nc, .inl (cy_nc, 8000, .inl f10)), (h_mny, .inl (cy_mny, 32, .inl f_mny)), (h_tem, .inl (cy_tem, 192, .inl f_tem))] H := by rw [ef57]; exact hP9
          have hD : va_D A [(h_mm, .inr (8, (mo128 v_mm (.ref h_nv) (.ref h_nn) (.ref h_na) (.ref h_nb) (.ref h_nc) (.int x_mm_nodes) (.ref h_mny) (.ref h_tem) (.int x_mm_reading)))), (h_nv, .inl (cy_nv, 8000, .inl f47)), (h_nn, .inl (cy_nn, 8000, .inr (.inl f50))), (h_na, .inl (cy_na, 8000, .inl f57)), (h_nb, .inl (cy_nb, 8000, .inl f9)), (h_nc, .inl (cy_nc, 8000, .inl f10)), (h_mny, .inl (cy_mny, 32, .inl f_mny)), (h_tem, .inl (cy_tem, 192, .inl f_tem))] := by rw [ef57]; exact hD9
          have hS := hS9
          clear hP9 hD9 hS9
          have hf57 : Rg (-1) 7999 f57 := by rw [ef57]; exact rg_upd hf8 (by omega)
          have mv58 : MV (p1).toInt (x_mm_nodes).toInt hh ((x5).toInt + 1) f57 := by rw [ef57]; exact mv_step (i := x5) (j := z54) klp11_6 rfl (by omega) (by omega) (by omega) (Or.inr (by rw [← ez55]; omega))
          clear ef57
          refine lv_aload_n hx hb dX11_movesNodes_74 rfl (lv_at hl 0 rfl) ?_
          refine va_get (D := (dC, dI)) (ci := 8) (v := .ref h_nb) (C := RX11) (T := TX11) (N := 71) hx hb hw iwX11 hown hK hP 0 rfl rfl 4 (by decide) (hw _ w_f_X11_11) (fun _ h9 => h9) rfl dX11_movesNodes_75 ?_
          refine lv_iload_n hx hb dX11_movesNodes_78 rfl (lv_at hl 3 rfl) ?_
          refine lv_aload_n hx hb dX11_movesNodes_79 rfl (lv_at hl 0 rfl) ?_
          refine va_get (D := (dC, dI)) (ci := 8) (v := .ref h_nb) (C := RX11) (T := TX11) (N := 71) hx hb hw iwX11 hown hK hP 0 rfl rfl 4 (by decide) (hw _ w_f_X11_11) (fun _ h9 => h9) rfl dX11_movesNodes_80 ?_
          refine lv_iload_n hx hb dX11_movesNodes_83 rfl (lv_at hl 1 rfl) ?_
          refine lv_iload_n hx hb dX11_movesNodes_84 rfl (lv_at hl 3 rfl) ?_
          refine lv_iadd hx hb dX11_movesNodes_85 ?_
          refine lv_topi (fun z59 ez59 => ?_)
          have qz59 : (z59).toInt = (z45).toInt := by rw [ez59, ez45]
          have tz59 : (z59).toInt = (p1).toInt + (x5).toInt := by rw [ez59]; exact i_add rfl rfl (by omega)
          refine va_iald hx hb hK hP 4 3 rfl rfl (i := z59) (vp_in_iff.mpr (by omega)) dX11_movesNodes_86 ?_
          refine lv_topi (fun z60 ez60 => ?_)
          have rz60 : -1 ≤ (z60).toInt ∧ (z60).toInt ≤ 7999 := by rw [ez60]; exact hf9 _
          refine lv_iconst (v := (-1)) hx hb dX11_movesNodes_87 (by decide) ?_
          refine lv_icmp_ne (tgt := 95) hx hb dX11_movesNodes_88 (by decide) (fun c61 => ?_) (fun c61 => ?_)
          · have kc61 := (not_congr (cv_eq (rfl : (z60).toInt = (z60).toInt) (by decide : ((-1) : Int32).toInt = -1))).mp c61
            refine lv_aload_n hx hb dX11_movesNodes_95 rfl (lv_at hl 0 rfl) ?_
            refine va_get (D := (dC, dI)) (ci := 8) (v := .ref h_nb) (C := RX11) (T := TX11) (N := 71) hx hb hw iwX11 hown hK hP 0 rfl rfl 4 (by decide) (hw _ w_f_X11_11) (fun _ h9 => h9) rfl dX11_movesNodes_96 ?_
            refine lv_iload_n hx hb dX11_movesNodes_99 rfl (lv_at hl 1 rfl) ?_
            refine lv_iload_n hx hb dX11_movesNodes_100 rfl (lv_at hl 3 rfl) ?_
            refine lv_iadd hx hb dX11_movesNodes_101 ?_
            refine lv_topi (fun z62 ez62 => ?_)
            have qz62 : (z62).toInt = (z45).toInt := by rw [ez62, ez45]
            have tz62 : (z62).toInt = (p1).toInt + (x5).toInt := by rw [ez62]; exact i_add rfl rfl (by omega)
            refine va_iald hx hb hK hP 4 3 rfl rfl (i := z62) (vp_in_iff.mpr (by omega)) dX11_movesNodes_102 ?_
            refine lv_topi (fun z63 ez63 => ?_)
            have rz63 : -1 ≤ (z63).toInt ∧ (z63).toInt ≤ 7999 := by rw [ez63]; exact hf9 _
            have gz63 := mv_get (j := z62) klp11_7 (by omega) ez63
            have qz63 : (z63).toInt = (z60).toInt := by rw [ez63, ez62, ez60, ez59]
            refine lv_iload_n hx hb dX11_movesNodes_103 rfl (lv_at hl 1 rfl) ?_
            refine lv_isub hx hb dX11_movesNodes_104 ?_
            refine lv_topi (fun z64 ez64 => ?_)
            have tz64 : (z64).toInt = (z63).toInt - (p1).toInt := by rw [ez64]; exact i_sub rfl rfl (by omega)
            have sz64 : -1 ≤ (z64).toInt ∧ (z64).toInt ≤ 7999 := by omega
            refine va_iast hx hb hK hP hD hS 4 3 rfl rfl (i := x5) (x := z64) (vp_in_iff.mpr (by omega)) dX11_movesNodes_105 (fun H locs hP9 hD9 hS9 => ?_)
            obtain ⟨f65, ef65⟩ : ∃ g : Nat → Int32, g = upd f9 (Int32.toNatClampNeg x5) z64 := ⟨_, rfl⟩
            clear hP hD hS
            have hP : va_P (dC, dI) cls [(h_mm, .inr (8, (mo128 v_mm (.ref h_nv) (.ref h_nn) (.ref h_na) (.ref h_nb) (.ref h_nc) (.int x_mm_nodes) (.ref h_mny) (.ref h_tem) (.int x_mm_reading)))), (h_nv, .inl (cy_nv, 8000, .inl f47)), (h_nn, .inl (cy_nn, 8000, .inr (.inl f50))), (h_na, .inl (cy_na, 8000, .inl f57)), (h_nb, .inl (cy_nb, 8000, .inl f65)), (h_nc, .inl (cy_nc, 8000, .inl f10)), (h_mny, .inl (cy_mny, 32, .inl f_mny)), (h_tem, .inl (cy_tem, 192, .inl f_tem))] H := by rw [ef65]; exact hP9
            have hD : va_D A [(h_mm, .inr (8, (mo128 v_mm (.ref h_nv) (.ref h_nn) (.ref h_na) (.ref h_nb) (.ref h_nc) (.int x_mm_nodes) (.ref h_mny) (.ref h_tem) (.int x_mm_reading)))), (h_nv, .inl (cy_nv, 8000, .inl f47)), (h_nn, .inl (cy_nn, 8000, .inr (.inl f50))), (h_na, .inl (cy_na, 8000, .inl f57)), (h_nb, .inl (cy_nb, 8000, .inl f65)), (h_nc, .inl (cy_nc, 8000, .inl f10)), (h_mny, .inl (cy_mny, 32, .inl f_mny)), (h_tem, .inl (cy_tem, 192, .inl f_tem))] := by rw [ef65]; exact hD9
            have hS := hS9
            clear hP9 hD9 hS9
            have hf65 : Rg (-1) 7999 f65 := by rw [ef65]; exact rg_upd hf9 (by omega)
            have mv66 : MV (p1).toInt (x_mm_nodes).toInt hh ((x5).toInt + 1) f65 := by rw [ef65]; exact mv_step (i := x5) (j := z62) klp11_7 rfl (by omega) (by omega) (by omega) (Or.inr (by rw [← ez63]; omega))
            clear ef65
            refine lv_aload_n hx hb dX11_movesNodes_106 rfl (lv_at hl 0 rfl) ?_
            refine va_get (D := (dC, dI)) (ci := 8) (v := .ref h_nc) (C := RX11) (T := TX11) (N := 71) hx hb hw iwX11 hown hK hP 0 rfl rfl 5 (by decide) (hw _ w_f_X11_14) (fun _ h9 => h9) rfl dX11_movesNodes_107 ?_
            refine lv_iload_n hx hb dX11_movesNodes_110 rfl (lv_at hl 3 rfl) ?_
            refine lv_aload_n hx hb dX11_movesNodes_111 rfl (lv_at hl 0 rfl) ?_
            refine va_get (D := (dC, dI)) (ci := 8) (v := .ref h_nc) (C := RX11) (T := TX11) (N := 71) hx hb hw iwX11 hown hK hP 0 rfl rfl 5 (by decide) (hw _ w_f_X11_14) (fun _ h9 => h9) rfl dX11_movesNodes_112 ?_
            refine lv_iload_n hx hb dX11_movesNodes_115 rfl (lv_at hl 1 rfl) ?_
            refine lv_iload_n hx hb dX11_movesNodes_116 rfl (lv_at hl 3 rfl) ?_
            refine lv_iadd hx hb dX11_movesNodes_117 ?_
            refine lv_topi (fun z67 ez67 => ?_)
            have qz67 : (z67).toInt = (z45).toInt := by rw [ez67, ez45]
            have tz67 : (z67).toInt = (p1).toInt + (x5).toInt := by rw [ez67]; exact i_add rfl rfl (by omega)
            refine va_iald hx hb hK hP 5 4 rfl rfl (i := z67) (vp_in_iff.mpr (by omega)) dX11_movesNodes_118 ?_
            refine lv_topi (fun z68 ez68 => ?_)
            have rz68 : -1 ≤ (z68).toInt ∧ (z68).toInt ≤ 7999 := by rw [ez68]; exact hf10 _
            refine lv_iconst (v := (-1)) hx hb dX11_movesNodes_119 (by decide) ?_
            refine lv_icmp_ne (tgt := 127) hx hb dX11_movesNodes_120 (by decide) (fun c69 => ?_) (fun c69 => ?_)
            · have kc69 := (not_congr (cv_eq (rfl : (z68).toInt = (z68).toInt) (by decide : ((-1) : Int32).toInt = -1))).mp c69
              refine lv_aload_n hx hb dX11_movesNodes_127 rfl (lv_at hl 0 rfl) ?_
              refine va_get (D := (dC, dI)) (ci := 8) (v := .ref h_nc) (C := RX11) (T := TX11) (N := 71) hx hb hw iwX11 hown hK hP 0 rfl rfl 5 (by decide) (hw _ w_f_X11_14) (fun _ h9 => h9) rfl dX11_movesNodes_128 ?_
              refine lv_iload_n hx hb dX11_movesNodes_131 rfl (lv_at hl 1 rfl) ?_
              refine lv_iload_n hx hb dX11_movesNodes_132 rfl (lv_at hl 3 rfl) ?_
              refine lv_iadd hx hb dX11_movesNodes_133 ?_
              refine lv_topi (fun z70 ez70 => ?_)
              have qz70 : (z70).toInt = (z45).toInt := by rw [ez70, ez45]
              have tz70 : (z70).toInt = (p1).toInt + (x5).toInt := by rw [ez70]; exact i_add rfl rfl (by omega)
              refine va_iald hx hb hK hP 5 4 rfl rfl (i := z70) (vp_in_iff.mpr (by omega)) dX11_movesNodes_134 ?_
              refine lv_topi (fun z71 ez71 => ?_)
              have rz71 : -1 ≤ (z71).toInt ∧ (z71).toInt ≤ 7999 := by rw [ez71]; exact hf10 _
              have gz71 := mv_get (j := z70) klp11_8 (by omega) ez71
              have qz71 : (z71).toInt = (z68).toInt := by rw [ez71, ez70, ez68, ez67]
              refine lv_iload_n hx hb dX11_movesNodes_135 rfl (lv_at hl 1 rfl) ?_
              refine lv_isub hx hb dX11_movesNodes_136 ?_
              refine lv_topi (fun z72 ez72 => ?_)
              have tz72 : (z72).toInt = (z71).toInt - (p1).toInt := by rw [ez72]; exact i_sub rfl rfl (by omega)
              have sz72 : -1 ≤ (z72).toInt ∧ (z72).toInt ≤ 7999 := by omega
              refine va_iast hx hb hK hP hD hS 5 4 rfl rfl (i := x5) (x := z72) (vp_in_iff.mpr (by omega)) dX11_movesNodes_137 (fun H locs hP9 hD9 hS9 => ?_)
              obtain ⟨f73, ef73⟩ : ∃ g : Nat → Int32, g = upd f10 (Int32.toNatClampNeg x5) z72 := ⟨_, rfl⟩
              clear hP hD hS
              have hP : va_P (dC, dI) cls [(h_mm, .inr (8, (mo128 v_mm (.ref h_nv) (.ref h_nn) (.ref h_na) (.ref h_nb) (.ref h_nc) (.int x_mm_nodes) (.ref h_mny) (.ref h_tem) (.int x_mm_reading)))), (h_nv, .inl (cy_nv, 8000, .inl f47)), (h_nn, .inl (cy_nn, 8000, .inr (.inl f50))), (h_na, .inl (cy_na, 8000, .inl f57)), (h_nb, .inl (cy_nb, 8000, .inl f65)), (h_nc, .inl (cy_nc, 8000, .inl f73)), (h_mny, .inl (cy_mny, 32, .inl f_mny)), (h_tem, .inl (cy_tem, 192, .inl f_tem))] H := by rw [ef73]; exact hP9
              have hD : va_D A [(h_mm, .inr (8, (mo128 v_mm (.ref h_nv) (.ref h_nn) (.ref h_na) (.ref h_nb) (.ref h_nc) (.int x_mm_nodes) (.ref h_mny) (.ref h_tem) (.int x_mm_reading)))), (h_nv, .inl (cy_nv, 8000, .inl f47)), (h_nn, .inl (cy_nn, 8000, .inr (.inl f50))), (h_na, .inl (cy_na, 8000, .inl f57)), (h_nb, .inl (cy_nb, 8000, .inl f65)), (h_nc, .inl (cy_nc, 8000, .inl f73)), (h_mny, .inl (cy_mny, 32, .inl f_mny)), (h_tem, .inl (cy_tem, 192, .inl f_tem))] := by rw [ef73]; exact hD9
              have hS := hS9
              clear hP9 hD9 hS9
              have hf73 : Rg (-1) 7999 f73 := by rw [ef73]; exact rg_upd hf10 (by omega)
              have mv74 : MV (p1).toInt (x_mm_nodes).toInt hh ((x5).toInt + 1) f73 := by rw [ef73]; exact mv_step (i := x5) (j := z70) klp11_8 rfl (by omega) (by omega) (by omega) (Or.inr (by rw [← ez71]; omega))
              clear ef73
              obtain ⟨z75, ez75⟩ : ∃ y : Int32, y = x5 + 1 := ⟨_, rfl⟩
              have tz75 : (z75).toInt = (x5).toInt + 1 := by rw [ez75]; exact i_add rfl (by decide) (by omega)
              refine lv_iinc (v := z75) (lv' := [(3, .int z75), (0, .ref h_mm), (1, .int p1), (2, .int z1)]) hx hb dX11_movesNodes_138 hl (k := 3) rfl (by rw [ez75]; rfl) (by decide) rfl (fun ls hl => ?_)
              refine lv_goto (tgt := 9) hx hb dX11_movesNodes_141 (by decide) ?_
              exact ih12 (z75) (f47) (f50) (f57) (f65) (f73) _ _ _ (by omega) hf47 hf57 hf65 hf73 (by omega) (mv_cast mv58 (by omega)) (mv_cast mv66 (by omega)) (mv_cast mv74 (by omega)) (by omega) hP hD hS (lv_sub hl [1, 2, 3, 0] rfl)
            · have kc69 := (cv_eq (rfl : (z68).toInt = (z68).toInt) (by decide : ((-1) : Int32).toInt = -1)).mp c69
              refine lv_iconst (v := (-1)) hx hb dX11_movesNodes_123 (by decide) ?_
              refine lv_goto (tgt := 137) hx hb dX11_movesNodes_124 (by decide) ?_
              refine va_iast hx hb hK hP hD hS 5 4 rfl rfl (i := x5) (x := (-1)) (vp_in_iff.mpr (by omega)) dX11_movesNodes_137 (fun H locs hP9 hD9 hS9 => ?_)
              obtain ⟨f76, ef76⟩ : ∃ g : Nat → Int32, g = upd f10 (Int32.toNatClampNeg x5) (-1) := ⟨_, rfl⟩
              clear hP hD hS
              have hP : va_P (dC, dI) cls [(h_mm, .inr (8, (mo128 v_mm (.ref h_nv) (.ref h_nn) (.ref h_na) (.ref h_nb) (.ref h_nc) (.int x_mm_nodes) (.ref h_mny) (.ref h_tem) (.int x_mm_reading)))), (h_nv, .inl (cy_nv, 8000, .inl f47)), (h_nn, .inl (cy_nn, 8000, .inr (.inl f50))), (h_na, .inl (cy_na, 8000, .inl f57)), (h_nb, .inl (cy_nb, 8000, .inl f65)), (h_nc, .inl (cy_nc, 8000, .inl f76)), (h_mny, .inl (cy_mny, 32, .inl f_mny)), (h_tem, .inl (cy_tem, 192, .inl f_tem))] H := by rw [ef76]; exact hP9
              have hD : va_D A [(h_mm, .inr (8, (mo128 v_mm (.ref h_nv) (.ref h_nn) (.ref h_na) (.ref h_nb) (.ref h_nc) (.int x_mm_nodes) (.ref h_mny) (.ref h_tem) (.int x_mm_reading)))), (h_nv, .inl (cy_nv, 8000, .inl f47)), (h_nn, .inl (cy_nn, 8000, .inr (.inl f50))), (h_na, .inl (cy_na, 8000, .inl f57)), (h_nb, .inl (cy_nb, 8000, .inl f65)), (h_nc, .inl (cy_nc, 8000, .inl f76)), (h_mny, .inl (cy_mny, 32, .inl f_mny)), (h_tem, .inl (cy_tem, 192, .inl f_tem))] := by rw [ef76]; exact hD9
              have hS := hS9
              clear hP9 hD9 hS9
              have hf76 : Rg (-1) 7999 f76 := by rw [ef76]; exact rg_upd hf10 (by decide)
              have mv77 : MV (p1).toInt (x_mm_nodes).toInt hh ((x5).toInt + 1) f76 := by rw [ef76]; exact mv_step (i := x5) (j := z67) klp11_8 rfl (by omega) (by omega) (by omega) (Or.inl (by decide))
              clear ef76
              obtain ⟨z78, ez78⟩ : ∃ y : Int32, y = x5 + 1 := ⟨_, rfl⟩
              have tz78 : (z78).toInt = (x5).toInt + 1 := by rw [ez78]; exact i_add rfl (by decide) (by omega)
              refine lv_iinc (v := z78) (lv' := [(3, .int z78), (0, .ref h_mm), (1, .int p1), (2, .int z1)]) hx hb dX11_movesNodes_138 hl (k := 3) rfl (by rw [ez78]; rfl) (by decide) rfl (fun ls hl => ?_)
              refine lv_goto (tgt := 9) hx hb dX11_movesNodes_141 (by decide) ?_
              exact ih12 (z78) (f47) (f50) (f57) (f65) (f76) _ _ _ (by omega) hf47 hf57 hf65 hf76 (by omega) (mv_cast mv58 (by omega)) (mv_cast mv66 (by omega)) (mv_cast mv77 (by omega)) (by omega) hP hD hS (lv_sub hl [1, 2, 3, 0] rfl)
          · have kc61 := (cv_eq (rfl : (z60).toInt = (z60).toInt) (by decide : ((-1) : Int32).toInt = -1)).mp c61
            refine lv_iconst (v := (-1)) hx hb dX11_movesNodes_91 (by decide) ?_
            refine lv_goto (tgt := 105) hx hb dX11_movesNodes_92 (by decide) ?_
            refine va_iast hx hb hK hP hD hS 4 3 rfl rfl (i := x5) (x := (-1)) (vp_in_iff.mpr (by omega)) dX11_movesNodes_105 (fun H locs hP9 hD9 hS9 => ?_)
            obtain ⟨f79, ef79⟩ : ∃ g : Nat → Int32, g = upd f9 (Int32.toNatClampNeg x5) (-1) := ⟨_, rfl⟩
            clear hP hD hS
            have hP : va_P (dC, dI) cls [(h_mm, .inr (8, (mo128 v_mm (.ref h_nv) (.ref h_nn) (.ref h_na) (.ref h_nb) (.ref h_nc) (.int x_mm_nodes) (.ref h_mny) (.ref h_tem) (.int x_mm_reading)))), (h_nv, .inl (cy_nv, 8000, .inl f47)), (h_nn, .inl (cy_nn, 8000, .inr (.inl f50))), (h_na, .inl (cy_na, 8000, .inl f57)), (h_nb, .inl (cy_nb, 8000, .inl f79)), (h_nc, .inl (cy_nc, 8000, .inl f10)), (h_mny, .inl (cy_mny, 32, .inl f_mny)), (h_tem, .inl (cy_tem, 192, .inl f_tem))] H := by rw [ef79]; exact hP9
            have hD : va_D A [(h_mm, .inr (8, (mo128 v_mm (.ref h_nv) (.ref h_nn) (.ref h_na) (.ref h_nb) (.ref h_nc) (.int x_mm_nodes) (.ref h_mny) (.ref h_tem) (.int x_mm_reading)))), (h_nv, .inl (cy_nv, 8000, .inl f47)), (h_nn, .inl (cy_nn, 8000, .inr (.inl f50))), (h_na, .inl (cy_na, 8000, .inl f57)), (h_nb, .inl (cy_nb, 8000, .inl f79)), (h_nc, .inl (cy_nc, 8000, .inl f10)), (h_mny, .inl (cy_mny, 32, .inl f_mny)), (h_tem, .inl (cy_tem, 192, .inl f_tem))] := by rw [ef79]; exact hD9
            have hS := hS9
            clear hP9 hD9 hS9
            have hf79 : Rg (-1) 7999 f79 := by rw [ef79]; exact rg_upd hf9 (by decide)
            have mv80 : MV (p1).toInt (x_mm_nodes).toInt hh ((x5).toInt + 1) f79 := by rw [ef79]; exact mv_step (i := x5) (j := z59) klp11_7 rfl (by omega) (by omega) (by omega) (Or.inl (by decide))
            clear ef79
            refine lv_aload_n hx hb dX11_movesNodes_106 rfl (lv_at hl 0 rfl) ?_
            refine va_get (D := (dC, dI)) (ci := 8) (v := .ref h_nc) (C := RX11) (T := TX11) (N := 71) hx hb hw iwX11 hown hK hP 0 rfl rfl 5 (by decide) (hw _ w_f_X11_14) (fun _ h9 => h9) rfl dX11_movesNodes_107 ?_
            refine lv_iload_n hx hb dX11_movesNodes_110 rfl (lv_at hl 3 rfl) ?_
            refine lv_aload_n hx hb dX11_movesNodes_111 rfl (lv_at hl 0 rfl) ?_
            refine va_get (D := (dC, dI)) (ci := 8) (v := .ref h_nc) (C := RX11) (T := TX11) (N := 71) hx hb hw iwX11 hown hK hP 0 rfl rfl 5 (by decide) (hw _ w_f_X11_14) (fun _ h9 => h9) rfl dX11_movesNodes_112 ?_
            refine lv_iload_n hx hb dX11_movesNodes_115 rfl (lv_at hl 1 rfl) ?_
            refine lv_iload_n hx hb dX11_movesNodes_116 rfl (lv_at hl 3 rfl) ?_
            refine lv_iadd hx hb dX11_movesNodes_117 ?_
            refine lv_topi (fun z81 ez81 => ?_)
            have qz81 : (z81).toInt = (z45).toInt := by rw [ez81, ez45]
            have tz81 : (z81).toInt = (p1).toInt + (x5).toInt := by rw [ez81]; exact i_add rfl rfl (by omega)
            refine va_iald hx hb hK hP 5 4 rfl rfl (i := z81) (vp_in_iff.mpr (by omega)) dX11_movesNodes_118 ?_
            refine lv_topi (fun z82 ez82 => ?_)
            have rz82 : -1 ≤ (z82).toInt ∧ (z82).toInt ≤ 7999 := by rw [ez82]; exact hf10 _
            refine lv_iconst (v := (-1)) hx hb dX11_movesNodes_119 (by decide) ?_
            refine lv_icmp_ne (tgt := 127) hx hb dX11_movesNodes_120 (by decide) (fun c83 => ?_) (fun c83 => ?_)
            · have kc83 := (not_congr (cv_eq (rfl : (z82).toInt = (z82).toInt) (by decide : ((-1) : Int32).toInt = -1))).mp c83
              refine lv_aload_n hx hb dX11_movesNodes_127 rfl (lv_at hl 0 rfl) ?_
              refine va_get (D := (dC, dI)) (ci := 8) (v := .ref h_nc) (C := RX11) (T := TX11) (N := 71) hx hb hw iwX11 hown hK hP 0 rfl rfl 5 (by decide) (hw _ w_f_X11_14) (fun _ h9 => h9) rfl dX11_movesNodes_128 ?_
              refine lv_iload_n hx hb dX11_movesNodes_131 rfl (lv_at hl 1 rfl) ?_
              refine lv_iload_n hx hb dX11_movesNodes_132 rfl (lv_at hl 3 rfl) ?_
              refine lv_iadd hx hb dX11_movesNodes_133 ?_
              refine lv_topi (fun z84 ez84 => ?_)
              have qz84 : (z84).toInt = (z45).toInt := by rw [ez84, ez45]
              have tz84 : (z84).toInt = (p1).toInt + (x5).toInt := by rw [ez84]; exact i_add rfl rfl (by omega)
              refine va_iald hx hb hK hP 5 4 rfl rfl (i := z84) (vp_in_iff.mpr (by omega)) dX11_movesNodes_134 ?_
              refine lv_topi (fun z85 ez85 => ?_)
              have rz85 : -1 ≤ (z85).toInt ∧ (z85).toInt ≤ 7999 := by rw [ez85]; exact hf10 _
              have gz85 := mv_get (j := z84) klp11_8 (by omega) ez85
              have qz85 : (z85).toInt = (z82).toInt := by rw [ez85, ez84, ez82, ez81]
              refine lv_iload_n hx hb dX11_movesNodes_135 rfl (lv_at hl 1 rfl) ?_
              refine lv_isub hx hb dX11_movesNodes_136 ?_
              refine lv_topi (fun z86 ez86 => ?_)
              have tz86 : (z86).toInt = (z85).toInt - (p1).toInt := by rw [ez86]; exact i_sub rfl rfl (by omega)
              have sz86 : -1 ≤ (z86).toInt ∧ (z86).toInt ≤ 7999 := by omega
              refine va_iast hx hb hK hP hD hS 5 4 rfl rfl (i := x5) (x := z86) (vp_in_iff.mpr (by omega)) dX11_movesNodes_137 (fun H locs hP9 hD9 hS9 => ?_)
              obtain ⟨f87, ef87⟩ : ∃ g : Nat → Int32, g = upd f10 (Int32.toNatClampNeg x5) z86 := ⟨_, rfl⟩
              clear hP hD hS
              have hP : va_P (dC, dI) cls [(h_mm, .inr (8, (mo128 v_mm (.ref h_nv) (.ref h_nn) (.ref h_na) (.ref h_nb) (.ref h_nc) (.int x_mm_nodes) (.ref h_mny) (.ref h_tem) (.int x_mm_reading)))), (h_nv, .inl (cy_nv, 8000, .inl f47)), (h_nn, .inl (cy_nn, 8000, .inr (.inl f50))), (h_na, .inl (cy_na, 8000, .inl f57)), (h_nb, .inl (cy_nb, 8000, .inl f79)), (h_nc, .inl (cy_nc, 8000, .inl f87)), (h_mny, .inl (cy_mny, 32, .inl f_mny)), (h_tem, .inl (cy_tem, 192, .inl f_tem))] H := by rw [ef87]; exact hP9
              have hD : va_D A [(h_mm, .inr (8, (mo128 v_mm (.ref h_nv) (.ref h_nn) (.ref h_na) (.ref h_nb) (.ref h_nc) (.int x_mm_nodes) (.ref h_mny) (.ref h_tem) (.int x_mm_reading)))), (h_nv, .inl (cy_nv, 8000, .inl f47)), (h_nn, .inl (cy_nn, 8000, .inr (.inl f50))), (h_na, .inl (cy_na, 8000, .inl f57)), (h_nb, .inl (cy_nb, 8000, .inl f79)), (h_nc, .inl (cy_nc, 8000, .inl f87)), (h_mny, .inl (cy_mny, 32, .inl f_mny)), (h_tem, .inl (cy_tem, 192, .inl f_tem))] := by rw [ef87]; exact hD9
              have hS := hS9
              clear hP9 hD9 hS9
              have hf87 : Rg (-1) 7999 f87 := by rw [ef87]; exact rg_upd hf10 (by omega)
              have mv88 : MV (p1).toInt (x_mm_nodes).toInt hh ((x5).toInt + 1) f87 := by rw [ef87]; exact mv_step (i := x5) (j := z84) klp11_8 rfl (by omega) (by omega) (by omega) (Or.inr (by rw [← ez85]; omega))
              clear ef87
              obtain ⟨z89, ez89⟩ : ∃ y : Int32, y = x5 + 1 := ⟨_, rfl⟩
              have tz89 : (z89).toInt = (x5).toInt + 1 := by rw [ez89]; exact i_add rfl (by decide) (by omega)
              refine lv_iinc (v := z89) (lv' := [(3, .int z89), (0, .ref h_mm), (1, .int p1), (2, .int z1)]) hx hb dX11_movesNodes_138 hl (k := 3) rfl (by rw [ez89]; rfl) (by decide) rfl (fun ls hl => ?_)
              refine lv_goto (tgt := 9) hx hb dX11_movesNodes_141 (by decide) ?_
              exact ih12 (z89) (f47) (f50) (f57) (f79) (f87) _ _ _ (by omega) hf47 hf57 hf79 hf87 (by omega) (mv_cast mv58 (by omega)) (mv_cast mv80 (by omega)) (mv_cast mv88 (by omega)) (by omega) hP hD hS (lv_sub hl [1, 2, 3, 0] rfl)
            · have kc83 := (cv_eq (rfl : (z82).toInt = (z82).toInt) (by decide : ((-1) : Int32).toInt = -1)).mp c83
              refine lv_iconst (v := (-1)) hx hb dX11_movesNodes_123 (by decide) ?_
              refine lv_goto (tgt := 137) hx hb dX11_movesNodes_124 (by decide) ?_
              refine va_iast hx hb hK hP hD hS 5 4 rfl rfl (i := x5) (x := (-1)) (vp_in_iff.mpr (by omega)) dX11_movesNodes_137 (fun H locs hP9 hD9 hS9 => ?_)
              obtain ⟨f90, ef90⟩ : ∃ g : Nat → Int32, g = upd f10 (Int32.toNatClampNeg x5) (-1) := ⟨_, rfl⟩
              clear hP hD hS
              have hP : va_P (dC, dI) cls [(h_mm, .inr (8, (mo128 v_mm (.ref h_nv) (.ref h_nn) (.ref h_na) (.ref h_nb) (.ref h_nc) (.int x_mm_nodes) (.ref h_mny) (.ref h_tem) (.int x_mm_reading)))), (h_nv, .inl (cy_nv, 8000, .inl f47)), (h_nn, .inl (cy_nn, 8000, .inr (.inl f50))), (h_na, .inl (cy_na, 8000, .inl f57)), (h_nb, .inl (cy_nb, 8000, .inl f79)), (h_nc, .inl (cy_nc, 8000, .inl f90)), (h_mny, .inl (cy_mny, 32, .inl f_mny)), (h_tem, .inl (cy_tem, 192, .inl f_tem))] H := by rw [ef90]; exact hP9
              have hD : va_D A [(h_mm, .inr (8, (mo128 v_mm (.ref h_nv) (.ref h_nn) (.ref h_na) (.ref h_nb) (.ref h_nc) (.int x_mm_nodes) (.ref h_mny) (.ref h_tem) (.int x_mm_reading)))), (h_nv, .inl (cy_nv, 8000, .inl f47)), (h_nn, .inl (cy_nn, 8000, .inr (.inl f50))), (h_na, .inl (cy_na, 8000, .inl f57)), (h_nb, .inl (cy_nb, 8000, .inl f79)), (h_nc, .inl (cy_nc, 8000, .inl f90)), (h_mny, .inl (cy_mny, 32, .inl f_mny)), (h_tem, .inl (cy_tem, 192, .inl f_tem))] := by rw [ef90]; exact hD9
              have hS := hS9
              clear hP9 hD9 hS9
              have hf90 : Rg (-1) 7999 f90 := by rw [ef90]; exact rg_upd hf10 (by decide)
              have mv91 : MV (p1).toInt (x_mm_nodes).toInt hh ((x5).toInt + 1) f90 := by rw [ef90]; exact mv_step (i := x5) (j := z81) klp11_8 rfl (by omega) (by omega) (by omega) (Or.inl (by decide))
              clear ef90
              obtain ⟨z92, ez92⟩ : ∃ y : Int32, y = x5 + 1 := ⟨_, rfl⟩
              have tz92 : (z92).toInt = (x5).toInt + 1 := by rw [ez92]; exact i_add rfl (by decide) (by omega)
              refine lv_iinc (v := z92) (lv' := [(3, .int z92), (0, .ref h_mm), (1, .int p1), (2, .int z1)]) hx hb dX11_movesNodes_138 hl (k := 3) rfl (by rw [ez92]; rfl) (by decide) rfl (fun ls hl => ?_)
              refine lv_goto (tgt := 9) hx hb dX11_movesNodes_141 (by decide) ?_
              exact ih12 (z92) (f47) (f50) (f57) (f79) (f90) _ _ _ (by omega) hf47 hf57 hf79 hf90 (by omega) (mv_cast mv58 (by omega)) (mv_cast mv80 (by omega)) (mv_cast mv91 (by omega)) (by omega) hP hD hS (lv_sub hl [1, 2, 3, 0] rfl)
        · have kc53 := (cv_eq (rfl : (z52).toInt = (z52).toInt) (by decide : ((-1) : Int32).toInt = -1)).mp c53
          refine lv_iconst (v := (-1)) hx hb dX11_movesNodes_59 (by decide) ?_
          refine lv_goto (tgt := 73) hx hb dX11_movesNodes_60 (by decide) ?_
          refine va_iast hx hb hK hP hD hS 3 2 rfl rfl (i := x5) (x := (-1)) (vp_in_iff.mpr (by omega)) dX11_movesNodes_73 (fun H locs hP9 hD9 hS9 => ?_)
          obtain ⟨f93, ef93⟩ : ∃ g : Nat → Int32, g = upd f8 (Int32.toNatClampNeg x5) (-1) := ⟨_, rfl⟩
          clear hP hD hS
          have hP : va_P (dC, dI) cls [(h_mm, .inr (8, (mo128 v_mm (.ref h_nv) (.ref h_nn) (.ref h_na) (.ref h_nb) (.ref h_nc) (.int x_mm_nodes) (.ref h_mny) (.ref h_tem) (.int x_mm_reading)))), (h_nv, .inl (cy_nv, 8000, .inl f47)), (h_nn, .inl (cy_nn, 8000, .inr (.inl f50))), (h_na, .inl (cy_na, 8000, .inl f93)), (h_nb, .inl (cy_nb, 8000, .inl f9)), (h_nc, .inl (cy_nc, 8000, .inl f10)), (h_mny, .inl (cy_mny, 32, .inl f_mny)), (h_tem, .inl (cy_tem, 192, .inl f_tem))] H := by rw [ef93]; exact hP9
          have hD : va_D A [(h_mm, .inr (8, (mo128 v_mm (.ref h_nv) (.ref h_nn) (.ref h_na) (.ref h_nb) (.ref h_nc) (.int x_mm_nodes) (.ref h_mny) (.ref h_tem) (.int x_mm_reading)))), (h_nv, .inl (cy_nv, 8000, .inl f47)), (h_nn, .inl (cy_nn, 8000, .inr (.inl f50))), (h_na, .inl (cy_na, 8000, .inl f93)), (h_nb, .inl (cy_nb, 8000, .inl f9)), (h_nc, .inl (cy_nc, 8000, .inl f10)), (h_mny, .inl (cy_mny, 32, .inl f_mny)), (h_tem, .inl (cy_tem, 192, .inl f_tem))] := by rw [ef93]; exact hD9
          have hS := hS9
          clear hP9 hD9 hS9
          have hf93 : Rg (-1) 7999 f93 := by rw [ef93]; exact rg_upd hf8 (by decide)
          have mv94 : MV (p1).toInt (x_mm_nodes).toInt hh ((x5).toInt + 1) f93 := by rw [ef93]; exact mv_step (i := x5) (j := z51) klp11_6 rfl (by omega) (by omega) (by omega) (Or.inl (by decide))
          clear ef93
          refine lv_aload_n hx hb dX11_movesNodes_74 rfl (lv_at hl 0 rfl) ?_
          refine va_get (D := (dC, dI)) (ci := 8) (v := .ref h_nb) (C := RX11) (T := TX11) (N := 71) hx hb hw iwX11 hown hK hP 0 rfl rfl 4 (by decide) (hw _ w_f_X11_11) (fun _ h9 => h9) rfl dX11_movesNodes_75 ?_
          refine lv_iload_n hx hb dX11_movesNodes_78 rfl (lv_at hl 3 rfl) ?_
          refine lv_aload_n hx hb dX11_movesNodes_79 rfl (lv_at hl 0 rfl) ?_
          refine va_get (D := (dC, dI)) (ci := 8) (v := .ref h_nb) (C := RX11) (T := TX11) (N := 71) hx hb hw iwX11 hown hK hP 0 rfl rfl 4 (by decide) (hw _ w_f_X11_11) (fun _ h9 => h9) rfl dX11_movesNodes_80 ?_
          refine lv_iload_n hx hb dX11_movesNodes_83 rfl (lv_at hl 1 rfl) ?_
          refine lv_iload_n hx hb dX11_movesNodes_84 rfl (lv_at hl 3 rfl) ?_
          refine lv_iadd hx hb dX11_movesNodes_85 ?_
          refine lv_topi (fun z95 ez95 => ?_)
          have qz95 : (z95).toInt = (z45).toInt := by rw [ez95, ez45]
          have tz95 : (z95).toInt = (p1).toInt + (x5).toInt := by rw [ez95]; exact i_add rfl rfl (by omega)
          refine va_iald hx hb hK hP 4 3 rfl rfl (i := z95) (vp_in_iff.mpr (by omega)) dX11_movesNodes_86 ?_
          refine lv_topi (fun z96 ez96 => ?_)
          have rz96 : -1 ≤ (z96).toInt ∧ (z96).toInt ≤ 7999 := by rw [ez96]; exact hf9 _
          refine lv_iconst (v := (-1)) hx hb dX11_movesNodes_87 (by decide) ?_
          refine lv_icmp_ne (tgt := 95) hx hb dX11_movesNodes_88 (by decide) (fun c97 => ?_) (fun c97 => ?_)
          · have kc97 := (not_congr (cv_eq (rfl : (z96).toInt = (z96).toInt) (by decide : ((-1) : Int32).toInt = -1))).mp c97
            refine lv_aload_n hx hb dX11_movesNodes_95 rfl (lv_at hl 0 rfl) ?_
            refine va_get (D := (dC, dI)) (ci := 8) (v := .ref h_nb) (C := RX11) (T := TX11) (N := 71) hx hb hw iwX11 hown hK hP 0 rfl rfl 4 (by decide) (hw _ w_f_X11_11) (fun _ h9 => h9) rfl dX11_movesNodes_96 ?_
            refine lv_iload_n hx hb dX11_movesNodes_99 rfl (lv_at hl 1 rfl) ?_
            refine lv_iload_n hx hb dX11_movesNodes_100 rfl (lv_at hl 3 rfl) ?_
            refine lv_iadd hx hb dX11_movesNodes_101 ?_
            refine lv_topi (fun z98 ez98 => ?_)
            have qz98 : (z98).toInt = (z45).toInt := by rw [ez98, ez45]
            have tz98 : (z98).toInt = (p1).toInt + (x5).toInt := by rw [ez98]; exact i_add rfl rfl (by omega)
            refine va_iald hx hb hK hP 4 3 rfl rfl (i := z98) (vp_in_iff.mpr (by omega)) dX11_movesNodes_102 ?_
            refine lv_topi (fun z99 ez99 => ?_)
            have rz99 : -1 ≤ (z99).toInt ∧ (z99).toInt ≤ 7999 := by rw [ez99]; exact hf9 _
            have gz99 := mv_get (j := z98) klp11_7 (by omega) ez99
            have qz99 : (z99).toInt = (z96).toInt := by rw [ez99, ez98, ez96, ez95]
            refine lv_iload_n hx hb dX11_movesNodes_103 rfl (lv_at hl 1 rfl) ?_
            refine lv_isub hx hb dX11_movesNodes_104 ?_
            refine lv_topi (fun z100 ez100 => ?_)
            have tz100 : (z100).toInt = (z99).toInt - (p1).toInt := by rw [ez100]; exact i_sub rfl rfl (by omega)
            have sz100 : -1 ≤ (z100).toInt ∧ (z100).toInt ≤ 7999 := by omega
            refine va_iast hx hb hK hP hD hS 4 3 rfl rfl (i := x5) (x := z100) (vp_in_iff.mpr (by omega)) dX11_movesNodes_105 (fun H locs hP9 hD9 hS9 => ?_)
            obtain ⟨f101, ef101⟩ : ∃ g : Nat → Int32, g = upd f9 (Int32.toNatClampNeg x5) z100 := ⟨_, rfl⟩
            clear hP hD hS
            have hP : va_P (dC, dI) cls [(h_mm, .inr (8, (mo128 v_mm (.ref h_nv) (.ref h_nn) (.ref h_na) (.ref h_nb) (.ref h_nc) (.int x_mm_nodes) (.ref h_mny) (.ref h_tem) (.int x_mm_reading)))), (h_nv, .inl (cy_nv, 8000, .inl f47)), (h_nn, .inl (cy_nn, 8000, .inr (.inl f50))), (h_na, .inl (cy_na, 8000, .inl f93)), (h_nb, .inl (cy_nb, 8000, .inl f101)), (h_nc, .inl (cy_nc, 8000, .inl f10)), (h_mny, .inl (cy_mny, 32, .inl f_mny)), (h_tem, .inl (cy_tem, 192, .inl f_tem))] H := by rw [ef101]; exact hP9
            have hD : va_D A [(h_mm, .inr (8, (mo128 v_mm (.ref h_nv) (.ref h_nn) (.ref h_na) (.ref h_nb) (.ref h_nc) (.int x_mm_nodes) (.ref h_mny) (.ref h_tem) (.int x_mm_reading)))), (h_nv, .inl (cy_nv, 8000, .inl f47)), (h_nn, .inl (cy_nn, 8000, .inr (.inl f50))), (h_na, .inl (cy_na, 8000, .inl f93)), (h_nb, .inl (cy_nb, 8000, .inl f101)), (h_nc, .inl (cy_nc, 8000, .inl f10)), (h_mny, .inl (cy_mny, 32, .inl f_mny)), (h_tem, .inl (cy_tem, 192, .inl f_tem))] := by rw [ef101]; exact hD9
            have hS := hS9
            clear hP9 hD9 hS9
            have hf101 : Rg (-1) 7999 f101 := by rw [ef101]; exact rg_upd hf9 (by omega)
            have mv102 : MV (p1).toInt (x_mm_nodes).toInt hh ((x5).toInt + 1) f101 := by rw [ef101]; exact mv_step (i := x5) (j := z98) klp11_7 rfl (by omega) (by omega) (by omega) (Or.inr (by rw [← ez99]; omega))
            clear ef101
            refine lv_aload_n hx hb dX11_movesNodes_106 rfl (lv_at hl 0 rfl) ?_
            refine va_get (D := (dC, dI)) (ci := 8) (v := .ref h_nc) (C := RX11) (T := TX11) (N := 71) hx hb hw iwX11 hown hK hP 0 rfl rfl 5 (by decide) (hw _ w_f_X11_14) (fun _ h9 => h9) rfl dX11_movesNodes_107 ?_
            refine lv_iload_n hx hb dX11_movesNodes_110 rfl (lv_at hl 3 rfl) ?_
            refine lv_aload_n hx hb dX11_movesNodes_111 rfl (lv_at hl 0 rfl) ?_
            refine va_get (D := (dC, dI)) (ci := 8) (v := .ref h_nc) (C := RX11) (T := TX11) (N := 71) hx hb hw iwX11 hown hK hP 0 rfl rfl 5 (by decide) (hw _ w_f_X11_14) (fun _ h9 => h9) rfl dX11_movesNodes_112 ?_
            refine lv_iload_n hx hb dX11_movesNodes_115 rfl (lv_at hl 1 rfl) ?_
            refine lv_iload_n hx hb dX11_movesNodes_116 rfl (lv_at hl 3 rfl) ?_
            refine lv_iadd hx hb dX11_movesNodes_117 ?_
            refine lv_topi (fun z103 ez103 => ?_)
            have qz103 : (z103).toInt = (z45).toInt := by rw [ez103, ez45]
            have tz103 : (z103).toInt = (p1).toInt + (x5).toInt := by rw [ez103]; exact i_add rfl rfl (by omega)
            refine va_iald hx hb hK hP 5 4 rfl rfl (i := z103) (vp_in_iff.mpr (by omega)) dX11_movesNodes_118 ?_
            refine lv_topi (fun z104 ez104 => ?_)
            have rz104 : -1 ≤ (z104).toInt ∧ (z104).toInt ≤ 7999 := by rw [ez104]; exact hf10 _
            refine lv_iconst (v := (-1)) hx hb dX11_movesNodes_119 (by decide) ?_
            refine lv_icmp_ne (tgt := 127) hx hb dX11_movesNodes_120 (by decide) (fun c105 => ?_) (fun c105 => ?_)
            · have kc105 := (not_congr (cv_eq (rfl : (z104).toInt = (z104).toInt) (by decide : ((-1) : Int32).toInt = -1))).mp c105
              refine lv_aload_n hx hb dX11_movesNodes_127 rfl (lv_at hl 0 rfl) ?_
              refine va_get (D := (dC, dI)) (ci := 8) (v := .ref h_nc) (C := RX11) (T := TX11) (N := 71) hx hb hw iwX11 hown hK hP 0 rfl rfl 5 (by decide) (hw _ w_f_X11_14) (fun _ h9 => h9) rfl dX11_movesNodes_128 ?_
              refine lv_iload_n hx hb dX11_movesNodes_131 rfl (lv_at hl 1 rfl) ?_
              refine lv_iload_n hx hb dX11_movesNodes_132 rfl (lv_at hl 3 rfl) ?_
              refine lv_iadd hx hb dX11_movesNodes_133 ?_
              refine lv_topi (fun z106 ez106 => ?_)
              have qz106 : (z106).toInt = (z45).toInt := by rw [ez106, ez45]
              have tz106 : (z106).toInt = (p1).toInt + (x5).toInt := by rw [ez106]; exact i_add rfl rfl (by omega)
              refine va_iald hx hb hK hP 5 4 rfl rfl (i := z106) (vp_in_iff.mpr (by omega)) dX11_movesNodes_134 ?_
              refine lv_topi (fun z107 ez107 => ?_)
              have rz107 : -1 ≤ (z107).toInt ∧ (z107).toInt ≤ 7999 := by rw [ez107]; exact hf10 _
              have gz107 := mv_get (j := z106) klp11_8 (by omega) ez107
              have qz107 : (z107).toInt = (z104).toInt := by rw [ez107, ez106, ez104, ez103]
              refine lv_iload_n hx hb dX11_movesNodes_135 rfl (lv_at hl 1 rfl) ?_
              refine lv_isub hx hb dX11_movesNodes_136 ?_
              refine lv_topi (fun z108 ez108 => ?_)
              have tz108 : (z108).toInt = (z107).toInt - (p1).toInt := by rw [ez108]; exact i_sub rfl rfl (by omega)
              have sz108 : -1 ≤ (z108).toInt ∧ (z108).toInt ≤ 7999 := by omega
              refine va_iast hx hb hK hP hD hS 5 4 rfl rfl (i := x5) (x := z108) (vp_in_iff.mpr (by omega)) dX11_movesNodes_137 (fun H locs hP9 hD9 hS9 => ?_)
              obtain ⟨f109, ef109⟩ : ∃ g : Nat → Int32, g = upd f10 (Int32.toNatClampNeg x5) z108 := ⟨_, rfl⟩
              clear hP hD hS
              have hP : va_P (dC, dI) cls [(h_mm, .inr (8, (mo128 v_mm (.ref h_nv) (.ref h_nn) (.ref h_na) (.ref h_nb) (.ref h_nc) (.int x_mm_nodes) (.ref h_mny) (.ref h_tem) (.int x_mm_reading)))), (h_nv, .inl (cy_nv, 8000, .inl f47)), (h_nn, .inl (cy_nn, 8000, .inr (.inl f50))), (h_na, .inl (cy_na, 8000, .inl f93)), (h_nb, .inl (cy_nb, 8000, .inl f101)), (h_nc, .inl (cy_nc, 8000, .inl f109)), (h_mny, .inl (cy_mny, 32, .inl f_mny)), (h_tem, .inl (cy_tem, 192, .inl f_tem))] H := by rw [ef109]; exact hP9
              have hD : va_D A [(h_mm, .inr (8, (mo128 v_mm (.ref h_nv) (.ref h_nn) (.ref h_na) (.ref h_nb) (.ref h_nc) (.int x_mm_nodes) (.ref h_mny) (.ref h_tem) (.int x_mm_reading)))), (h_nv, .inl (cy_nv, 8000, .inl f47)), (h_nn, .inl (cy_nn, 8000, .inr (.inl f50))), (h_na, .inl (cy_na, 8000, .inl f93)), (h_nb, .inl (cy_nb, 8000, .inl f101)), (h_nc, .inl (cy_nc, 8000, .inl f109)), (h_mny, .inl (cy_mny, 32, .inl f_mny)), (h_tem, .inl (cy_tem, 192, .inl f_tem))] := by rw [ef109]; exact hD9
              have hS := hS9
              clear hP9 hD9 hS9
              have hf109 : Rg (-1) 7999 f109 := by rw [ef109]; exact rg_upd hf10 (by omega)
              have mv110 : MV (p1).toInt (x_mm_nodes).toInt hh ((x5).toInt + 1) f109 := by rw [ef109]; exact mv_step (i := x5) (j := z106) klp11_8 rfl (by omega) (by omega) (by omega) (Or.inr (by rw [← ez107]; omega))
              clear ef109
              obtain ⟨z111, ez111⟩ : ∃ y : Int32, y = x5 + 1 := ⟨_, rfl⟩
              have tz111 : (z111).toInt = (x5).toInt + 1 := by rw [ez111]; exact i_add rfl (by decide) (by omega)
              refine lv_iinc (v := z111) (lv' := [(3, .int z111), (0, .ref h_mm), (1, .int p1), (2, .int z1)]) hx hb dX11_movesNodes_138 hl (k := 3) rfl (by rw [ez111]; rfl) (by decide) rfl (fun ls hl => ?_)
              refine lv_goto (tgt := 9) hx hb dX11_movesNodes_141 (by decide) ?_
              exact ih12 (z111) (f47) (f50) (f93) (f101) (f109) _ _ _ (by omega) hf47 hf93 hf101 hf109 (by omega) (mv_cast mv94 (by omega)) (mv_cast mv102 (by omega)) (mv_cast mv110 (by omega)) (by omega) hP hD hS (lv_sub hl [1, 2, 3, 0] rfl)
            · have kc105 := (cv_eq (rfl : (z104).toInt = (z104).toInt) (by decide : ((-1) : Int32).toInt = -1)).mp c105
              refine lv_iconst (v := (-1)) hx hb dX11_movesNodes_123 (by decide) ?_
              refine lv_goto (tgt := 137) hx hb dX11_movesNodes_124 (by decide) ?_
              refine va_iast hx hb hK hP hD hS 5 4 rfl rfl (i := x5) (x := (-1)) (vp_in_iff.mpr (by omega)) dX11_movesNodes_137 (fun H locs hP9 hD9 hS9 => ?_)
              obtain ⟨f112, ef112⟩ : ∃ g : Nat → Int32, g = upd f10 (Int32.toNatClampNeg x5) (-1) := ⟨_, rfl⟩
              clear hP hD hS
              have hP : va_P (dC, dI) cls [(h_mm, .inr (8, (mo128 v_mm (.ref h_nv) (.ref h_nn) (.ref h_na) (.ref h_nb) (.ref h_nc) (.int x_mm_nodes) (.ref h_mny) (.ref h_tem) (.int x_mm_reading)))), (h_nv, .inl (cy_nv, 8000, .inl f47)), (h_nn, .inl (cy_nn, 8000, .inr (.inl f50))), (h_na, .inl (cy_na, 8000, .inl f93)), (h_nb, .inl (cy_nb, 8000, .inl f101)), (h_nc, .inl (cy_nc, 8000, .inl f112)), (h_mny, .inl (cy_mny, 32, .inl f_mny)), (h_tem, .inl (cy_tem, 192, .inl f_tem))] H := by rw [ef112]; exact hP9
              have hD : va_D A [(h_mm, .inr (8, (mo128 v_mm (.ref h_nv) (.ref h_nn) (.ref h_na) (.ref h_nb) (.ref h_nc) (.int x_mm_nodes) (.ref h_mny) (.ref h_tem) (.int x_mm_reading)))), (h_nv, .inl (cy_nv, 8000, .inl f47)), (h_nn, .inl (cy_nn, 8000, .inr (.inl f50))), (h_na, .inl (cy_na, 8000, .inl f93)), (h_nb, .inl (cy_nb, 8000, .inl f101)), (h_nc, .inl (cy_nc, 8000, .inl f112)), (h_mny, .inl (cy_mny, 32, .inl f_mny)), (h_tem, .inl (cy_tem, 192, .inl f_tem))] := by rw [ef112]; exact hD9
              have hS := hS9
              clear hP9 hD9 hS9
              have hf112 : Rg (-1) 7999 f112 := by rw [ef112]; exact rg_upd hf10 (by decide)
              have mv113 : MV (p1).toInt (x_mm_nodes).toInt hh ((x5).toInt + 1) f112 := by rw [ef112]; exact mv_step (i := x5) (j := z103) klp11_8 rfl (by omega) (by omega) (by omega) (Or.inl (by decide))
              clear ef112
              obtain ⟨z114, ez114⟩ : ∃ y : Int32, y = x5 + 1 := ⟨_, rfl⟩
              have tz114 : (z114).toInt = (x5).toInt + 1 := by rw [ez114]; exact i_add rfl (by decide) (by omega)
              refine lv_iinc (v := z114) (lv' := [(3, .int z114), (0, .ref h_mm), (1, .int p1), (2, .int z1)]) hx hb dX11_movesNodes_138 hl (k := 3) rfl (by rw [ez114]; rfl) (by decide) rfl (fun ls hl => ?_)
              refine lv_goto (tgt := 9) hx hb dX11_movesNodes_141 (by decide) ?_
              exact ih12 (z114) (f47) (f50) (f93) (f101) (f112) _ _ _ (by omega) hf47 hf93 hf101 hf112 (by omega) (mv_cast mv94 (by omega)) (mv_cast mv102 (by omega)) (mv_cast mv113 (by omega)) (by omega) hP hD hS (lv_sub hl [1, 2, 3, 0] rfl)
          · have kc97 := (cv_eq (rfl : (z96).toInt = (z96).toInt) (by decide : ((-1) : Int32).toInt = -1)).mp c97
            refine lv_iconst (v := (-1)) hx hb dX11_movesNodes_91 (by decide) ?_
            refine lv_goto (tgt := 105) hx hb dX11_movesNodes_92 (by decide) ?_
            refine va_iast hx hb hK hP hD hS 4 3 rfl rfl (i := x5) (x := (-1)) (vp_in_iff.mpr (by omega)) dX11_movesNodes_105 (fun H locs hP9 hD9 hS9 => ?_)
            obtain ⟨f115, ef115⟩ : ∃ g : Nat → Int32, g = upd f9 (Int32.toNatClampNeg x5) (-1) := ⟨_, rfl⟩
            clear hP hD hS
            have hP : va_P (dC, dI) cls [(h_mm, .inr (8, (mo128 v_mm (.ref h_nv) (.ref h_nn) (.ref h_na) (.ref h_nb) (.ref h_nc) (.int x_mm_nodes) (.ref h_mny) (.ref h_tem) (.int x_mm_reading)))), (h_nv, .inl (cy_nv, 8000, .inl f47)), (h_nn, .inl (cy_nn, 8000, .inr (.inl f50))), (h_na, .inl (cy_na, 8000, .inl f93)), (h_nb, .inl (cy_nb, 8000, .inl f115)), (h_nc, .inl (cy_nc, 8000, .inl f10)), (h_mny, .inl (cy_mny, 32, .inl f_mny)), (h_tem, .inl (cy_tem, 192, .inl f_tem))] H := by rw [ef115]; exact hP9
            have hD : va_D A [(h_mm, .inr (8, (mo128 v_mm (.ref h_nv) (.ref h_nn) (.ref h_na) (.ref h_nb) (.ref h_nc) (.int x_mm_nodes) (.ref h_mny) (.ref h_tem) (.int x_mm_reading)))), (h_nv, .inl (cy_nv, 8000, .inl f47)), (h_nn, .inl (cy_nn, 8000, .inr (.inl f50))), (h_na, .inl (cy_na, 8000, .inl f93)), (h_nb, .inl (cy_nb, 8000, .inl f115)), (h_nc, .inl (cy_nc, 8000, .inl f10)), (h_mny, .inl (cy_mny, 32, .inl f_mny)), (h_tem, .inl (cy_tem, 192, .inl f_tem))] := by rw [ef115]; exact hD9
            have hS := hS9
            clear hP9 hD9 hS9
            have hf115 : Rg (-1) 7999 f115 := by rw [ef115]; exact rg_upd hf9 (by decide)
            have mv116 : MV (p1).toInt (x_mm_nodes).toInt hh ((x5).toInt + 1) f115 := by rw [ef115]; exact mv_step (i := x5) (j := z95) klp11_7 rfl (by omega) (by omega) (by omega) (Or.inl (by decide))
            clear ef115
            refine lv_aload_n hx hb dX11_movesNodes_106 rfl (lv_at hl 0 rfl) ?_
            refine va_get (D := (dC, dI)) (ci := 8) (v := .ref h_nc) (C := RX11) (T := TX11) (N := 71) hx hb hw iwX11 hown hK hP 0 rfl rfl 5 (by decide) (hw _ w_f_X11_14) (fun _ h9 => h9) rfl dX11_movesNodes_107 ?_
            refine lv_iload_n hx hb dX11_movesNodes_110 rfl (lv_at hl 3 rfl) ?_
            refine lv_aload_n hx hb dX11_movesNodes_111 rfl (lv_at hl 0 rfl) ?_
            refine va_get (D := (dC, dI)) (ci := 8) (v := .ref h_nc) (C := RX11) (T := TX11) (N := 71) hx hb hw iwX11 hown hK hP 0 rfl rfl 5 (by decide) (hw _ w_f_X11_14) (fun _ h9 => h9) rfl dX11_movesNodes_112 ?_
            refine lv_iload_n hx hb dX11_movesNodes_115 rfl (lv_at hl 1 rfl) ?_
            refine lv_iload_n hx hb dX11_movesNodes_116 rfl (lv_at hl 3 rfl) ?_
            refine lv_iadd hx hb dX11_movesNodes_117 ?_
            refine lv_topi (fun z117 ez117 => ?_)
            have qz117 : (z117).toInt = (z45).toInt := by rw [ez117, ez45]
            have tz117 : (z117).toInt = (p1).toInt + (x5).toInt := by rw [ez117]; exact i_add rfl rfl (by omega)
            refine va_iald hx hb hK hP 5 4 rfl rfl (i := z117) (vp_in_iff.mpr (by omega)) dX11_movesNodes_118 ?_
            refine lv_topi (fun z118 ez118 => ?_)
            have rz118 : -1 ≤ (z118).toInt ∧ (z118).toInt ≤ 7999 := by rw [ez118]; exact hf10 _
            refine lv_iconst (v := (-1)) hx hb dX11_movesNodes_119 (by decide) ?_
            refine lv_icmp_ne (tgt := 127) hx hb dX11_movesNodes_120 (by decide) (fun c119 => ?_) (fun c119 => ?_)
            · have kc119 := (not_congr (cv_eq (rfl : (z118).toInt = (z118).toInt) (by decide : ((-1) : Int32).toInt = -1))).mp c119
              refine lv_aload_n hx hb dX11_movesNodes_127 rfl (lv_at hl 0 rfl) ?_
              refine va_get (D := (dC, dI)) (ci := 8) (v := .ref h_nc) (C := RX11) (T := TX11) (N := 71) hx hb hw iwX11 hown hK hP 0 rfl rfl 5 (by decide) (hw _ w_f_X11_14) (fun _ h9 => h9) rfl dX11_movesNodes_128 ?_
              refine lv_iload_n hx hb dX11_movesNodes_131 rfl (lv_at hl 1 rfl) ?_
              refine lv_iload_n hx hb dX11_movesNodes_132 rfl (lv_at hl 3 rfl) ?_
              refine lv_iadd hx hb dX11_movesNodes_133 ?_
              refine lv_topi (fun z120 ez120 => ?_)
              have qz120 : (z120).toInt = (z45).toInt := by rw [ez120, ez45]
              have tz120 : (z120).toInt = (p1).toInt + (x5).toInt := by rw [ez120]; exact i_add rfl rfl (by omega)
              refine va_iald hx hb hK hP 5 4 rfl rfl (i := z120) (vp_in_iff.mpr (by omega)) dX11_movesNodes_134 ?_
              refine lv_topi (fun z121 ez121 => ?_)
              have rz121 : -1 ≤ (z121).toInt ∧ (z121).toInt ≤ 7999 := by rw [ez121]; exact hf10 _
              have gz121 := mv_get (j := z120) klp11_8 (by omega) ez121
              have qz121 : (z121).toInt = (z118).toInt := by rw [ez121, ez120, ez118, ez117]
              refine lv_iload_n hx hb dX11_movesNodes_135 rfl (lv_at hl 1 rfl) ?_
              refine lv_isub hx hb dX11_movesNodes_136 ?_
              refine lv_topi (fun z122 ez122 => ?_)
              have tz122 : (z122).toInt = (z121).toInt - (p1).toInt := by rw [ez122]; exact i_sub rfl rfl (by omega)
              have sz122 : -1 ≤ (z122).toInt ∧ (z122).toInt ≤ 7999 := by omega
              refine va_iast hx hb hK hP hD hS 5 4 rfl rfl (i := x5) (x := z122) (vp_in_iff.mpr (by omega)) dX11_movesNodes_137 (fun H locs hP9 hD9 hS9 => ?_)
              obtain ⟨f123, ef123⟩ : ∃ g : Nat → Int32, g = upd f10 (Int32.toNatClampNeg x5) z122 := ⟨_, rfl⟩
              clear hP hD hS
              have hP : va_P (dC, dI) cls [(h_mm, .inr (8, (mo128 v_mm (.ref h_nv) (.ref h_nn) (.ref h_na) (.ref h_nb) (.ref h_nc) (.int x_mm_nodes) (.ref h_mny) (.ref h_tem) (.int x_mm_reading)))), (h_nv, .inl (cy_nv, 8000, .inl f47)), (h_nn, .inl (cy_nn, 8000, .inr (.inl f50))), (h_na, .inl (cy_na, 8000, .inl f93)), (h_nb, .inl (cy_nb, 8000, .inl f115)), (h_nc, .inl (cy_nc, 8000, .inl f123)), (h_mny, .inl (cy_mny, 32, .inl f_mny)), (h_tem, .inl (cy_tem, 192, .inl f_tem))] H := by rw [ef123]; exact hP9
              have hD : va_D A [(h_mm, .inr (8, (mo128 v_mm (.ref h_nv) (.ref h_nn) (.ref h_na) (.ref h_nb) (.ref h_nc) (.int x_mm_nodes) (.ref h_mny) (.ref h_tem) (.int x_mm_reading)))), (h_nv, .inl (cy_nv, 8000, .inl f47)), (h_nn, .inl (cy_nn, 8000, .inr (.inl f50))), (h_na, .inl (cy_na, 8000, .inl f93)), (h_nb, .inl (cy_nb, 8000, .inl f115)), (h_nc, .inl (cy_nc, 8000, .inl f123)), (h_mny, .inl (cy_mny, 32, .inl f_mny)), (h_tem, .inl (cy_tem, 192, .inl f_tem))] := by rw [ef123]; exact hD9
              have hS := hS9
              clear hP9 hD9 hS9
              have hf123 : Rg (-1) 7999 f123 := by rw [ef123]; exact rg_upd hf10 (by omega)
              have mv124 : MV (p1).toInt (x_mm_nodes).toInt hh ((x5).toInt + 1) f123 := by rw [ef123]; exact mv_step (i := x5) (j := z120) klp11_8 rfl (by omega) (by omega) (by omega) (Or.inr (by rw [← ez121]; omega))
              clear ef123
              obtain ⟨z125, ez125⟩ : ∃ y : Int32, y = x5 + 1 := ⟨_, rfl⟩
              have tz125 : (z125).toInt = (x5).toInt + 1 := by rw [ez125]; exact i_add rfl (by decide) (by omega)
              refine lv_iinc (v := z125) (lv' := [(3, .int z125), (0, .ref h_mm), (1, .int p1), (2, .int z1)]) hx hb dX11_movesNodes_138 hl (k := 3) rfl (by rw [ez125]; rfl) (by decide) rfl (fun ls hl => ?_)
              refine lv_goto (tgt := 9) hx hb dX11_movesNodes_141 (by decide) ?_
              exact ih12 (z125) (f47) (f50) (f93) (f115) (f123) _ _ _ (by omega) hf47 hf93 hf115 hf123 (by omega) (mv_cast mv94 (by omega)) (mv_cast mv116 (by omega)) (mv_cast mv124 (by omega)) (by omega) hP hD hS (lv_sub hl [1, 2, 3, 0] rfl)
            · have kc119 := (cv_eq (rfl : (z118).toInt = (z118).toInt) (by decide : ((-1) : Int32).toInt = -1)).mp c119
              refine lv_iconst (v := (-1)) hx hb dX11_movesNodes_123 (by decide) ?_
              refine lv_goto (tgt := 137) hx hb dX11_movesNodes_124 (by decide) ?_
              refine va_iast hx hb hK hP hD hS 5 4 rfl rfl (i := x5) (x := (-1)) (vp_in_iff.mpr (by omega)) dX11_movesNodes_137 (fun H locs hP9 hD9 hS9 => ?_)
              obtain ⟨f126, ef126⟩ : ∃ g : Nat → Int32, g = upd f10 (Int32.toNatClampNeg x5) (-1) := ⟨_, rfl⟩
              clear hP hD hS
              have hP : va_P (dC, dI) cls [(h_mm, .inr (8, (mo128 v_mm (.ref h_nv) (.ref h_nn) (.ref h_na) (.ref h_nb) (.ref h_nc) (.int x_mm_nodes) (.ref h_mny) (.ref h_tem) (.int x_mm_reading)))), (h_nv, .inl (cy_nv, 8000, .inl f47)), (h_nn, .inl (cy_nn, 8000, .inr (.inl f50))), (h_na, .inl (cy_na, 8000, .inl f93)), (h_nb, .inl (cy_nb, 8000, .inl f115)), (h_nc, .inl (cy_nc, 8000, .inl f126)), (h_mny, .inl (cy_mny, 32, .inl f_mny)), (h_tem, .inl (cy_tem, 192, .inl f_tem))] H := by rw [ef126]; exact hP9
              have hD : va_D A [(h_mm, .inr (8, (mo128 v_mm (.ref h_nv) (.ref h_nn) (.ref h_na) (.ref h_nb) (.ref h_nc) (.int x_mm_nodes) (.ref h_mny) (.ref h_tem) (.int x_mm_reading)))), (h_nv, .inl (cy_nv, 8000, .inl f47)), (h_nn, .inl (cy_nn, 8000, .inr (.inl f50))), (h_na, .inl (cy_na, 8000, .inl f93)), (h_nb, .inl (cy_nb, 8000, .inl f115)), (h_nc, .inl (cy_nc, 8000, .inl f126)), (h_mny, .inl (cy_mny, 32, .inl f_mny)), (h_tem, .inl (cy_tem, 192, .inl f_tem))] := by rw [ef126]; exact hD9
              have hS := hS9
              clear hP9 hD9 hS9
              have hf126 : Rg (-1) 7999 f126 := by rw [ef126]; exact rg_upd hf10 (by decide)
              have mv127 : MV (p1).toInt (x_mm_nodes).toInt hh ((x5).toInt + 1) f126 := by rw [ef126]; exact mv_step (i := x5) (j := z117) klp11_8 rfl (by omega) (by omega) (by omega) (Or.inl (by decide))
              clear ef126
              obtain ⟨z128, ez128⟩ : ∃ y : Int32, y = x5 + 1 := ⟨_, rfl⟩
              have tz128 : (z128).toInt = (x5).toInt + 1 := by rw [ez128]; exact i_add rfl (by decide) (by omega)
              refine lv_iinc (v := z128) (lv' := [(3, .int z128), (0, .ref h_mm), (1, .int p1), (2, .int z1)]) hx hb dX11_movesNodes_138 hl (k := 3) rfl (by rw [ez128]; rfl) (by decide) rfl (fun ls hl => ?_)
              refine lv_goto (tgt := 9) hx hb dX11_movesNodes_141 (by decide) ?_
              exact ih12 (z128) (f47) (f50) (f93) (f115) (f126) _ _ _ (by omega) hf47 hf93 hf115 hf126 (by omega) (mv_cast mv94 (by omega)) (mv_cast mv116 (by omega)) (mv_cast mv127 (by omega)) (by omega) hP hD hS (lv_sub hl [1, 2, 3, 0] rfl)
  have cst0 : (0 : Int32).toInt = 0 := by decide
  exact lp11 _ (0) (f_nv) (f_nn) (f_na) (f_nb) (f_nc) _ _ _ (by decide) hf_nv hf_na hf_nb hf_nc (by omega) (mv_cast mv2 (by omega)) (mv_cast mv3 (by omega)) (mv_cast mv4 (by omega)) (Nat.le_refl _) hP hD hS (lv_sub hl [2, 3, 1, 0] rfl)

