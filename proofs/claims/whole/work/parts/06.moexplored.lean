abbrev b_Mo_explored : ByteArray := prog_13_method_12_code
def y_Mo_explored : MethodName := ⟨"RegularSolverModel", "explored", "(III)Z"⟩
abbrev w0_Mo_explored : List Cond := Cond.code y_Mo_explored b_Mo_explored 13 (some .boolean) :: gW
theorem cd_Mo_explored : Cond.code y_Mo_explored b_Mo_explored 13 (some .boolean) ∈ gW := gm 976 (by decide +kernel) (by decide +kernel)
theorem d_Mo_explored_0 : decode b_Mo_explored 0 = .ok (.aload_n 0, 1) := by decide +kernel
theorem d_Mo_explored_1 : decode b_Mo_explored 1 = .ok (.iconst 0, 1) := by decide +kernel
theorem d_Mo_explored_2 : decode b_Mo_explored 2 = .ok (.putfield 95, 3) := by decide +kernel
theorem d_Mo_explored_5 : decode b_Mo_explored 5 = .ok (.iload_n 1, 1) := by decide +kernel
theorem d_Mo_explored_6 : decode b_Mo_explored 6 = .ok (.iconst 2, 1) := by decide +kernel
theorem d_Mo_explored_7 : decode b_Mo_explored 7 = .ok (.if_icmp .ne 16, 3) := by decide +kernel
theorem d_Mo_explored_10 : decode b_Mo_explored 10 = .ok (.aload_n 0, 1) := by decide +kernel
theorem d_Mo_explored_11 : decode b_Mo_explored 11 = .ok (.iload_n 2, 1) := by decide +kernel
theorem d_Mo_explored_12 : decode b_Mo_explored 12 = .ok (.iconst 0, 1) := by decide +kernel
theorem d_Mo_explored_13 : decode b_Mo_explored 13 = .ok (.invokevirtual 102, 3) := by decide +kernel
theorem d_Mo_explored_16 : decode b_Mo_explored 16 = .ok (.ifCond .eq 7, 3) := by decide +kernel
theorem d_Mo_explored_19 : decode b_Mo_explored 19 = .ok (.lconst 1, 1) := by decide +kernel
theorem d_Mo_explored_20 : decode b_Mo_explored 20 = .ok (.goto 4, 3) := by decide +kernel
theorem d_Mo_explored_23 : decode b_Mo_explored 23 = .ok (.lconst 0, 1) := by decide +kernel
theorem d_Mo_explored_24 : decode b_Mo_explored 24 = .ok (.lstore 4, 2) := by decide +kernel
theorem d_Mo_explored_26 : decode b_Mo_explored 26 = .ok (.aload_n 0, 1) := by decide +kernel
theorem d_Mo_explored_27 : decode b_Mo_explored 27 = .ok (.iconst 0, 1) := by decide +kernel
theorem d_Mo_explored_28 : decode b_Mo_explored 28 = .ok (.lload 4, 2) := by decide +kernel
theorem d_Mo_explored_30 : decode b_Mo_explored 30 = .ok (.aload_n 0, 1) := by decide +kernel
theorem d_Mo_explored_31 : decode b_Mo_explored 31 = .ok (.iload_n 1, 1) := by decide +kernel
theorem d_Mo_explored_32 : decode b_Mo_explored 32 = .ok (.iload_n 2, 1) := by decide +kernel
theorem d_Mo_explored_33 : decode b_Mo_explored 33 = .ok (.iload_n 3, 1) := by decide +kernel
theorem d_Mo_explored_34 : decode b_Mo_explored 34 = .ok (.iconst 0, 1) := by decide +kernel
theorem d_Mo_explored_35 : decode b_Mo_explored 35 = .ok (.lload 4, 2) := by decide +kernel
theorem d_Mo_explored_37 : decode b_Mo_explored 37 = .ok (.invokevirtual 110, 3) := by decide +kernel
theorem d_Mo_explored_40 : decode b_Mo_explored 40 = .ok (.invokevirtual 113, 3) := by decide +kernel
theorem d_Mo_explored_43 : decode b_Mo_explored 43 = .ok (.pop, 1) := by decide +kernel
theorem d_Mo_explored_44 : decode b_Mo_explored 44 = .ok (.iconst 0, 1) := by decide +kernel
theorem d_Mo_explored_45 : decode b_Mo_explored 45 = .ok (.istore 6, 2) := by decide +kernel
theorem d_Mo_explored_47 : decode b_Mo_explored 47 = .ok (.iload 6, 2) := by decide +kernel
theorem d_Mo_explored_49 : decode b_Mo_explored 49 = .ok (.aload_n 0, 1) := by decide +kernel
theorem d_Mo_explored_50 : decode b_Mo_explored 50 = .ok (.getfield 95, 3) := by decide +kernel
theorem d_Mo_explored_53 : decode b_Mo_explored 53 = .ok (.if_icmp .ge 216, 3) := by decide +kernel
theorem d_Mo_explored_56 : decode b_Mo_explored 56 = .ok (.iconst 0, 1) := by decide +kernel
theorem d_Mo_explored_57 : decode b_Mo_explored 57 = .ok (.istore 7, 2) := by decide +kernel
theorem d_Mo_explored_59 : decode b_Mo_explored 59 = .ok (.iload 7, 2) := by decide +kernel
theorem d_Mo_explored_61 : decode b_Mo_explored 61 = .ok (.iconst 4, 1) := by decide +kernel
theorem d_Mo_explored_62 : decode b_Mo_explored 62 = .ok (.if_icmp .ge 201, 3) := by decide +kernel
theorem d_Mo_explored_65 : decode b_Mo_explored 65 = .ok (.iload_n 1, 1) := by decide +kernel
theorem d_Mo_explored_66 : decode b_Mo_explored 66 = .ok (.iconst 3, 1) := by decide +kernel
theorem d_Mo_explored_67 : decode b_Mo_explored 67 = .ok (.if_icmp .ne 7, 3) := by decide +kernel
theorem d_Mo_explored_70 : decode b_Mo_explored 70 = .ok (.iconst 0, 1) := by decide +kernel
theorem d_Mo_explored_71 : decode b_Mo_explored 71 = .ok (.goto 17, 3) := by decide +kernel
theorem d_Mo_explored_74 : decode b_Mo_explored 74 = .ok (.aload_n 0, 1) := by decide +kernel
theorem d_Mo_explored_75 : decode b_Mo_explored 75 = .ok (.iload_n 2, 1) := by decide +kernel
theorem d_Mo_explored_76 : decode b_Mo_explored 76 = .ok (.aload_n 0, 1) := by decide +kernel
theorem d_Mo_explored_77 : decode b_Mo_explored 77 = .ok (.getfield 20, 3) := by decide +kernel
theorem d_Mo_explored_80 : decode b_Mo_explored 80 = .ok (.iload 6, 2) := by decide +kernel
theorem d_Mo_explored_82 : decode b_Mo_explored 82 = .ok (.iaload, 1) := by decide +kernel
theorem d_Mo_explored_83 : decode b_Mo_explored 83 = .ok (.iload 7, 2) := by decide +kernel
theorem d_Mo_explored_85 : decode b_Mo_explored 85 = .ok (.invokevirtual 98, 3) := by decide +kernel
theorem d_Mo_explored_88 : decode b_Mo_explored 88 = .ok (.istore 8, 2) := by decide +kernel
theorem d_Mo_explored_90 : decode b_Mo_explored 90 = .ok (.iload_n 1, 1) := by decide +kernel
theorem d_Mo_explored_91 : decode b_Mo_explored 91 = .ok (.iconst 2, 1) := by decide +kernel
theorem d_Mo_explored_92 : decode b_Mo_explored 92 = .ok (.if_icmp .ge 24, 3) := by decide +kernel
theorem d_Mo_explored_95 : decode b_Mo_explored 95 = .ok (.aload_n 0, 1) := by decide +kernel
theorem d_Mo_explored_96 : decode b_Mo_explored 96 = .ok (.iload_n 3, 1) := by decide +kernel
theorem d_Mo_explored_97 : decode b_Mo_explored 97 = .ok (.aload_n 0, 1) := by decide +kernel
theorem d_Mo_explored_98 : decode b_Mo_explored 98 = .ok (.getfield 38, 3) := by decide +kernel
theorem d_Mo_explored_101 : decode b_Mo_explored 101 = .ok (.iload 6, 2) := by decide +kernel
theorem d_Mo_explored_103 : decode b_Mo_explored 103 = .ok (.laload, 1) := by decide +kernel
theorem d_Mo_explored_104 : decode b_Mo_explored 104 = .ok (.l2i, 1) := by decide +kernel
theorem d_Mo_explored_105 : decode b_Mo_explored 105 = .ok (.iload 7, 2) := by decide +kernel
theorem d_Mo_explored_107 : decode b_Mo_explored 107 = .ok (.invokevirtual 98, 3) := by decide +kernel
theorem d_Mo_explored_110 : decode b_Mo_explored 110 = .ok (.i2l, 1) := by decide +kernel
theorem d_Mo_explored_111 : decode b_Mo_explored 111 = .ok (.lstore 9, 2) := by decide +kernel
theorem d_Mo_explored_113 : decode b_Mo_explored 113 = .ok (.goto 102, 3) := by decide +kernel
theorem d_Mo_explored_116 : decode b_Mo_explored 116 = .ok (.iload_n 1, 1) := by decide +kernel
theorem d_Mo_explored_117 : decode b_Mo_explored 117 = .ok (.iconst 2, 1) := by decide +kernel
theorem d_Mo_explored_118 : decode b_Mo_explored 118 = .ok (.if_icmp .ne 38, 3) := by decide +kernel
theorem d_Mo_explored_121 : decode b_Mo_explored 121 = .ok (.aload_n 0, 1) := by decide +kernel
theorem d_Mo_explored_122 : decode b_Mo_explored 122 = .ok (.iload_n 3, 1) := by decide +kernel
theorem d_Mo_explored_123 : decode b_Mo_explored 123 = .ok (.aload_n 0, 1) := by decide +kernel
theorem d_Mo_explored_124 : decode b_Mo_explored 124 = .ok (.getfield 38, 3) := by decide +kernel
theorem d_Mo_explored_127 : decode b_Mo_explored 127 = .ok (.iload 6, 2) := by decide +kernel
theorem d_Mo_explored_129 : decode b_Mo_explored 129 = .ok (.laload, 1) := by decide +kernel
theorem d_Mo_explored_130 : decode b_Mo_explored 130 = .ok (.iload 7, 2) := by decide +kernel
theorem d_Mo_explored_132 : decode b_Mo_explored 132 = .ok (.invokevirtual 117, 3) := by decide +kernel
theorem d_Mo_explored_135 : decode b_Mo_explored 135 = .ok (.aload_n 0, 1) := by decide +kernel
theorem d_Mo_explored_136 : decode b_Mo_explored 136 = .ok (.iload_n 2, 1) := by decide +kernel
theorem d_Mo_explored_137 : decode b_Mo_explored 137 = .ok (.iload 8, 2) := by decide +kernel
theorem d_Mo_explored_139 : decode b_Mo_explored 139 = .ok (.invokevirtual 102, 3) := by decide +kernel
theorem d_Mo_explored_142 : decode b_Mo_explored 142 = .ok (.ifCond .eq 7, 3) := by decide +kernel
theorem d_Mo_explored_145 : decode b_Mo_explored 145 = .ok (.lconst 1, 1) := by decide +kernel
theorem d_Mo_explored_146 : decode b_Mo_explored 146 = .ok (.goto 4, 3) := by decide +kernel
theorem d_Mo_explored_149 : decode b_Mo_explored 149 = .ok (.lconst 0, 1) := by decide +kernel
theorem d_Mo_explored_150 : decode b_Mo_explored 150 = .ok (.lor, 1) := by decide +kernel
theorem d_Mo_explored_151 : decode b_Mo_explored 151 = .ok (.lstore 9, 2) := by decide +kernel
theorem d_Mo_explored_153 : decode b_Mo_explored 153 = .ok (.goto 62, 3) := by decide +kernel
theorem d_Mo_explored_156 : decode b_Mo_explored 156 = .ok (.aload_n 0, 1) := by decide +kernel
theorem d_Mo_explored_157 : decode b_Mo_explored 157 = .ok (.getfield 38, 3) := by decide +kernel
theorem d_Mo_explored_160 : decode b_Mo_explored 160 = .ok (.iload 6, 2) := by decide +kernel
theorem d_Mo_explored_162 : decode b_Mo_explored 162 = .ok (.laload, 1) := by decide +kernel
theorem d_Mo_explored_163 : decode b_Mo_explored 163 = .ok (.lconst 0, 1) := by decide +kernel
theorem d_Mo_explored_164 : decode b_Mo_explored 164 = .ok (.lcmp, 1) := by decide +kernel
theorem d_Mo_explored_165 : decode b_Mo_explored 165 = .ok (.ifCond .eq 18, 3) := by decide +kernel
theorem d_Mo_explored_168 : decode b_Mo_explored 168 = .ok (.aload_n 0, 1) := by decide +kernel
theorem d_Mo_explored_169 : decode b_Mo_explored 169 = .ok (.iload_n 2, 1) := by decide +kernel
theorem d_Mo_explored_170 : decode b_Mo_explored 170 = .ok (.aload_n 0, 1) := by decide +kernel
theorem d_Mo_explored_171 : decode b_Mo_explored 171 = .ok (.getfield 38, 3) := by decide +kernel
theorem d_Mo_explored_174 : decode b_Mo_explored 174 = .ok (.iload 6, 2) := by decide +kernel
theorem d_Mo_explored_176 : decode b_Mo_explored 176 = .ok (.laload, 1) := by decide +kernel
theorem d_Mo_explored_177 : decode b_Mo_explored 177 = .ok (.invokevirtual 106, 3) := by decide +kernel
theorem d_Mo_explored_180 : decode b_Mo_explored 180 = .ok (.ifCond .eq 15, 3) := by decide +kernel
theorem d_Mo_explored_183 : decode b_Mo_explored 183 = .ok (.aload_n 0, 1) := by decide +kernel
theorem d_Mo_explored_184 : decode b_Mo_explored 184 = .ok (.getfield 38, 3) := by decide +kernel
theorem d_Mo_explored_187 : decode b_Mo_explored 187 = .ok (.iload 6, 2) := by decide +kernel
theorem d_Mo_explored_189 : decode b_Mo_explored 189 = .ok (.laload, 1) := by decide +kernel
theorem d_Mo_explored_190 : decode b_Mo_explored 190 = .ok (.lconst 1, 1) := by decide +kernel
theorem d_Mo_explored_191 : decode b_Mo_explored 191 = .ok (.lor, 1) := by decide +kernel
theorem d_Mo_explored_192 : decode b_Mo_explored 192 = .ok (.goto 10, 3) := by decide +kernel
theorem d_Mo_explored_195 : decode b_Mo_explored 195 = .ok (.aload_n 0, 1) := by decide +kernel
theorem d_Mo_explored_196 : decode b_Mo_explored 196 = .ok (.getfield 38, 3) := by decide +kernel
theorem d_Mo_explored_199 : decode b_Mo_explored 199 = .ok (.iload 6, 2) := by decide +kernel
theorem d_Mo_explored_201 : decode b_Mo_explored 201 = .ok (.laload, 1) := by decide +kernel
theorem d_Mo_explored_202 : decode b_Mo_explored 202 = .ok (.lstore 11, 2) := by decide +kernel
theorem d_Mo_explored_204 : decode b_Mo_explored 204 = .ok (.aload_n 0, 1) := by decide +kernel
theorem d_Mo_explored_205 : decode b_Mo_explored 205 = .ok (.iload_n 2, 1) := by decide +kernel
theorem d_Mo_explored_206 : decode b_Mo_explored 206 = .ok (.lload 11, 2) := by decide +kernel
theorem d_Mo_explored_208 : decode b_Mo_explored 208 = .ok (.iload 7, 2) := by decide +kernel
theorem d_Mo_explored_210 : decode b_Mo_explored 210 = .ok (.invokevirtual 117, 3) := by decide +kernel
theorem d_Mo_explored_213 : decode b_Mo_explored 213 = .ok (.lstore 9, 2) := by decide +kernel
theorem d_Mo_explored_215 : decode b_Mo_explored 215 = .ok (.aload_n 0, 1) := by decide +kernel
theorem d_Mo_explored_216 : decode b_Mo_explored 216 = .ok (.iload 8, 2) := by decide +kernel
theorem d_Mo_explored_218 : decode b_Mo_explored 218 = .ok (.lload 9, 2) := by decide +kernel
theorem d_Mo_explored_220 : decode b_Mo_explored 220 = .ok (.aload_n 0, 1) := by decide +kernel
theorem d_Mo_explored_221 : decode b_Mo_explored 221 = .ok (.iload_n 1, 1) := by decide +kernel
theorem d_Mo_explored_222 : decode b_Mo_explored 222 = .ok (.iload_n 2, 1) := by decide +kernel
theorem d_Mo_explored_223 : decode b_Mo_explored 223 = .ok (.iload_n 3, 1) := by decide +kernel
theorem d_Mo_explored_224 : decode b_Mo_explored 224 = .ok (.iload 8, 2) := by decide +kernel
theorem d_Mo_explored_226 : decode b_Mo_explored 226 = .ok (.lload 9, 2) := by decide +kernel
theorem d_Mo_explored_228 : decode b_Mo_explored 228 = .ok (.invokevirtual 110, 3) := by decide +kernel
theorem d_Mo_explored_231 : decode b_Mo_explored 231 = .ok (.invokevirtual 113, 3) := by decide +kernel
theorem d_Mo_explored_234 : decode b_Mo_explored 234 = .ok (.istore 11, 2) := by decide +kernel
theorem d_Mo_explored_236 : decode b_Mo_explored 236 = .ok (.iload 11, 2) := by decide +kernel
theorem d_Mo_explored_238 : decode b_Mo_explored 238 = .ok (.ifCond .ge 5, 3) := by decide +kernel
theorem d_Mo_explored_241 : decode b_Mo_explored 241 = .ok (.iconst 0, 1) := by decide +kernel
theorem d_Mo_explored_242 : decode b_Mo_explored 242 = .ok (.ireturn, 1) := by decide +kernel
theorem d_Mo_explored_243 : decode b_Mo_explored 243 = .ok (.aload_n 0, 1) := by decide +kernel
theorem d_Mo_explored_244 : decode b_Mo_explored 244 = .ok (.getfield 23, 3) := by decide +kernel
theorem d_Mo_explored_247 : decode b_Mo_explored 247 = .ok (.iconst 4, 1) := by decide +kernel
theorem d_Mo_explored_248 : decode b_Mo_explored 248 = .ok (.iload 6, 2) := by decide +kernel
theorem d_Mo_explored_250 : decode b_Mo_explored 250 = .ok (.imul, 1) := by decide +kernel
theorem d_Mo_explored_251 : decode b_Mo_explored 251 = .ok (.iload 7, 2) := by decide +kernel
theorem d_Mo_explored_253 : decode b_Mo_explored 253 = .ok (.iadd, 1) := by decide +kernel
theorem d_Mo_explored_254 : decode b_Mo_explored 254 = .ok (.iload 11, 2) := by decide +kernel
theorem d_Mo_explored_256 : decode b_Mo_explored 256 = .ok (.iastore, 1) := by decide +kernel
theorem d_Mo_explored_257 : decode b_Mo_explored 257 = .ok (.iinc 7 1, 3) := by decide +kernel
theorem d_Mo_explored_260 : decode b_Mo_explored 260 = .ok (.goto (-201), 3) := by decide +kernel
theorem d_Mo_explored_263 : decode b_Mo_explored 263 = .ok (.iinc 6 1, 3) := by decide +kernel
theorem d_Mo_explored_266 : decode b_Mo_explored 266 = .ok (.goto (-219), 3) := by decide +kernel
theorem d_Mo_explored_269 : decode b_Mo_explored 269 = .ok (.iconst 1, 1) := by decide +kernel
theorem d_Mo_explored_270 : decode b_Mo_explored 270 = .ok (.ireturn, 1) := by decide +kernel
theorem ml_Mo_110 : (Cond.methodLink "RegularSolverModel" 110 ({ cls := "RegularSolverModel", name := "ends", desc := "(IIIIJ)Z" } : MethodName)) ∈ gW := gm 981 (by decide +kernel) (by decide +kernel)
theorem im_Mo_ends : (Cond.instanceMethod ({ cls := "RegularSolverModel", name := "ends", desc := "(IIIIJ)Z" } : MethodName)) ∈ gW := gm 983 (by decide +kernel) (by decide +kernel)
theorem se_Mo_ends : (Cond.selects "RegularSolverModel" ({ cls := "RegularSolverModel", name := "ends", desc := "(IIIIJ)Z" } : MethodName) ({ cls := "RegularSolverModel", name := "ends", desc := "(IIIIJ)Z" } : MethodName)) ∈ gW := gs (by decide +kernel) (by decide +kernel)
theorem ml_Mo_113 : (Cond.methodLink "RegularSolverModel" 113 ({ cls := "RegularSolverModel", name := "come", desc := "(IJZ)I" } : MethodName)) ∈ gW := gm 989 (by decide +kernel) (by decide +kernel)
theorem im_Mo_come : (Cond.instanceMethod ({ cls := "RegularSolverModel", name := "come", desc := "(IJZ)I" } : MethodName)) ∈ gW := gm 991 (by decide +kernel) (by decide +kernel)
theorem se_Mo_come : (Cond.selects "RegularSolverModel" ({ cls := "RegularSolverModel", name := "come", desc := "(IJZ)I" } : MethodName) ({ cls := "RegularSolverModel", name := "come", desc := "(IJZ)I" } : MethodName)) ∈ gW := gs (by decide +kernel) (by decide +kernel)
theorem ml_Mo_117 : (Cond.methodLink "RegularSolverModel" 117 ({ cls := "RegularSolverModel", name := "step", desc := "(IJI)J" } : MethodName)) ∈ gW := gm 997 (by decide +kernel) (by decide +kernel)
theorem im_Mo_step : (Cond.instanceMethod ({ cls := "RegularSolverModel", name := "step", desc := "(IJI)J" } : MethodName)) ∈ gW := gm 999 (by decide +kernel) (by decide +kernel)
theorem se_Mo_step : (Cond.selects "RegularSolverModel" ({ cls := "RegularSolverModel", name := "step", desc := "(IJI)J" } : MethodName) ({ cls := "RegularSolverModel", name := "step", desc := "(IJI)J" } : MethodName)) ∈ gW := gs (by decide +kernel) (by decide +kernel)
section
variable {p : Program} {l : Launch} {e : Env} {R : Room} {s : State} {m : MethodId} {args : Array Value} {below : List Frame} {meth : Method} {c : Code} {H : Heap} {locs : List Loc} {cells slots : Nat} {Q : State → Prop} {A : Nat → Prop} {H0 : Heap}
variable {n : Nat} {D : va_G} {K : Nat → ClassId} {h : Nat} {a : Nat → Nat} {mErr : Int32} {mLanguages : Int32} {mBounds : Int32} {mSize : Nat → Int32} {mGoes : Nat → Int32} {mLast : Nat → Bool} {mLeft : Nat → Int32} {mNext : Nat → Int32} {mGroup : Nat → Int32} {mFresh : Nat → Int32} {mLeader : Nat → Int32} {mNumber : Nat → Int32} {mRight : Nat → Int64} {mEnds : Nat → Bool} {mWay : Int32} {mVariable : Nat → Int32} {mFactor : Nat → Int32} {mLeast : Nat → Int32} {mMost : Nat → Int32} {mLength : Nat → Int32} {mWord : Nat → Int64} {mKept : Bool} {mMany : Nat → Int64} {mMore : Nat → Int64} {mLeads : Nat → Int64} {mMet : Nat → Bool} {mTodo : Nat → Int32} {mMay : Nat → Bool} {mTries : Nat → Int32}
theorem pd_Mo_explored : y_Mo_explored.cls ≠ "java/lang/invoke/MethodHandle" ∧ y_Mo_explored.cls ≠ "java/lang/invoke/VarHandle" ∧ (parseMethodDescriptor y_Mo_explored.desc).map (fun d => d.parameters.length) = some 3 := by decide +kernel
def f_Mo_explored_59 (n : Nat) (v6 : Int32) (v1 : Int32) (v2 : Int32) (v3 : Int32) (mSize : Nat → Int32) (mGoes : Nat → Int32) (mLast : Nat → Bool) : Nat → Int32 → (Nat → Int32) → (Nat → Int32) → (Nat → Int64) → (Nat → Bool) → Int32 → Option ((Bool × (Nat → Int32) × (Nat → Int32) × (Nat → Int64) × (Nat → Bool) × Int32) ⊕ (Int32 × (Nat → Int32) × (Nat → Int32) × (Nat → Int64) × (Nat → Bool) × Int32))
  | 0, _, _, _, _, _, _ => none
  | k + 1, v7, mLeft, mNext, mRight, mEnds, mWay =>
    if 4 ≤ v7 then
      some (.inr (v7, mLeft, mNext, mRight, mEnds, mWay))
    else
      if v1 = 3 then
        if 2 ≤ v1 then
          if v1 = 2 then
            ogd (gin v6 800) <|
            (f_Mo_step n v3 (mRight v6.toNatClampNeg) v7 mSize mGoes).bind fun u170 =>
            (f_Mo_isLast n v2 0 mLast).bind fun u171 =>
            if u171 = true then
              (f_Mo_ends n v1 v2 v3 0 (u170 ||| 1) mSize mLast).bind fun u177 =>
              (f_Mo_come n 0 (u170 ||| 1) u177 mLeft mRight mEnds mWay).bind fun u178 =>
              if 0 ≤ u178.1 then
                ogd (gin ((4 * v6) + v7) 3200) <|
                f_Mo_explored_59 n v6 v1 v2 v3 mSize mGoes mLast k (v7 + 1) u178.2.1 (upd mNext ((4 * v6) + v7).toNatClampNeg u178.1) u178.2.2.1 u178.2.2.2.1 u178.2.2.2.2
              else
                some (.inl (false, u178.2.1, mNext, u178.2.2.1, u178.2.2.2.1, u178.2.2.2.2))
            else
              (f_Mo_ends n v1 v2 v3 0 (u170 ||| 0) mSize mLast).bind fun u173 =>
              (f_Mo_come n 0 (u170 ||| 0) u173 mLeft mRight mEnds mWay).bind fun u174 =>
              if 0 ≤ u174.1 then
                ogd (gin ((4 * v6) + v7) 3200) <|
                f_Mo_explored_59 n v6 v1 v2 v3 mSize mGoes mLast k (v7 + 1) u174.2.1 (upd mNext ((4 * v6) + v7).toNatClampNeg u174.1) u174.2.2.1 u174.2.2.2.1 u174.2.2.2.2
              else
                some (.inl (false, u174.2.1, mNext, u174.2.2.1, u174.2.2.2.1, u174.2.2.2.2))
          else
            ogd (gin v6 800) <|
            if (mRight v6.toNatClampNeg) = 0 then
              ogd (gin v6 800) <|
              (f_Mo_step n v2 ((mRight v6.toNatClampNeg) ||| 1) v7 mSize mGoes).bind fun u149 =>
              (f_Mo_ends n v1 v2 v3 0 u149 mSize mLast).bind fun u150 =>
              (f_Mo_come n 0 u149 u150 mLeft mRight mEnds mWay).bind fun u151 =>
              if 0 ≤ u151.1 then
                ogd (gin ((4 * v6) + v7) 3200) <|
                f_Mo_explored_59 n v6 v1 v2 v3 mSize mGoes mLast k (v7 + 1) u151.2.1 (upd mNext ((4 * v6) + v7).toNatClampNeg u151.1) u151.2.2.1 u151.2.2.2.1 u151.2.2.2.2
              else
                some (.inl (false, u151.2.1, mNext, u151.2.2.1, u151.2.2.2.1, u151.2.2.2.2))
            else
              ogd (gin v6 800) <|
              (f_Mo_hasLast n v2 (mRight v6.toNatClampNeg) mSize mLast).bind fun u155 =>
              if u155 = true then
                ogd (gin v6 800) <|
                (f_Mo_step n v2 ((mRight v6.toNatClampNeg) ||| 1) v7 mSize mGoes).bind fun u164 =>
                (f_Mo_ends n v1 v2 v3 0 u164 mSize mLast).bind fun u165 =>
                (f_Mo_come n 0 u164 u165 mLeft mRight mEnds mWay).bind fun u166 =>
                if 0 ≤ u166.1 then
                  ogd (gin ((4 * v6) + v7) 3200) <|
                  f_Mo_explored_59 n v6 v1 v2 v3 mSize mGoes mLast k (v7 + 1) u166.2.1 (upd mNext ((4 * v6) + v7).toNatClampNeg u166.1) u166.2.2.1 u166.2.2.2.1 u166.2.2.2.2
                else
                  some (.inl (false, u166.2.1, mNext, u166.2.2.1, u166.2.2.2.1, u166.2.2.2.2))
              else
                ogd (gin v6 800) <|
                (f_Mo_step n v2 (mRight v6.toNatClampNeg) v7 mSize mGoes).bind fun u158 =>
                (f_Mo_ends n v1 v2 v3 0 u158 mSize mLast).bind fun u159 =>
                (f_Mo_come n 0 u158 u159 mLeft mRight mEnds mWay).bind fun u160 =>
                if 0 ≤ u160.1 then
                  ogd (gin ((4 * v6) + v7) 3200) <|
                  f_Mo_explored_59 n v6 v1 v2 v3 mSize mGoes mLast k (v7 + 1) u160.2.1 (upd mNext ((4 * v6) + v7).toNatClampNeg u160.1) u160.2.2.1 u160.2.2.2.1 u160.2.2.2.2
                else
                  some (.inl (false, u160.2.1, mNext, u160.2.2.1, u160.2.2.2.1, u160.2.2.2.2))
        else
          ogd (gin v6 800) <|
          (f_Mo_go n v3 ((mRight v6.toNatClampNeg).toInt32) v7 mGoes).bind fun u182 =>
          (f_Mo_ends n v1 v2 v3 0 u182.toInt64 mSize mLast).bind fun u183 =>
          (f_Mo_come n 0 u182.toInt64 u183 mLeft mRight mEnds mWay).bind fun u184 =>
          if 0 ≤ u184.1 then
            ogd (gin ((4 * v6) + v7) 3200) <|
            f_Mo_explored_59 n v6 v1 v2 v3 mSize mGoes mLast k (v7 + 1) u184.2.1 (upd mNext ((4 * v6) + v7).toNatClampNeg u184.1) u184.2.2.1 u184.2.2.2.1 u184.2.2.2.2
          else
            some (.inl (false, u184.2.1, mNext, u184.2.2.1, u184.2.2.2.1, u184.2.2.2.2))
      else
        ogd (gin v6 800) <|
        (f_Mo_go n v2 (mLeft v6.toNatClampNeg) v7 mGoes).bind fun u100 =>
        if 2 ≤ v1 then
          if v1 = 2 then
            ogd (gin v6 800) <|
            (f_Mo_step n v3 (mRight v6.toNatClampNeg) v7 mSize mGoes).bind fun u127 =>
            (f_Mo_isLast n v2 u100 mLast).bind fun u128 =>
            if u128 = true then
              (f_Mo_ends n v1 v2 v3 u100 (u127 ||| 1) mSize mLast).bind fun u134 =>
              (f_Mo_come n u100 (u127 ||| 1) u134 mLeft mRight mEnds mWay).bind fun u135 =>
              if 0 ≤ u135.1 then
                ogd (gin ((4 * v6) + v7) 3200) <|
                f_Mo_explored_59 n v6 v1 v2 v3 mSize mGoes mLast k (v7 + 1) u135.2.1 (upd mNext ((4 * v6) + v7).toNatClampNeg u135.1) u135.2.2.1 u135.2.2.2.1 u135.2.2.2.2
              else
                some (.inl (false, u135.2.1, mNext, u135.2.2.1, u135.2.2.2.1, u135.2.2.2.2))
            else
              (f_Mo_ends n v1 v2 v3 u100 (u127 ||| 0) mSize mLast).bind fun u130 =>
              (f_Mo_come n u100 (u127 ||| 0) u130 mLeft mRight mEnds mWay).bind fun u131 =>
              if 0 ≤ u131.1 then
                ogd (gin ((4 * v6) + v7) 3200) <|
                f_Mo_explored_59 n v6 v1 v2 v3 mSize mGoes mLast k (v7 + 1) u131.2.1 (upd mNext ((4 * v6) + v7).toNatClampNeg u131.1) u131.2.2.1 u131.2.2.2.1 u131.2.2.2.2
              else
                some (.inl (false, u131.2.1, mNext, u131.2.2.1, u131.2.2.2.1, u131.2.2.2.2))
          else
            ogd (gin v6 800) <|
            if (mRight v6.toNatClampNeg) = 0 then
              ogd (gin v6 800) <|
              (f_Mo_step n v2 ((mRight v6.toNatClampNeg) ||| 1) v7 mSize mGoes).bind fun u106 =>
              (f_Mo_ends n v1 v2 v3 u100 u106 mSize mLast).bind fun u107 =>
              (f_Mo_come n u100 u106 u107 mLeft mRight mEnds mWay).bind fun u108 =>
              if 0 ≤ u108.1 then
                ogd (gin ((4 * v6) + v7) 3200) <|
                f_Mo_explored_59 n v6 v1 v2 v3 mSize mGoes mLast k (v7 + 1) u108.2.1 (upd mNext ((4 * v6) + v7).toNatClampNeg u108.1) u108.2.2.1 u108.2.2.2.1 u108.2.2.2.2
              else
                some (.inl (false, u108.2.1, mNext, u108.2.2.1, u108.2.2.2.1, u108.2.2.2.2))
            else
              ogd (gin v6 800) <|
              (f_Mo_hasLast n v2 (mRight v6.toNatClampNeg) mSize mLast).bind fun u112 =>
              if u112 = true then
                ogd (gin v6 800) <|
                (f_Mo_step n v2 ((mRight v6.toNatClampNeg) ||| 1) v7 mSize mGoes).bind fun u121 =>
                (f_Mo_ends n v1 v2 v3 u100 u121 mSize mLast).bind fun u122 =>
                (f_Mo_come n u100 u121 u122 mLeft mRight mEnds mWay).bind fun u123 =>
                if 0 ≤ u123.1 then
                  ogd (gin ((4 * v6) + v7) 3200) <|
                  f_Mo_explored_59 n v6 v1 v2 v3 mSize mGoes mLast k (v7 + 1) u123.2.1 (upd mNext ((4 * v6) + v7).toNatClampNeg u123.1) u123.2.2.1 u123.2.2.2.1 u123.2.2.2.2
                else
                  some (.inl (false, u123.2.1, mNext, u123.2.2.1, u123.2.2.2.1, u123.2.2.2.2))
              else
                ogd (gin v6 800) <|
                (f_Mo_step n v2 (mRight v6.toNatClampNeg) v7 mSize mGoes).bind fun u115 =>
                (f_Mo_ends n v1 v2 v3 u100 u115 mSize mLast).bind fun u116 =>
                (f_Mo_come n u100 u115 u116 mLeft mRight mEnds mWay).bind fun u117 =>
                if 0 ≤ u117.1 then
                  ogd (gin ((4 * v6) + v7) 3200) <|
                  f_Mo_explored_59 n v6 v1 v2 v3 mSize mGoes mLast k (v7 + 1) u117.2.1 (upd mNext ((4 * v6) + v7).toNatClampNeg u117.1) u117.2.2.1 u117.2.2.2.1 u117.2.2.2.2
                else
                  some (.inl (false, u117.2.1, mNext, u117.2.2.1, u117.2.2.2.1, u117.2.2.2.2))
        else
          ogd (gin v6 800) <|
          (f_Mo_go n v3 ((mRight v6.toNatClampNeg).toInt32) v7 mGoes).bind fun u139 =>
          (f_Mo_ends n v1 v2 v3 u100 u139.toInt64 mSize mLast).bind fun u140 =>
          (f_Mo_come n u100 u139.toInt64 u140 mLeft mRight mEnds mWay).bind fun u141 =>
          if 0 ≤ u141.1 then
            ogd (gin ((4 * v6) + v7) 3200) <|
            f_Mo_explored_59 n v6 v1 v2 v3 mSize mGoes mLast k (v7 + 1) u141.2.1 (upd mNext ((4 * v6) + v7).toNatClampNeg u141.1) u141.2.2.1 u141.2.2.2.1 u141.2.2.2.2
          else
            some (.inl (false, u141.2.1, mNext, u141.2.2.1, u141.2.2.2.1, u141.2.2.2.2))
set_option maxHeartbeats 4000000 in
set_option maxRecDepth 100000 in
theorem w_Mo_explored_59  {v6 : Int32} {v1 : Int32} {v2 : Int32} {v3 : Int32} (hx : p.tables.exec = Jvm.exec) (hb : c.code = b_Mo_explored) (hml : c.maxLocals = 13) (hts : ∀ w ∈ gW, w.before args s = true) (hown : s.vm.findClass "RegularSolverModel" = some m.cls) (hK : va_K D vwCl (tG K) s) (hRf : 3 ≤ R.frames) (hRl : 72 ≤ R.locals) (hRc : cells ≤ R.cells) (hRs : slots ≤ R.slots) (hA : ∀ q, H0.size ≤ q → A q)  {out : (Bool × (Nat → Int32) × (Nat → Int32) × (Nat → Int64) × (Nat → Bool) × Int32) ⊕ (Int32 × (Nat → Int32) × (Nat → Int32) × (Nat → Int64) × (Nat → Bool) × Int32)} (Kr : ∀ (r : Bool × (Nat → Int32) × (Nat → Int32) × (Nat → Int64) × (Nat → Bool) × Int32), out = .inl r → ∀ (pc : Nat) (ls : Array Slot) (H : Heap) (locs : List Loc), decode b_Mo_explored pc = .ok (.ireturn, 1) → va_P D vwCl (moW K h a mErr mLanguages mBounds mSize mGoes mLast r.2.1 r.2.2.1 mGroup mFresh mLeader mNumber r.2.2.2.1 r.2.2.2.2.1 r.2.2.2.2.2 mVariable mFactor mLeast mMost mLength mWord mKept mMany mMore mLeads mMet mTodo mMay mTries) H → va_D A (moW K h a mErr mLanguages mBounds mSize mGoes mLast r.2.1 r.2.2.1 mGroup mFresh mLeader mNumber r.2.2.2.1 r.2.2.2.2.1 r.2.2.2.2.2 mVariable mFactor mLeast mMost mLength mWord mKept mMany mMore mLeads mMet mTodo mMay mTries) → va_S A H0 H locs → W p l e R s m args below meth c H locs cells slots Q (F0 m pc ls [.int (bI r.1)])) (Kx : ∀ (u : Int32 × (Nat → Int32) × (Nat → Int32) × (Nat → Int64) × (Nat → Bool) × Int32), out = .inr u → ∀ (ls : Array Slot) (H : Heap) (locs : List Loc), va_P D vwCl (moW K h a mErr mLanguages mBounds mSize mGoes mLast u.2.1 u.2.2.1 mGroup mFresh mLeader mNumber u.2.2.2.1 u.2.2.2.2.1 u.2.2.2.2.2 mVariable mFactor mLeast mMost mLength mWord mKept mMany mMore mLeads mMet mTodo mMay mTries) H → va_D A (moW K h a mErr mLanguages mBounds mSize mGoes mLast u.2.1 u.2.2.1 mGroup mFresh mLeader mNumber u.2.2.2.1 u.2.2.2.2.1 u.2.2.2.2.2 mVariable mFactor mLeast mMost mLength mWord mKept mMany mMore mLeads mMet mTodo mMay mTries) → va_S A H0 H locs → lv_has ls 13 [(6, .int v6), (0, .ref h), (1, .int v1), (2, .int v2), (3, .int v3)] → W p l e R s m args below meth c H locs cells slots Q (F0 m 263 ls [])) :
    ∀ (k : Nat) (v7 : Int32) (mLeft : Nat → Int32) (mNext : Nat → Int32) (mRight : Nat → Int64) (mEnds : Nat → Bool) (mWay : Int32), f_Mo_explored_59 n v6 v1 v2 v3 mSize mGoes mLast k v7 mLeft mNext mRight mEnds mWay = some out → ∀ (ls : Array Slot) (H : Heap) (locs : List Loc), va_P D vwCl (moW K h a mErr mLanguages mBounds mSize mGoes mLast mLeft mNext mGroup mFresh mLeader mNumber mRight mEnds mWay mVariable mFactor mLeast mMost mLength mWord mKept mMany mMore mLeads mMet mTodo mMay mTries) H → va_D A (moW K h a mErr mLanguages mBounds mSize mGoes mLast mLeft mNext mGroup mFresh mLeader mNumber mRight mEnds mWay mVariable mFactor mLeast mMost mLength mWord mKept mMany mMore mLeads mMet mTodo mMay mTries) → va_S A H0 H locs → lv_has ls 13 [(7, .int v7), (6, .int v6), (0, .ref h), (1, .int v1), (2, .int v2), (3, .int v3)] → W p l e R s m args below meth c H locs cells slots Q (F0 m 59 ls []) := by
  intro k
  induction k with
  | zero => intro _ _ _ _ _ _ hf; exact nomatch (show none = some out from hf)
  | succ k ih =>
    intro v7 mLeft mNext mRight mEnds mWay hf ls H locs hP hD hS hl
    rw [f_Mo_explored_59] at hf
    refine lv_iload hx hb d_Mo_explored_59 (lv_at hl 0 rfl) ?_
    refine lv_iconst (v := 4) hx hb d_Mo_explored_61 (by decide) ?_
    refine lv_icmp_ge (tgt := 263) hx hb d_Mo_explored_62 (by decide) (fun c97 => ?_) (fun c97 => ?_)
    · rw [if_pos c97] at hf
      exact Kx _ (Option.some.inj hf).symm _ _ _ hP hD hS (show lv_has ls 13 [(6, .int v6), (0, .ref h), (1, .int v1), (2, .int v2), (3, .int v3)] from lv_sub hl [1, 2, 3, 4, 5] rfl)
    · rw [if_neg c97] at hf
      refine lv_iload_n hx hb d_Mo_explored_65 rfl (lv_at hl 3 rfl) ?_
      refine lv_iconst (v := 3) hx hb d_Mo_explored_66 (by decide) ?_
      refine lv_icmp_ne (tgt := 74) hx hb d_Mo_explored_67 (by decide) (fun c98 => ?_) (fun c98 => ?_)
      · rw [if_neg c98] at hf
        refine lv_aload_n hx hb d_Mo_explored_74 rfl (lv_at hl 2 rfl) ?_
        refine lv_iload_n hx hb d_Mo_explored_75 rfl (lv_at hl 4 rfl) ?_
        refine lv_aload_n hx hb d_Mo_explored_76 rfl (lv_at hl 2 rfl) ?_
        refine va_get (D := D) (ci := 0) (v := .ref (a 3)) (C := R_Mo) (T := T_Mo) (N := 29) hx hb hts in_Mo hown hK hP 0 rfl rfl 6 (by decide) (hts _ fl_Mo_20) (fun _ h9 => h9) rfl d_Mo_explored_77 ?_
        refine lv_iload hx hb d_Mo_explored_80 (lv_at hl 1 rfl) ?_
        obtain ⟨g99, hf⟩ := ogi hf
        refine va_iald hx hb hK hP 4 0 rfl rfl (gin_in g99) d_Mo_explored_82 ?_
        refine lv_iload hx hb d_Mo_explored_83 (lv_at hl 0 rfl) ?_
        obtain ⟨u100, eu100, hf⟩ := obd hf
        refine p_call (W.runV (As := [.int v2, .int (mLeft v6.toNatClampNeg), .int v7]) (rest := []) ⟨hx, hb, hml, hown, hts⟩ (c_Mo_go l eu100) (gV 3 hts cd_Mo_go ml_Mo_98 im_Mo_go se_Mo_go ini_Mo rfl rfl pd_Mo_go ⟨Nat.le_trans (Nat.le_of_ble_eq_true rfl) hRf, Nat.le_trans (Nat.le_of_ble_eq_true rfl) hRl⟩) ⟨pPre_blind, va_recv hK hP (ci := 0) (q0 := 0) rfl rfl, pPre_of hP hK⟩ rfl rfl hl.1 rfl (lv_room (Nat.le_of_ble_eq_true rfl)) d_Mo_explored_85 ⟨hRc, hRs⟩) ?_
        refine lv_istore (lv' := [(8, .int u100), (7, .int v7), (6, .int v6), (0, .ref h), (1, .int v1), (2, .int v2), (3, .int v3)]) hx hb d_Mo_explored_88 hl (by decide) rfl (fun ls hl => ?_)
        refine lv_iload_n hx hb d_Mo_explored_90 rfl (lv_at hl 4 rfl) ?_
        refine lv_iconst (v := 2) hx hb d_Mo_explored_91 (by decide) ?_
        refine lv_icmp_ge (tgt := 116) hx hb d_Mo_explored_92 (by decide) (fun c101 => ?_) (fun c101 => ?_)
        · rw [if_pos c101] at hf
          refine lv_iload_n hx hb d_Mo_explored_116 rfl (lv_at hl 4 rfl) ?_
          refine lv_iconst (v := 2) hx hb d_Mo_explored_117 (by decide) ?_
          refine lv_icmp_ne (tgt := 156) hx hb d_Mo_explored_118 (by decide) (fun c102 => ?_) (fun c102 => ?_)
          · rw [if_neg c102] at hf
            refine lv_aload_n hx hb d_Mo_explored_156 rfl (lv_at hl 3 rfl) ?_
            refine va_get (D := D) (ci := 0) (v := .ref (a 9)) (C := R_Mo) (T := T_Mo) (N := 29) hx hb hts in_Mo hown hK hP 0 rfl rfl 12 (by decide) (hts _ fl_Mo_38) (fun _ h9 => h9) rfl d_Mo_explored_157 ?_
            refine lv_iload hx hb d_Mo_explored_160 (lv_at hl 2 rfl) ?_
            obtain ⟨g103, hf⟩ := ogi hf
            refine va_lald hx hb hK hP 10 1 rfl rfl (gin_in g103) d_Mo_explored_162 ?_
            refine lv_lconst (v := 0) hx hb d_Mo_explored_163 (by decide) ?_
            refine W.lcmp hx hb d_Mo_explored_164 ?_
            refine lc_eq (tgt := 183) hx hb d_Mo_explored_165 (by decide) (fun c104 => ?_) (fun c104 => ?_)
            · rw [if_pos c104] at hf
              refine lv_aload_n hx hb d_Mo_explored_183 rfl (lv_at hl 3 rfl) ?_
              refine va_get (D := D) (ci := 0) (v := .ref (a 9)) (C := R_Mo) (T := T_Mo) (N := 29) hx hb hts in_Mo hown hK hP 0 rfl rfl 12 (by decide) (hts _ fl_Mo_38) (fun _ h9 => h9) rfl d_Mo_explored_184 ?_
              refine lv_iload hx hb d_Mo_explored_187 (lv_at hl 2 rfl) ?_
              obtain ⟨g105, hf⟩ := ogi hf
              refine va_lald hx hb hK hP 10 1 rfl rfl (gin_in g105) d_Mo_explored_189 ?_
              refine lv_lconst (v := 1) hx hb d_Mo_explored_190 (by decide) ?_
              refine lv_lor hx hb d_Mo_explored_191 ?_
              refine lv_goto (tgt := 202) hx hb d_Mo_explored_192 (by decide) ?_
              refine lv_lstore (lv' := [(11, .long ((mRight v6.toNatClampNeg) ||| 1)), (8, .int u100), (7, .int v7), (6, .int v6), (0, .ref h), (1, .int v1), (2, .int v2), (3, .int v3)]) hx hb d_Mo_explored_202 hl (by decide) rfl (fun ls hl => ?_)
              refine lv_aload_n hx hb d_Mo_explored_204 rfl (lv_at hl 4 rfl) ?_
              refine lv_iload_n hx hb d_Mo_explored_205 rfl (lv_at hl 6 rfl) ?_
              refine lv_lload hx hb d_Mo_explored_206 (lv_at hl 0 rfl) ?_
              refine lv_iload hx hb d_Mo_explored_208 (lv_at hl 2 rfl) ?_
              obtain ⟨u106, eu106, hf⟩ := obd hf
              refine p_call (W.runV (As := [.int v2, .long ((mRight v6.toNatClampNeg) ||| 1), .int v7]) (rest := []) ⟨hx, hb, hml, hown, hts⟩ (c_Mo_step l eu106) (gV 3 hts cd_Mo_step ml_Mo_117 im_Mo_step se_Mo_step ini_Mo rfl rfl pd_Mo_step ⟨Nat.le_trans (Nat.le_of_ble_eq_true rfl) hRf, Nat.le_trans (Nat.le_of_ble_eq_true rfl) hRl⟩) ⟨pPre_blind, va_recv hK hP (ci := 0) (q0 := 0) rfl rfl, pPre_of hP hK⟩ rfl rfl hl.1 rfl (lv_room (Nat.le_of_ble_eq_true rfl)) d_Mo_explored_210 ⟨hRc, hRs⟩) ?_
              refine lv_lstore (lv' := [(9, .long u106), (11, .long ((mRight v6.toNatClampNeg) ||| 1)), (8, .int u100), (7, .int v7), (6, .int v6), (0, .ref h), (1, .int v1), (2, .int v2), (3, .int v3)]) hx hb d_Mo_explored_213 hl (by decide) rfl (fun ls hl => ?_)
              refine lv_aload_n hx hb d_Mo_explored_215 rfl (lv_at hl 5 rfl) ?_
              refine lv_iload hx hb d_Mo_explored_216 (lv_at hl 2 rfl) ?_
              refine lv_lload hx hb d_Mo_explored_218 (lv_at hl 0 rfl) ?_
              refine lv_aload_n hx hb d_Mo_explored_220 rfl (lv_at hl 5 rfl) ?_
              refine lv_iload_n hx hb d_Mo_explored_221 rfl (lv_at hl 6 rfl) ?_
              refine lv_iload_n hx hb d_Mo_explored_222 rfl (lv_at hl 7 rfl) ?_
              refine lv_iload_n hx hb d_Mo_explored_223 rfl (lv_at hl 8 rfl) ?_
              refine lv_iload hx hb d_Mo_explored_224 (lv_at hl 2 rfl) ?_
              refine lv_lload hx hb d_Mo_explored_226 (lv_at hl 0 rfl) ?_
              obtain ⟨u107, eu107, hf⟩ := obd hf
              refine p_call (W.runV (As := [.int v1, .int v2, .int v3, .int u100, .long u106]) (rest := [.long u106, .int u100, .ref h]) ⟨hx, hb, hml, hown, hts⟩ (c_Mo_ends l eu107) (gV 5 hts cd_Mo_ends ml_Mo_110 im_Mo_ends se_Mo_ends ini_Mo rfl rfl pd_Mo_ends ⟨Nat.le_trans (Nat.le_of_ble_eq_true rfl) hRf, Nat.le_trans (Nat.le_of_ble_eq_true rfl) hRl⟩) ⟨pPre_blind, va_recv hK hP (ci := 0) (q0 := 0) rfl rfl, pPre_of hP hK⟩ rfl rfl hl.1 rfl (lv_room (Nat.le_of_ble_eq_true rfl)) d_Mo_explored_228 ⟨hRc, hRs⟩) ?_
              obtain ⟨u108, eu108, hf⟩ := obd hf
              refine w_call (va_runV (As := [.int u100, .long u106, .int (bI u107)]) (rest := []) ⟨hx, hb, hml, hown, hts⟩ (c_Mo_come l H.size eu108) (gV 3 hts cd_Mo_come ml_Mo_113 im_Mo_come se_Mo_come ini_Mo rfl rfl pd_Mo_come ⟨Nat.le_trans (Nat.le_of_ble_eq_true rfl) hRf, Nat.le_trans (Nat.le_of_ble_eq_true rfl) hRl⟩) ⟨wPre_blind, va_recv hK hP (ci := 0) (q0 := 0) rfl rfl, wPre_of hP hK hD⟩ rfl rfl hl.1 rfl (lv_room (Nat.le_of_ble_eq_true rfl)) d_Mo_explored_231 ⟨hRc, hRs⟩) hD hS hA (fun H locs hP hD hS => ?_)
              have hP : va_P D vwCl (moW K h a mErr mLanguages mBounds mSize mGoes mLast u108.2.1 mNext mGroup mFresh mLeader mNumber u108.2.2.1 u108.2.2.2.1 u108.2.2.2.2 mVariable mFactor mLeast mMost mLength mWord mKept mMany mMore mLeads mMet mTodo mMay mTries) H := hP
              have hD : va_D A (moW K h a mErr mLanguages mBounds mSize mGoes mLast u108.2.1 mNext mGroup mFresh mLeader mNumber u108.2.2.1 u108.2.2.2.1 u108.2.2.2.2 mVariable mFactor mLeast mMost mLength mWord mKept mMany mMore mLeads mMet mTodo mMay mTries) := hD
              refine lv_istore (lv' := [(11, .int u108.1), (9, .long u106), (8, .int u100), (7, .int v7), (6, .int v6), (0, .ref h), (1, .int v1), (2, .int v2), (3, .int v3)]) hx hb d_Mo_explored_234 hl (by decide) rfl (fun ls hl => ?_)
              refine lv_iload hx hb d_Mo_explored_236 (lv_at hl 0 rfl) ?_
              refine lv_if_ge (tgt := 243) hx hb d_Mo_explored_238 (by decide) (fun c109 => ?_) (fun c109 => ?_)
              · rw [if_pos c109] at hf
                refine lv_aload_n hx hb d_Mo_explored_243 rfl (lv_at hl 5 rfl) ?_
                refine va_get (D := D) (ci := 0) (v := .ref (a 4)) (C := R_Mo) (T := T_Mo) (N := 29) hx hb hts in_Mo hown hK hP 0 rfl rfl 7 (by decide) (hts _ fl_Mo_23) (fun _ h9 => h9) rfl d_Mo_explored_244 ?_
                refine lv_iconst (v := 4) hx hb d_Mo_explored_247 (by decide) ?_
                refine lv_iload hx hb d_Mo_explored_248 (lv_at hl 4 rfl) ?_
                refine lv_imul hx hb d_Mo_explored_250 ?_
                refine lv_iload hx hb d_Mo_explored_251 (lv_at hl 3 rfl) ?_
                refine lv_iadd hx hb d_Mo_explored_253 ?_
                refine lv_iload hx hb d_Mo_explored_254 (lv_at hl 0 rfl) ?_
                obtain ⟨g110, hf⟩ := ogi hf
                refine va_iast hx hb hK hP hD hS 5 0 rfl rfl (gin_in g110) d_Mo_explored_256 (fun H locs hP hD hS => ?_)
                have hP : va_P D vwCl (moW K h a mErr mLanguages mBounds mSize mGoes mLast u108.2.1 (upd mNext ((4 * v6) + v7).toNatClampNeg u108.1) mGroup mFresh mLeader mNumber u108.2.2.1 u108.2.2.2.1 u108.2.2.2.2 mVariable mFactor mLeast mMost mLength mWord mKept mMany mMore mLeads mMet mTodo mMay mTries) H := hP
                have hD : va_D A (moW K h a mErr mLanguages mBounds mSize mGoes mLast u108.2.1 (upd mNext ((4 * v6) + v7).toNatClampNeg u108.1) mGroup mFresh mLeader mNumber u108.2.2.1 u108.2.2.2.1 u108.2.2.2.2 mVariable mFactor mLeast mMost mLength mWord mKept mMany mMore mLeads mMet mTodo mMay mTries) := hD
                refine lv_iinc (v := v7 + 1) (lv' := [(7, .int (v7 + 1)), (11, .int u108.1), (9, .long u106), (8, .int u100), (6, .int v6), (0, .ref h), (1, .int v1), (2, .int v2), (3, .int v3)]) hx hb d_Mo_explored_257 hl (k := 3) rfl (by first | rfl | (congr 1)) (by decide) rfl (fun ls hl => ?_)
                refine lv_goto (tgt := 59) hx hb d_Mo_explored_260 (by decide) ?_
                exact ih _ _ _ _ _ _ hf _ _ _ hP hD hS (show lv_has ls 13 [(7, .int (v7 + 1)), (6, .int v6), (0, .ref h), (1, .int v1), (2, .int v2), (3, .int v3)] from lv_sub hl [0, 4, 5, 6, 7, 8] rfl)
              · rw [if_neg c109] at hf
                refine lv_iconst (v := 0) hx hb d_Mo_explored_241 (by decide) ?_
                exact Kr _ (Option.some.inj hf).symm _ _ _ _ d_Mo_explored_242 hP hD hS
            · rw [if_neg c104] at hf
              refine lv_aload_n hx hb d_Mo_explored_168 rfl (lv_at hl 3 rfl) ?_
              refine lv_iload_n hx hb d_Mo_explored_169 rfl (lv_at hl 5 rfl) ?_
              refine lv_aload_n hx hb d_Mo_explored_170 rfl (lv_at hl 3 rfl) ?_
              refine va_get (D := D) (ci := 0) (v := .ref (a 9)) (C := R_Mo) (T := T_Mo) (N := 29) hx hb hts in_Mo hown hK hP 0 rfl rfl 12 (by decide) (hts _ fl_Mo_38) (fun _ h9 => h9) rfl d_Mo_explored_171 ?_
              refine lv_iload hx hb d_Mo_explored_174 (lv_at hl 2 rfl) ?_
              obtain ⟨g111, hf⟩ := ogi hf
              refine va_lald hx hb hK hP 10 1 rfl rfl (gin_in g111) d_Mo_explored_176 ?_
              obtain ⟨u112, eu112, hf⟩ := obd hf
              refine p_call (W.runV (As := [.int v2, .long (mRight v6.toNatClampNeg)]) (rest := []) ⟨hx, hb, hml, hown, hts⟩ (c_Mo_hasLast l eu112) (gV 2 hts cd_Mo_hasLast ml_Mo_106 im_Mo_hasLast se_Mo_hasLast ini_Mo rfl rfl pd_Mo_hasLast ⟨Nat.le_trans (Nat.le_of_ble_eq_true rfl) hRf, Nat.le_trans (Nat.le_of_ble_eq_true rfl) hRl⟩) ⟨pPre_blind, va_recv hK hP (ci := 0) (q0 := 0) rfl rfl, pPre_of hP hK⟩ rfl rfl hl.1 rfl (lv_room (Nat.le_of_ble_eq_true rfl)) d_Mo_explored_177 ⟨hRc, hRs⟩) ?_
              refine bz_eq (tgt := 195) hx hb d_Mo_explored_180 (by decide) (fun c113 => ?_) (fun c113 => ?_)
              · rw [if_neg c113] at hf
                refine lv_aload_n hx hb d_Mo_explored_195 rfl (lv_at hl 3 rfl) ?_
                refine va_get (D := D) (ci := 0) (v := .ref (a 9)) (C := R_Mo) (T := T_Mo) (N := 29) hx hb hts in_Mo hown hK hP 0 rfl rfl 12 (by decide) (hts _ fl_Mo_38) (fun _ h9 => h9) rfl d_Mo_explored_196 ?_
                refine lv_iload hx hb d_Mo_explored_199 (lv_at hl 2 rfl) ?_
                obtain ⟨g114, hf⟩ := ogi hf
                refine va_lald hx hb hK hP 10 1 rfl rfl (gin_in g114) d_Mo_explored_201 ?_
                refine lv_lstore (lv' := [(11, .long (mRight v6.toNatClampNeg)), (8, .int u100), (7, .int v7), (6, .int v6), (0, .ref h), (1, .int v1), (2, .int v2), (3, .int v3)]) hx hb d_Mo_explored_202 hl (by decide) rfl (fun ls hl => ?_)
                refine lv_aload_n hx hb d_Mo_explored_204 rfl (lv_at hl 4 rfl) ?_
                refine lv_iload_n hx hb d_Mo_explored_205 rfl (lv_at hl 6 rfl) ?_
                refine lv_lload hx hb d_Mo_explored_206 (lv_at hl 0 rfl) ?_
                refine lv_iload hx hb d_Mo_explored_208 (lv_at hl 2 rfl) ?_
                obtain ⟨u115, eu115, hf⟩ := obd hf
                refine p_call (W.runV (As := [.int v2, .long (mRight v6.toNatClampNeg), .int v7]) (rest := []) ⟨hx, hb, hml, hown, hts⟩ (c_Mo_step l eu115) (gV 3 hts cd_Mo_step ml_Mo_117 im_Mo_step se_Mo_step ini_Mo rfl rfl pd_Mo_step ⟨Nat.le_trans (Nat.le_of_ble_eq_true rfl) hRf, Nat.le_trans (Nat.le_of_ble_eq_true rfl) hRl⟩) ⟨pPre_blind, va_recv hK hP (ci := 0) (q0 := 0) rfl rfl, pPre_of hP hK⟩ rfl rfl hl.1 rfl (lv_room (Nat.le_of_ble_eq_true rfl)) d_Mo_explored_210 ⟨hRc, hRs⟩) ?_
                refine lv_lstore (lv' := [(9, .long u115), (11, .long (mRight v6.toNatClampNeg)), (8, .int u100), (7, .int v7), (6, .int v6), (0, .ref h), (1, .int v1), (2, .int v2), (3, .int v3)]) hx hb d_Mo_explored_213 hl (by decide) rfl (fun ls hl => ?_)
                refine lv_aload_n hx hb d_Mo_explored_215 rfl (lv_at hl 5 rfl) ?_
                refine lv_iload hx hb d_Mo_explored_216 (lv_at hl 2 rfl) ?_
                refine lv_lload hx hb d_Mo_explored_218 (lv_at hl 0 rfl) ?_
                refine lv_aload_n hx hb d_Mo_explored_220 rfl (lv_at hl 5 rfl) ?_
                refine lv_iload_n hx hb d_Mo_explored_221 rfl (lv_at hl 6 rfl) ?_
                refine lv_iload_n hx hb d_Mo_explored_222 rfl (lv_at hl 7 rfl) ?_
                refine lv_iload_n hx hb d_Mo_explored_223 rfl (lv_at hl 8 rfl) ?_
                refine lv_iload hx hb d_Mo_explored_224 (lv_at hl 2 rfl) ?_
                refine lv_lload hx hb d_Mo_explored_226 (lv_at hl 0 rfl) ?_
                obtain ⟨u116, eu116, hf⟩ := obd hf
                refine p_call (W.runV (As := [.int v1, .int v2, .int v3, .int u100, .long u115]) (rest := [.long u115, .int u100, .ref h]) ⟨hx, hb, hml, hown, hts⟩ (c_Mo_ends l eu116) (gV 5 hts cd_Mo_ends ml_Mo_110 im_Mo_ends se_Mo_ends ini_Mo rfl rfl pd_Mo_ends ⟨Nat.le_trans (Nat.le_of_ble_eq_true rfl) hRf, Nat.le_trans (Nat.le_of_ble_eq_true rfl) hRl⟩) ⟨pPre_blind, va_recv hK hP (ci := 0) (q0 := 0) rfl rfl, pPre_of hP hK⟩ rfl rfl hl.1 rfl (lv_room (Nat.le_of_ble_eq_true rfl)) d_Mo_explored_228 ⟨hRc, hRs⟩) ?_
                obtain ⟨u117, eu117, hf⟩ := obd hf
                refine w_call (va_runV (As := [.int u100, .long u115, .int (bI u116)]) (rest := []) ⟨hx, hb, hml, hown, hts⟩ (c_Mo_come l H.size eu117) (gV 3 hts cd_Mo_come ml_Mo_113 im_Mo_come se_Mo_come ini_Mo rfl rfl pd_Mo_come ⟨Nat.le_trans (Nat.le_of_ble_eq_true rfl) hRf, Nat.le_trans (Nat.le_of_ble_eq_true rfl) hRl⟩) ⟨wPre_blind, va_recv hK hP (ci := 0) (q0 := 0) rfl rfl, wPre_of hP hK hD⟩ rfl rfl hl.1 rfl (lv_room (Nat.le_of_ble_eq_true rfl)) d_Mo_explored_231 ⟨hRc, hRs⟩) hD hS hA (fun H locs hP hD hS => ?_)
                have hP : va_P D vwCl (moW K h a mErr mLanguages mBounds mSize mGoes mLast u117.2.1 mNext mGroup mFresh mLeader mNumber u117.2.2.1 u117.2.2.2.1 u117.2.2.2.2 mVariable mFactor mLeast mMost mLength mWord mKept mMany mMore mLeads mMet mTodo mMay mTries) H := hP
                have hD : va_D A (moW K h a mErr mLanguages mBounds mSize mGoes mLast u117.2.1 mNext mGroup mFresh mLeader mNumber u117.2.2.1 u117.2.2.2.1 u117.2.2.2.2 mVariable mFactor mLeast mMost mLength mWord mKept mMany mMore mLeads mMet mTodo mMay mTries) := hD
                refine lv_istore (lv' := [(11, .int u117.1), (9, .long u115), (8, .int u100), (7, .int v7), (6, .int v6), (0, .ref h), (1, .int v1), (2, .int v2), (3, .int v3)]) hx hb d_Mo_explored_234 hl (by decide) rfl (fun ls hl => ?_)
                refine lv_iload hx hb d_Mo_explored_236 (lv_at hl 0 rfl) ?_
                refine lv_if_ge (tgt := 243) hx hb d_Mo_explored_238 (by decide) (fun c118 => ?_) (fun c118 => ?_)
                · rw [if_pos c118] at hf
                  refine lv_aload_n hx hb d_Mo_explored_243 rfl (lv_at hl 5 rfl) ?_
                  refine va_get (D := D) (ci := 0) (v := .ref (a 4)) (C := R_Mo) (T := T_Mo) (N := 29) hx hb hts in_Mo hown hK hP 0 rfl rfl 7 (by decide) (hts _ fl_Mo_23) (fun _ h9 => h9) rfl d_Mo_explored_244 ?_
                  refine lv_iconst (v := 4) hx hb d_Mo_explored_247 (by decide) ?_
                  refine lv_iload hx hb d_Mo_explored_248 (lv_at hl 4 rfl) ?_
                  refine lv_imul hx hb d_Mo_explored_250 ?_
                  refine lv_iload hx hb d_Mo_explored_251 (lv_at hl 3 rfl) ?_
                  refine lv_iadd hx hb d_Mo_explored_253 ?_
                  refine lv_iload hx hb d_Mo_explored_254 (lv_at hl 0 rfl) ?_
                  obtain ⟨g119, hf⟩ := ogi hf
                  refine va_iast hx hb hK hP hD hS 5 0 rfl rfl (gin_in g119) d_Mo_explored_256 (fun H locs hP hD hS => ?_)
                  have hP : va_P D vwCl (moW K h a mErr mLanguages mBounds mSize mGoes mLast u117.2.1 (upd mNext ((4 * v6) + v7).toNatClampNeg u117.1) mGroup mFresh mLeader mNumber u117.2.2.1 u117.2.2.2.1 u117.2.2.2.2 mVariable mFactor mLeast mMost mLength mWord mKept mMany mMore mLeads mMet mTodo mMay mTries) H := hP
                  have hD : va_D A (moW K h a mErr mLanguages mBounds mSize mGoes mLast u117.2.1 (upd mNext ((4 * v6) + v7).toNatClampNeg u117.1) mGroup mFresh mLeader mNumber u117.2.2.1 u117.2.2.2.1 u117.2.2.2.2 mVariable mFactor mLeast mMost mLength mWord mKept mMany mMore mLeads mMet mTodo mMay mTries) := hD
                  refine lv_iinc (v := v7 + 1) (lv' := [(7, .int (v7 + 1)), (11, .int u117.1), (9, .long u115), (8, .int u100), (6, .int v6), (0, .ref h), (1, .int v1), (2, .int v2), (3, .int v3)]) hx hb d_Mo_explored_257 hl (k := 3) rfl (by first | rfl | (congr 1)) (by decide) rfl (fun ls hl => ?_)
                  refine lv_goto (tgt := 59) hx hb d_Mo_explored_260 (by decide) ?_
                  exact ih _ _ _ _ _ _ hf _ _ _ hP hD hS (show lv_has ls 13 [(7, .int (v7 + 1)), (6, .int v6), (0, .ref h), (1, .int v1), (2, .int v2), (3, .int v3)] from lv_sub hl [0, 4, 5, 6, 7, 8] rfl)
                · rw [if_neg c118] at hf
                  refine lv_iconst (v := 0) hx hb d_Mo_explored_241 (by decide) ?_
                  exact Kr _ (Option.some.inj hf).symm _ _ _ _ d_Mo_explored_242 hP hD hS
              · rw [if_pos c113] at hf
                refine lv_aload_n hx hb d_Mo_explored_183 rfl (lv_at hl 3 rfl) ?_
                refine va_get (D := D) (ci := 0) (v := .ref (a 9)) (C := R_Mo) (T := T_Mo) (N := 29) hx hb hts in_Mo hown hK hP 0 rfl rfl 12 (by decide) (hts _ fl_Mo_38) (fun _ h9 => h9) rfl d_Mo_explored_184 ?_
                refine lv_iload hx hb d_Mo_explored_187 (lv_at hl 2 rfl) ?_
                obtain ⟨g120, hf⟩ := ogi hf
                refine va_lald hx hb hK hP 10 1 rfl rfl (gin_in g120) d_Mo_explored_189 ?_
                refine lv_lconst (v := 1) hx hb d_Mo_explored_190 (by decide) ?_
                refine lv_lor hx hb d_Mo_explored_191 ?_
                refine lv_goto (tgt := 202) hx hb d_Mo_explored_192 (by decide) ?_
                refine lv_lstore (lv' := [(11, .long ((mRight v6.toNatClampNeg) ||| 1)), (8, .int u100), (7, .int v7), (6, .int v6), (0, .ref h), (1, .int v1), (2, .int v2), (3, .int v3)]) hx hb d_Mo_explored_202 hl (by decide) rfl (fun ls hl => ?_)
                refine lv_aload_n hx hb d_Mo_explored_204 rfl (lv_at hl 4 rfl) ?_
                refine lv_iload_n hx hb d_Mo_explored_205 rfl (lv_at hl 6 rfl) ?_
                refine lv_lload hx hb d_Mo_explored_206 (lv_at hl 0 rfl) ?_
                refine lv_iload hx hb d_Mo_explored_208 (lv_at hl 2 rfl) ?_
                obtain ⟨u121, eu121, hf⟩ := obd hf
                refine p_call (W.runV (As := [.int v2, .long ((mRight v6.toNatClampNeg) ||| 1), .int v7]) (rest := []) ⟨hx, hb, hml, hown, hts⟩ (c_Mo_step l eu121) (gV 3 hts cd_Mo_step ml_Mo_117 im_Mo_step se_Mo_step ini_Mo rfl rfl pd_Mo_step ⟨Nat.le_trans (Nat.le_of_ble_eq_true rfl) hRf, Nat.le_trans (Nat.le_of_ble_eq_true rfl) hRl⟩) ⟨pPre_blind, va_recv hK hP (ci := 0) (q0 := 0) rfl rfl, pPre_of hP hK⟩ rfl rfl hl.1 rfl (lv_room (Nat.le_of_ble_eq_true rfl)) d_Mo_explored_210 ⟨hRc, hRs⟩) ?_
                refine lv_lstore (lv' := [(9, .long u121), (11, .long ((mRight v6.toNatClampNeg) ||| 1)), (8, .int u100), (7, .int v7), (6, .int v6), (0, .ref h), (1, .int v1), (2, .int v2), (3, .int v3)]) hx hb d_Mo_explored_213 hl (by decide) rfl (fun ls hl => ?_)
                refine lv_aload_n hx hb d_Mo_explored_215 rfl (lv_at hl 5 rfl) ?_
                refine lv_iload hx hb d_Mo_explored_216 (lv_at hl 2 rfl) ?_
                refine lv_lload hx hb d_Mo_explored_218 (lv_at hl 0 rfl) ?_
                refine lv_aload_n hx hb d_Mo_explored_220 rfl (lv_at hl 5 rfl) ?_
                refine lv_iload_n hx hb d_Mo_explored_221 rfl (lv_at hl 6 rfl) ?_
                refine lv_iload_n hx hb d_Mo_explored_222 rfl (lv_at hl 7 rfl) ?_
                refine lv_iload_n hx hb d_Mo_explored_223 rfl (lv_at hl 8 rfl) ?_
                refine lv_iload hx hb d_Mo_explored_224 (lv_at hl 2 rfl) ?_
                refine lv_lload hx hb d_Mo_explored_226 (lv_at hl 0 rfl) ?_
                obtain ⟨u122, eu122, hf⟩ := obd hf
                refine p_call (W.runV (As := [.int v1, .int v2, .int v3, .int u100, .long u121]) (rest := [.long u121, .int u100, .ref h]) ⟨hx, hb, hml, hown, hts⟩ (c_Mo_ends l eu122) (gV 5 hts cd_Mo_ends ml_Mo_110 im_Mo_ends se_Mo_ends ini_Mo rfl rfl pd_Mo_ends ⟨Nat.le_trans (Nat.le_of_ble_eq_true rfl) hRf, Nat.le_trans (Nat.le_of_ble_eq_true rfl) hRl⟩) ⟨pPre_blind, va_recv hK hP (ci := 0) (q0 := 0) rfl rfl, pPre_of hP hK⟩ rfl rfl hl.1 rfl (lv_room (Nat.le_of_ble_eq_true rfl)) d_Mo_explored_228 ⟨hRc, hRs⟩) ?_
                obtain ⟨u123, eu123, hf⟩ := obd hf
                refine w_call (va_runV (As := [.int u100, .long u121, .int (bI u122)]) (rest := []) ⟨hx, hb, hml, hown, hts⟩ (c_Mo_come l H.size eu123) (gV 3 hts cd_Mo_come ml_Mo_113 im_Mo_come se_Mo_come ini_Mo rfl rfl pd_Mo_come ⟨Nat.le_trans (Nat.le_of_ble_eq_true rfl) hRf, Nat.le_trans (Nat.le_of_ble_eq_true rfl) hRl⟩) ⟨wPre_blind, va_recv hK hP (ci := 0) (q0 := 0) rfl rfl, wPre_of hP hK hD⟩ rfl rfl hl.1 rfl (lv_room (Nat.le_of_ble_eq_true rfl)) d_Mo_explored_231 ⟨hRc, hRs⟩) hD hS hA (fun H locs hP hD hS => ?_)
                have hP : va_P D vwCl (moW K h a mErr mLanguages mBounds mSize mGoes mLast u123.2.1 mNext mGroup mFresh mLeader mNumber u123.2.2.1 u123.2.2.2.1 u123.2.2.2.2 mVariable mFactor mLeast mMost mLength mWord mKept mMany mMore mLeads mMet mTodo mMay mTries) H := hP
                have hD : va_D A (moW K h a mErr mLanguages mBounds mSize mGoes mLast u123.2.1 mNext mGroup mFresh mLeader mNumber u123.2.2.1 u123.2.2.2.1 u123.2.2.2.2 mVariable mFactor mLeast mMost mLength mWord mKept mMany mMore mLeads mMet mTodo mMay mTries) := hD
                refine lv_istore (lv' := [(11, .int u123.1), (9, .long u121), (8, .int u100), (7, .int v7), (6, .int v6), (0, .ref h), (1, .int v1), (2, .int v2), (3, .int v3)]) hx hb d_Mo_explored_234 hl (by decide) rfl (fun ls hl => ?_)
                refine lv_iload hx hb d_Mo_explored_236 (lv_at hl 0 rfl) ?_
                refine lv_if_ge (tgt := 243) hx hb d_Mo_explored_238 (by decide) (fun c124 => ?_) (fun c124 => ?_)
                · rw [if_pos c124] at hf
                  refine lv_aload_n hx hb d_Mo_explored_243 rfl (lv_at hl 5 rfl) ?_
                  refine va_get (D := D) (ci := 0) (v := .ref (a 4)) (C := R_Mo) (T := T_Mo) (N := 29) hx hb hts in_Mo hown hK hP 0 rfl rfl 7 (by decide) (hts _ fl_Mo_23) (fun _ h9 => h9) rfl d_Mo_explored_244 ?_
                  refine lv_iconst (v := 4) hx hb d_Mo_explored_247 (by decide) ?_
                  refine lv_iload hx hb d_Mo_explored_248 (lv_at hl 4 rfl) ?_
                  refine lv_imul hx hb d_Mo_explored_250 ?_
                  refine lv_iload hx hb d_Mo_explored_251 (lv_at hl 3 rfl) ?_
                  refine lv_iadd hx hb d_Mo_explored_253 ?_
                  refine lv_iload hx hb d_Mo_explored_254 (lv_at hl 0 rfl) ?_
                  obtain ⟨g125, hf⟩ := ogi hf
                  refine va_iast hx hb hK hP hD hS 5 0 rfl rfl (gin_in g125) d_Mo_explored_256 (fun H locs hP hD hS => ?_)
                  have hP : va_P D vwCl (moW K h a mErr mLanguages mBounds mSize mGoes mLast u123.2.1 (upd mNext ((4 * v6) + v7).toNatClampNeg u123.1) mGroup mFresh mLeader mNumber u123.2.2.1 u123.2.2.2.1 u123.2.2.2.2 mVariable mFactor mLeast mMost mLength mWord mKept mMany mMore mLeads mMet mTodo mMay mTries) H := hP
                  have hD : va_D A (moW K h a mErr mLanguages mBounds mSize mGoes mLast u123.2.1 (upd mNext ((4 * v6) + v7).toNatClampNeg u123.1) mGroup mFresh mLeader mNumber u123.2.2.1 u123.2.2.2.1 u123.2.2.2.2 mVariable mFactor mLeast mMost mLength mWord mKept mMany mMore mLeads mMet mTodo mMay mTries) := hD
                  refine lv_iinc (v := v7 + 1) (lv' := [(7, .int (v7 + 1)), (11, .int u123.1), (9, .long u121), (8, .int u100), (6, .int v6), (0, .ref h), (1, .int v1), (2, .int v2), (3, .int v3)]) hx hb d_Mo_explored_257 hl (k := 3) rfl (by first | rfl | (congr 1)) (by decide) rfl (fun ls hl => ?_)
                  refine lv_goto (tgt := 59) hx hb d_Mo_explored_260 (by decide) ?_
                  exact ih _ _ _ _ _ _ hf _ _ _ hP hD hS (show lv_has ls 13 [(7, .int (v7 + 1)), (6, .int v6), (0, .ref h), (1, .int v1), (2, .int v2), (3, .int v3)] from lv_sub hl [0, 4, 5, 6, 7, 8] rfl)
                · rw [if_neg c124] at hf
                  refine lv_iconst (v := 0) hx hb d_Mo_explored_241 (by decide) ?_
                  exact Kr _ (Option.some.inj hf).symm _ _ _ _ d_Mo_explored_242 hP hD hS
          · rw [if_pos c102] at hf
            refine lv_aload_n hx hb d_Mo_explored_121 rfl (lv_at hl 3 rfl) ?_
            refine lv_iload_n hx hb d_Mo_explored_122 rfl (lv_at hl 6 rfl) ?_
            refine lv_aload_n hx hb d_Mo_explored_123 rfl (lv_at hl 3 rfl) ?_
            refine va_get (D := D) (ci := 0) (v := .ref (a 9)) (C := R_Mo) (T := T_Mo) (N := 29) hx hb hts in_Mo hown hK hP 0 rfl rfl 12 (by decide) (hts _ fl_Mo_38) (fun _ h9 => h9) rfl d_Mo_explored_124 ?_
            refine lv_iload hx hb d_Mo_explored_127 (lv_at hl 2 rfl) ?_
            obtain ⟨g126, hf⟩ := ogi hf
            refine va_lald hx hb hK hP 10 1 rfl rfl (gin_in g126) d_Mo_explored_129 ?_
            refine lv_iload hx hb d_Mo_explored_130 (lv_at hl 1 rfl) ?_
            obtain ⟨u127, eu127, hf⟩ := obd hf
            refine p_call (W.runV (As := [.int v3, .long (mRight v6.toNatClampNeg), .int v7]) (rest := []) ⟨hx, hb, hml, hown, hts⟩ (c_Mo_step l eu127) (gV 3 hts cd_Mo_step ml_Mo_117 im_Mo_step se_Mo_step ini_Mo rfl rfl pd_Mo_step ⟨Nat.le_trans (Nat.le_of_ble_eq_true rfl) hRf, Nat.le_trans (Nat.le_of_ble_eq_true rfl) hRl⟩) ⟨pPre_blind, va_recv hK hP (ci := 0) (q0 := 0) rfl rfl, pPre_of hP hK⟩ rfl rfl hl.1 rfl (lv_room (Nat.le_of_ble_eq_true rfl)) d_Mo_explored_132 ⟨hRc, hRs⟩) ?_
            refine lv_aload_n hx hb d_Mo_explored_135 rfl (lv_at hl 3 rfl) ?_
            refine lv_iload_n hx hb d_Mo_explored_136 rfl (lv_at hl 5 rfl) ?_
            refine lv_iload hx hb d_Mo_explored_137 (lv_at hl 0 rfl) ?_
            obtain ⟨u128, eu128, hf⟩ := obd hf
            refine p_call (W.runV (As := [.int v2, .int u100]) (rest := [.long u127]) ⟨hx, hb, hml, hown, hts⟩ (c_Mo_isLast l eu128) (gV 2 hts cd_Mo_isLast ml_Mo_102 im_Mo_isLast se_Mo_isLast ini_Mo rfl rfl pd_Mo_isLast ⟨Nat.le_trans (Nat.le_of_ble_eq_true rfl) hRf, Nat.le_trans (Nat.le_of_ble_eq_true rfl) hRl⟩) ⟨pPre_blind, va_recv hK hP (ci := 0) (q0 := 0) rfl rfl, pPre_of hP hK⟩ rfl rfl hl.1 rfl (lv_room (Nat.le_of_ble_eq_true rfl)) d_Mo_explored_139 ⟨hRc, hRs⟩) ?_
            refine bz_eq (tgt := 149) hx hb d_Mo_explored_142 (by decide) (fun c129 => ?_) (fun c129 => ?_)
            · rw [if_neg c129] at hf
              refine lv_lconst (v := 0) hx hb d_Mo_explored_149 (by decide) ?_
              refine lv_lor hx hb d_Mo_explored_150 ?_
              refine lv_lstore (lv' := [(9, .long (u127 ||| 0)), (8, .int u100), (7, .int v7), (6, .int v6), (0, .ref h), (1, .int v1), (2, .int v2), (3, .int v3)]) hx hb d_Mo_explored_151 hl (by decide) rfl (fun ls hl => ?_)
              refine lv_goto (tgt := 215) hx hb d_Mo_explored_153 (by decide) ?_
              refine lv_aload_n hx hb d_Mo_explored_215 rfl (lv_at hl 4 rfl) ?_
              refine lv_iload hx hb d_Mo_explored_216 (lv_at hl 1 rfl) ?_
              refine lv_lload hx hb d_Mo_explored_218 (lv_at hl 0 rfl) ?_
              refine lv_aload_n hx hb d_Mo_explored_220 rfl (lv_at hl 4 rfl) ?_
              refine lv_iload_n hx hb d_Mo_explored_221 rfl (lv_at hl 5 rfl) ?_
              refine lv_iload_n hx hb d_Mo_explored_222 rfl (lv_at hl 6 rfl) ?_
              refine lv_iload_n hx hb d_Mo_explored_223 rfl (lv_at hl 7 rfl) ?_
              refine lv_iload hx hb d_Mo_explored_224 (lv_at hl 1 rfl) ?_
              refine lv_lload hx hb d_Mo_explored_226 (lv_at hl 0 rfl) ?_
              obtain ⟨u130, eu130, hf⟩ := obd hf
              refine p_call (W.runV (As := [.int v1, .int v2, .int v3, .int u100, .long (u127 ||| 0)]) (rest := [.long (u127 ||| 0), .int u100, .ref h]) ⟨hx, hb, hml, hown, hts⟩ (c_Mo_ends l eu130) (gV 5 hts cd_Mo_ends ml_Mo_110 im_Mo_ends se_Mo_ends ini_Mo rfl rfl pd_Mo_ends ⟨Nat.le_trans (Nat.le_of_ble_eq_true rfl) hRf, Nat.le_trans (Nat.le_of_ble_eq_true rfl) hRl⟩) ⟨pPre_blind, va_recv hK hP (ci := 0) (q0 := 0) rfl rfl, pPre_of hP hK⟩ rfl rfl hl.1 rfl (lv_room (Nat.le_of_ble_eq_true rfl)) d_Mo_explored_228 ⟨hRc, hRs⟩) ?_
              obtain ⟨u131, eu131, hf⟩ := obd hf
              refine w_call (va_runV (As := [.int u100, .long (u127 ||| 0), .int (bI u130)]) (rest := []) ⟨hx, hb, hml, hown, hts⟩ (c_Mo_come l H.size eu131) (gV 3 hts cd_Mo_come ml_Mo_113 im_Mo_come se_Mo_come ini_Mo rfl rfl pd_Mo_come ⟨Nat.le_trans (Nat.le_of_ble_eq_true rfl) hRf, Nat.le_trans (Nat.le_of_ble_eq_true rfl) hRl⟩) ⟨wPre_blind, va_recv hK hP (ci := 0) (q0 := 0) rfl rfl, wPre_of hP hK hD⟩ rfl rfl hl.1 rfl (lv_room (Nat.le_of_ble_eq_true rfl)) d_Mo_explored_231 ⟨hRc, hRs⟩) hD hS hA (fun H locs hP hD hS => ?_)
              have hP : va_P D vwCl (moW K h a mErr mLanguages mBounds mSize mGoes mLast u131.2.1 mNext mGroup mFresh mLeader mNumber u131.2.2.1 u131.2.2.2.1 u131.2.2.2.2 mVariable mFactor mLeast mMost mLength mWord mKept mMany mMore mLeads mMet mTodo mMay mTries) H := hP
              have hD : va_D A (moW K h a mErr mLanguages mBounds mSize mGoes mLast u131.2.1 mNext mGroup mFresh mLeader mNumber u131.2.2.1 u131.2.2.2.1 u131.2.2.2.2 mVariable mFactor mLeast mMost mLength mWord mKept mMany mMore mLeads mMet mTodo mMay mTries) := hD
              refine lv_istore (lv' := [(11, .int u131.1), (9, .long (u127 ||| 0)), (8, .int u100), (7, .int v7), (6, .int v6), (0, .ref h), (1, .int v1), (2, .int v2), (3, .int v3)]) hx hb d_Mo_explored_234 hl (by decide) rfl (fun ls hl => ?_)
              refine lv_iload hx hb d_Mo_explored_236 (lv_at hl 0 rfl) ?_
              refine lv_if_ge (tgt := 243) hx hb d_Mo_explored_238 (by decide) (fun c132 => ?_) (fun c132 => ?_)
              · rw [if_pos c132] at hf
                refine lv_aload_n hx hb d_Mo_explored_243 rfl (lv_at hl 5 rfl) ?_
                refine va_get (D := D) (ci := 0) (v := .ref (a 4)) (C := R_Mo) (T := T_Mo) (N := 29) hx hb hts in_Mo hown hK hP 0 rfl rfl 7 (by decide) (hts _ fl_Mo_23) (fun _ h9 => h9) rfl d_Mo_explored_244 ?_
                refine lv_iconst (v := 4) hx hb d_Mo_explored_247 (by decide) ?_
                refine lv_iload hx hb d_Mo_explored_248 (lv_at hl 4 rfl) ?_
                refine lv_imul hx hb d_Mo_explored_250 ?_
                refine lv_iload hx hb d_Mo_explored_251 (lv_at hl 3 rfl) ?_
                refine lv_iadd hx hb d_Mo_explored_253 ?_
                refine lv_iload hx hb d_Mo_explored_254 (lv_at hl 0 rfl) ?_
                obtain ⟨g133, hf⟩ := ogi hf
                refine va_iast hx hb hK hP hD hS 5 0 rfl rfl (gin_in g133) d_Mo_explored_256 (fun H locs hP hD hS => ?_)
                have hP : va_P D vwCl (moW K h a mErr mLanguages mBounds mSize mGoes mLast u131.2.1 (upd mNext ((4 * v6) + v7).toNatClampNeg u131.1) mGroup mFresh mLeader mNumber u131.2.2.1 u131.2.2.2.1 u131.2.2.2.2 mVariable mFactor mLeast mMost mLength mWord mKept mMany mMore mLeads mMet mTodo mMay mTries) H := hP
                have hD : va_D A (moW K h a mErr mLanguages mBounds mSize mGoes mLast u131.2.1 (upd mNext ((4 * v6) + v7).toNatClampNeg u131.1) mGroup mFresh mLeader mNumber u131.2.2.1 u131.2.2.2.1 u131.2.2.2.2 mVariable mFactor mLeast mMost mLength mWord mKept mMany mMore mLeads mMet mTodo mMay mTries) := hD
                refine lv_iinc (v := v7 + 1) (lv' := [(7, .int (v7 + 1)), (11, .int u131.1), (9, .long (u127 ||| 0)), (8, .int u100), (6, .int v6), (0, .ref h), (1, .int v1), (2, .int v2), (3, .int v3)]) hx hb d_Mo_explored_257 hl (k := 3) rfl (by first | rfl | (congr 1)) (by decide) rfl (fun ls hl => ?_)
                refine lv_goto (tgt := 59) hx hb d_Mo_explored_260 (by decide) ?_
                exact ih _ _ _ _ _ _ hf _ _ _ hP hD hS (show lv_has ls 13 [(7, .int (v7 + 1)), (6, .int v6), (0, .ref h), (1, .int v1), (2, .int v2), (3, .int v3)] from lv_sub hl [0, 4, 5, 6, 7, 8] rfl)
              · rw [if_neg c132] at hf
                refine lv_iconst (v := 0) hx hb d_Mo_explored_241 (by decide) ?_
                exact Kr _ (Option.some.inj hf).symm _ _ _ _ d_Mo_explored_242 hP hD hS
            · rw [if_pos c129] at hf
              refine lv_lconst (v := 1) hx hb d_Mo_explored_145 (by decide) ?_
              refine lv_goto (tgt := 150) hx hb d_Mo_explored_146 (by decide) ?_
              refine lv_lor hx hb d_Mo_explored_150 ?_
              refine lv_lstore (lv' := [(9, .long (u127 ||| 1)), (8, .int u100), (7, .int v7), (6, .int v6), (0, .ref h), (1, .int v1), (2, .int v2), (3, .int v3)]) hx hb d_Mo_explored_151 hl (by decide) rfl (fun ls hl => ?_)
              refine lv_goto (tgt := 215) hx hb d_Mo_explored_153 (by decide) ?_
              refine lv_aload_n hx hb d_Mo_explored_215 rfl (lv_at hl 4 rfl) ?_
              refine lv_iload hx hb d_Mo_explored_216 (lv_at hl 1 rfl) ?_
              refine lv_lload hx hb d_Mo_explored_218 (lv_at hl 0 rfl) ?_
              refine lv_aload_n hx hb d_Mo_explored_220 rfl (lv_at hl 4 rfl) ?_
              refine lv_iload_n hx hb d_Mo_explored_221 rfl (lv_at hl 5 rfl) ?_
              refine lv_iload_n hx hb d_Mo_explored_222 rfl (lv_at hl 6 rfl) ?_
              refine lv_iload_n hx hb d_Mo_explored_223 rfl (lv_at hl 7 rfl) ?_
              refine lv_iload hx hb d_Mo_explored_224 (lv_at hl 1 rfl) ?_
              refine lv_lload hx hb d_Mo_explored_226 (lv_at hl 0 rfl) ?_
              obtain ⟨u134, eu134, hf⟩ := obd hf
              refine p_call (W.runV (As := [.int v1, .int v2, .int v3, .int u100, .long (u127 ||| 1)]) (rest := [.long (u127 ||| 1), .int u100, .ref h]) ⟨hx, hb, hml, hown, hts⟩ (c_Mo_ends l eu134) (gV 5 hts cd_Mo_ends ml_Mo_110 im_Mo_ends se_Mo_ends ini_Mo rfl rfl pd_Mo_ends ⟨Nat.le_trans (Nat.le_of_ble_eq_true rfl) hRf, Nat.le_trans (Nat.le_of_ble_eq_true rfl) hRl⟩) ⟨pPre_blind, va_recv hK hP (ci := 0) (q0 := 0) rfl rfl, pPre_of hP hK⟩ rfl rfl hl.1 rfl (lv_room (Nat.le_of_ble_eq_true rfl)) d_Mo_explored_228 ⟨hRc, hRs⟩) ?_
              obtain ⟨u135, eu135, hf⟩ := obd hf
              refine w_call (va_runV (As := [.int u100, .long (u127 ||| 1), .int (bI u134)]) (rest := []) ⟨hx, hb, hml, hown, hts⟩ (c_Mo_come l H.size eu135) (gV 3 hts cd_Mo_come ml_Mo_113 im_Mo_come se_Mo_come ini_Mo rfl rfl pd_Mo_come ⟨Nat.le_trans (Nat.le_of_ble_eq_true rfl) hRf, Nat.le_trans (Nat.le_of_ble_eq_true rfl) hRl⟩) ⟨wPre_blind, va_recv hK hP (ci := 0) (q0 := 0) rfl rfl, wPre_of hP hK hD⟩ rfl rfl hl.1 rfl (lv_room (Nat.le_of_ble_eq_true rfl)) d_Mo_explored_231 ⟨hRc, hRs⟩) hD hS hA (fun H locs hP hD hS => ?_)
              have hP : va_P D vwCl (moW K h a mErr mLanguages mBounds mSize mGoes mLast u135.2.1 mNext mGroup mFresh mLeader mNumber u135.2.2.1 u135.2.2.2.1 u135.2.2.2.2 mVariable mFactor mLeast mMost mLength mWord mKept mMany mMore mLeads mMet mTodo mMay mTries) H := hP
              have hD : va_D A (moW K h a mErr mLanguages mBounds mSize mGoes mLast u135.2.1 mNext mGroup mFresh mLeader mNumber u135.2.2.1 u135.2.2.2.1 u135.2.2.2.2 mVariable mFactor mLeast mMost mLength mWord mKept mMany mMore mLeads mMet mTodo mMay mTries) := hD
              refine lv_istore (lv' := [(11, .int u135.1), (9, .long (u127 ||| 1)), (8, .int u100), (7, .int v7), (6, .int v6), (0, .ref h), (1, .int v1), (2, .int v2), (3, .int v3)]) hx hb d_Mo_explored_234 hl (by decide) rfl (fun ls hl => ?_)
              refine lv_iload hx hb d_Mo_explored_236 (lv_at hl 0 rfl) ?_
              refine lv_if_ge (tgt := 243) hx hb d_Mo_explored_238 (by decide) (fun c136 => ?_) (fun c136 => ?_)
              · rw [if_pos c136] at hf
                refine lv_aload_n hx hb d_Mo_explored_243 rfl (lv_at hl 5 rfl) ?_
                refine va_get (D := D) (ci := 0) (v := .ref (a 4)) (C := R_Mo) (T := T_Mo) (N := 29) hx hb hts in_Mo hown hK hP 0 rfl rfl 7 (by decide) (hts _ fl_Mo_23) (fun _ h9 => h9) rfl d_Mo_explored_244 ?_
                refine lv_iconst (v := 4) hx hb d_Mo_explored_247 (by decide) ?_
                refine lv_iload hx hb d_Mo_explored_248 (lv_at hl 4 rfl) ?_
                refine lv_imul hx hb d_Mo_explored_250 ?_
                refine lv_iload hx hb d_Mo_explored_251 (lv_at hl 3 rfl) ?_
                refine lv_iadd hx hb d_Mo_explored_253 ?_
                refine lv_iload hx hb d_Mo_explored_254 (lv_at hl 0 rfl) ?_
                obtain ⟨g137, hf⟩ := ogi hf
                refine va_iast hx hb hK hP hD hS 5 0 rfl rfl (gin_in g137) d_Mo_explored_256 (fun H locs hP hD hS => ?_)
                have hP : va_P D vwCl (moW K h a mErr mLanguages mBounds mSize mGoes mLast u135.2.1 (upd mNext ((4 * v6) + v7).toNatClampNeg u135.1) mGroup mFresh mLeader mNumber u135.2.2.1 u135.2.2.2.1 u135.2.2.2.2 mVariable mFactor mLeast mMost mLength mWord mKept mMany mMore mLeads mMet mTodo mMay mTries) H := hP
                have hD : va_D A (moW K h a mErr mLanguages mBounds mSize mGoes mLast u135.2.1 (upd mNext ((4 * v6) + v7).toNatClampNeg u135.1) mGroup mFresh mLeader mNumber u135.2.2.1 u135.2.2.2.1 u135.2.2.2.2 mVariable mFactor mLeast mMost mLength mWord mKept mMany mMore mLeads mMet mTodo mMay mTries) := hD
                refine lv_iinc (v := v7 + 1) (lv' := [(7, .int (v7 + 1)), (11, .int u135.1), (9, .long (u127 ||| 1)), (8, .int u100), (6, .int v6), (0, .ref h), (1, .int v1), (2, .int v2), (3, .int v3)]) hx hb d_Mo_explored_257 hl (k := 3) rfl (by first | rfl | (congr 1)) (by decide) rfl (fun ls hl => ?_)
                refine lv_goto (tgt := 59) hx hb d_Mo_explored_260 (by decide) ?_
                exact ih _ _ _ _ _ _ hf _ _ _ hP hD hS (show lv_has ls 13 [(7, .int (v7 + 1)), (6, .int v6), (0, .ref h), (1, .int v1), (2, .int v2), (3, .int v3)] from lv_sub hl [0, 4, 5, 6, 7, 8] rfl)
              · rw [if_neg c136] at hf
                refine lv_iconst (v := 0) hx hb d_Mo_explored_241 (by decide) ?_
                exact Kr _ (Option.some.inj hf).symm _ _ _ _ d_Mo_explored_242 hP hD hS
        · rw [if_neg c101] at hf
          refine lv_aload_n hx hb d_Mo_explored_95 rfl (lv_at hl 3 rfl) ?_
          refine lv_iload_n hx hb d_Mo_explored_96 rfl (lv_at hl 6 rfl) ?_
          refine lv_aload_n hx hb d_Mo_explored_97 rfl (lv_at hl 3 rfl) ?_
          refine va_get (D := D) (ci := 0) (v := .ref (a 9)) (C := R_Mo) (T := T_Mo) (N := 29) hx hb hts in_Mo hown hK hP 0 rfl rfl 12 (by decide) (hts _ fl_Mo_38) (fun _ h9 => h9) rfl d_Mo_explored_98 ?_
          refine lv_iload hx hb d_Mo_explored_101 (lv_at hl 2 rfl) ?_
          obtain ⟨g138, hf⟩ := ogi hf
          refine va_lald hx hb hK hP 10 1 rfl rfl (gin_in g138) d_Mo_explored_103 ?_
          refine lv_l2i (v := (mRight v6.toNatClampNeg).toInt32) hx hb d_Mo_explored_104 rfl ?_
          refine lv_iload hx hb d_Mo_explored_105 (lv_at hl 1 rfl) ?_
          obtain ⟨u139, eu139, hf⟩ := obd hf
          refine p_call (W.runV (As := [.int v3, .int ((mRight v6.toNatClampNeg).toInt32), .int v7]) (rest := []) ⟨hx, hb, hml, hown, hts⟩ (c_Mo_go l eu139) (gV 3 hts cd_Mo_go ml_Mo_98 im_Mo_go se_Mo_go ini_Mo rfl rfl pd_Mo_go ⟨Nat.le_trans (Nat.le_of_ble_eq_true rfl) hRf, Nat.le_trans (Nat.le_of_ble_eq_true rfl) hRl⟩) ⟨pPre_blind, va_recv hK hP (ci := 0) (q0 := 0) rfl rfl, pPre_of hP hK⟩ rfl rfl hl.1 rfl (lv_room (Nat.le_of_ble_eq_true rfl)) d_Mo_explored_107 ⟨hRc, hRs⟩) ?_
          refine lv_i2l (v := u139.toInt64) hx hb d_Mo_explored_110 rfl ?_
          refine lv_lstore (lv' := [(9, .long u139.toInt64), (8, .int u100), (7, .int v7), (6, .int v6), (0, .ref h), (1, .int v1), (2, .int v2), (3, .int v3)]) hx hb d_Mo_explored_111 hl (by decide) rfl (fun ls hl => ?_)
          refine lv_goto (tgt := 215) hx hb d_Mo_explored_113 (by decide) ?_
          refine lv_aload_n hx hb d_Mo_explored_215 rfl (lv_at hl 4 rfl) ?_
          refine lv_iload hx hb d_Mo_explored_216 (lv_at hl 1 rfl) ?_
          refine lv_lload hx hb d_Mo_explored_218 (lv_at hl 0 rfl) ?_
          refine lv_aload_n hx hb d_Mo_explored_220 rfl (lv_at hl 4 rfl) ?_
          refine lv_iload_n hx hb d_Mo_explored_221 rfl (lv_at hl 5 rfl) ?_
          refine lv_iload_n hx hb d_Mo_explored_222 rfl (lv_at hl 6 rfl) ?_
          refine lv_iload_n hx hb d_Mo_explored_223 rfl (lv_at hl 7 rfl) ?_
          refine lv_iload hx hb d_Mo_explored_224 (lv_at hl 1 rfl) ?_
          refine lv_lload hx hb d_Mo_explored_226 (lv_at hl 0 rfl) ?_
          obtain ⟨u140, eu140, hf⟩ := obd hf
          refine p_call (W.runV (As := [.int v1, .int v2, .int v3, .int u100, .long u139.toInt64]) (rest := [.long u139.toInt64, .int u100, .ref h]) ⟨hx, hb, hml, hown, hts⟩ (c_Mo_ends l eu140) (gV 5 hts cd_Mo_ends ml_Mo_110 im_Mo_ends se_Mo_ends ini_Mo rfl rfl pd_Mo_ends ⟨Nat.le_trans (Nat.le_of_ble_eq_true rfl) hRf, Nat.le_trans (Nat.le_of_ble_eq_true rfl) hRl⟩) ⟨pPre_blind, va_recv hK hP (ci := 0) (q0 := 0) rfl rfl, pPre_of hP hK⟩ rfl rfl hl.1 rfl (lv_room (Nat.le_of_ble_eq_true rfl)) d_Mo_explored_228 ⟨hRc, hRs⟩) ?_
          obtain ⟨u141, eu141, hf⟩ := obd hf
          refine w_call (va_runV (As := [.int u100, .long u139.toInt64, .int (bI u140)]) (rest := []) ⟨hx, hb, hml, hown, hts⟩ (c_Mo_come l H.size eu141) (gV 3 hts cd_Mo_come ml_Mo_113 im_Mo_come se_Mo_come ini_Mo rfl rfl pd_Mo_come ⟨Nat.le_trans (Nat.le_of_ble_eq_true rfl) hRf, Nat.le_trans (Nat.le_of_ble_eq_true rfl) hRl⟩) ⟨wPre_blind, va_recv hK hP (ci := 0) (q0 := 0) rfl rfl, wPre_of hP hK hD⟩ rfl rfl hl.1 rfl (lv_room (Nat.le_of_ble_eq_true rfl)) d_Mo_explored_231 ⟨hRc, hRs⟩) hD hS hA (fun H locs hP hD hS => ?_)
          have hP : va_P D vwCl (moW K h a mErr mLanguages mBounds mSize mGoes mLast u141.2.1 mNext mGroup mFresh mLeader mNumber u141.2.2.1 u141.2.2.2.1 u141.2.2.2.2 mVariable mFactor mLeast mMost mLength mWord mKept mMany mMore mLeads mMet mTodo mMay mTries) H := hP
          have hD : va_D A (moW K h a mErr mLanguages mBounds mSize mGoes mLast u141.2.1 mNext mGroup mFresh mLeader mNumber u141.2.2.1 u141.2.2.2.1 u141.2.2.2.2 mVariable mFactor mLeast mMost mLength mWord mKept mMany mMore mLeads mMet mTodo mMay mTries) := hD
          refine lv_istore (lv' := [(11, .int u141.1), (9, .long u139.toInt64), (8, .int u100), (7, .int v7), (6, .int v6), (0, .ref h), (1, .int v1), (2, .int v2), (3, .int v3)]) hx hb d_Mo_explored_234 hl (by decide) rfl (fun ls hl => ?_)
          refine lv_iload hx hb d_Mo_explored_236 (lv_at hl 0 rfl) ?_
          refine lv_if_ge (tgt := 243) hx hb d_Mo_explored_238 (by decide) (fun c142 => ?_) (fun c142 => ?_)
          · rw [if_pos c142] at hf
            refine lv_aload_n hx hb d_Mo_explored_243 rfl (lv_at hl 5 rfl) ?_
            refine va_get (D := D) (ci := 0) (v := .ref (a 4)) (C := R_Mo) (T := T_Mo) (N := 29) hx hb hts in_Mo hown hK hP 0 rfl rfl 7 (by decide) (hts _ fl_Mo_23) (fun _ h9 => h9) rfl d_Mo_explored_244 ?_
            refine lv_iconst (v := 4) hx hb d_Mo_explored_247 (by decide) ?_
            refine lv_iload hx hb d_Mo_explored_248 (lv_at hl 4 rfl) ?_
            refine lv_imul hx hb d_Mo_explored_250 ?_
            refine lv_iload hx hb d_Mo_explored_251 (lv_at hl 3 rfl) ?_
            refine lv_iadd hx hb d_Mo_explored_253 ?_
            refine lv_iload hx hb d_Mo_explored_254 (lv_at hl 0 rfl) ?_
            obtain ⟨g143, hf⟩ := ogi hf
            refine va_iast hx hb hK hP hD hS 5 0 rfl rfl (gin_in g143) d_Mo_explored_256 (fun H locs hP hD hS => ?_)
            have hP : va_P D vwCl (moW K h a mErr mLanguages mBounds mSize mGoes mLast u141.2.1 (upd mNext ((4 * v6) + v7).toNatClampNeg u141.1) mGroup mFresh mLeader mNumber u141.2.2.1 u141.2.2.2.1 u141.2.2.2.2 mVariable mFactor mLeast mMost mLength mWord mKept mMany mMore mLeads mMet mTodo mMay mTries) H := hP
            have hD : va_D A (moW K h a mErr mLanguages mBounds mSize mGoes mLast u141.2.1 (upd mNext ((4 * v6) + v7).toNatClampNeg u141.1) mGroup mFresh mLeader mNumber u141.2.2.1 u141.2.2.2.1 u141.2.2.2.2 mVariable mFactor mLeast mMost mLength mWord mKept mMany mMore mLeads mMet mTodo mMay mTries) := hD
            refine lv_iinc (v := v7 + 1) (lv' := [(7, .int (v7 + 1)), (11, .int u141.1), (9, .long u139.toInt64), (8, .int u100), (6, .int v6), (0, .ref h), (1, .int v1), (2, .int v2), (3, .int v3)]) hx hb d_Mo_explored_257 hl (k := 3) rfl (by first | rfl | (congr 1)) (by decide) rfl (fun ls hl => ?_)
            refine lv_goto (tgt := 59) hx hb d_Mo_explored_260 (by decide) ?_
            exact ih _ _ _ _ _ _ hf _ _ _ hP hD hS (show lv_has ls 13 [(7, .int (v7 + 1)), (6, .int v6), (0, .ref h), (1, .int v1), (2, .int v2), (3, .int v3)] from lv_sub hl [0, 4, 5, 6, 7, 8] rfl)
          · rw [if_neg c142] at hf
            refine lv_iconst (v := 0) hx hb d_Mo_explored_241 (by decide) ?_
            exact Kr _ (Option.some.inj hf).symm _ _ _ _ d_Mo_explored_242 hP hD hS
      · rw [if_pos c98] at hf
        refine lv_iconst (v := 0) hx hb d_Mo_explored_70 (by decide) ?_
        refine lv_goto (tgt := 88) hx hb d_Mo_explored_71 (by decide) ?_
        refine lv_istore (lv' := [(8, .int 0), (7, .int v7), (6, .int v6), (0, .ref h), (1, .int v1), (2, .int v2), (3, .int v3)]) hx hb d_Mo_explored_88 hl (by decide) rfl (fun ls hl => ?_)
        refine lv_iload_n hx hb d_Mo_explored_90 rfl (lv_at hl 4 rfl) ?_
        refine lv_iconst (v := 2) hx hb d_Mo_explored_91 (by decide) ?_
        refine lv_icmp_ge (tgt := 116) hx hb d_Mo_explored_92 (by decide) (fun c144 => ?_) (fun c144 => ?_)
        · rw [if_pos c144] at hf
          refine lv_iload_n hx hb d_Mo_explored_116 rfl (lv_at hl 4 rfl) ?_
          refine lv_iconst (v := 2) hx hb d_Mo_explored_117 (by decide) ?_
          refine lv_icmp_ne (tgt := 156) hx hb d_Mo_explored_118 (by decide) (fun c145 => ?_) (fun c145 => ?_)
          · rw [if_neg c145] at hf
            refine lv_aload_n hx hb d_Mo_explored_156 rfl (lv_at hl 3 rfl) ?_
            refine va_get (D := D) (ci := 0) (v := .ref (a 9)) (C := R_Mo) (T := T_Mo) (N := 29) hx hb hts in_Mo hown hK hP 0 rfl rfl 12 (by decide) (hts _ fl_Mo_38) (fun _ h9 => h9) rfl d_Mo_explored_157 ?_
            refine lv_iload hx hb d_Mo_explored_160 (lv_at hl 2 rfl) ?_
            obtain ⟨g146, hf⟩ := ogi hf
            refine va_lald hx hb hK hP 10 1 rfl rfl (gin_in g146) d_Mo_explored_162 ?_
            refine lv_lconst (v := 0) hx hb d_Mo_explored_163 (by decide) ?_
            refine W.lcmp hx hb d_Mo_explored_164 ?_
            refine lc_eq (tgt := 183) hx hb d_Mo_explored_165 (by decide) (fun c147 => ?_) (fun c147 => ?_)
            · rw [if_pos c147] at hf
              refine lv_aload_n hx hb d_Mo_explored_183 rfl (lv_at hl 3 rfl) ?_
              refine va_get (D := D) (ci := 0) (v := .ref (a 9)) (C := R_Mo) (T := T_Mo) (N := 29) hx hb hts in_Mo hown hK hP 0 rfl rfl 12 (by decide) (hts _ fl_Mo_38) (fun _ h9 => h9) rfl d_Mo_explored_184 ?_
              refine lv_iload hx hb d_Mo_explored_187 (lv_at hl 2 rfl) ?_
              obtain ⟨g148, hf⟩ := ogi hf
              refine va_lald hx hb hK hP 10 1 rfl rfl (gin_in g148) d_Mo_explored_189 ?_
              refine lv_lconst (v := 1) hx hb d_Mo_explored_190 (by decide) ?_
              refine lv_lor hx hb d_Mo_explored_191 ?_
              refine lv_goto (tgt := 202) hx hb d_Mo_explored_192 (by decide) ?_
              refine lv_lstore (lv' := [(11, .long ((mRight v6.toNatClampNeg) ||| 1)), (8, .int 0), (7, .int v7), (6, .int v6), (0, .ref h), (1, .int v1), (2, .int v2), (3, .int v3)]) hx hb d_Mo_explored_202 hl (by decide) rfl (fun ls hl => ?_)
              refine lv_aload_n hx hb d_Mo_explored_204 rfl (lv_at hl 4 rfl) ?_
              refine lv_iload_n hx hb d_Mo_explored_205 rfl (lv_at hl 6 rfl) ?_
              refine lv_lload hx hb d_Mo_explored_206 (lv_at hl 0 rfl) ?_
              refine lv_iload hx hb d_Mo_explored_208 (lv_at hl 2 rfl) ?_
              obtain ⟨u149, eu149, hf⟩ := obd hf
              refine p_call (W.runV (As := [.int v2, .long ((mRight v6.toNatClampNeg) ||| 1), .int v7]) (rest := []) ⟨hx, hb, hml, hown, hts⟩ (c_Mo_step l eu149) (gV 3 hts cd_Mo_step ml_Mo_117 im_Mo_step se_Mo_step ini_Mo rfl rfl pd_Mo_step ⟨Nat.le_trans (Nat.le_of_ble_eq_true rfl) hRf, Nat.le_trans (Nat.le_of_ble_eq_true rfl) hRl⟩) ⟨pPre_blind, va_recv hK hP (ci := 0) (q0 := 0) rfl rfl, pPre_of hP hK⟩ rfl rfl hl.1 rfl (lv_room (Nat.le_of_ble_eq_true rfl)) d_Mo_explored_210 ⟨hRc, hRs⟩) ?_
              refine lv_lstore (lv' := [(9, .long u149), (11, .long ((mRight v6.toNatClampNeg) ||| 1)), (8, .int 0), (7, .int v7), (6, .int v6), (0, .ref h), (1, .int v1), (2, .int v2), (3, .int v3)]) hx hb d_Mo_explored_213 hl (by decide) rfl (fun ls hl => ?_)
              refine lv_aload_n hx hb d_Mo_explored_215 rfl (lv_at hl 5 rfl) ?_
              refine lv_iload hx hb d_Mo_explored_216 (lv_at hl 2 rfl) ?_
              refine lv_lload hx hb d_Mo_explored_218 (lv_at hl 0 rfl) ?_
              refine lv_aload_n hx hb d_Mo_explored_220 rfl (lv_at hl 5 rfl) ?_
              refine lv_iload_n hx hb d_Mo_explored_221 rfl (lv_at hl 6 rfl) ?_
              refine lv_iload_n hx hb d_Mo_explored_222 rfl (lv_at hl 7 rfl) ?_
              refine lv_iload_n hx hb d_Mo_explored_223 rfl (lv_at hl 8 rfl) ?_
              refine lv_iload hx hb d_Mo_explored_224 (lv_at hl 2 rfl) ?_
              refine lv_lload hx hb d_Mo_explored_226 (lv_at hl 0 rfl) ?_
              obtain ⟨u150, eu150, hf⟩ := obd hf
              refine p_call (W.runV (As := [.int v1, .int v2, .int v3, .int 0, .long u149]) (rest := [.long u149, .int 0, .ref h]) ⟨hx, hb, hml, hown, hts⟩ (c_Mo_ends l eu150) (gV 5 hts cd_Mo_ends ml_Mo_110 im_Mo_ends se_Mo_ends ini_Mo rfl rfl pd_Mo_ends ⟨Nat.le_trans (Nat.le_of_ble_eq_true rfl) hRf, Nat.le_trans (Nat.le_of_ble_eq_true rfl) hRl⟩) ⟨pPre_blind, va_recv hK hP (ci := 0) (q0 := 0) rfl rfl, pPre_of hP hK⟩ rfl rfl hl.1 rfl (lv_room (Nat.le_of_ble_eq_true rfl)) d_Mo_explored_228 ⟨hRc, hRs⟩) ?_
              obtain ⟨u151, eu151, hf⟩ := obd hf
              refine w_call (va_runV (As := [.int 0, .long u149, .int (bI u150)]) (rest := []) ⟨hx, hb, hml, hown, hts⟩ (c_Mo_come l H.size eu151) (gV 3 hts cd_Mo_come ml_Mo_113 im_Mo_come se_Mo_come ini_Mo rfl rfl pd_Mo_come ⟨Nat.le_trans (Nat.le_of_ble_eq_true rfl) hRf, Nat.le_trans (Nat.le_of_ble_eq_true rfl) hRl⟩) ⟨wPre_blind, va_recv hK hP (ci := 0) (q0 := 0) rfl rfl, wPre_of hP hK hD⟩ rfl rfl hl.1 rfl (lv_room (Nat.le_of_ble_eq_true rfl)) d_Mo_explored_231 ⟨hRc, hRs⟩) hD hS hA (fun H locs hP hD hS => ?_)
              have hP : va_P D vwCl (moW K h a mErr mLanguages mBounds mSize mGoes mLast u151.2.1 mNext mGroup mFresh mLeader mNumber u151.2.2.1 u151.2.2.2.1 u151.2.2.2.2 mVariable mFactor mLeast mMost mLength mWord mKept mMany mMore mLeads mMet mTodo mMay mTries) H := hP
              have hD : va_D A (moW K h a mErr mLanguages mBounds mSize mGoes mLast u151.2.1 mNext mGroup mFresh mLeader mNumber u151.2.2.1 u151.2.2.2.1 u151.2.2.2.2 mVariable mFactor mLeast mMost mLength mWord mKept mMany mMore mLeads mMet mTodo mMay mTries) := hD
              refine lv_istore (lv' := [(11, .int u151.1), (9, .long u149), (8, .int 0), (7, .int v7), (6, .int v6), (0, .ref h), (1, .int v1), (2, .int v2), (3, .int v3)]) hx hb d_Mo_explored_234 hl (by decide) rfl (fun ls hl => ?_)
              refine lv_iload hx hb d_Mo_explored_236 (lv_at hl 0 rfl) ?_
              refine lv_if_ge (tgt := 243) hx hb d_Mo_explored_238 (by decide) (fun c152 => ?_) (fun c152 => ?_)
              · rw [if_pos c152] at hf
                refine lv_aload_n hx hb d_Mo_explored_243 rfl (lv_at hl 5 rfl) ?_
                refine va_get (D := D) (ci := 0) (v := .ref (a 4)) (C := R_Mo) (T := T_Mo) (N := 29) hx hb hts in_Mo hown hK hP 0 rfl rfl 7 (by decide) (hts _ fl_Mo_23) (fun _ h9 => h9) rfl d_Mo_explored_244 ?_
                refine lv_iconst (v := 4) hx hb d_Mo_explored_247 (by decide) ?_
                refine lv_iload hx hb d_Mo_explored_248 (lv_at hl 4 rfl) ?_
                refine lv_imul hx hb d_Mo_explored_250 ?_
                refine lv_iload hx hb d_Mo_explored_251 (lv_at hl 3 rfl) ?_
                refine lv_iadd hx hb d_Mo_explored_253 ?_
                refine lv_iload hx hb d_Mo_explored_254 (lv_at hl 0 rfl) ?_
                obtain ⟨g153, hf⟩ := ogi hf
                refine va_iast hx hb hK hP hD hS 5 0 rfl rfl (gin_in g153) d_Mo_explored_256 (fun H locs hP hD hS => ?_)
                have hP : va_P D vwCl (moW K h a mErr mLanguages mBounds mSize mGoes mLast u151.2.1 (upd mNext ((4 * v6) + v7).toNatClampNeg u151.1) mGroup mFresh mLeader mNumber u151.2.2.1 u151.2.2.2.1 u151.2.2.2.2 mVariable mFactor mLeast mMost mLength mWord mKept mMany mMore mLeads mMet mTodo mMay mTries) H := hP
                have hD : va_D A (moW K h a mErr mLanguages mBounds mSize mGoes mLast u151.2.1 (upd mNext ((4 * v6) + v7).toNatClampNeg u151.1) mGroup mFresh mLeader mNumber u151.2.2.1 u151.2.2.2.1 u151.2.2.2.2 mVariable mFactor mLeast mMost mLength mWord mKept mMany mMore mLeads mMet mTodo mMay mTries) := hD
                refine lv_iinc (v := v7 + 1) (lv' := [(7, .int (v7 + 1)), (11, .int u151.1), (9, .long u149), (8, .int 0), (6, .int v6), (0, .ref h), (1, .int v1), (2, .int v2), (3, .int v3)]) hx hb d_Mo_explored_257 hl (k := 3) rfl (by first | rfl | (congr 1)) (by decide) rfl (fun ls hl => ?_)
                refine lv_goto (tgt := 59) hx hb d_Mo_explored_260 (by decide) ?_
                exact ih _ _ _ _ _ _ hf _ _ _ hP hD hS (show lv_has ls 13 [(7, .int (v7 + 1)), (6, .int v6), (0, .ref h), (1, .int v1), (2, .int v2), (3, .int v3)] from lv_sub hl [0, 4, 5, 6, 7, 8] rfl)
              · rw [if_neg c152] at hf
                refine lv_iconst (v := 0) hx hb d_Mo_explored_241 (by decide) ?_
                exact Kr _ (Option.some.inj hf).symm _ _ _ _ d_Mo_explored_242 hP hD hS
            · rw [if_neg c147] at hf
              refine lv_aload_n hx hb d_Mo_explored_168 rfl (lv_at hl 3 rfl) ?_
              refine lv_iload_n hx hb d_Mo_explored_169 rfl (lv_at hl 5 rfl) ?_
              refine lv_aload_n hx hb d_Mo_explored_170 rfl (lv_at hl 3 rfl) ?_
              refine va_get (D := D) (ci := 0) (v := .ref (a 9)) (C := R_Mo) (T := T_Mo) (N := 29) hx hb hts in_Mo hown hK hP 0 rfl rfl 12 (by decide) (hts _ fl_Mo_38) (fun _ h9 => h9) rfl d_Mo_explored_171 ?_
              refine lv_iload hx hb d_Mo_explored_174 (lv_at hl 2 rfl) ?_
              obtain ⟨g154, hf⟩ := ogi hf
              refine va_lald hx hb hK hP 10 1 rfl rfl (gin_in g154) d_Mo_explored_176 ?_
              obtain ⟨u155, eu155, hf⟩ := obd hf
              refine p_call (W.runV (As := [.int v2, .long (mRight v6.toNatClampNeg)]) (rest := []) ⟨hx, hb, hml, hown, hts⟩ (c_Mo_hasLast l eu155) (gV 2 hts cd_Mo_hasLast ml_Mo_106 im_Mo_hasLast se_Mo_hasLast ini_Mo rfl rfl pd_Mo_hasLast ⟨Nat.le_trans (Nat.le_of_ble_eq_true rfl) hRf, Nat.le_trans (Nat.le_of_ble_eq_true rfl) hRl⟩) ⟨pPre_blind, va_recv hK hP (ci := 0) (q0 := 0) rfl rfl, pPre_of hP hK⟩ rfl rfl hl.1 rfl (lv_room (Nat.le_of_ble_eq_true rfl)) d_Mo_explored_177 ⟨hRc, hRs⟩) ?_
              refine bz_eq (tgt := 195) hx hb d_Mo_explored_180 (by decide) (fun c156 => ?_) (fun c156 => ?_)
              · rw [if_neg c156] at hf
                refine lv_aload_n hx hb d_Mo_explored_195 rfl (lv_at hl 3 rfl) ?_
                refine va_get (D := D) (ci := 0) (v := .ref (a 9)) (C := R_Mo) (T := T_Mo) (N := 29) hx hb hts in_Mo hown hK hP 0 rfl rfl 12 (by decide) (hts _ fl_Mo_38) (fun _ h9 => h9) rfl d_Mo_explored_196 ?_
                refine lv_iload hx hb d_Mo_explored_199 (lv_at hl 2 rfl) ?_
                obtain ⟨g157, hf⟩ := ogi hf
                refine va_lald hx hb hK hP 10 1 rfl rfl (gin_in g157) d_Mo_explored_201 ?_
                refine lv_lstore (lv' := [(11, .long (mRight v6.toNatClampNeg)), (8, .int 0), (7, .int v7), (6, .int v6), (0, .ref h), (1, .int v1), (2, .int v2), (3, .int v3)]) hx hb d_Mo_explored_202 hl (by decide) rfl (fun ls hl => ?_)
                refine lv_aload_n hx hb d_Mo_explored_204 rfl (lv_at hl 4 rfl) ?_
                refine lv_iload_n hx hb d_Mo_explored_205 rfl (lv_at hl 6 rfl) ?_
                refine lv_lload hx hb d_Mo_explored_206 (lv_at hl 0 rfl) ?_
                refine lv_iload hx hb d_Mo_explored_208 (lv_at hl 2 rfl) ?_
                obtain ⟨u158, eu158, hf⟩ := obd hf
                refine p_call (W.runV (As := [.int v2, .long (mRight v6.toNatClampNeg), .int v7]) (rest := []) ⟨hx, hb, hml, hown, hts⟩ (c_Mo_step l eu158) (gV 3 hts cd_Mo_step ml_Mo_117 im_Mo_step se_Mo_step ini_Mo rfl rfl pd_Mo_step ⟨Nat.le_trans (Nat.le_of_ble_eq_true rfl) hRf, Nat.le_trans (Nat.le_of_ble_eq_true rfl) hRl⟩) ⟨pPre_blind, va_recv hK hP (ci := 0) (q0 := 0) rfl rfl, pPre_of hP hK⟩ rfl rfl hl.1 rfl (lv_room (Nat.le_of_ble_eq_true rfl)) d_Mo_explored_210 ⟨hRc, hRs⟩) ?_
                refine lv_lstore (lv' := [(9, .long u158), (11, .long (mRight v6.toNatClampNeg)), (8, .int 0), (7, .int v7), (6, .int v6), (0, .ref h), (1, .int v1), (2, .int v2), (3, .int v3)]) hx hb d_Mo_explored_213 hl (by decide) rfl (fun ls hl => ?_)
                refine lv_aload_n hx hb d_Mo_explored_215 rfl (lv_at hl 5 rfl) ?_
                refine lv_iload hx hb d_Mo_explored_216 (lv_at hl 2 rfl) ?_
                refine lv_lload hx hb d_Mo_explored_218 (lv_at hl 0 rfl) ?_
                refine lv_aload_n hx hb d_Mo_explored_220 rfl (lv_at hl 5 rfl) ?_
                refine lv_iload_n hx hb d_Mo_explored_221 rfl (lv_at hl 6 rfl) ?_
                refine lv_iload_n hx hb d_Mo_explored_222 rfl (lv_at hl 7 rfl) ?_
                refine lv_iload_n hx hb d_Mo_explored_223 rfl (lv_at hl 8 rfl) ?_
                refine lv_iload hx hb d_Mo_explored_224 (lv_at hl 2 rfl) ?_
                refine lv_lload hx hb d_Mo_explored_226 (lv_at hl 0 rfl) ?_
                obtain ⟨u159, eu159, hf⟩ := obd hf
                refine p_call (W.runV (As := [.int v1, .int v2, .int v3, .int 0, .long u158]) (rest := [.long u158, .int 0, .ref h]) ⟨hx, hb, hml, hown, hts⟩ (c_Mo_ends l eu159) (gV 5 hts cd_Mo_ends ml_Mo_110 im_Mo_ends se_Mo_ends ini_Mo rfl rfl pd_Mo_ends ⟨Nat.le_trans (Nat.le_of_ble_eq_true rfl) hRf, Nat.le_trans (Nat.le_of_ble_eq_true rfl) hRl⟩) ⟨pPre_blind, va_recv hK hP (ci := 0) (q0 := 0) rfl rfl, pPre_of hP hK⟩ rfl rfl hl.1 rfl (lv_room (Nat.le_of_ble_eq_true rfl)) d_Mo_explored_228 ⟨hRc, hRs⟩) ?_
                obtain ⟨u160, eu160, hf⟩ := obd hf
                refine w_call (va_runV (As := [.int 0, .long u158, .int (bI u159)]) (rest := []) ⟨hx, hb, hml, hown, hts⟩ (c_Mo_come l H.size eu160) (gV 3 hts cd_Mo_come ml_Mo_113 im_Mo_come se_Mo_come ini_Mo rfl rfl pd_Mo_come ⟨Nat.le_trans (Nat.le_of_ble_eq_true rfl) hRf, Nat.le_trans (Nat.le_of_ble_eq_true rfl) hRl⟩) ⟨wPre_blind, va_recv hK hP (ci := 0) (q0 := 0) rfl rfl, wPre_of hP hK hD⟩ rfl rfl hl.1 rfl (lv_room (Nat.le_of_ble_eq_true rfl)) d_Mo_explored_231 ⟨hRc, hRs⟩) hD hS hA (fun H locs hP hD hS => ?_)
                have hP : va_P D vwCl (moW K h a mErr mLanguages mBounds mSize mGoes mLast u160.2.1 mNext mGroup mFresh mLeader mNumber u160.2.2.1 u160.2.2.2.1 u160.2.2.2.2 mVariable mFactor mLeast mMost mLength mWord mKept mMany mMore mLeads mMet mTodo mMay mTries) H := hP
                have hD : va_D A (moW K h a mErr mLanguages mBounds mSize mGoes mLast u160.2.1 mNext mGroup mFresh mLeader mNumber u160.2.2.1 u160.2.2.2.1 u160.2.2.2.2 mVariable mFactor mLeast mMost mLength mWord mKept mMany mMore mLeads mMet mTodo mMay mTries) := hD
                refine lv_istore (lv' := [(11, .int u160.1), (9, .long u158), (8, .int 0), (7, .int v7), (6, .int v6), (0, .ref h), (1, .int v1), (2, .int v2), (3, .int v3)]) hx hb d_Mo_explored_234 hl (by decide) rfl (fun ls hl => ?_)
                refine lv_iload hx hb d_Mo_explored_236 (lv_at hl 0 rfl) ?_
                refine lv_if_ge (tgt := 243) hx hb d_Mo_explored_238 (by decide) (fun c161 => ?_) (fun c161 => ?_)
                · rw [if_pos c161] at hf
                  refine lv_aload_n hx hb d_Mo_explored_243 rfl (lv_at hl 5 rfl) ?_
                  refine va_get (D := D) (ci := 0) (v := .ref (a 4)) (C := R_Mo) (T := T_Mo) (N := 29) hx hb hts in_Mo hown hK hP 0 rfl rfl 7 (by decide) (hts _ fl_Mo_23) (fun _ h9 => h9) rfl d_Mo_explored_244 ?_
                  refine lv_iconst (v := 4) hx hb d_Mo_explored_247 (by decide) ?_
                  refine lv_iload hx hb d_Mo_explored_248 (lv_at hl 4 rfl) ?_
                  refine lv_imul hx hb d_Mo_explored_250 ?_
                  refine lv_iload hx hb d_Mo_explored_251 (lv_at hl 3 rfl) ?_
                  refine lv_iadd hx hb d_Mo_explored_253 ?_
                  refine lv_iload hx hb d_Mo_explored_254 (lv_at hl 0 rfl) ?_
                  obtain ⟨g162, hf⟩ := ogi hf
                  refine va_iast hx hb hK hP hD hS 5 0 rfl rfl (gin_in g162) d_Mo_explored_256 (fun H locs hP hD hS => ?_)
                  have hP : va_P D vwCl (moW K h a mErr mLanguages mBounds mSize mGoes mLast u160.2.1 (upd mNext ((4 * v6) + v7).toNatClampNeg u160.1) mGroup mFresh mLeader mNumber u160.2.2.1 u160.2.2.2.1 u160.2.2.2.2 mVariable mFactor mLeast mMost mLength mWord mKept mMany mMore mLeads mMet mTodo mMay mTries) H := hP
                  have hD : va_D A (moW K h a mErr mLanguages mBounds mSize mGoes mLast u160.2.1 (upd mNext ((4 * v6) + v7).toNatClampNeg u160.1) mGroup mFresh mLeader mNumber u160.2.2.1 u160.2.2.2.1 u160.2.2.2.2 mVariable mFactor mLeast mMost mLength mWord mKept mMany mMore mLeads mMet mTodo mMay mTries) := hD
                  refine lv_iinc (v := v7 + 1) (lv' := [(7, .int (v7 + 1)), (11, .int u160.1), (9, .long u158), (8, .int 0), (6, .int v6), (0, .ref h), (1, .int v1), (2, .int v2), (3, .int v3)]) hx hb d_Mo_explored_257 hl (k := 3) rfl (by first | rfl | (congr 1)) (by decide) rfl (fun ls hl => ?_)
                  refine lv_goto (tgt := 59) hx hb d_Mo_explored_260 (by decide) ?_
                  exact ih _ _ _ _ _ _ hf _ _ _ hP hD hS (show lv_has ls 13 [(7, .int (v7 + 1)), (6, .int v6), (0, .ref h), (1, .int v1), (2, .int v2), (3, .int v3)] from lv_sub hl [0, 4, 5, 6, 7, 8] rfl)
                · rw [if_neg c161] at hf
                  refine lv_iconst (v := 0) hx hb d_Mo_explored_241 (by decide) ?_
                  exact Kr _ (Option.some.inj hf).symm _ _ _ _ d_Mo_explored_242 hP hD hS
              · rw [if_pos c156] at hf
                refine lv_aload_n hx hb d_Mo_explored_183 rfl (lv_at hl 3 rfl) ?_
                refine va_get (D := D) (ci := 0) (v := .ref (a 9)) (C := R_Mo) (T := T_Mo) (N := 29) hx hb hts in_Mo hown hK hP 0 rfl rfl 12 (by decide) (hts _ fl_Mo_38) (fun _ h9 => h9) rfl d_Mo_explored_184 ?_
                refine lv_iload hx hb d_Mo_explored_187 (lv_at hl 2 rfl) ?_
                obtain ⟨g163, hf⟩ := ogi hf
                refine va_lald hx hb hK hP 10 1 rfl rfl (gin_in g163) d_Mo_explored_189 ?_
                refine lv_lconst (v := 1) hx hb d_Mo_explored_190 (by decide) ?_
                refine lv_lor hx hb d_Mo_explored_191 ?_
                refine lv_goto (tgt := 202) hx hb d_Mo_explored_192 (by decide) ?_
                refine lv_lstore (lv' := [(11, .long ((mRight v6.toNatClampNeg) ||| 1)), (8, .int 0), (7, .int v7), (6, .int v6), (0, .ref h), (1, .int v1), (2, .int v2), (3, .int v3)]) hx hb d_Mo_explored_202 hl (by decide) rfl (fun ls hl => ?_)
                refine lv_aload_n hx hb d_Mo_explored_204 rfl (lv_at hl 4 rfl) ?_
                refine lv_iload_n hx hb d_Mo_explored_205 rfl (lv_at hl 6 rfl) ?_
                refine lv_lload hx hb d_Mo_explored_206 (lv_at hl 0 rfl) ?_
                refine lv_iload hx hb d_Mo_explored_208 (lv_at hl 2 rfl) ?_
                obtain ⟨u164, eu164, hf⟩ := obd hf
                refine p_call (W.runV (As := [.int v2, .long ((mRight v6.toNatClampNeg) ||| 1), .int v7]) (rest := []) ⟨hx, hb, hml, hown, hts⟩ (c_Mo_step l eu164) (gV 3 hts cd_Mo_step ml_Mo_117 im_Mo_step se_Mo_step ini_Mo rfl rfl pd_Mo_step ⟨Nat.le_trans (Nat.le_of_ble_eq_true rfl) hRf, Nat.le_trans (Nat.le_of_ble_eq_true rfl) hRl⟩) ⟨pPre_blind, va_recv hK hP (ci := 0) (q0 := 0) rfl rfl, pPre_of hP hK⟩ rfl rfl hl.1 rfl (lv_room (Nat.le_of_ble_eq_true rfl)) d_Mo_explored_210 ⟨hRc, hRs⟩) ?_
                refine lv_lstore (lv' := [(9, .long u164), (11, .long ((mRight v6.toNatClampNeg) ||| 1)), (8, .int 0), (7, .int v7), (6, .int v6), (0, .ref h), (1, .int v1), (2, .int v2), (3, .int v3)]) hx hb d_Mo_explored_213 hl (by decide) rfl (fun ls hl => ?_)
                refine lv_aload_n hx hb d_Mo_explored_215 rfl (lv_at hl 5 rfl) ?_
                refine lv_iload hx hb d_Mo_explored_216 (lv_at hl 2 rfl) ?_
                refine lv_lload hx hb d_Mo_explored_218 (lv_at hl 0 rfl) ?_
                refine lv_aload_n hx hb d_Mo_explored_220 rfl (lv_at hl 5 rfl) ?_
                refine lv_iload_n hx hb d_Mo_explored_221 rfl (lv_at hl 6 rfl) ?_
                refine lv_iload_n hx hb d_Mo_explored_222 rfl (lv_at hl 7 rfl) ?_
                refine lv_iload_n hx hb d_Mo_explored_223 rfl (lv_at hl 8 rfl) ?_
                refine lv_iload hx hb d_Mo_explored_224 (lv_at hl 2 rfl) ?_
                refine lv_lload hx hb d_Mo_explored_226 (lv_at hl 0 rfl) ?_
                obtain ⟨u165, eu165, hf⟩ := obd hf
                refine p_call (W.runV (As := [.int v1, .int v2, .int v3, .int 0, .long u164]) (rest := [.long u164, .int 0, .ref h]) ⟨hx, hb, hml, hown, hts⟩ (c_Mo_ends l eu165) (gV 5 hts cd_Mo_ends ml_Mo_110 im_Mo_ends se_Mo_ends ini_Mo rfl rfl pd_Mo_ends ⟨Nat.le_trans (Nat.le_of_ble_eq_true rfl) hRf, Nat.le_trans (Nat.le_of_ble_eq_true rfl) hRl⟩) ⟨pPre_blind, va_recv hK hP (ci := 0) (q0 := 0) rfl rfl, pPre_of hP hK⟩ rfl rfl hl.1 rfl (lv_room (Nat.le_of_ble_eq_true rfl)) d_Mo_explored_228 ⟨hRc, hRs⟩) ?_
                obtain ⟨u166, eu166, hf⟩ := obd hf
                refine w_call (va_runV (As := [.int 0, .long u164, .int (bI u165)]) (rest := []) ⟨hx, hb, hml, hown, hts⟩ (c_Mo_come l H.size eu166) (gV 3 hts cd_Mo_come ml_Mo_113 im_Mo_come se_Mo_come ini_Mo rfl rfl pd_Mo_come ⟨Nat.le_trans (Nat.le_of_ble_eq_true rfl) hRf, Nat.le_trans (Nat.le_of_ble_eq_true rfl) hRl⟩) ⟨wPre_blind, va_recv hK hP (ci := 0) (q0 := 0) rfl rfl, wPre_of hP hK hD⟩ rfl rfl hl.1 rfl (lv_room (Nat.le_of_ble_eq_true rfl)) d_Mo_explored_231 ⟨hRc, hRs⟩) hD hS hA (fun H locs hP hD hS => ?_)
                have hP : va_P D vwCl (moW K h a mErr mLanguages mBounds mSize mGoes mLast u166.2.1 mNext mGroup mFresh mLeader mNumber u166.2.2.1 u166.2.2.2.1 u166.2.2.2.2 mVariable mFactor mLeast mMost mLength mWord mKept mMany mMore mLeads mMet mTodo mMay mTries) H := hP
                have hD : va_D A (moW K h a mErr mLanguages mBounds mSize mGoes mLast u166.2.1 mNext mGroup mFresh mLeader mNumber u166.2.2.1 u166.2.2.2.1 u166.2.2.2.2 mVariable mFactor mLeast mMost mLength mWord mKept mMany mMore mLeads mMet mTodo mMay mTries) := hD
                refine lv_istore (lv' := [(11, .int u166.1), (9, .long u164), (8, .int 0), (7, .int v7), (6, .int v6), (0, .ref h), (1, .int v1), (2, .int v2), (3, .int v3)]) hx hb d_Mo_explored_234 hl (by decide) rfl (fun ls hl => ?_)
                refine lv_iload hx hb d_Mo_explored_236 (lv_at hl 0 rfl) ?_
                refine lv_if_ge (tgt := 243) hx hb d_Mo_explored_238 (by decide) (fun c167 => ?_) (fun c167 => ?_)
                · rw [if_pos c167] at hf
                  refine lv_aload_n hx hb d_Mo_explored_243 rfl (lv_at hl 5 rfl) ?_
                  refine va_get (D := D) (ci := 0) (v := .ref (a 4)) (C := R_Mo) (T := T_Mo) (N := 29) hx hb hts in_Mo hown hK hP 0 rfl rfl 7 (by decide) (hts _ fl_Mo_23) (fun _ h9 => h9) rfl d_Mo_explored_244 ?_
                  refine lv_iconst (v := 4) hx hb d_Mo_explored_247 (by decide) ?_
                  refine lv_iload hx hb d_Mo_explored_248 (lv_at hl 4 rfl) ?_
                  refine lv_imul hx hb d_Mo_explored_250 ?_
                  refine lv_iload hx hb d_Mo_explored_251 (lv_at hl 3 rfl) ?_
                  refine lv_iadd hx hb d_Mo_explored_253 ?_
                  refine lv_iload hx hb d_Mo_explored_254 (lv_at hl 0 rfl) ?_
                  obtain ⟨g168, hf⟩ := ogi hf
                  refine va_iast hx hb hK hP hD hS 5 0 rfl rfl (gin_in g168) d_Mo_explored_256 (fun H locs hP hD hS => ?_)
                  have hP : va_P D vwCl (moW K h a mErr mLanguages mBounds mSize mGoes mLast u166.2.1 (upd mNext ((4 * v6) + v7).toNatClampNeg u166.1) mGroup mFresh mLeader mNumber u166.2.2.1 u166.2.2.2.1 u166.2.2.2.2 mVariable mFactor mLeast mMost mLength mWord mKept mMany mMore mLeads mMet mTodo mMay mTries) H := hP
                  have hD : va_D A (moW K h a mErr mLanguages mBounds mSize mGoes mLast u166.2.1 (upd mNext ((4 * v6) + v7).toNatClampNeg u166.1) mGroup mFresh mLeader mNumber u166.2.2.1 u166.2.2.2.1 u166.2.2.2.2 mVariable mFactor mLeast mMost mLength mWord mKept mMany mMore mLeads mMet mTodo mMay mTries) := hD
                  refine lv_iinc (v := v7 + 1) (lv' := [(7, .int (v7 + 1)), (11, .int u166.1), (9, .long u164), (8, .int 0), (6, .int v6), (0, .ref h), (1, .int v1), (2, .int v2), (3, .int v3)]) hx hb d_Mo_explored_257 hl (k := 3) rfl (by first | rfl | (congr 1)) (by decide) rfl (fun ls hl => ?_)
                  refine lv_goto (tgt := 59) hx hb d_Mo_explored_260 (by decide) ?_
                  exact ih _ _ _ _ _ _ hf _ _ _ hP hD hS (show lv_has ls 13 [(7, .int (v7 + 1)), (6, .int v6), (0, .ref h), (1, .int v1), (2, .int v2), (3, .int v3)] from lv_sub hl [0, 4, 5, 6, 7, 8] rfl)
                · rw [if_neg c167] at hf
                  refine lv_iconst (v := 0) hx hb d_Mo_explored_241 (by decide) ?_
                  exact Kr _ (Option.some.inj hf).symm _ _ _ _ d_Mo_explored_242 hP hD hS
          · rw [if_pos c145] at hf
            refine lv_aload_n hx hb d_Mo_explored_121 rfl (lv_at hl 3 rfl) ?_
            refine lv_iload_n hx hb d_Mo_explored_122 rfl (lv_at hl 6 rfl) ?_
            refine lv_aload_n hx hb d_Mo_explored_123 rfl (lv_at hl 3 rfl) ?_
            refine va_get (D := D) (ci := 0) (v := .ref (a 9)) (C := R_Mo) (T := T_Mo) (N := 29) hx hb hts in_Mo hown hK hP 0 rfl rfl 12 (by decide) (hts _ fl_Mo_38) (fun _ h9 => h9) rfl d_Mo_explored_124 ?_
            refine lv_iload hx hb d_Mo_explored_127 (lv_at hl 2 rfl) ?_
            obtain ⟨g169, hf⟩ := ogi hf
            refine va_lald hx hb hK hP 10 1 rfl rfl (gin_in g169) d_Mo_explored_129 ?_
            refine lv_iload hx hb d_Mo_explored_130 (lv_at hl 1 rfl) ?_
            obtain ⟨u170, eu170, hf⟩ := obd hf
            refine p_call (W.runV (As := [.int v3, .long (mRight v6.toNatClampNeg), .int v7]) (rest := []) ⟨hx, hb, hml, hown, hts⟩ (c_Mo_step l eu170) (gV 3 hts cd_Mo_step ml_Mo_117 im_Mo_step se_Mo_step ini_Mo rfl rfl pd_Mo_step ⟨Nat.le_trans (Nat.le_of_ble_eq_true rfl) hRf, Nat.le_trans (Nat.le_of_ble_eq_true rfl) hRl⟩) ⟨pPre_blind, va_recv hK hP (ci := 0) (q0 := 0) rfl rfl, pPre_of hP hK⟩ rfl rfl hl.1 rfl (lv_room (Nat.le_of_ble_eq_true rfl)) d_Mo_explored_132 ⟨hRc, hRs⟩) ?_
            refine lv_aload_n hx hb d_Mo_explored_135 rfl (lv_at hl 3 rfl) ?_
            refine lv_iload_n hx hb d_Mo_explored_136 rfl (lv_at hl 5 rfl) ?_
            refine lv_iload hx hb d_Mo_explored_137 (lv_at hl 0 rfl) ?_
            obtain ⟨u171, eu171, hf⟩ := obd hf
            refine p_call (W.runV (As := [.int v2, .int 0]) (rest := [.long u170]) ⟨hx, hb, hml, hown, hts⟩ (c_Mo_isLast l eu171) (gV 2 hts cd_Mo_isLast ml_Mo_102 im_Mo_isLast se_Mo_isLast ini_Mo rfl rfl pd_Mo_isLast ⟨Nat.le_trans (Nat.le_of_ble_eq_true rfl) hRf, Nat.le_trans (Nat.le_of_ble_eq_true rfl) hRl⟩) ⟨pPre_blind, va_recv hK hP (ci := 0) (q0 := 0) rfl rfl, pPre_of hP hK⟩ rfl rfl hl.1 rfl (lv_room (Nat.le_of_ble_eq_true rfl)) d_Mo_explored_139 ⟨hRc, hRs⟩) ?_
            refine bz_eq (tgt := 149) hx hb d_Mo_explored_142 (by decide) (fun c172 => ?_) (fun c172 => ?_)
            · rw [if_neg c172] at hf
              refine lv_lconst (v := 0) hx hb d_Mo_explored_149 (by decide) ?_
              refine lv_lor hx hb d_Mo_explored_150 ?_
              refine lv_lstore (lv' := [(9, .long (u170 ||| 0)), (8, .int 0), (7, .int v7), (6, .int v6), (0, .ref h), (1, .int v1), (2, .int v2), (3, .int v3)]) hx hb d_Mo_explored_151 hl (by decide) rfl (fun ls hl => ?_)
              refine lv_goto (tgt := 215) hx hb d_Mo_explored_153 (by decide) ?_
              refine lv_aload_n hx hb d_Mo_explored_215 rfl (lv_at hl 4 rfl) ?_
              refine lv_iload hx hb d_Mo_explored_216 (lv_at hl 1 rfl) ?_
              refine lv_lload hx hb d_Mo_explored_218 (lv_at hl 0 rfl) ?_
              refine lv_aload_n hx hb d_Mo_explored_220 rfl (lv_at hl 4 rfl) ?_
              refine lv_iload_n hx hb d_Mo_explored_221 rfl (lv_at hl 5 rfl) ?_
              refine lv_iload_n hx hb d_Mo_explored_222 rfl (lv_at hl 6 rfl) ?_
              refine lv_iload_n hx hb d_Mo_explored_223 rfl (lv_at hl 7 rfl) ?_
              refine lv_iload hx hb d_Mo_explored_224 (lv_at hl 1 rfl) ?_
              refine lv_lload hx hb d_Mo_explored_226 (lv_at hl 0 rfl) ?_
              obtain ⟨u173, eu173, hf⟩ := obd hf
              refine p_call (W.runV (As := [.int v1, .int v2, .int v3, .int 0, .long (u170 ||| 0)]) (rest := [.long (u170 ||| 0), .int 0, .ref h]) ⟨hx, hb, hml, hown, hts⟩ (c_Mo_ends l eu173) (gV 5 hts cd_Mo_ends ml_Mo_110 im_Mo_ends se_Mo_ends ini_Mo rfl rfl pd_Mo_ends ⟨Nat.le_trans (Nat.le_of_ble_eq_true rfl) hRf, Nat.le_trans (Nat.le_of_ble_eq_true rfl) hRl⟩) ⟨pPre_blind, va_recv hK hP (ci := 0) (q0 := 0) rfl rfl, pPre_of hP hK⟩ rfl rfl hl.1 rfl (lv_room (Nat.le_of_ble_eq_true rfl)) d_Mo_explored_228 ⟨hRc, hRs⟩) ?_
              obtain ⟨u174, eu174, hf⟩ := obd hf
              refine w_call (va_runV (As := [.int 0, .long (u170 ||| 0), .int (bI u173)]) (rest := []) ⟨hx, hb, hml, hown, hts⟩ (c_Mo_come l H.size eu174) (gV 3 hts cd_Mo_come ml_Mo_113 im_Mo_come se_Mo_come ini_Mo rfl rfl pd_Mo_come ⟨Nat.le_trans (Nat.le_of_ble_eq_true rfl) hRf, Nat.le_trans (Nat.le_of_ble_eq_true rfl) hRl⟩) ⟨wPre_blind, va_recv hK hP (ci := 0) (q0 := 0) rfl rfl, wPre_of hP hK hD⟩ rfl rfl hl.1 rfl (lv_room (Nat.le_of_ble_eq_true rfl)) d_Mo_explored_231 ⟨hRc, hRs⟩) hD hS hA (fun H locs hP hD hS => ?_)
              have hP : va_P D vwCl (moW K h a mErr mLanguages mBounds mSize mGoes mLast u174.2.1 mNext mGroup mFresh mLeader mNumber u174.2.2.1 u174.2.2.2.1 u174.2.2.2.2 mVariable mFactor mLeast mMost mLength mWord mKept mMany mMore mLeads mMet mTodo mMay mTries) H := hP
              have hD : va_D A (moW K h a mErr mLanguages mBounds mSize mGoes mLast u174.2.1 mNext mGroup mFresh mLeader mNumber u174.2.2.1 u174.2.2.2.1 u174.2.2.2.2 mVariable mFactor mLeast mMost mLength mWord mKept mMany mMore mLeads mMet mTodo mMay mTries) := hD
              refine lv_istore (lv' := [(11, .int u174.1), (9, .long (u170 ||| 0)), (8, .int 0), (7, .int v7), (6, .int v6), (0, .ref h), (1, .int v1), (2, .int v2), (3, .int v3)]) hx hb d_Mo_explored_234 hl (by decide) rfl (fun ls hl => ?_)
              refine lv_iload hx hb d_Mo_explored_236 (lv_at hl 0 rfl) ?_
              refine lv_if_ge (tgt := 243) hx hb d_Mo_explored_238 (by decide) (fun c175 => ?_) (fun c175 => ?_)
              · rw [if_pos c175] at hf
                refine lv_aload_n hx hb d_Mo_explored_243 rfl (lv_at hl 5 rfl) ?_
                refine va_get (D := D) (ci := 0) (v := .ref (a 4)) (C := R_Mo) (T := T_Mo) (N := 29) hx hb hts in_Mo hown hK hP 0 rfl rfl 7 (by decide) (hts _ fl_Mo_23) (fun _ h9 => h9) rfl d_Mo_explored_244 ?_
                refine lv_iconst (v := 4) hx hb d_Mo_explored_247 (by decide) ?_
                refine lv_iload hx hb d_Mo_explored_248 (lv_at hl 4 rfl) ?_
                refine lv_imul hx hb d_Mo_explored_250 ?_
                refine lv_iload hx hb d_Mo_explored_251 (lv_at hl 3 rfl) ?_
                refine lv_iadd hx hb d_Mo_explored_253 ?_
                refine lv_iload hx hb d_Mo_explored_254 (lv_at hl 0 rfl) ?_
                obtain ⟨g176, hf⟩ := ogi hf
                refine va_iast hx hb hK hP hD hS 5 0 rfl rfl (gin_in g176) d_Mo_explored_256 (fun H locs hP hD hS => ?_)
                have hP : va_P D vwCl (moW K h a mErr mLanguages mBounds mSize mGoes mLast u174.2.1 (upd mNext ((4 * v6) + v7).toNatClampNeg u174.1) mGroup mFresh mLeader mNumber u174.2.2.1 u174.2.2.2.1 u174.2.2.2.2 mVariable mFactor mLeast mMost mLength mWord mKept mMany mMore mLeads mMet mTodo mMay mTries) H := hP
                have hD : va_D A (moW K h a mErr mLanguages mBounds mSize mGoes mLast u174.2.1 (upd mNext ((4 * v6) + v7).toNatClampNeg u174.1) mGroup mFresh mLeader mNumber u174.2.2.1 u174.2.2.2.1 u174.2.2.2.2 mVariable mFactor mLeast mMost mLength mWord mKept mMany mMore mLeads mMet mTodo mMay mTries) := hD
                refine lv_iinc (v := v7 + 1) (lv' := [(7, .int (v7 + 1)), (11, .int u174.1), (9, .long (u170 ||| 0)), (8, .int 0), (6, .int v6), (0, .ref h), (1, .int v1), (2, .int v2), (3, .int v3)]) hx hb d_Mo_explored_257 hl (k := 3) rfl (by first | rfl | (congr 1)) (by decide) rfl (fun ls hl => ?_)
                refine lv_goto (tgt := 59) hx hb d_Mo_explored_260 (by decide) ?_
                exact ih _ _ _ _ _ _ hf _ _ _ hP hD hS (show lv_has ls 13 [(7, .int (v7 + 1)), (6, .int v6), (0, .ref h), (1, .int v1), (2, .int v2), (3, .int v3)] from lv_sub hl [0, 4, 5, 6, 7, 8] rfl)
              · rw [if_neg c175] at hf
                refine lv_iconst (v := 0) hx hb d_Mo_explored_241 (by decide) ?_
                exact Kr _ (Option.some.inj hf).symm _ _ _ _ d_Mo_explored_242 hP hD hS
            · rw [if_pos c172] at hf
              refine lv_lconst (v := 1) hx hb d_Mo_explored_145 (by decide) ?_
              refine lv_goto (tgt := 150) hx hb d_Mo_explored_146 (by decide) ?_
              refine lv_lor hx hb d_Mo_explored_150 ?_
              refine lv_lstore (lv' := [(9, .long (u170 ||| 1)), (8, .int 0), (7, .int v7), (6, .int v6), (0, .ref h), (1, .int v1), (2, .int v2), (3, .int v3)]) hx hb d_Mo_explored_151 hl (by decide) rfl (fun ls hl => ?_)
              refine lv_goto (tgt := 215) hx hb d_Mo_explored_153 (by decide) ?_
              refine lv_aload_n hx hb d_Mo_explored_215 rfl (lv_at hl 4 rfl) ?_
              refine lv_iload hx hb d_Mo_explored_216 (lv_at hl 1 rfl) ?_
              refine lv_lload hx hb d_Mo_explored_218 (lv_at hl 0 rfl) ?_
              refine lv_aload_n hx hb d_Mo_explored_220 rfl (lv_at hl 4 rfl) ?_
              refine lv_iload_n hx hb d_Mo_explored_221 rfl (lv_at hl 5 rfl) ?_
              refine lv_iload_n hx hb d_Mo_explored_222 rfl (lv_at hl 6 rfl) ?_
              refine lv_iload_n hx hb d_Mo_explored_223 rfl (lv_at hl 7 rfl) ?_
              refine lv_iload hx hb d_Mo_explored_224 (lv_at hl 1 rfl) ?_
              refine lv_lload hx hb d_Mo_explored_226 (lv_at hl 0 rfl) ?_
              obtain ⟨u177, eu177, hf⟩ := obd hf
              refine p_call (W.runV (As := [.int v1, .int v2, .int v3, .int 0, .long (u170 ||| 1)]) (rest := [.long (u170 ||| 1), .int 0, .ref h]) ⟨hx, hb, hml, hown, hts⟩ (c_Mo_ends l eu177) (gV 5 hts cd_Mo_ends ml_Mo_110 im_Mo_ends se_Mo_ends ini_Mo rfl rfl pd_Mo_ends ⟨Nat.le_trans (Nat.le_of_ble_eq_true rfl) hRf, Nat.le_trans (Nat.le_of_ble_eq_true rfl) hRl⟩) ⟨pPre_blind, va_recv hK hP (ci := 0) (q0 := 0) rfl rfl, pPre_of hP hK⟩ rfl rfl hl.1 rfl (lv_room (Nat.le_of_ble_eq_true rfl)) d_Mo_explored_228 ⟨hRc, hRs⟩) ?_
              obtain ⟨u178, eu178, hf⟩ := obd hf
              refine w_call (va_runV (As := [.int 0, .long (u170 ||| 1), .int (bI u177)]) (rest := []) ⟨hx, hb, hml, hown, hts⟩ (c_Mo_come l H.size eu178) (gV 3 hts cd_Mo_come ml_Mo_113 im_Mo_come se_Mo_come ini_Mo rfl rfl pd_Mo_come ⟨Nat.le_trans (Nat.le_of_ble_eq_true rfl) hRf, Nat.le_trans (Nat.le_of_ble_eq_true rfl) hRl⟩) ⟨wPre_blind, va_recv hK hP (ci := 0) (q0 := 0) rfl rfl, wPre_of hP hK hD⟩ rfl rfl hl.1 rfl (lv_room (Nat.le_of_ble_eq_true rfl)) d_Mo_explored_231 ⟨hRc, hRs⟩) hD hS hA (fun H locs hP hD hS => ?_)
              have hP : va_P D vwCl (moW K h a mErr mLanguages mBounds mSize mGoes mLast u178.2.1 mNext mGroup mFresh mLeader mNumber u178.2.2.1 u178.2.2.2.1 u178.2.2.2.2 mVariable mFactor mLeast mMost mLength mWord mKept mMany mMore mLeads mMet mTodo mMay mTries) H := hP
              have hD : va_D A (moW K h a mErr mLanguages mBounds mSize mGoes mLast u178.2.1 mNext mGroup mFresh mLeader mNumber u178.2.2.1 u178.2.2.2.1 u178.2.2.2.2 mVariable mFactor mLeast mMost mLength mWord mKept mMany mMore mLeads mMet mTodo mMay mTries) := hD
              refine lv_istore (lv' := [(11, .int u178.1), (9, .long (u170 ||| 1)), (8, .int 0), (7, .int v7), (6, .int v6), (0, .ref h), (1, .int v1), (2, .int v2), (3, .int v3)]) hx hb d_Mo_explored_234 hl (by decide) rfl (fun ls hl => ?_)
              refine lv_iload hx hb d_Mo_explored_236 (lv_at hl 0 rfl) ?_
              refine lv_if_ge (tgt := 243) hx hb d_Mo_explored_238 (by decide) (fun c179 => ?_) (fun c179 => ?_)
              · rw [if_pos c179] at hf
                refine lv_aload_n hx hb d_Mo_explored_243 rfl (lv_at hl 5 rfl) ?_
                refine va_get (D := D) (ci := 0) (v := .ref (a 4)) (C := R_Mo) (T := T_Mo) (N := 29) hx hb hts in_Mo hown hK hP 0 rfl rfl 7 (by decide) (hts _ fl_Mo_23) (fun _ h9 => h9) rfl d_Mo_explored_244 ?_
                refine lv_iconst (v := 4) hx hb d_Mo_explored_247 (by decide) ?_
                refine lv_iload hx hb d_Mo_explored_248 (lv_at hl 4 rfl) ?_
                refine lv_imul hx hb d_Mo_explored_250 ?_
                refine lv_iload hx hb d_Mo_explored_251 (lv_at hl 3 rfl) ?_
                refine lv_iadd hx hb d_Mo_explored_253 ?_
                refine lv_iload hx hb d_Mo_explored_254 (lv_at hl 0 rfl) ?_
                obtain ⟨g180, hf⟩ := ogi hf
                refine va_iast hx hb hK hP hD hS 5 0 rfl rfl (gin_in g180) d_Mo_explored_256 (fun H locs hP hD hS => ?_)
                have hP : va_P D vwCl (moW K h a mErr mLanguages mBounds mSize mGoes mLast u178.2.1 (upd mNext ((4 * v6) + v7).toNatClampNeg u178.1) mGroup mFresh mLeader mNumber u178.2.2.1 u178.2.2.2.1 u178.2.2.2.2 mVariable mFactor mLeast mMost mLength mWord mKept mMany mMore mLeads mMet mTodo mMay mTries) H := hP
                have hD : va_D A (moW K h a mErr mLanguages mBounds mSize mGoes mLast u178.2.1 (upd mNext ((4 * v6) + v7).toNatClampNeg u178.1) mGroup mFresh mLeader mNumber u178.2.2.1 u178.2.2.2.1 u178.2.2.2.2 mVariable mFactor mLeast mMost mLength mWord mKept mMany mMore mLeads mMet mTodo mMay mTries) := hD
                refine lv_iinc (v := v7 + 1) (lv' := [(7, .int (v7 + 1)), (11, .int u178.1), (9, .long (u170 ||| 1)), (8, .int 0), (6, .int v6), (0, .ref h), (1, .int v1), (2, .int v2), (3, .int v3)]) hx hb d_Mo_explored_257 hl (k := 3) rfl (by first | rfl | (congr 1)) (by decide) rfl (fun ls hl => ?_)
                refine lv_goto (tgt := 59) hx hb d_Mo_explored_260 (by decide) ?_
                exact ih _ _ _ _ _ _ hf _ _ _ hP hD hS (show lv_has ls 13 [(7, .int (v7 + 1)), (6, .int v6), (0, .ref h), (1, .int v1), (2, .int v2), (3, .int v3)] from lv_sub hl [0, 4, 5, 6, 7, 8] rfl)
              · rw [if_neg c179] at hf
                refine lv_iconst (v := 0) hx hb d_Mo_explored_241 (by decide) ?_
                exact Kr _ (Option.some.inj hf).symm _ _ _ _ d_Mo_explored_242 hP hD hS
        · rw [if_neg c144] at hf
          refine lv_aload_n hx hb d_Mo_explored_95 rfl (lv_at hl 3 rfl) ?_
          refine lv_iload_n hx hb d_Mo_explored_96 rfl (lv_at hl 6 rfl) ?_
          refine lv_aload_n hx hb d_Mo_explored_97 rfl (lv_at hl 3 rfl) ?_
          refine va_get (D := D) (ci := 0) (v := .ref (a 9)) (C := R_Mo) (T := T_Mo) (N := 29) hx hb hts in_Mo hown hK hP 0 rfl rfl 12 (by decide) (hts _ fl_Mo_38) (fun _ h9 => h9) rfl d_Mo_explored_98 ?_
          refine lv_iload hx hb d_Mo_explored_101 (lv_at hl 2 rfl) ?_
          obtain ⟨g181, hf⟩ := ogi hf
          refine va_lald hx hb hK hP 10 1 rfl rfl (gin_in g181) d_Mo_explored_103 ?_
          refine lv_l2i (v := (mRight v6.toNatClampNeg).toInt32) hx hb d_Mo_explored_104 rfl ?_
          refine lv_iload hx hb d_Mo_explored_105 (lv_at hl 1 rfl) ?_
          obtain ⟨u182, eu182, hf⟩ := obd hf
          refine p_call (W.runV (As := [.int v3, .int ((mRight v6.toNatClampNeg).toInt32), .int v7]) (rest := []) ⟨hx, hb, hml, hown, hts⟩ (c_Mo_go l eu182) (gV 3 hts cd_Mo_go ml_Mo_98 im_Mo_go se_Mo_go ini_Mo rfl rfl pd_Mo_go ⟨Nat.le_trans (Nat.le_of_ble_eq_true rfl) hRf, Nat.le_trans (Nat.le_of_ble_eq_true rfl) hRl⟩) ⟨pPre_blind, va_recv hK hP (ci := 0) (q0 := 0) rfl rfl, pPre_of hP hK⟩ rfl rfl hl.1 rfl (lv_room (Nat.le_of_ble_eq_true rfl)) d_Mo_explored_107 ⟨hRc, hRs⟩) ?_
          refine lv_i2l (v := u182.toInt64) hx hb d_Mo_explored_110 rfl ?_
          refine lv_lstore (lv' := [(9, .long u182.toInt64), (8, .int 0), (7, .int v7), (6, .int v6), (0, .ref h), (1, .int v1), (2, .int v2), (3, .int v3)]) hx hb d_Mo_explored_111 hl (by decide) rfl (fun ls hl => ?_)
          refine lv_goto (tgt := 215) hx hb d_Mo_explored_113 (by decide) ?_
          refine lv_aload_n hx hb d_Mo_explored_215 rfl (lv_at hl 4 rfl) ?_
          refine lv_iload hx hb d_Mo_explored_216 (lv_at hl 1 rfl) ?_
          refine lv_lload hx hb d_Mo_explored_218 (lv_at hl 0 rfl) ?_
          refine lv_aload_n hx hb d_Mo_explored_220 rfl (lv_at hl 4 rfl) ?_
          refine lv_iload_n hx hb d_Mo_explored_221 rfl (lv_at hl 5 rfl) ?_
          refine lv_iload_n hx hb d_Mo_explored_222 rfl (lv_at hl 6 rfl) ?_
          refine lv_iload_n hx hb d_Mo_explored_223 rfl (lv_at hl 7 rfl) ?_
          refine lv_iload hx hb d_Mo_explored_224 (lv_at hl 1 rfl) ?_
          refine lv_lload hx hb d_Mo_explored_226 (lv_at hl 0 rfl) ?_
          obtain ⟨u183, eu183, hf⟩ := obd hf
          refine p_call (W.runV (As := [.int v1, .int v2, .int v3, .int 0, .long u182.toInt64]) (rest := [.long u182.toInt64, .int 0, .ref h]) ⟨hx, hb, hml, hown, hts⟩ (c_Mo_ends l eu183) (gV 5 hts cd_Mo_ends ml_Mo_110 im_Mo_ends se_Mo_ends ini_Mo rfl rfl pd_Mo_ends ⟨Nat.le_trans (Nat.le_of_ble_eq_true rfl) hRf, Nat.le_trans (Nat.le_of_ble_eq_true rfl) hRl⟩) ⟨pPre_blind, va_recv hK hP (ci := 0) (q0 := 0) rfl rfl, pPre_of hP hK⟩ rfl rfl hl.1 rfl (lv_room (Nat.le_of_ble_eq_true rfl)) d_Mo_explored_228 ⟨hRc, hRs⟩) ?_
          obtain ⟨u184, eu184, hf⟩ := obd hf
          refine w_call (va_runV (As := [.int 0, .long u182.toInt64, .int (bI u183)]) (rest := []) ⟨hx, hb, hml, hown, hts⟩ (c_Mo_come l H.size eu184) (gV 3 hts cd_Mo_come ml_Mo_113 im_Mo_come se_Mo_come ini_Mo rfl rfl pd_Mo_come ⟨Nat.le_trans (Nat.le_of_ble_eq_true rfl) hRf, Nat.le_trans (Nat.le_of_ble_eq_true rfl) hRl⟩) ⟨wPre_blind, va_recv hK hP (ci := 0) (q0 := 0) rfl rfl, wPre_of hP hK hD⟩ rfl rfl hl.1 rfl (lv_room (Nat.le_of_ble_eq_true rfl)) d_Mo_explored_231 ⟨hRc, hRs⟩) hD hS hA (fun H locs hP hD hS => ?_)
          have hP : va_P D vwCl (moW K h a mErr mLanguages mBounds mSize mGoes mLast u184.2.1 mNext mGroup mFresh mLeader mNumber u184.2.2.1 u184.2.2.2.1 u184.2.2.2.2 mVariable mFactor mLeast mMost mLength mWord mKept mMany mMore mLeads mMet mTodo mMay mTries) H := hP
          have hD : va_D A (moW K h a mErr mLanguages mBounds mSize mGoes mLast u184.2.1 mNext mGroup mFresh mLeader mNumber u184.2.2.1 u184.2.2.2.1 u184.2.2.2.2 mVariable mFactor mLeast mMost mLength mWord mKept mMany mMore mLeads mMet mTodo mMay mTries) := hD
          refine lv_istore (lv' := [(11, .int u184.1), (9, .long u182.toInt64), (8, .int 0), (7, .int v7), (6, .int v6), (0, .ref h), (1, .int v1), (2, .int v2), (3, .int v3)]) hx hb d_Mo_explored_234 hl (by decide) rfl (fun ls hl => ?_)
          refine lv_iload hx hb d_Mo_explored_236 (lv_at hl 0 rfl) ?_
          refine lv_if_ge (tgt := 243) hx hb d_Mo_explored_238 (by decide) (fun c185 => ?_) (fun c185 => ?_)
          · rw [if_pos c185] at hf
            refine lv_aload_n hx hb d_Mo_explored_243 rfl (lv_at hl 5 rfl) ?_
            refine va_get (D := D) (ci := 0) (v := .ref (a 4)) (C := R_Mo) (T := T_Mo) (N := 29) hx hb hts in_Mo hown hK hP 0 rfl rfl 7 (by decide) (hts _ fl_Mo_23) (fun _ h9 => h9) rfl d_Mo_explored_244 ?_
            refine lv_iconst (v := 4) hx hb d_Mo_explored_247 (by decide) ?_
            refine lv_iload hx hb d_Mo_explored_248 (lv_at hl 4 rfl) ?_
            refine lv_imul hx hb d_Mo_explored_250 ?_
            refine lv_iload hx hb d_Mo_explored_251 (lv_at hl 3 rfl) ?_
            refine lv_iadd hx hb d_Mo_explored_253 ?_
            refine lv_iload hx hb d_Mo_explored_254 (lv_at hl 0 rfl) ?_
            obtain ⟨g186, hf⟩ := ogi hf
            refine va_iast hx hb hK hP hD hS 5 0 rfl rfl (gin_in g186) d_Mo_explored_256 (fun H locs hP hD hS => ?_)
            have hP : va_P D vwCl (moW K h a mErr mLanguages mBounds mSize mGoes mLast u184.2.1 (upd mNext ((4 * v6) + v7).toNatClampNeg u184.1) mGroup mFresh mLeader mNumber u184.2.2.1 u184.2.2.2.1 u184.2.2.2.2 mVariable mFactor mLeast mMost mLength mWord mKept mMany mMore mLeads mMet mTodo mMay mTries) H := hP
            have hD : va_D A (moW K h a mErr mLanguages mBounds mSize mGoes mLast u184.2.1 (upd mNext ((4 * v6) + v7).toNatClampNeg u184.1) mGroup mFresh mLeader mNumber u184.2.2.1 u184.2.2.2.1 u184.2.2.2.2 mVariable mFactor mLeast mMost mLength mWord mKept mMany mMore mLeads mMet mTodo mMay mTries) := hD
            refine lv_iinc (v := v7 + 1) (lv' := [(7, .int (v7 + 1)), (11, .int u184.1), (9, .long u182.toInt64), (8, .int 0), (6, .int v6), (0, .ref h), (1, .int v1), (2, .int v2), (3, .int v3)]) hx hb d_Mo_explored_257 hl (k := 3) rfl (by first | rfl | (congr 1)) (by decide) rfl (fun ls hl => ?_)
            refine lv_goto (tgt := 59) hx hb d_Mo_explored_260 (by decide) ?_
            exact ih _ _ _ _ _ _ hf _ _ _ hP hD hS (show lv_has ls 13 [(7, .int (v7 + 1)), (6, .int v6), (0, .ref h), (1, .int v1), (2, .int v2), (3, .int v3)] from lv_sub hl [0, 4, 5, 6, 7, 8] rfl)
          · rw [if_neg c185] at hf
            refine lv_iconst (v := 0) hx hb d_Mo_explored_241 (by decide) ?_
            exact Kr _ (Option.some.inj hf).symm _ _ _ _ d_Mo_explored_242 hP hD hS
def f_Mo_explored_47 (n : Nat) (v1 : Int32) (v2 : Int32) (v3 : Int32) (mSize : Nat → Int32) (mGoes : Nat → Int32) (mLast : Nat → Bool) : Nat → Int32 → (Nat → Int32) → (Nat → Int32) → (Nat → Int64) → (Nat → Bool) → Int32 → Option ((Bool × (Nat → Int32) × (Nat → Int32) × (Nat → Int64) × (Nat → Bool) × Int32) ⊕ (Int32 × (Nat → Int32) × (Nat → Int32) × (Nat → Int64) × (Nat → Bool) × Int32))
  | 0, _, _, _, _, _, _ => none
  | k + 1, v6, mLeft, mNext, mRight, mEnds, mWay =>
    if mWay ≤ v6 then
      some (.inr (v6, mLeft, mNext, mRight, mEnds, mWay))
    else
      (f_Mo_explored_59 n v6 v1 v2 v3 mSize mGoes mLast n 0 mLeft mNext mRight mEnds mWay).bind fun u187 => u187.elim (fun r => some (.inl r)) fun x187 =>
      f_Mo_explored_47 n v1 v2 v3 mSize mGoes mLast k (v6 + 1) x187.2.1 x187.2.2.1 x187.2.2.2.1 x187.2.2.2.2.1 x187.2.2.2.2.2
set_option maxHeartbeats 4000000 in
set_option maxRecDepth 100000 in
theorem w_Mo_explored_47  {v1 : Int32} {v2 : Int32} {v3 : Int32} (hx : p.tables.exec = Jvm.exec) (hb : c.code = b_Mo_explored) (hml : c.maxLocals = 13) (hts : ∀ w ∈ gW, w.before args s = true) (hown : s.vm.findClass "RegularSolverModel" = some m.cls) (hK : va_K D vwCl (tG K) s) (hRf : 3 ≤ R.frames) (hRl : 72 ≤ R.locals) (hRc : cells ≤ R.cells) (hRs : slots ≤ R.slots) (hA : ∀ q, H0.size ≤ q → A q)  {out : (Bool × (Nat → Int32) × (Nat → Int32) × (Nat → Int64) × (Nat → Bool) × Int32) ⊕ (Int32 × (Nat → Int32) × (Nat → Int32) × (Nat → Int64) × (Nat → Bool) × Int32)} (Kr : ∀ (r : Bool × (Nat → Int32) × (Nat → Int32) × (Nat → Int64) × (Nat → Bool) × Int32), out = .inl r → ∀ (pc : Nat) (ls : Array Slot) (H : Heap) (locs : List Loc), decode b_Mo_explored pc = .ok (.ireturn, 1) → va_P D vwCl (moW K h a mErr mLanguages mBounds mSize mGoes mLast r.2.1 r.2.2.1 mGroup mFresh mLeader mNumber r.2.2.2.1 r.2.2.2.2.1 r.2.2.2.2.2 mVariable mFactor mLeast mMost mLength mWord mKept mMany mMore mLeads mMet mTodo mMay mTries) H → va_D A (moW K h a mErr mLanguages mBounds mSize mGoes mLast r.2.1 r.2.2.1 mGroup mFresh mLeader mNumber r.2.2.2.1 r.2.2.2.2.1 r.2.2.2.2.2 mVariable mFactor mLeast mMost mLength mWord mKept mMany mMore mLeads mMet mTodo mMay mTries) → va_S A H0 H locs → W p l e R s m args below meth c H locs cells slots Q (F0 m pc ls [.int (bI r.1)])) (Kx : ∀ (u : Int32 × (Nat → Int32) × (Nat → Int32) × (Nat → Int64) × (Nat → Bool) × Int32), out = .inr u → ∀ (ls : Array Slot) (H : Heap) (locs : List Loc), va_P D vwCl (moW K h a mErr mLanguages mBounds mSize mGoes mLast u.2.1 u.2.2.1 mGroup mFresh mLeader mNumber u.2.2.2.1 u.2.2.2.2.1 u.2.2.2.2.2 mVariable mFactor mLeast mMost mLength mWord mKept mMany mMore mLeads mMet mTodo mMay mTries) H → va_D A (moW K h a mErr mLanguages mBounds mSize mGoes mLast u.2.1 u.2.2.1 mGroup mFresh mLeader mNumber u.2.2.2.1 u.2.2.2.2.1 u.2.2.2.2.2 mVariable mFactor mLeast mMost mLength mWord mKept mMany mMore mLeads mMet mTodo mMay mTries) → va_S A H0 H locs → lv_has ls 13 [] → W p l e R s m args below meth c H locs cells slots Q (F0 m 269 ls [])) :
    ∀ (k : Nat) (v6 : Int32) (mLeft : Nat → Int32) (mNext : Nat → Int32) (mRight : Nat → Int64) (mEnds : Nat → Bool) (mWay : Int32), f_Mo_explored_47 n v1 v2 v3 mSize mGoes mLast k v6 mLeft mNext mRight mEnds mWay = some out → ∀ (ls : Array Slot) (H : Heap) (locs : List Loc), va_P D vwCl (moW K h a mErr mLanguages mBounds mSize mGoes mLast mLeft mNext mGroup mFresh mLeader mNumber mRight mEnds mWay mVariable mFactor mLeast mMost mLength mWord mKept mMany mMore mLeads mMet mTodo mMay mTries) H → va_D A (moW K h a mErr mLanguages mBounds mSize mGoes mLast mLeft mNext mGroup mFresh mLeader mNumber mRight mEnds mWay mVariable mFactor mLeast mMost mLength mWord mKept mMany mMore mLeads mMet mTodo mMay mTries) → va_S A H0 H locs → lv_has ls 13 [(6, .int v6), (0, .ref h), (1, .int v1), (2, .int v2), (3, .int v3)] → W p l e R s m args below meth c H locs cells slots Q (F0 m 47 ls []) := by
  intro k
  induction k with
  | zero => intro _ _ _ _ _ _ hf; exact nomatch (show none = some out from hf)
  | succ k ih =>
    intro v6 mLeft mNext mRight mEnds mWay hf ls H locs hP hD hS hl
    rw [f_Mo_explored_47] at hf
    refine lv_iload hx hb d_Mo_explored_47 (lv_at hl 0 rfl) ?_
    refine lv_aload_n hx hb d_Mo_explored_49 rfl (lv_at hl 1 rfl) ?_
    refine va_get (D := D) (ci := 0) (v := .int mWay) (C := R_Mo) (T := T_Mo) (N := 29) hx hb hts in_Mo hown hK hP 0 rfl rfl 14 (by decide) (hts _ fl_Mo_95) (fun _ h9 => h9) rfl d_Mo_explored_50 ?_
    refine lv_icmp_ge (tgt := 269) hx hb d_Mo_explored_53 (by decide) (fun c96 => ?_) (fun c96 => ?_)
    · rw [if_pos c96] at hf
      exact Kx _ (Option.some.inj hf).symm _ _ _ hP hD hS (show lv_has ls 13 [] from lv_sub hl [] rfl)
    · rw [if_neg c96] at hf
      refine lv_iconst (v := 0) hx hb d_Mo_explored_56 (by decide) ?_
      refine lv_istore (lv' := [(7, .int 0), (6, .int v6), (0, .ref h), (1, .int v1), (2, .int v2), (3, .int v3)]) hx hb d_Mo_explored_57 hl (by decide) rfl (fun ls hl => ?_)
      obtain ⟨u187, eu187, hf⟩ := obd hf
      refine w_Mo_explored_59 hx hb hml hts hown hK hRf hRl hRc hRs hA (fun r er pc ls H locs hd hP hD hS => Kr r (by subst er; exact (Option.some.inj hf).symm) pc ls H locs hd hP hD hS) (fun x187 eu ls H locs hP hD hS hl => ?_) _ _ _ _ _ _ _ eu187 _ _ _ hP hD hS (show lv_has ls 13 [(7, .int 0), (6, .int v6), (0, .ref h), (1, .int v1), (2, .int v2), (3, .int v3)] from lv_sub hl [0, 1, 2, 3, 4, 5] rfl)
      subst eu
      replace hf := oel hf
      refine lv_iinc (v := v6 + 1) (lv' := [(6, .int (v6 + 1)), (0, .ref h), (1, .int v1), (2, .int v2), (3, .int v3)]) hx hb d_Mo_explored_263 hl (k := 0) rfl (by first | rfl | (congr 1)) (by decide) rfl (fun ls hl => ?_)
      refine lv_goto (tgt := 47) hx hb d_Mo_explored_266 (by decide) ?_
      exact ih _ _ _ _ _ _ hf _ _ _ hP hD hS (show lv_has ls 13 [(6, .int (v6 + 1)), (0, .ref h), (1, .int v1), (2, .int v2), (3, .int v3)] from lv_sub hl [0, 1, 2, 3, 4] rfl)
def f_Mo_explored (n : Nat) (p0 : Int32) (p1 : Int32) (p2 : Int32) (mSize : Nat → Int32) (mGoes : Nat → Int32) (mLast : Nat → Bool) (mLeft : Nat → Int32) (mNext : Nat → Int32) (mRight : Nat → Int64) (mEnds : Nat → Bool) : Option (Bool × (Nat → Int32) × (Nat → Int32) × (Nat → Int64) × (Nat → Bool) × Int32) :=
  if p0 = 2 then
    (f_Mo_isLast n p1 0 mLast).bind fun u189 =>
    if u189 = true then
      (f_Mo_ends n p0 p1 p2 0 1 mSize mLast).bind fun u194 =>
      (f_Mo_come n 0 1 u194 mLeft mRight mEnds 0).bind fun u195 =>
      (f_Mo_explored_47 n p0 p1 p2 mSize mGoes mLast n 0 u195.2.1 mNext u195.2.2.1 u195.2.2.2.1 u195.2.2.2.2).bind fun u196 => u196.elim (fun r => some r) fun x196 =>
      some (true, x196.2.1, x196.2.2.1, x196.2.2.2.1, x196.2.2.2.2.1, x196.2.2.2.2.2)
    else
      (f_Mo_ends n p0 p1 p2 0 0 mSize mLast).bind fun u191 =>
      (f_Mo_come n 0 0 u191 mLeft mRight mEnds 0).bind fun u192 =>
      (f_Mo_explored_47 n p0 p1 p2 mSize mGoes mLast n 0 u192.2.1 mNext u192.2.2.1 u192.2.2.2.1 u192.2.2.2.2).bind fun u193 => u193.elim (fun r => some r) fun x193 =>
      some (true, x193.2.1, x193.2.2.1, x193.2.2.2.1, x193.2.2.2.2.1, x193.2.2.2.2.2)
  else
    (f_Mo_ends n p0 p1 p2 0 0 mSize mLast).bind fun u2 =>
    (f_Mo_come n 0 0 u2 mLeft mRight mEnds 0).bind fun u3 =>
    (f_Mo_explored_47 n p0 p1 p2 mSize mGoes mLast n 0 u3.2.1 mNext u3.2.2.1 u3.2.2.2.1 u3.2.2.2.2).bind fun u188 => u188.elim (fun r => some r) fun x188 =>
    some (true, x188.2.1, x188.2.2.1, x188.2.2.2.1, x188.2.2.2.2.1, x188.2.2.2.2.2)
set_option maxHeartbeats 4000000 in
set_option maxRecDepth 100000 in
theorem w_Mo_explored  {p0 : Int32} {p1 : Int32} {p2 : Int32}  (hx : p.tables.exec = Jvm.exec) (hb : c.code = b_Mo_explored) (hml : c.maxLocals = 13) (hts : ∀ w ∈ gW, w.before args s = true) (hown : s.vm.findClass "RegularSolverModel" = some m.cls) (hK : va_K D vwCl (tG K) s) (hRf : 3 ≤ R.frames) (hRl : 72 ≤ R.locals) (hRc : cells ≤ R.cells) (hRs : slots ≤ R.slots) (hA : ∀ q, H0.size ≤ q → A q) {out : Bool × (Nat → Int32) × (Nat → Int32) × (Nat → Int64) × (Nat → Bool) × Int32} (Kr : ∀ (r : Bool × (Nat → Int32) × (Nat → Int32) × (Nat → Int64) × (Nat → Bool) × Int32), out = r → ∀ (pc : Nat) (ls : Array Slot) (H : Heap) (locs : List Loc), decode b_Mo_explored pc = .ok (.ireturn, 1) → va_P D vwCl (moW K h a mErr mLanguages mBounds mSize mGoes mLast r.2.1 r.2.2.1 mGroup mFresh mLeader mNumber r.2.2.2.1 r.2.2.2.2.1 r.2.2.2.2.2 mVariable mFactor mLeast mMost mLength mWord mKept mMany mMore mLeads mMet mTodo mMay mTries) H → va_D A (moW K h a mErr mLanguages mBounds mSize mGoes mLast r.2.1 r.2.2.1 mGroup mFresh mLeader mNumber r.2.2.2.1 r.2.2.2.2.1 r.2.2.2.2.2 mVariable mFactor mLeast mMost mLength mWord mKept mMany mMore mLeads mMet mTodo mMay mTries) → va_S A H0 H locs → W p l e R s m args below meth c H locs cells slots Q (F0 m pc ls [.int (bI r.1)])) (hf : f_Mo_explored n p0 p1 p2 mSize mGoes mLast mLeft mNext mRight mEnds = some out) (ls : Array Slot) (hP : va_P D vwCl (moW K h a mErr mLanguages mBounds mSize mGoes mLast mLeft mNext mGroup mFresh mLeader mNumber mRight mEnds mWay mVariable mFactor mLeast mMost mLength mWord mKept mMany mMore mLeads mMet mTodo mMay mTries) H) (hD : va_D A (moW K h a mErr mLanguages mBounds mSize mGoes mLast mLeft mNext mGroup mFresh mLeader mNumber mRight mEnds mWay mVariable mFactor mLeast mMost mLength mWord mKept mMany mMore mLeads mMet mTodo mMay mTries)) (hS : va_S A H0 H locs) (hl : lv_has ls 13 [(0, .ref h), (1, .int p0), (2, .int p1), (3, .int p2)]) : W p l e R s m args below meth c H locs cells slots Q (F0 m 0 ls []) := by
  unfold f_Mo_explored at hf
  refine lv_aload_n hx hb d_Mo_explored_0 rfl (lv_at hl 0 rfl) ?_
  refine lv_iconst (v := 0) hx hb d_Mo_explored_1 (by decide) ?_
  refine va_put (D := D) (ci := 0) (v := .int 0) (ty := .int) (C := R_Mo) (T := T_Mo) (N := 29) hx hb hts in_Mo t_Mo t_Mo_ok n_Mo hown hK hP hD hS 0 rfl rfl 14 (by decide) (hts _ fl_Mo_95) (fun _ h9 => h9) rfl (by decide +kernel) rfl rfl (Nat.le_of_ble_eq_true rfl) d_Mo_explored_2 (fun H locs hP hD hS => ?_)
  have hP : va_P D vwCl (moW K h a mErr mLanguages mBounds mSize mGoes mLast mLeft mNext mGroup mFresh mLeader mNumber mRight mEnds 0 mVariable mFactor mLeast mMost mLength mWord mKept mMany mMore mLeads mMet mTodo mMay mTries) H := hP
  have hD : va_D A (moW K h a mErr mLanguages mBounds mSize mGoes mLast mLeft mNext mGroup mFresh mLeader mNumber mRight mEnds 0 mVariable mFactor mLeast mMost mLength mWord mKept mMany mMore mLeads mMet mTodo mMay mTries) := hD
  refine lv_iload_n hx hb d_Mo_explored_5 rfl (lv_at hl 1 rfl) ?_
  refine lv_iconst (v := 2) hx hb d_Mo_explored_6 (by decide) ?_
  refine lv_icmp_ne (tgt := 23) hx hb d_Mo_explored_7 (by decide) (fun c1 => ?_) (fun c1 => ?_)
  · rw [if_neg c1] at hf
    refine lv_lconst (v := 0) hx hb d_Mo_explored_23 (by decide) ?_
    refine lv_lstore (lv' := [(4, .long 0), (0, .ref h), (1, .int p0), (2, .int p1), (3, .int p2)]) hx hb d_Mo_explored_24 hl (by decide) rfl (fun ls hl => ?_)
    refine lv_aload_n hx hb d_Mo_explored_26 rfl (lv_at hl 1 rfl) ?_
    refine lv_iconst (v := 0) hx hb d_Mo_explored_27 (by decide) ?_
    refine lv_lload hx hb d_Mo_explored_28 (lv_at hl 0 rfl) ?_
    refine lv_aload_n hx hb d_Mo_explored_30 rfl (lv_at hl 1 rfl) ?_
    refine lv_iload_n hx hb d_Mo_explored_31 rfl (lv_at hl 2 rfl) ?_
    refine lv_iload_n hx hb d_Mo_explored_32 rfl (lv_at hl 3 rfl) ?_
    refine lv_iload_n hx hb d_Mo_explored_33 rfl (lv_at hl 4 rfl) ?_
    refine lv_iconst (v := 0) hx hb d_Mo_explored_34 (by decide) ?_
    refine lv_lload hx hb d_Mo_explored_35 (lv_at hl 0 rfl) ?_
    obtain ⟨u2, eu2, hf⟩ := obd hf
    refine p_call (W.runV (As := [.int p0, .int p1, .int p2, .int 0, .long 0]) (rest := [.long 0, .int 0, .ref h]) ⟨hx, hb, hml, hown, hts⟩ (c_Mo_ends l eu2) (gV 5 hts cd_Mo_ends ml_Mo_110 im_Mo_ends se_Mo_ends ini_Mo rfl rfl pd_Mo_ends ⟨Nat.le_trans (Nat.le_of_ble_eq_true rfl) hRf, Nat.le_trans (Nat.le_of_ble_eq_true rfl) hRl⟩) ⟨pPre_blind, va_recv hK hP (ci := 0) (q0 := 0) rfl rfl, pPre_of hP hK⟩ rfl rfl hl.1 rfl (lv_room (Nat.le_of_ble_eq_true rfl)) d_Mo_explored_37 ⟨hRc, hRs⟩) ?_
    obtain ⟨u3, eu3, hf⟩ := obd hf
    refine w_call (va_runV (As := [.int 0, .long 0, .int (bI u2)]) (rest := []) ⟨hx, hb, hml, hown, hts⟩ (c_Mo_come l H.size eu3) (gV 3 hts cd_Mo_come ml_Mo_113 im_Mo_come se_Mo_come ini_Mo rfl rfl pd_Mo_come ⟨Nat.le_trans (Nat.le_of_ble_eq_true rfl) hRf, Nat.le_trans (Nat.le_of_ble_eq_true rfl) hRl⟩) ⟨wPre_blind, va_recv hK hP (ci := 0) (q0 := 0) rfl rfl, wPre_of hP hK hD⟩ rfl rfl hl.1 rfl (lv_room (Nat.le_of_ble_eq_true rfl)) d_Mo_explored_40 ⟨hRc, hRs⟩) hD hS hA (fun H locs hP hD hS => ?_)
    have hP : va_P D vwCl (moW K h a mErr mLanguages mBounds mSize mGoes mLast u3.2.1 mNext mGroup mFresh mLeader mNumber u3.2.2.1 u3.2.2.2.1 u3.2.2.2.2 mVariable mFactor mLeast mMost mLength mWord mKept mMany mMore mLeads mMet mTodo mMay mTries) H := hP
    have hD : va_D A (moW K h a mErr mLanguages mBounds mSize mGoes mLast u3.2.1 mNext mGroup mFresh mLeader mNumber u3.2.2.1 u3.2.2.2.1 u3.2.2.2.2 mVariable mFactor mLeast mMost mLength mWord mKept mMany mMore mLeads mMet mTodo mMay mTries) := hD
    refine lv_pop hx hb d_Mo_explored_43 rfl ?_
    refine lv_iconst (v := 0) hx hb d_Mo_explored_44 (by decide) ?_
    refine lv_istore (lv' := [(6, .int 0), (4, .long 0), (0, .ref h), (1, .int p0), (2, .int p1), (3, .int p2)]) hx hb d_Mo_explored_45 hl (by decide) rfl (fun ls hl => ?_)
    obtain ⟨u188, eu188, hf⟩ := obd hf
    refine w_Mo_explored_47 hx hb hml hts hown hK hRf hRl hRc hRs hA (fun r er pc ls H locs hd hP hD hS => Kr r (by subst er; exact (Option.some.inj hf).symm) pc ls H locs hd hP hD hS) (fun x188 eu ls H locs hP hD hS hl => ?_) _ _ _ _ _ _ _ eu188 _ _ _ hP hD hS (show lv_has ls 13 [(6, .int 0), (0, .ref h), (1, .int p0), (2, .int p1), (3, .int p2)] from lv_sub hl [0, 2, 3, 4, 5] rfl)
    subst eu
    replace hf := oel hf
    refine lv_iconst (v := 1) hx hb d_Mo_explored_269 (by decide) ?_
    exact Kr _ (Option.some.inj hf).symm _ _ _ _ d_Mo_explored_270 hP hD hS
  · rw [if_pos c1] at hf
    refine lv_aload_n hx hb d_Mo_explored_10 rfl (lv_at hl 0 rfl) ?_
    refine lv_iload_n hx hb d_Mo_explored_11 rfl (lv_at hl 2 rfl) ?_
    refine lv_iconst (v := 0) hx hb d_Mo_explored_12 (by decide) ?_
    obtain ⟨u189, eu189, hf⟩ := obd hf
    refine p_call (W.runV (As := [.int p1, .int 0]) (rest := []) ⟨hx, hb, hml, hown, hts⟩ (c_Mo_isLast l eu189) (gV 2 hts cd_Mo_isLast ml_Mo_102 im_Mo_isLast se_Mo_isLast ini_Mo rfl rfl pd_Mo_isLast ⟨Nat.le_trans (Nat.le_of_ble_eq_true rfl) hRf, Nat.le_trans (Nat.le_of_ble_eq_true rfl) hRl⟩) ⟨pPre_blind, va_recv hK hP (ci := 0) (q0 := 0) rfl rfl, pPre_of hP hK⟩ rfl rfl hl.1 rfl (lv_room (Nat.le_of_ble_eq_true rfl)) d_Mo_explored_13 ⟨hRc, hRs⟩) ?_
    refine bz_eq (tgt := 23) hx hb d_Mo_explored_16 (by decide) (fun c190 => ?_) (fun c190 => ?_)
    · rw [if_neg c190] at hf
      refine lv_lconst (v := 0) hx hb d_Mo_explored_23 (by decide) ?_
      refine lv_lstore (lv' := [(4, .long 0), (0, .ref h), (1, .int p0), (2, .int p1), (3, .int p2)]) hx hb d_Mo_explored_24 hl (by decide) rfl (fun ls hl => ?_)
      refine lv_aload_n hx hb d_Mo_explored_26 rfl (lv_at hl 1 rfl) ?_
      refine lv_iconst (v := 0) hx hb d_Mo_explored_27 (by decide) ?_
      refine lv_lload hx hb d_Mo_explored_28 (lv_at hl 0 rfl) ?_
      refine lv_aload_n hx hb d_Mo_explored_30 rfl (lv_at hl 1 rfl) ?_
      refine lv_iload_n hx hb d_Mo_explored_31 rfl (lv_at hl 2 rfl) ?_
      refine lv_iload_n hx hb d_Mo_explored_32 rfl (lv_at hl 3 rfl) ?_
      refine lv_iload_n hx hb d_Mo_explored_33 rfl (lv_at hl 4 rfl) ?_
      refine lv_iconst (v := 0) hx hb d_Mo_explored_34 (by decide) ?_
      refine lv_lload hx hb d_Mo_explored_35 (lv_at hl 0 rfl) ?_
      obtain ⟨u191, eu191, hf⟩ := obd hf
      refine p_call (W.runV (As := [.int p0, .int p1, .int p2, .int 0, .long 0]) (rest := [.long 0, .int 0, .ref h]) ⟨hx, hb, hml, hown, hts⟩ (c_Mo_ends l eu191) (gV 5 hts cd_Mo_ends ml_Mo_110 im_Mo_ends se_Mo_ends ini_Mo rfl rfl pd_Mo_ends ⟨Nat.le_trans (Nat.le_of_ble_eq_true rfl) hRf, Nat.le_trans (Nat.le_of_ble_eq_true rfl) hRl⟩) ⟨pPre_blind, va_recv hK hP (ci := 0) (q0 := 0) rfl rfl, pPre_of hP hK⟩ rfl rfl hl.1 rfl (lv_room (Nat.le_of_ble_eq_true rfl)) d_Mo_explored_37 ⟨hRc, hRs⟩) ?_
      obtain ⟨u192, eu192, hf⟩ := obd hf
      refine w_call (va_runV (As := [.int 0, .long 0, .int (bI u191)]) (rest := []) ⟨hx, hb, hml, hown, hts⟩ (c_Mo_come l H.size eu192) (gV 3 hts cd_Mo_come ml_Mo_113 im_Mo_come se_Mo_come ini_Mo rfl rfl pd_Mo_come ⟨Nat.le_trans (Nat.le_of_ble_eq_true rfl) hRf, Nat.le_trans (Nat.le_of_ble_eq_true rfl) hRl⟩) ⟨wPre_blind, va_recv hK hP (ci := 0) (q0 := 0) rfl rfl, wPre_of hP hK hD⟩ rfl rfl hl.1 rfl (lv_room (Nat.le_of_ble_eq_true rfl)) d_Mo_explored_40 ⟨hRc, hRs⟩) hD hS hA (fun H locs hP hD hS => ?_)
      have hP : va_P D vwCl (moW K h a mErr mLanguages mBounds mSize mGoes mLast u192.2.1 mNext mGroup mFresh mLeader mNumber u192.2.2.1 u192.2.2.2.1 u192.2.2.2.2 mVariable mFactor mLeast mMost mLength mWord mKept mMany mMore mLeads mMet mTodo mMay mTries) H := hP
      have hD : va_D A (moW K h a mErr mLanguages mBounds mSize mGoes mLast u192.2.1 mNext mGroup mFresh mLeader mNumber u192.2.2.1 u192.2.2.2.1 u192.2.2.2.2 mVariable mFactor mLeast mMost mLength mWord mKept mMany mMore mLeads mMet mTodo mMay mTries) := hD
      refine lv_pop hx hb d_Mo_explored_43 rfl ?_
      refine lv_iconst (v := 0) hx hb d_Mo_explored_44 (by decide) ?_
      refine lv_istore (lv' := [(6, .int 0), (4, .long 0), (0, .ref h), (1, .int p0), (2, .int p1), (3, .int p2)]) hx hb d_Mo_explored_45 hl (by decide) rfl (fun ls hl => ?_)
      obtain ⟨u193, eu193, hf⟩ := obd hf
      refine w_Mo_explored_47 hx hb hml hts hown hK hRf hRl hRc hRs hA (fun r er pc ls H locs hd hP hD hS => Kr r (by subst er; exact (Option.some.inj hf).symm) pc ls H locs hd hP hD hS) (fun x193 eu ls H locs hP hD hS hl => ?_) _ _ _ _ _ _ _ eu193 _ _ _ hP hD hS (show lv_has ls 13 [(6, .int 0), (0, .ref h), (1, .int p0), (2, .int p1), (3, .int p2)] from lv_sub hl [0, 2, 3, 4, 5] rfl)
      subst eu
      replace hf := oel hf
      refine lv_iconst (v := 1) hx hb d_Mo_explored_269 (by decide) ?_
      exact Kr _ (Option.some.inj hf).symm _ _ _ _ d_Mo_explored_270 hP hD hS
    · rw [if_pos c190] at hf
      refine lv_lconst (v := 1) hx hb d_Mo_explored_19 (by decide) ?_
      refine lv_goto (tgt := 24) hx hb d_Mo_explored_20 (by decide) ?_
      refine lv_lstore (lv' := [(4, .long 1), (0, .ref h), (1, .int p0), (2, .int p1), (3, .int p2)]) hx hb d_Mo_explored_24 hl (by decide) rfl (fun ls hl => ?_)
      refine lv_aload_n hx hb d_Mo_explored_26 rfl (lv_at hl 1 rfl) ?_
      refine lv_iconst (v := 0) hx hb d_Mo_explored_27 (by decide) ?_
      refine lv_lload hx hb d_Mo_explored_28 (lv_at hl 0 rfl) ?_
      refine lv_aload_n hx hb d_Mo_explored_30 rfl (lv_at hl 1 rfl) ?_
      refine lv_iload_n hx hb d_Mo_explored_31 rfl (lv_at hl 2 rfl) ?_
      refine lv_iload_n hx hb d_Mo_explored_32 rfl (lv_at hl 3 rfl) ?_
      refine lv_iload_n hx hb d_Mo_explored_33 rfl (lv_at hl 4 rfl) ?_
      refine lv_iconst (v := 0) hx hb d_Mo_explored_34 (by decide) ?_
      refine lv_lload hx hb d_Mo_explored_35 (lv_at hl 0 rfl) ?_
      obtain ⟨u194, eu194, hf⟩ := obd hf
      refine p_call (W.runV (As := [.int p0, .int p1, .int p2, .int 0, .long 1]) (rest := [.long 1, .int 0, .ref h]) ⟨hx, hb, hml, hown, hts⟩ (c_Mo_ends l eu194) (gV 5 hts cd_Mo_ends ml_Mo_110 im_Mo_ends se_Mo_ends ini_Mo rfl rfl pd_Mo_ends ⟨Nat.le_trans (Nat.le_of_ble_eq_true rfl) hRf, Nat.le_trans (Nat.le_of_ble_eq_true rfl) hRl⟩) ⟨pPre_blind, va_recv hK hP (ci := 0) (q0 := 0) rfl rfl, pPre_of hP hK⟩ rfl rfl hl.1 rfl (lv_room (Nat.le_of_ble_eq_true rfl)) d_Mo_explored_37 ⟨hRc, hRs⟩) ?_
      obtain ⟨u195, eu195, hf⟩ := obd hf
      refine w_call (va_runV (As := [.int 0, .long 1, .int (bI u194)]) (rest := []) ⟨hx, hb, hml, hown, hts⟩ (c_Mo_come l H.size eu195) (gV 3 hts cd_Mo_come ml_Mo_113 im_Mo_come se_Mo_come ini_Mo rfl rfl pd_Mo_come ⟨Nat.le_trans (Nat.le_of_ble_eq_true rfl) hRf, Nat.le_trans (Nat.le_of_ble_eq_true rfl) hRl⟩) ⟨wPre_blind, va_recv hK hP (ci := 0) (q0 := 0) rfl rfl, wPre_of hP hK hD⟩ rfl rfl hl.1 rfl (lv_room (Nat.le_of_ble_eq_true rfl)) d_Mo_explored_40 ⟨hRc, hRs⟩) hD hS hA (fun H locs hP hD hS => ?_)
      have hP : va_P D vwCl (moW K h a mErr mLanguages mBounds mSize mGoes mLast u195.2.1 mNext mGroup mFresh mLeader mNumber u195.2.2.1 u195.2.2.2.1 u195.2.2.2.2 mVariable mFactor mLeast mMost mLength mWord mKept mMany mMore mLeads mMet mTodo mMay mTries) H := hP
      have hD : va_D A (moW K h a mErr mLanguages mBounds mSize mGoes mLast u195.2.1 mNext mGroup mFresh mLeader mNumber u195.2.2.1 u195.2.2.2.1 u195.2.2.2.2 mVariable mFactor mLeast mMost mLength mWord mKept mMany mMore mLeads mMet mTodo mMay mTries) := hD
      refine lv_pop hx hb d_Mo_explored_43 rfl ?_
      refine lv_iconst (v := 0) hx hb d_Mo_explored_44 (by decide) ?_
      refine lv_istore (lv' := [(6, .int 0), (4, .long 1), (0, .ref h), (1, .int p0), (2, .int p1), (3, .int p2)]) hx hb d_Mo_explored_45 hl (by decide) rfl (fun ls hl => ?_)
      obtain ⟨u196, eu196, hf⟩ := obd hf
      refine w_Mo_explored_47 hx hb hml hts hown hK hRf hRl hRc hRs hA (fun r er pc ls H locs hd hP hD hS => Kr r (by subst er; exact (Option.some.inj hf).symm) pc ls H locs hd hP hD hS) (fun x196 eu ls H locs hP hD hS hl => ?_) _ _ _ _ _ _ _ eu196 _ _ _ hP hD hS (show lv_has ls 13 [(6, .int 0), (0, .ref h), (1, .int p0), (2, .int p1), (3, .int p2)] from lv_sub hl [0, 2, 3, 4, 5] rfl)
      subst eu
      replace hf := oel hf
      refine lv_iconst (v := 1) hx hb d_Mo_explored_269 (by decide) ?_
      exact Kr _ (Option.some.inj hf).symm _ _ _ _ d_Mo_explored_270 hP hD hS
set_option maxHeartbeats 4000000 in
set_option maxRecDepth 100000 in
theorem c_Mo_explored (l : Launch)  {p0 : Int32} {p1 : Int32} {p2 : Int32}  {r : Bool × (Nat → Int32) × (Nat → Int32) × (Nat → Int64) × (Nat → Bool) × Int32} (sz : Nat) (hf : f_Mo_explored n p0 p1 p2 mSize mGoes mLast mLeft mNext mRight mEnds = some r) : Met l y_Mo_explored w0_Mo_explored ({ frames := 3, cells := 0, slots := 0, locals := 72 }) (wPre D K [.ref h, .int p0, .int p1, .int p2] (moW K h a mErr mLanguages mBounds mSize mGoes mLast mLeft mNext mGroup mFresh mLeader mNumber mRight mEnds mWay mVariable mFactor mLeast mMost mLength mWord mKept mMany mMore mLeads mMet mTodo mMay mTries) sz) (wPost D K (some (.int (bI r.1))) (moW K h a mErr mLanguages mBounds mSize mGoes mLast r.2.1 r.2.2.1 mGroup mFresh mLeader mNumber r.2.2.2.1 r.2.2.2.2.1 r.2.2.2.2.2 mVariable mFactor mLeast mMost mLength mWord mKept mMany mMore mLeads mMet mTodo mMay mTries) (va_A (moW K h a mErr mLanguages mBounds mSize mGoes mLast mLeft mNext mGroup mFresh mLeader mNumber mRight mEnds mWay mVariable mFactor mLeast mMost mLength mWord mKept mMany mMore mLeads mMet mTodo mMay mTries) sz)) 0 0 (va_A (moW K h a mErr mLanguages mBounds mSize mGoes mLast mLeft mNext mGroup mFresh mLeader mNumber mRight mEnds mWay mVariable mFactor mLeast mMost mLength mWord mKept mMany mMore mLeads mMet mTodo mMay mTries) sz) := by
  refine Met.ofW (cc := b_Mo_explored) (maxL := 13) (ret := (some .boolean)) (by decide) rfl ?_
  intro p e s m args below meth c s₁ B hml hv
  obtain ⟨rfl, hsz, hP, hK, hD0⟩ := hv
  subst hsz
  have hl := lv_entry [.ref h, .int p0, .int p1, .int p2] (n := 13) (Nat.le_of_ble_eq_true rfl)
  rw [lg_entry_eq]
  generalize (lg_sl [.ref h, .int p0, .int p1, .int p2] ++ List.replicate (13 - (lg_sl [.ref h, .int p0, .int p1, .int p2]).length) Slot.unset).toArray = ls at hl ⊢
  refine w_Mo_explored (A := va_A (moW K h a mErr mLanguages mBounds mSize mGoes mLast mLeft mNext mGroup mFresh mLeader mNumber mRight mEnds mWay mVariable mFactor mLeast mMost mLength mWord mKept mMany mMore mLeads mMet mTodo mMay mTries) s.heap.size) (H0 := s.heap) B.exec B.bytes hml (fun w hw => atoms_spec (ws := w0_Mo_explored) B.pre w (List.mem_cons_of_mem _ hw)) (findClass_of_methodNamed B.named) hK (Nat.le_refl _) (Nat.le_refl _) (Nat.zero_le _) (Nat.zero_le _) (fun q h => Or.inr h) (fun r er pc ls H locs hd hP hD hS => ?_) hf ls hP (hD0.self (sz := s.heap.size)) va_S.rf hl
  subst er
  exact W.zret B.exec B.bytes B.returns (bI_nar _) (fun t ht hW => ⟨⟨rfl, by rw [ht]; exact hP, va_K.moved hW.alike hK, hD⟩, hS.F ht⟩) hS.2.2 hd (hlocks := B.notSynchronized)
end
