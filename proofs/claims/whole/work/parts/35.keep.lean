theorem vpAs {D : va_G} {cl : List vw_C} {a b c : va_W} {H : Heap} (h : va_P D cl ((a ++ b) ++ c) H) : va_P D cl (a ++ (b ++ c)) H := by rw [← List.append_assoc]; exact h
theorem vdAs {A : Nat → Prop} {a b c : va_W} (h : va_D A ((a ++ b) ++ c)) : va_D A (a ++ (b ++ c)) := by rw [← List.append_assoc]; exact h
theorem vdFst {A : Nat → Prop} {a b c d : va_W} (h : va_D A (a ++ ((b ++ c) ++ d))) : va_D A (a ++ b) := by
  rw [← List.append_assoc, ← List.append_assoc] at h
  exact vdL (vdL h)
theorem gAw_ofR {D : va_G} {cl : List vw_C} {A : Nat → Prop} {X Y : va_W} {H : Heap} (hP : va_P D cl (X ++ Y) H) (hD : va_D A (X ++ Y)) : gAw (va_A X H.size) Y := by
  intro k q hq h
  rcases h with ⟨i, e', h⟩ | h
  · exact vdX hD i k (q.1, e') q h hq rfl
  · exact absurd (vaR hP k q hq).lt (by omega)
theorem gAw.of_mem {A : Nat → Prop} {ws ws' : va_W} (h : gAw A ws) (hm : ∀ x ∈ ws', x ∈ ws) : gAw A ws' := fun k q hk => by
  obtain ⟨j, hj⟩ := List.getElem?_of_mem (hm q (List.mem_of_getElem? hk))
  exact h j q hj
theorem keepR_ok {n qz : Nat} {xLang : Nat → Option Nat} {xCount : Int32} (h : gin xCount 60 = true) : f_RS_keep_R n qz xLang xCount = some (.inr ((xCount + 1) - 1, va_up xLang xCount.toNatClampNeg (some qz), xCount + 1)) := by
  unfold f_RS_keep_R
  rw [ogd, if_pos h]
theorem au_of_o {D : va_G} {K : Nat → ClassId} {H : Heap} {q an aa : Nat} {a1 : Int32} {a2 : Nat} {a3 : Nat → Int32} {a4 : Int64} {a5 : Nat → Int64} (h1 : va_P D vwCl (auoW K q an aa a1 a4 a5) H) (h2 : va_P D vwCl (iaW K an a2 a3) H) : va_P D vwCl (auW K q an aa a1 a2 a3 a4 a5) H := (va_P.app h1 h2).sub [0, 2, 1] rfl
theorem gAw_of_o {A : Nat → Prop} {K : Nat → ClassId} {q an aa : Nat} {a1 : Int32} {a2 : Nat} {a3 : Nat → Int32} {a4 : Int64} {a5 : Nat → Int64} (h1 : gAw A (auoW K q an aa a1 a4 a5)) (h2 : gAw A (iaW K an a2 a3)) : gAw A (auW K q an aa a1 a2 a3 a4 a5) := (gAw.app h1 h2).of_mem (by simp [auW, auoW, iaW])
def f_Au_opposite (n : Nat) (aStates : Int32) (aNl : Nat) (aNext : Nat → Int32) (aLast : Int64) : Option (Int64 × (Nat → Int64)) :=
  (f_Au_init n aStates ((aLast ^^^ (-1)) &&& (lushr (-1) (64 - aStates))) (fun _ => 0) aNl aNext).bind fun h =>
  some ((aLast ^^^ (-1)) &&& (lushr (-1) (64 - aStates)), h)

abbrev b_Au_opposite : ByteArray := prog_2_method_7_code
def y_Au_opposite : MethodName := ⟨"RegularSolver$Automaton", "opposite", "()LRegularSolver$Automaton;"⟩
abbrev w0_Au_opposite : List Cond := Cond.code y_Au_opposite b_Au_opposite 1 (some (.object "RegularSolver$Automaton")) :: gW
theorem cd_Au_opposite : Cond.code y_Au_opposite b_Au_opposite 1 (some (.object "RegularSolver$Automaton")) ∈ gW := gm 558 (by decide +kernel) (by decide +kernel)
theorem d_Au_opposite_0 : decode b_Au_opposite 0 = .ok (.new 10, 3) := by decide +kernel
theorem d_Au_opposite_3 : decode b_Au_opposite 3 = .ok (.dup, 1) := by decide +kernel
theorem d_Au_opposite_4 : decode b_Au_opposite 4 = .ok (.aload_n 0, 1) := by decide +kernel
theorem d_Au_opposite_5 : decode b_Au_opposite 5 = .ok (.getfield 15, 3) := by decide +kernel
theorem d_Au_opposite_8 : decode b_Au_opposite 8 = .ok (.aload_n 0, 1) := by decide +kernel
theorem d_Au_opposite_9 : decode b_Au_opposite 9 = .ok (.getfield 19, 3) := by decide +kernel
theorem d_Au_opposite_12 : decode b_Au_opposite 12 = .ok (.aload_n 0, 1) := by decide +kernel
theorem d_Au_opposite_13 : decode b_Au_opposite 13 = .ok (.getfield 23, 3) := by decide +kernel
theorem d_Au_opposite_16 : decode b_Au_opposite 16 = .ok (.ldc2_w 35, 3) := by decide +kernel
theorem d_Au_opposite_19 : decode b_Au_opposite 19 = .ok (.lxor, 1) := by decide +kernel
theorem d_Au_opposite_20 : decode b_Au_opposite 20 = .ok (.ldc2_w 35, 3) := by decide +kernel
theorem d_Au_opposite_23 : decode b_Au_opposite 23 = .ok (.bipush 64, 2) := by decide +kernel
theorem d_Au_opposite_25 : decode b_Au_opposite 25 = .ok (.aload_n 0, 1) := by decide +kernel
theorem d_Au_opposite_26 : decode b_Au_opposite 26 = .ok (.getfield 15, 3) := by decide +kernel
theorem d_Au_opposite_29 : decode b_Au_opposite 29 = .ok (.isub, 1) := by decide +kernel
theorem d_Au_opposite_30 : decode b_Au_opposite 30 = .ok (.lushr, 1) := by decide +kernel
theorem d_Au_opposite_31 : decode b_Au_opposite 31 = .ok (.land, 1) := by decide +kernel
theorem d_Au_opposite_32 : decode b_Au_opposite 32 = .ok (.invokespecial 37, 3) := by decide +kernel
theorem d_Au_opposite_35 : decode b_Au_opposite 35 = .ok (.areturn, 1) := by decide +kernel
abbrev b_RS_letters : ByteArray := prog_1_method_2_code
def y_RS_letters : MethodName := ⟨"RegularSolver", "letters", "(I)I"⟩
abbrev w0_RS_letters : List Cond := Cond.code y_RS_letters b_RS_letters 2 (some .int) :: gW
theorem cd_RS_letters : Cond.code y_RS_letters b_RS_letters 2 (some .int) ∈ gW := gm 185 (by decide +kernel) (by decide +kernel)
theorem d_RS_letters_0 : decode b_RS_letters 0 = .ok (.iload_n 1, 1) := by decide +kernel
theorem d_RS_letters_1 : decode b_RS_letters 1 = .ok (.ifCond .lt 9, 3) := by decide +kernel
theorem d_RS_letters_4 : decode b_RS_letters 4 = .ok (.iload_n 1, 1) := by decide +kernel
theorem d_RS_letters_5 : decode b_RS_letters 5 = .ok (.bipush 16, 2) := by decide +kernel
theorem d_RS_letters_7 : decode b_RS_letters 7 = .ok (.if_icmp .lt 13, 3) := by decide +kernel
theorem d_RS_letters_10 : decode b_RS_letters 10 = .ok (.new 47, 3) := by decide +kernel
theorem d_RS_letters_13 : decode b_RS_letters 13 = .ok (.dup, 1) := by decide +kernel
theorem d_RS_letters_14 : decode b_RS_letters 14 = .ok (.ldc 49, 2) := by decide +kernel
theorem d_RS_letters_16 : decode b_RS_letters 16 = .ok (.invokespecial 51, 3) := by decide +kernel
theorem d_RS_letters_19 : decode b_RS_letters 19 = .ok (.athrow, 1) := by decide +kernel
theorem d_RS_letters_20 : decode b_RS_letters 20 = .ok (.aload_n 0, 1) := by decide +kernel
theorem d_RS_letters_21 : decode b_RS_letters 21 = .ok (.invokevirtual 54, 3) := by decide +kernel
theorem d_RS_letters_24 : decode b_RS_letters 24 = .ok (.aload_n 0, 1) := by decide +kernel
theorem d_RS_letters_25 : decode b_RS_letters 25 = .ok (.aload_n 0, 1) := by decide +kernel
theorem d_RS_letters_26 : decode b_RS_letters 26 = .ok (.getfield 22, 3) := by decide +kernel
theorem d_RS_letters_29 : decode b_RS_letters 29 = .ok (.new 57, 3) := by decide +kernel
theorem d_RS_letters_32 : decode b_RS_letters 32 = .ok (.dup, 1) := by decide +kernel
theorem d_RS_letters_33 : decode b_RS_letters 33 = .ok (.iload_n 1, 1) := by decide +kernel
theorem d_RS_letters_34 : decode b_RS_letters 34 = .ok (.iconst 1, 1) := by decide +kernel
theorem d_RS_letters_35 : decode b_RS_letters 35 = .ok (.invokespecial 59, 3) := by decide +kernel
theorem d_RS_letters_38 : decode b_RS_letters 38 = .ok (.invokevirtual 62, 3) := by decide +kernel
theorem d_RS_letters_41 : decode b_RS_letters 41 = .ok (.invokevirtual 66, 3) := by decide +kernel
theorem d_RS_letters_44 : decode b_RS_letters 44 = .ok (.ireturn, 1) := by decide +kernel
abbrev b_RS_empty : ByteArray := prog_1_method_3_code
def y_RS_empty : MethodName := ⟨"RegularSolver", "empty", "()I"⟩
abbrev w0_RS_empty : List Cond := Cond.code y_RS_empty b_RS_empty 1 (some .int) :: gW
theorem cd_RS_empty : Cond.code y_RS_empty b_RS_empty 1 (some .int) ∈ gW := gm 488 (by decide +kernel) (by decide +kernel)
theorem d_RS_empty_0 : decode b_RS_empty 0 = .ok (.aload_n 0, 1) := by decide +kernel
theorem d_RS_empty_1 : decode b_RS_empty 1 = .ok (.invokevirtual 54, 3) := by decide +kernel
theorem d_RS_empty_4 : decode b_RS_empty 4 = .ok (.aload_n 0, 1) := by decide +kernel
theorem d_RS_empty_5 : decode b_RS_empty 5 = .ok (.aload_n 0, 1) := by decide +kernel
theorem d_RS_empty_6 : decode b_RS_empty 6 = .ok (.getfield 22, 3) := by decide +kernel
theorem d_RS_empty_9 : decode b_RS_empty 9 = .ok (.new 57, 3) := by decide +kernel
theorem d_RS_empty_12 : decode b_RS_empty 12 = .ok (.dup, 1) := by decide +kernel
theorem d_RS_empty_13 : decode b_RS_empty 13 = .ok (.iconst 0, 1) := by decide +kernel
theorem d_RS_empty_14 : decode b_RS_empty 14 = .ok (.iconst 0, 1) := by decide +kernel
theorem d_RS_empty_15 : decode b_RS_empty 15 = .ok (.invokespecial 59, 3) := by decide +kernel
theorem d_RS_empty_18 : decode b_RS_empty 18 = .ok (.invokevirtual 62, 3) := by decide +kernel
theorem d_RS_empty_21 : decode b_RS_empty 21 = .ok (.invokevirtual 66, 3) := by decide +kernel
theorem d_RS_empty_24 : decode b_RS_empty 24 = .ok (.ireturn, 1) := by decide +kernel
abbrev b_RS_then : ByteArray := prog_1_method_4_code
def y_RS_then : MethodName := ⟨"RegularSolver", "then", "(II)I"⟩
abbrev w0_RS_then : List Cond := Cond.code y_RS_then b_RS_then 3 (some .int) :: gW
theorem cd_RS_then : Cond.code y_RS_then b_RS_then 3 (some .int) ∈ gW := gm 496 (by decide +kernel) (by decide +kernel)
theorem d_RS_then_0 : decode b_RS_then 0 = .ok (.aload_n 0, 1) := by decide +kernel
theorem d_RS_then_1 : decode b_RS_then 1 = .ok (.iload_n 1, 1) := by decide +kernel
theorem d_RS_then_2 : decode b_RS_then 2 = .ok (.invokevirtual 70, 3) := by decide +kernel
theorem d_RS_then_5 : decode b_RS_then 5 = .ok (.aload_n 0, 1) := by decide +kernel
theorem d_RS_then_6 : decode b_RS_then 6 = .ok (.iload_n 2, 1) := by decide +kernel
theorem d_RS_then_7 : decode b_RS_then 7 = .ok (.invokevirtual 70, 3) := by decide +kernel
theorem d_RS_then_10 : decode b_RS_then 10 = .ok (.aload_n 0, 1) := by decide +kernel
theorem d_RS_then_11 : decode b_RS_then 11 = .ok (.invokevirtual 54, 3) := by decide +kernel
theorem d_RS_then_14 : decode b_RS_then 14 = .ok (.aload_n 0, 1) := by decide +kernel
theorem d_RS_then_15 : decode b_RS_then 15 = .ok (.aload_n 0, 1) := by decide +kernel
theorem d_RS_then_16 : decode b_RS_then 16 = .ok (.getfield 22, 3) := by decide +kernel
theorem d_RS_then_19 : decode b_RS_then 19 = .ok (.new 74, 3) := by decide +kernel
theorem d_RS_then_22 : decode b_RS_then 22 = .ok (.dup, 1) := by decide +kernel
theorem d_RS_then_23 : decode b_RS_then 23 = .ok (.aload_n 0, 1) := by decide +kernel
theorem d_RS_then_24 : decode b_RS_then 24 = .ok (.getfield 11, 3) := by decide +kernel
theorem d_RS_then_27 : decode b_RS_then 27 = .ok (.iload_n 1, 1) := by decide +kernel
theorem d_RS_then_28 : decode b_RS_then 28 = .ok (.aaload, 1) := by decide +kernel
theorem d_RS_then_29 : decode b_RS_then 29 = .ok (.aload_n 0, 1) := by decide +kernel
theorem d_RS_then_30 : decode b_RS_then 30 = .ok (.getfield 11, 3) := by decide +kernel
theorem d_RS_then_33 : decode b_RS_then 33 = .ok (.iload_n 2, 1) := by decide +kernel
theorem d_RS_then_34 : decode b_RS_then 34 = .ok (.aaload, 1) := by decide +kernel
theorem d_RS_then_35 : decode b_RS_then 35 = .ok (.invokespecial 76, 3) := by decide +kernel
theorem d_RS_then_38 : decode b_RS_then 38 = .ok (.invokevirtual 62, 3) := by decide +kernel
theorem d_RS_then_41 : decode b_RS_then 41 = .ok (.invokevirtual 66, 3) := by decide +kernel
theorem d_RS_then_44 : decode b_RS_then 44 = .ok (.ireturn, 1) := by decide +kernel
abbrev b_RS_or : ByteArray := prog_1_method_5_code
def y_RS_or : MethodName := ⟨"RegularSolver", "or", "(II)I"⟩
abbrev w0_RS_or : List Cond := Cond.code y_RS_or b_RS_or 3 (some .int) :: gW
theorem cd_RS_or : Cond.code y_RS_or b_RS_or 3 (some .int) ∈ gW := gm 522 (by decide +kernel) (by decide +kernel)
theorem d_RS_or_0 : decode b_RS_or 0 = .ok (.aload_n 0, 1) := by decide +kernel
theorem d_RS_or_1 : decode b_RS_or 1 = .ok (.iload_n 1, 1) := by decide +kernel
theorem d_RS_or_2 : decode b_RS_or 2 = .ok (.invokevirtual 70, 3) := by decide +kernel
theorem d_RS_or_5 : decode b_RS_or 5 = .ok (.aload_n 0, 1) := by decide +kernel
theorem d_RS_or_6 : decode b_RS_or 6 = .ok (.iload_n 2, 1) := by decide +kernel
theorem d_RS_or_7 : decode b_RS_or 7 = .ok (.invokevirtual 70, 3) := by decide +kernel
theorem d_RS_or_10 : decode b_RS_or 10 = .ok (.aload_n 0, 1) := by decide +kernel
theorem d_RS_or_11 : decode b_RS_or 11 = .ok (.invokevirtual 54, 3) := by decide +kernel
theorem d_RS_or_14 : decode b_RS_or 14 = .ok (.aload_n 0, 1) := by decide +kernel
theorem d_RS_or_15 : decode b_RS_or 15 = .ok (.aload_n 0, 1) := by decide +kernel
theorem d_RS_or_16 : decode b_RS_or 16 = .ok (.getfield 22, 3) := by decide +kernel
theorem d_RS_or_19 : decode b_RS_or 19 = .ok (.new 79, 3) := by decide +kernel
theorem d_RS_or_22 : decode b_RS_or 22 = .ok (.dup, 1) := by decide +kernel
theorem d_RS_or_23 : decode b_RS_or 23 = .ok (.aload_n 0, 1) := by decide +kernel
theorem d_RS_or_24 : decode b_RS_or 24 = .ok (.getfield 11, 3) := by decide +kernel
theorem d_RS_or_27 : decode b_RS_or 27 = .ok (.iload_n 1, 1) := by decide +kernel
theorem d_RS_or_28 : decode b_RS_or 28 = .ok (.aaload, 1) := by decide +kernel
theorem d_RS_or_29 : decode b_RS_or 29 = .ok (.aload_n 0, 1) := by decide +kernel
theorem d_RS_or_30 : decode b_RS_or 30 = .ok (.getfield 11, 3) := by decide +kernel
theorem d_RS_or_33 : decode b_RS_or 33 = .ok (.iload_n 2, 1) := by decide +kernel
theorem d_RS_or_34 : decode b_RS_or 34 = .ok (.aaload, 1) := by decide +kernel
theorem d_RS_or_35 : decode b_RS_or 35 = .ok (.iconst 0, 1) := by decide +kernel
theorem d_RS_or_36 : decode b_RS_or 36 = .ok (.invokespecial 81, 3) := by decide +kernel
theorem d_RS_or_39 : decode b_RS_or 39 = .ok (.invokevirtual 62, 3) := by decide +kernel
theorem d_RS_or_42 : decode b_RS_or 42 = .ok (.invokevirtual 66, 3) := by decide +kernel
theorem d_RS_or_45 : decode b_RS_or 45 = .ok (.ireturn, 1) := by decide +kernel
abbrev b_RS_and : ByteArray := prog_1_method_6_code
def y_RS_and : MethodName := ⟨"RegularSolver", "and", "(II)I"⟩
abbrev w0_RS_and : List Cond := Cond.code y_RS_and b_RS_and 3 (some .int) :: gW
theorem cd_RS_and : Cond.code y_RS_and b_RS_and 3 (some .int) ∈ gW := gm 547 (by decide +kernel) (by decide +kernel)
theorem d_RS_and_0 : decode b_RS_and 0 = .ok (.aload_n 0, 1) := by decide +kernel
theorem d_RS_and_1 : decode b_RS_and 1 = .ok (.iload_n 1, 1) := by decide +kernel
theorem d_RS_and_2 : decode b_RS_and 2 = .ok (.invokevirtual 70, 3) := by decide +kernel
theorem d_RS_and_5 : decode b_RS_and 5 = .ok (.aload_n 0, 1) := by decide +kernel
theorem d_RS_and_6 : decode b_RS_and 6 = .ok (.iload_n 2, 1) := by decide +kernel
theorem d_RS_and_7 : decode b_RS_and 7 = .ok (.invokevirtual 70, 3) := by decide +kernel
theorem d_RS_and_10 : decode b_RS_and 10 = .ok (.aload_n 0, 1) := by decide +kernel
theorem d_RS_and_11 : decode b_RS_and 11 = .ok (.invokevirtual 54, 3) := by decide +kernel
theorem d_RS_and_14 : decode b_RS_and 14 = .ok (.aload_n 0, 1) := by decide +kernel
theorem d_RS_and_15 : decode b_RS_and 15 = .ok (.aload_n 0, 1) := by decide +kernel
theorem d_RS_and_16 : decode b_RS_and 16 = .ok (.getfield 22, 3) := by decide +kernel
theorem d_RS_and_19 : decode b_RS_and 19 = .ok (.new 79, 3) := by decide +kernel
theorem d_RS_and_22 : decode b_RS_and 22 = .ok (.dup, 1) := by decide +kernel
theorem d_RS_and_23 : decode b_RS_and 23 = .ok (.aload_n 0, 1) := by decide +kernel
theorem d_RS_and_24 : decode b_RS_and 24 = .ok (.getfield 11, 3) := by decide +kernel
theorem d_RS_and_27 : decode b_RS_and 27 = .ok (.iload_n 1, 1) := by decide +kernel
theorem d_RS_and_28 : decode b_RS_and 28 = .ok (.aaload, 1) := by decide +kernel
theorem d_RS_and_29 : decode b_RS_and 29 = .ok (.aload_n 0, 1) := by decide +kernel
theorem d_RS_and_30 : decode b_RS_and 30 = .ok (.getfield 11, 3) := by decide +kernel
theorem d_RS_and_33 : decode b_RS_and 33 = .ok (.iload_n 2, 1) := by decide +kernel
theorem d_RS_and_34 : decode b_RS_and 34 = .ok (.aaload, 1) := by decide +kernel
theorem d_RS_and_35 : decode b_RS_and 35 = .ok (.iconst 1, 1) := by decide +kernel
theorem d_RS_and_36 : decode b_RS_and 36 = .ok (.invokespecial 81, 3) := by decide +kernel
theorem d_RS_and_39 : decode b_RS_and 39 = .ok (.invokevirtual 62, 3) := by decide +kernel
theorem d_RS_and_42 : decode b_RS_and 42 = .ok (.invokevirtual 66, 3) := by decide +kernel
theorem d_RS_and_45 : decode b_RS_and 45 = .ok (.ireturn, 1) := by decide +kernel
abbrev b_RS_again : ByteArray := prog_1_method_8_code
def y_RS_again : MethodName := ⟨"RegularSolver", "again", "(I)I"⟩
abbrev w0_RS_again : List Cond := Cond.code y_RS_again b_RS_again 2 (some .int) :: gW
theorem cd_RS_again : Cond.code y_RS_again b_RS_again 2 (some .int) ∈ gW := gm 568 (by decide +kernel) (by decide +kernel)
theorem d_RS_again_0 : decode b_RS_again 0 = .ok (.aload_n 0, 1) := by decide +kernel
theorem d_RS_again_1 : decode b_RS_again 1 = .ok (.iload_n 1, 1) := by decide +kernel
theorem d_RS_again_2 : decode b_RS_again 2 = .ok (.invokevirtual 70, 3) := by decide +kernel
theorem d_RS_again_5 : decode b_RS_again 5 = .ok (.aload_n 0, 1) := by decide +kernel
theorem d_RS_again_6 : decode b_RS_again 6 = .ok (.invokevirtual 54, 3) := by decide +kernel
theorem d_RS_again_9 : decode b_RS_again 9 = .ok (.aload_n 0, 1) := by decide +kernel
theorem d_RS_again_10 : decode b_RS_again 10 = .ok (.aload_n 0, 1) := by decide +kernel
theorem d_RS_again_11 : decode b_RS_again 11 = .ok (.getfield 22, 3) := by decide +kernel
theorem d_RS_again_14 : decode b_RS_again 14 = .ok (.new 88, 3) := by decide +kernel
theorem d_RS_again_17 : decode b_RS_again 17 = .ok (.dup, 1) := by decide +kernel
theorem d_RS_again_18 : decode b_RS_again 18 = .ok (.aload_n 0, 1) := by decide +kernel
theorem d_RS_again_19 : decode b_RS_again 19 = .ok (.getfield 11, 3) := by decide +kernel
theorem d_RS_again_22 : decode b_RS_again 22 = .ok (.iload_n 1, 1) := by decide +kernel
theorem d_RS_again_23 : decode b_RS_again 23 = .ok (.aaload, 1) := by decide +kernel
theorem d_RS_again_24 : decode b_RS_again 24 = .ok (.invokespecial 90, 3) := by decide +kernel
theorem d_RS_again_27 : decode b_RS_again 27 = .ok (.invokevirtual 62, 3) := by decide +kernel
theorem d_RS_again_30 : decode b_RS_again 30 = .ok (.invokevirtual 66, 3) := by decide +kernel
theorem d_RS_again_33 : decode b_RS_again 33 = .ok (.ireturn, 1) := by decide +kernel
abbrev b_RS_not : ByteArray := prog_1_method_7_code
def y_RS_not : MethodName := ⟨"RegularSolver", "not", "(I)I"⟩
abbrev w0_RS_not : List Cond := Cond.code y_RS_not b_RS_not 2 (some .int) :: gW
theorem cd_RS_not : Cond.code y_RS_not b_RS_not 2 (some .int) ∈ gW := gm 554 (by decide +kernel) (by decide +kernel)
theorem d_RS_not_0 : decode b_RS_not 0 = .ok (.aload_n 0, 1) := by decide +kernel
theorem d_RS_not_1 : decode b_RS_not 1 = .ok (.iload_n 1, 1) := by decide +kernel
theorem d_RS_not_2 : decode b_RS_not 2 = .ok (.invokevirtual 70, 3) := by decide +kernel
theorem d_RS_not_5 : decode b_RS_not 5 = .ok (.aload_n 0, 1) := by decide +kernel
theorem d_RS_not_6 : decode b_RS_not 6 = .ok (.invokevirtual 54, 3) := by decide +kernel
theorem d_RS_not_9 : decode b_RS_not 9 = .ok (.aload_n 0, 1) := by decide +kernel
theorem d_RS_not_10 : decode b_RS_not 10 = .ok (.aload_n 0, 1) := by decide +kernel
theorem d_RS_not_11 : decode b_RS_not 11 = .ok (.getfield 11, 3) := by decide +kernel
theorem d_RS_not_14 : decode b_RS_not 14 = .ok (.iload_n 1, 1) := by decide +kernel
theorem d_RS_not_15 : decode b_RS_not 15 = .ok (.aaload, 1) := by decide +kernel
theorem d_RS_not_16 : decode b_RS_not 16 = .ok (.invokevirtual 84, 3) := by decide +kernel
theorem d_RS_not_19 : decode b_RS_not 19 = .ok (.invokevirtual 66, 3) := by decide +kernel
theorem d_RS_not_22 : decode b_RS_not 22 = .ok (.ireturn, 1) := by decide +kernel
theorem pd_Au_opposite : y_Au_opposite.cls ≠ "java/lang/invoke/MethodHandle" ∧ y_Au_opposite.cls ≠ "java/lang/invoke/VarHandle" ∧ (parseMethodDescriptor y_Au_opposite.desc).map (fun d => d.parameters.length) = some 0 := by decide +kernel
theorem pd_RS_letters : y_RS_letters.cls ≠ "java/lang/invoke/MethodHandle" ∧ y_RS_letters.cls ≠ "java/lang/invoke/VarHandle" ∧ (parseMethodDescriptor y_RS_letters.desc).map (fun d => d.parameters.length) = some 1 := by decide +kernel
theorem pd_RS_empty : y_RS_empty.cls ≠ "java/lang/invoke/MethodHandle" ∧ y_RS_empty.cls ≠ "java/lang/invoke/VarHandle" ∧ (parseMethodDescriptor y_RS_empty.desc).map (fun d => d.parameters.length) = some 0 := by decide +kernel
theorem pd_RS_then : y_RS_then.cls ≠ "java/lang/invoke/MethodHandle" ∧ y_RS_then.cls ≠ "java/lang/invoke/VarHandle" ∧ (parseMethodDescriptor y_RS_then.desc).map (fun d => d.parameters.length) = some 2 := by decide +kernel
theorem pd_RS_or : y_RS_or.cls ≠ "java/lang/invoke/MethodHandle" ∧ y_RS_or.cls ≠ "java/lang/invoke/VarHandle" ∧ (parseMethodDescriptor y_RS_or.desc).map (fun d => d.parameters.length) = some 2 := by decide +kernel
theorem pd_RS_and : y_RS_and.cls ≠ "java/lang/invoke/MethodHandle" ∧ y_RS_and.cls ≠ "java/lang/invoke/VarHandle" ∧ (parseMethodDescriptor y_RS_and.desc).map (fun d => d.parameters.length) = some 2 := by decide +kernel
theorem pd_RS_again : y_RS_again.cls ≠ "java/lang/invoke/MethodHandle" ∧ y_RS_again.cls ≠ "java/lang/invoke/VarHandle" ∧ (parseMethodDescriptor y_RS_again.desc).map (fun d => d.parameters.length) = some 1 := by decide +kernel
theorem pd_RS_not : y_RS_not.cls ≠ "java/lang/invoke/MethodHandle" ∧ y_RS_not.cls ≠ "java/lang/invoke/VarHandle" ∧ (parseMethodDescriptor y_RS_not.desc).map (fun d => d.parameters.length) = some 1 := by decide +kernel
theorem cl_Au_10 : (Cond.classLink "RegularSolver$Automaton" 10 "RegularSolver$Automaton") ∈ gW := gm 559 (by decide +kernel) (by decide +kernel)
theorem kl_Au_35 : (Cond.constantLong "RegularSolver$Automaton" 35 (-1)) ∈ gW := gm 560 (by decide +kernel) (by decide +kernel)
theorem ml_Au_37 : (Cond.methodLink "RegularSolver$Automaton" 37 ({ cls := "RegularSolver$Automaton", name := "<init>", desc := "(I[IJ)V" } : MethodName)) ∈ gW := gm 561 (by decide +kernel) (by decide +kernel)
theorem ml_RS_54 : (Cond.methodLink "RegularSolver" 54 ({ cls := "RegularSolver", name := "requireRoom", desc := "()V" } : MethodName)) ∈ gW := gm 255 (by decide +kernel) (by decide +kernel)
theorem im_RS_requireRoom : (Cond.instanceMethod ({ cls := "RegularSolver", name := "requireRoom", desc := "()V" } : MethodName)) ∈ gW := gm 257 (by decide +kernel) (by decide +kernel)
theorem se_RS_requireRoom : (Cond.selects "RegularSolver" ({ cls := "RegularSolver", name := "requireRoom", desc := "()V" } : MethodName) ({ cls := "RegularSolver", name := "requireRoom", desc := "()V" } : MethodName)) ∈ gW := gs (by decide +kernel) (by decide +kernel)
theorem cl_RS_57 : (Cond.classLink "RegularSolver" 57 "RegularSolver$Brief") ∈ gW := gm 275 (by decide +kernel) (by decide +kernel)
theorem it_Br : (Cond.instantiable "RegularSolver$Brief" 4) ∈ gW := gm 276 (by decide +kernel) (by decide +kernel)
theorem ml_RS_59 : (Cond.methodLink "RegularSolver" 59 ({ cls := "RegularSolver$Brief", name := "<init>", desc := "(II)V" } : MethodName)) ∈ gW := gm 277 (by decide +kernel) (by decide +kernel)
theorem im_Br_init : (Cond.instanceMethod ({ cls := "RegularSolver$Brief", name := "<init>", desc := "(II)V" } : MethodName)) ∈ gW := gm 278 (by decide +kernel) (by decide +kernel)
theorem ml_RS_62 : (Cond.methodLink "RegularSolver" 62 ({ cls := "RegularSolver$Maker", name := "make", desc := "(LRegularSolver$Way;)LRegularSolver$Automaton;" } : MethodName)) ∈ gW := gm 311 (by decide +kernel) (by decide +kernel)
theorem im_Mk_make : (Cond.instanceMethod ({ cls := "RegularSolver$Maker", name := "make", desc := "(LRegularSolver$Way;)LRegularSolver$Automaton;" } : MethodName)) ∈ gW := gm 312 (by decide +kernel) (by decide +kernel)
theorem se_Mk_make : (Cond.selects "RegularSolver$Maker" ({ cls := "RegularSolver$Maker", name := "make", desc := "(LRegularSolver$Way;)LRegularSolver$Automaton;" } : MethodName) ({ cls := "RegularSolver$Maker", name := "make", desc := "(LRegularSolver$Way;)LRegularSolver$Automaton;" } : MethodName)) ∈ gW := gm 313 (by decide +kernel) (by decide +kernel)
theorem ml_RS_66 : (Cond.methodLink "RegularSolver" 66 ({ cls := "RegularSolver", name := "keep", desc := "(LRegularSolver$Automaton;)I" } : MethodName)) ∈ gW := gm 462 (by decide +kernel) (by decide +kernel)
theorem im_RS_keep : (Cond.instanceMethod ({ cls := "RegularSolver", name := "keep", desc := "(LRegularSolver$Automaton;)I" } : MethodName)) ∈ gW := gm 464 (by decide +kernel) (by decide +kernel)
theorem se_RS_keep : (Cond.selects "RegularSolver" ({ cls := "RegularSolver", name := "keep", desc := "(LRegularSolver$Automaton;)I" } : MethodName) ({ cls := "RegularSolver", name := "keep", desc := "(LRegularSolver$Automaton;)I" } : MethodName)) ∈ gW := gs (by decide +kernel) (by decide +kernel)
theorem cl_RS_74 : (Cond.classLink "RegularSolver" 74 "RegularSolver$Chain") ∈ gW := gm 502 (by decide +kernel) (by decide +kernel)
theorem it_Ch : (Cond.instantiable "RegularSolver$Chain" 4) ∈ gW := gm 334 (by decide +kernel) (by decide +kernel)
theorem ml_RS_76 : (Cond.methodLink "RegularSolver" 76 ({ cls := "RegularSolver$Chain", name := "<init>", desc := "(LRegularSolver$Automaton;LRegularSolver$Automaton;)V" } : MethodName)) ∈ gW := gm 503 (by decide +kernel) (by decide +kernel)
theorem im_Ch_init : (Cond.instanceMethod ({ cls := "RegularSolver$Chain", name := "<init>", desc := "(LRegularSolver$Automaton;LRegularSolver$Automaton;)V" } : MethodName)) ∈ gW := gm 504 (by decide +kernel) (by decide +kernel)
theorem cl_RS_79 : (Cond.classLink "RegularSolver" 79 "RegularSolver$Pairs") ∈ gW := gm 523 (by decide +kernel) (by decide +kernel)
theorem it_Pa : (Cond.instantiable "RegularSolver$Pairs" 5) ∈ gW := gm 524 (by decide +kernel) (by decide +kernel)
theorem ml_RS_81 : (Cond.methodLink "RegularSolver" 81 ({ cls := "RegularSolver$Pairs", name := "<init>", desc := "(LRegularSolver$Automaton;LRegularSolver$Automaton;Z)V" } : MethodName)) ∈ gW := gm 525 (by decide +kernel) (by decide +kernel)
theorem im_Pa_init : (Cond.instanceMethod ({ cls := "RegularSolver$Pairs", name := "<init>", desc := "(LRegularSolver$Automaton;LRegularSolver$Automaton;Z)V" } : MethodName)) ∈ gW := gm 526 (by decide +kernel) (by decide +kernel)
theorem cl_RS_88 : (Cond.classLink "RegularSolver" 88 "RegularSolver$Repeat") ∈ gW := gm 569 (by decide +kernel) (by decide +kernel)
theorem it_Re : (Cond.instantiable "RegularSolver$Repeat" 3) ∈ gW := gm 570 (by decide +kernel) (by decide +kernel)
theorem ml_RS_90 : (Cond.methodLink "RegularSolver" 90 ({ cls := "RegularSolver$Repeat", name := "<init>", desc := "(LRegularSolver$Automaton;)V" } : MethodName)) ∈ gW := gm 571 (by decide +kernel) (by decide +kernel)
theorem im_Re_init : (Cond.instanceMethod ({ cls := "RegularSolver$Repeat", name := "<init>", desc := "(LRegularSolver$Automaton;)V" } : MethodName)) ∈ gW := gm 572 (by decide +kernel) (by decide +kernel)
theorem ml_RS_84 : (Cond.methodLink "RegularSolver" 84 ({ cls := "RegularSolver$Automaton", name := "opposite", desc := "()LRegularSolver$Automaton;" } : MethodName)) ∈ gW := gm 555 (by decide +kernel) (by decide +kernel)
theorem im_Au_opposite : (Cond.instanceMethod ({ cls := "RegularSolver$Automaton", name := "opposite", desc := "()LRegularSolver$Automaton;" } : MethodName)) ∈ gW := gm 556 (by decide +kernel) (by decide +kernel)
theorem se_Au_opposite : (Cond.selects "RegularSolver$Automaton" ({ cls := "RegularSolver$Automaton", name := "opposite", desc := "()LRegularSolver$Automaton;" } : MethodName) ({ cls := "RegularSolver$Automaton", name := "opposite", desc := "()LRegularSolver$Automaton;" } : MethodName)) ∈ gW := gm 557 (by decide +kernel) (by decide +kernel)
set_option maxHeartbeats 400000 in
set_option maxRecDepth 100000 in
theorem c_Au_opposite (l : Launch) {D : va_G} {K : Nat → ClassId} {n q an aa : Nat} {aStates : Int32} {aNl : Nat} {aNext : Nat → Int32} {aLast : Int64} {aAhead : Nat → Int64} {r : Int64 × (Nat → Int64)} (sz : Nat) (hf : f_Au_opposite n aStates aNl aNext aLast = some r) : Met l y_Au_opposite w0_Au_opposite ({ frames := 2, cells := 2, slots := 68, locals := 54 }) (wPreR D K [.ref q] [] (auW K q an aa aStates aNl aNext aLast aAhead) sz) (wPostG D K (fun g : Nat × Nat => some (.ref g.1)) (fun g => auoW K g.1 an g.2 aStates r.1 r.2) (va_A [] sz)) 2 68 (va_A [] sz) := by
  unfold f_Au_opposite at hf
  obtain ⟨h, e1, hf⟩ := obd hf
  obtain rfl := Option.some.inj hf
  refine Met.ofW (cc := b_Au_opposite) (maxL := 1) (ret := (some (.object "RegularSolver$Automaton"))) (by decide) rfl ?_
  intro p e s m args below meth c s₁ B hml hv
  obtain ⟨rfl, hsz, hP, hK, hD0, hR, hw⟩ := hv
  subst hsz
  have hx := B.exec
  have hb := B.bytes
  have hts : ∀ w ∈ gW, w.before _ s = true := fun w hw => atoms_spec (ws := w0_Au_opposite) B.pre w (List.mem_cons_of_mem _ hw)
  have hown : s.vm.findClass "RegularSolver$Automaton" = some m.cls := findClass_of_methodNamed B.named
  have hD := hD0.self (sz := s.heap.size)
  generalize hAe : va_A [] s.heap.size = A at hD hw ⊢
  have hA : ∀ q : Nat, s.heap.size ≤ q → A q := fun q h => by rw [← hAe]; exact Or.inr h
  have hS : va_S A s.heap s.heap [] := va_S.rf
  have hO : ∀ (H : Heap) (locs : List Loc), va_S A s.heap H locs → va_P D vwCl (auW K q an aa aStates aNl aNext aLast aAhead) H := fun _ _ hS => ro_of hR hw hS
  have hl := lv_entry [.ref q] (n := 1) (Nat.le_of_ble_eq_true rfl)
  rw [lg_entry_eq]
  generalize (lg_sl [.ref q] ++ List.replicate (1 - (lg_sl [.ref q]).length) Slot.unset).toArray = ls at hl ⊢
  refine va_new (ci := 1) (fs := [.int 0, .null, .long 0, .null]) (C := R_Au) (T := T_Au) (N := 4) hx hb hts in_Au t_Au t_Au_ok hown (hts _ cl_Au_10) (hts _ it_Au) (hts _ ini_Au) hK hP hD hS hA rfl (by decide) (by decide : 0 + 1 ≤ 2) (by decide : 0 + 4 ≤ 68) d_Au_opposite_0 (fun z H hP hD hS => ?_)
  refine W.widen (k := 1) (n := 4) (by decide) (by decide) ?_
  have hP : va_P D vwCl [(z, .inr (1, [.int 0, .null, .long 0, .null]))] H := hP
  have hD : va_D A [(z, .inr (1, [.int 0, .null, .long 0, .null]))] := hD
  refine lv_dup hx hb d_Au_opposite_3 rfl ?_
  refine lv_aload_n hx hb d_Au_opposite_4 rfl (lv_at hl 0 rfl) ?_
  refine va_get (D := D) (ci := 1) (v := .int aStates) (C := R_Au) (T := T_Au) (N := 4) hx hb hts in_Au hown hK (hO _ _ hS) 0 rfl rfl 0 (by decide) (hts _ fl_Au_15) (fun _ h9 => h9) rfl d_Au_opposite_5 ?_
  refine lv_aload_n hx hb d_Au_opposite_8 rfl (lv_at hl 0 rfl) ?_
  refine va_get (D := D) (ci := 1) (v := .ref an) (C := R_Au) (T := T_Au) (N := 4) hx hb hts in_Au hown hK (hO _ _ hS) 0 rfl rfl 1 (by decide) (hts _ fl_Au_19) (fun _ h9 => h9) rfl d_Au_opposite_9 ?_
  refine lv_aload_n hx hb d_Au_opposite_12 rfl (lv_at hl 0 rfl) ?_
  refine va_get (D := D) (ci := 1) (v := .long aLast) (C := R_Au) (T := T_Au) (N := 4) hx hb hts in_Au hown hK (hO _ _ hS) 0 rfl rfl 2 (by decide) (hts _ fl_Au_23) (fun _ h9 => h9) rfl d_Au_opposite_13 ?_
  refine lv_ldc2 (v := (-1)) hx hb hown (hts _ kl_Au_35) d_Au_opposite_16 ?_
  refine lv_lxor hx hb d_Au_opposite_19 ?_
  refine lv_ldc2 (v := (-1)) hx hb hown (hts _ kl_Au_35) d_Au_opposite_20 ?_
  refine lv_bipush (v := 64) hx hb d_Au_opposite_23 (by decide) ?_
  refine lv_aload_n hx hb d_Au_opposite_25 rfl (lv_at hl 0 rfl) ?_
  refine va_get (D := D) (ci := 1) (v := .int aStates) (C := R_Au) (T := T_Au) (N := 4) hx hb hts in_Au hown hK (hO _ _ hS) 0 rfl rfl 0 (by decide) (hts _ fl_Au_15) (fun _ h9 => h9) rfl d_Au_opposite_26 ?_
  refine lv_isub hx hb d_Au_opposite_29 ?_
  refine lv_lushr (v := lushr (-1) (64 - aStates)) hx hb d_Au_opposite_30 rfl ?_
  refine lv_land hx hb d_Au_opposite_31 ?_
  have hwz : gAw (va_A [(z, .inr (1, [.int 0, .null, .long 0, .null]))] H.size) (auW K q an aa aStates aNl aNext aLast aAhead) := hw.mono (va_sub hD hS hA)
  refine w_callA (va_runI (As := [.int aStates, .ref an, .long ((aLast ^^^ (-1)) &&& (lushr (-1) (64 - aStates)))]) (rest := [.ref z]) ⟨hx, hb, hml, hown, hts⟩ (c_Au_init l H.size e1) (gI 3 hts cd_Au_init ml_Au_37 im_Au_init ini_Au rfl rfl rfl pd_Au_init ⟨Nat.le_of_ble_eq_true rfl, Nat.le_of_ble_eq_true rfl⟩) ⟨wPreR_blind, wPreR_of2 hP hK hD (vaC (hO _ _ hS) 1 rfl) (hwz.cell 1 rfl)⟩ rfl rfl hl.1 rfl (lv_room (Nat.le_of_ble_eq_true rfl)) d_Au_opposite_32 ⟨(by decide : 1 + 1 ≤ 2), (by decide : 4 + 64 ≤ 68)⟩) hD hS hA (fun y H1 locs hP1 hD1 hk1 hS1 => ?_)
  have hD1 := hD1.weaken (B := A) (fun _ q _ h => va_sub hD hS hA q.1 h)
  exact W.aret hx hb B.returns (Or.inl ⟨_, rfl⟩) (Or.inr ⟨_, rfl⟩) (fun t ht hW => ⟨⟨(z, y), rfl, by rw [ht]; exact hP1, va_K.moved hW.alike hK, hD1⟩, hS1.F ht⟩) hS1.2.2 d_Au_opposite_35 (hlocks := B.notSynchronized)
def f_RS_letters (n : Nat) (p0 : Int32) (xCount : Int32) (kHeads : Nat → Int32) (kTails : Nat → Int64) (kNext : Nat → Int32) (kSlots : Nat → Int32) (kReached : Int32) (kClassOf : Nat → Int32) (kFinerOf : Nat → Int32) (kMarkOf : Nat → Int32) (kFirstOf : Nat → Int32) (kMarkSlots : Nat → Int32) (kClasses : Int32) : Option ((String × ((Nat → Int32) × (Nat → Int64) × (Nat → Int32) × (Nat → Int32) × Int32 × (Nat → Int32) × (Nat → Int32) × (Nat → Int32) × (Nat → Int32) × (Nat → Int32) × Int32)) ⊕ (Int32 × auP × Int32 × (Nat → Int32) × (Nat → Int64) × (Nat → Int32) × (Nat → Int32) × Int32 × (Nat → Int32) × (Nat → Int32) × (Nat → Int32) × (Nat → Int32) × (Nat → Int32) × Int32)) :=
  if p0 < 0 then
    some (.inl ("java/lang/IllegalArgumentException", (kHeads, kTails, kNext, kSlots, kReached, kClassOf, kFinerOf, kMarkOf, kFirstOf, kMarkSlots, kClasses)))
  else
    if p0 < 16 then
      (f_RS_requireRoom n xCount).bind fun u3 => u3.elim (fun x => some (.inl (x.1, (kHeads, kTails, kNext, kSlots, kReached, kClassOf, kFinerOf, kMarkOf, kFirstOf, kMarkSlots, kClasses)))) fun y3 =>
      (f_Mk_makeA_Br n kHeads kTails kNext kSlots kClassOf kFinerOf kMarkOf kFirstOf kMarkSlots kClasses 0 p0 1).bind fun u =>
      oq u.1 (some (.inl ("java/lang/UnsupportedOperationException", (u.2.1, u.2.2.1, u.2.2.2.1, u.2.2.2.2.1, u.2.2.2.2.2.1, u.2.2.2.2.2.2.1, u.2.2.2.2.2.2.2.1, u.2.2.2.2.2.2.2.2.1, u.2.2.2.2.2.2.2.2.2.1, u.2.2.2.2.2.2.2.2.2.2.1, u.2.2.2.2.2.2.2.2.2.2.2.1)))) fun v =>
      ogd (gin xCount 60) <|
      some (.inr ((xCount + 1) - 1, v, xCount + 1, u.2.1, u.2.2.1, u.2.2.2.1, u.2.2.2.2.1, u.2.2.2.2.2.1, u.2.2.2.2.2.2.1, u.2.2.2.2.2.2.2.1, u.2.2.2.2.2.2.2.2.1, u.2.2.2.2.2.2.2.2.2.1, u.2.2.2.2.2.2.2.2.2.2.1, u.2.2.2.2.2.2.2.2.2.2.2.1))
    else
      some (.inl ("java/lang/IllegalArgumentException", (kHeads, kTails, kNext, kSlots, kReached, kClassOf, kFinerOf, kMarkOf, kFirstOf, kMarkSlots, kClasses)))
set_option maxHeartbeats 400000 in
set_option maxRecDepth 100000 in
theorem c_RS_letters (l : Launch) (hl0 : l.stackTraces = false) {D : va_G} {K : Nat → ClassId} {T : auTab} {n : Nat} {xq : Nat} {xl : Nat} {mq : Nat} {cq : Nat} {iq : Nat} {sq : Nat} {m0 : Nat} {m1 : Nat} {m2 : Nat} {m3 : Nat} {m5 : Nat} {m6 : Nat} {m7 : Nat} {m8 : Nat} {m9 : Nat} {xLang : Nat → Option Nat} {xCount : Int32} {kHeads : Nat → Int32} {kTails : Nat → Int64} {kNext : Nat → Int32} {kSlots : Nat → Int32} {kReached : Int32} {kClassOf : Nat → Int32} {kFinerOf : Nat → Int32} {kMarkOf : Nat → Int32} {kFirstOf : Nat → Int32} {kMarkSlots : Nat → Int32} {kClasses : Int32} {p0 : Int32}  {r : (String × ((Nat → Int32) × (Nat → Int64) × (Nat → Int32) × (Nat → Int32) × Int32 × (Nat → Int32) × (Nat → Int32) × (Nat → Int32) × (Nat → Int32) × (Nat → Int32) × Int32)) ⊕ (Int32 × auP × Int32 × (Nat → Int32) × (Nat → Int64) × (Nat → Int32) × (Nat → Int32) × Int32 × (Nat → Int32) × (Nat → Int32) × (Nat → Int32) × (Nat → Int32) × (Nat → Int32) × Int32)} (sz : Nat) (hf : f_RS_letters n p0 xCount kHeads kTails kNext kSlots kReached kClassOf kFinerOf kMarkOf kFirstOf kMarkSlots kClasses = some r) : vx_Met l y_RS_letters w0_RS_letters ({ frames := 7, cells := 6, slots := 340, locals := 113 }) (xPre D K T [.ref xq, .int p0] ((rsW K xq xl mq cq iq sq xLang xCount) ++ (mkW K mq m0 m1 m2 m3 m5 m6 m7 m8 m9 kHeads kTails kNext kSlots kReached kClassOf kFinerOf kMarkOf kFirstOf kMarkSlots kClasses)) 60 xLang sz) (xPost D K r (fun v (g : Nat × Nat × Nat × Nat × Nat) => some (.int v.1)) (fun v g => ((rsW K xq xl mq cq iq sq (va_up xLang xCount.toNatClampNeg (some g.2.2.1)) v.2.2.1) ++ (mkW K mq m0 m1 m2 m3 g.1 g.2.1 m7 m8 m9 v.2.2.2.1 v.2.2.2.2.1 v.2.2.2.2.2.1 v.2.2.2.2.2.2.1 v.2.2.2.2.2.2.2.1 v.2.2.2.2.2.2.2.2.1 v.2.2.2.2.2.2.2.2.2.1 v.2.2.2.2.2.2.2.2.2.2.1 v.2.2.2.2.2.2.2.2.2.2.2.1 v.2.2.2.2.2.2.2.2.2.2.2.2.1 v.2.2.2.2.2.2.2.2.2.2.2.2.2)) ++ (auW K g.2.2.1 g.2.2.2.1 g.2.2.2.2 v.2.1.1 (4 * v.2.1.1).toNatClampNeg v.2.1.2.2.1 v.2.1.2.1 v.2.1.2.2.2)) (va_A ((rsW K xq xl mq cq iq sq xLang xCount) ++ (mkW K mq m0 m1 m2 m3 m5 m6 m7 m8 m9 kHeads kTails kNext kSlots kReached kClassOf kFinerOf kMarkOf kFirstOf kMarkSlots kClasses)) sz)) (xExc D K r (fun u (g : Nat × Nat) => ((rsW K xq xl mq cq iq sq xLang xCount) ++ (mkW K mq m0 m1 m2 m3 g.1 g.2 m7 m8 m9 u.1 u.2.1 u.2.2.1 u.2.2.2.1 u.2.2.2.2.1 u.2.2.2.2.2.1 u.2.2.2.2.2.2.1 u.2.2.2.2.2.2.2.1 u.2.2.2.2.2.2.2.2.1 u.2.2.2.2.2.2.2.2.2.1 u.2.2.2.2.2.2.2.2.2.2))) (va_A ((rsW K xq xl mq cq iq sq xLang xCount) ++ (mkW K mq m0 m1 m2 m3 m5 m6 m7 m8 m9 kHeads kTails kNext kSlots kReached kClassOf kFinerOf kMarkOf kFirstOf kMarkSlots kClasses)) sz)) 6 340 (va_A ((rsW K xq xl mq cq iq sq xLang xCount) ++ (mkW K mq m0 m1 m2 m3 m5 m6 m7 m8 m9 kHeads kTails kNext kSlots kReached kClassOf kFinerOf kMarkOf kFirstOf kMarkSlots kClasses)) sz) := by
  unfold f_RS_letters at hf
  refine vx_ofW (cc := b_RS_letters) (maxL := 2) (ret := (some .int)) (by decide) rfl ?_
  intro p e s m args below meth c s₁ B hml htab hv
  obtain ⟨⟨rfl, hsz, hP, hK, hD0⟩, hX, hZ, hT0⟩ := hv
  subst hsz
  have hx := B.exec
  have hb := B.bytes
  have hts : ∀ w ∈ gW, w.before _ s = true := fun w hw => atoms_spec (ws := w0_RS_letters) B.pre w (List.mem_cons_of_mem _ hw)
  have hown : s.vm.findClass "RegularSolver" = some m.cls := findClass_of_methodNamed B.named
  have hD := hD0.self (sz := s.heap.size)
  generalize hAe : va_A ((rsW K xq xl mq cq iq sq xLang xCount) ++ (mkW K mq m0 m1 m2 m3 m5 m6 m7 m8 m9 kHeads kTails kNext kSlots kReached kClassOf kFinerOf kMarkOf kFirstOf kMarkSlots kClasses)) s.heap.size = A at hD hZ hT0 ⊢
  have hA : ∀ q : Nat, s.heap.size ≤ q → A q := fun q h => by rw [← hAe]; exact Or.inr h
  have hS : va_S A s.heap s.heap [] := va_S.rf
  have hT : ∀ (q i : Nat), i < 60 → xLang i = some q → ∀ (H : Heap) (locs : List Loc), va_S A s.heap H locs → va_P D vwCl (auT K T q) H := fun q i hi hq _ _ hS => ro_of (hT0 q i hi hq).1 (hT0 q i hi hq).2 hS
  have hTw : ∀ (q i : Nat), i < 60 → xLang i = some q → gAw A (auT K T q) := fun q i hi hq => (hT0 q i hi hq).2
  have hl := lv_entry [.ref xq, .int p0] (n := 2) (Nat.le_of_ble_eq_true rfl)
  rw [lg_entry_eq]
  generalize (lg_sl [.ref xq, .int p0] ++ List.replicate (2 - (lg_sl [.ref xq, .int p0]).length) Slot.unset).toArray = ls at hl ⊢
  refine x_gen (P := fun H => W p l e _ s m _ below meth c H [] 0 0 _ _) ?_
  intro H hHe
  rw [← hHe] at hP
  have hS : va_S A s.heap H [] := by rw [hHe]; exact hS
  refine lv_iload_n hx hb d_RS_letters_0 rfl (lv_at hl 1 rfl) ?_
  refine lv_if_lt (tgt := 10) hx hb d_RS_letters_1 (by decide) (fun c1 => ?_) (fun c1 => ?_)
  · rw [if_pos c1] at hf
    have hr := (Option.some.inj hf).symm
    exact g_throw (text := "set is not 0..15") hx hb hl0 hown hts hZ (by decide) cl_RS_47 ini_IllegalArgumentException (by decide) za_IllegalArgumentException zb_IllegalArgumentException zc_IllegalArgumentException htab B.notSynchronized (by rw [hml]; exact hl.1) (m5, m6) hr hP hK hD hS d_RS_letters_10 d_RS_letters_13 d_RS_letters_14 d_RS_letters_16 d_RS_letters_19 (Nat.le_of_ble_eq_true rfl) (Nat.le_of_ble_eq_true rfl) (by decide : 0 + 1 ≤ 6) (by decide : 0 + 6 ≤ 340) (by decide : 0 + 1 ≤ 6) (by decide : 0 + 6 ≤ 340)
  · rw [if_neg c1] at hf
    refine lv_iload_n hx hb d_RS_letters_4 rfl (lv_at hl 1 rfl) ?_
    refine lv_bipush (v := 16) hx hb d_RS_letters_5 (by decide) ?_
    refine lv_icmp_lt (tgt := 20) hx hb d_RS_letters_7 (by decide) (fun c2 => ?_) (fun c2 => ?_)
    · rw [if_pos c2] at hf
      refine lv_aload_n hx hb d_RS_letters_20 rfl (lv_at hl 0 rfl) ?_
      obtain ⟨u3, eu3, hf⟩ := obd hf
      refine x_call (vx_runV (As := []) (rest := []) ⟨hx, hb, hml, hown, hts⟩ (c_RS_requireRoom l hl0 H.size eu3) (gV 0 hts cd_RS_requireRoom ml_RS_54 im_RS_requireRoom se_RS_requireRoom ini_RS rfl rfl pd_RS_requireRoom ⟨Nat.le_of_ble_eq_true rfl, Nat.le_of_ble_eq_true rfl⟩) ⟨xPre_blind, va_recv hK (vaL hP) (ci := 10) (q0 := 0) rfl rfl, xPre_of (T := fun _ => (0, 0, 0, 0, fun _ => 0, 0, fun _ => 0)) (asg := fun _ => none) (vaL hP) hK (vdL hD) hS hA hX hZ xT0⟩ rfl rfl hl.1 rfl (lv_room (Nat.le_of_ble_eq_true rfl)) d_RS_letters_21 ⟨(by decide : 0 + 1 ≤ 6), (by decide : 0 + 6 ≤ 340)⟩) (vdL hD) hS hA (fun E x ex g4 ce q9 H1 locs hP1 hD1 hk1 hS1 hq1 hq2 hq3 => ?_) (fun y3 ev g4 H1 locs hP1 hD1 hk1 hS1 => ?_)
      · subst ex
        have hr := (Option.some.inj hf).symm
        obtain ⟨hP, hD⟩ := va_keepR hP hD (va_sub (vdL hD) hS hA) hk1 hP1 hD1
        have hS := hS1
        generalize H1 = H at hP hS hq1 ⊢
        exact x_out htab B.notSynchronized hq1 hq2 hq3 (m5, m6) hr hP hK hD hS (by decide : 0 + 1 ≤ 6) (by decide : 0 + 6 ≤ 340)
      subst ev
      replace hf := oel hf
      obtain ⟨hP, hD⟩ := va_keepR hP hD (va_sub (vdL hD) hS hA) hk1 hP1 hD1
      have hS := hS1
      generalize H1 = H at hP hS ⊢
      have hP : va_P D vwCl ((rsW K xq xl mq cq iq sq xLang xCount) ++ (mkW K mq m0 m1 m2 m3 m5 m6 m7 m8 m9 kHeads kTails kNext kSlots kReached kClassOf kFinerOf kMarkOf kFirstOf kMarkSlots kClasses)) H := hP
      have hD : va_D A ((rsW K xq xl mq cq iq sq xLang xCount) ++ (mkW K mq m0 m1 m2 m3 m5 m6 m7 m8 m9 kHeads kTails kNext kSlots kReached kClassOf kFinerOf kMarkOf kFirstOf kMarkSlots kClasses)) := hD
      refine lv_aload_n hx hb d_RS_letters_24 rfl (lv_at hl 0 rfl) ?_
      refine lv_aload_n hx hb d_RS_letters_25 rfl (lv_at hl 0 rfl) ?_
      refine va_get (D := D) (ci := 10) (v := .ref mq) (C := R_RS) (T := T_RS) (N := 6) hx hb hts in_RS hown hK hP 0 rfl rfl 2 (by decide) (hts _ fl_RS_22) (fun _ h9 => h9) rfl d_RS_letters_26 ?_
      refine va_new (ci := 2) (fs := [.int 0, .long 0, .int 0, .int 0]) (C := R_Br) (T := T_Br) (N := 4) hx hb hts in_Br t_Br t_Br_ok hown (hts _ cl_RS_57) (hts _ it_Br) (hts _ ini_Br) hK hP hD hS hA rfl (by decide) (by decide : 1 + 1 ≤ 6) (by decide : 6 + 4 ≤ 340) d_RS_letters_29 (fun wq H hP hD hS => ?_)
      refine W.widen (k := 2) (n := 10) (by decide) (by decide) ?_
      have hP : va_P D vwCl (((rsW K xq xl mq cq iq sq xLang xCount) ++ (mkW K mq m0 m1 m2 m3 m5 m6 m7 m8 m9 kHeads kTails kNext kSlots kReached kClassOf kFinerOf kMarkOf kFirstOf kMarkSlots kClasses)) ++ [(wq, .inr (2, [.int 0, .long 0, .int 0, .int 0]))]) H := hP
      have hD : va_D A (((rsW K xq xl mq cq iq sq xLang xCount) ++ (mkW K mq m0 m1 m2 m3 m5 m6 m7 m8 m9 kHeads kTails kNext kSlots kReached kClassOf kFinerOf kMarkOf kFirstOf kMarkSlots kClasses)) ++ [(wq, .inr (2, [.int 0, .long 0, .int 0, .int 0]))]) := hD
      refine lv_dup hx hb d_RS_letters_32 rfl ?_
      refine lv_iload_n hx hb d_RS_letters_33 rfl (lv_at hl 1 rfl) ?_
      refine lv_iconst (v := 1) hx hb d_RS_letters_34 (by decide) ?_
      refine w_callA (va_runI (As := [.int p0, .int 1]) (rest := [.ref wq, .ref mq, .ref xq]) ⟨hx, hb, hml, hown, hts⟩ (c_Br_init l H.size) (gI 2 hts cd_Br_init ml_RS_59 im_Br_init ini_Br rfl rfl rfl pd_Br_init ⟨Nat.le_of_ble_eq_true rfl, Nat.le_of_ble_eq_true rfl⟩) ⟨withX_blind wPre_blind, withX_of (wPre_of (vaR hP) hK (vdR hD)) hX⟩ rfl rfl hl.1 rfl (lv_room (Nat.le_of_ble_eq_true rfl)) d_RS_letters_35 ⟨(by decide : 2 + 0 ≤ 6), (by decide : 10 + 0 ≤ 340)⟩) (vdR hD) hS hA (fun g0 H1 locs hP1 hD1 hk1 hS1 => ?_)
      obtain ⟨hP, hD⟩ := va_keepL hP hD (va_sub (vdR hD) hS hA) hk1 hP1 hD1
      have hS := hS1
      generalize H1 = H at hP hS ⊢
      have hP : va_P D vwCl ((rsW K xq xl mq cq iq sq xLang xCount) ++ ((mkW K mq m0 m1 m2 m3 m5 m6 m7 m8 m9 kHeads kTails kNext kSlots kReached kClassOf kFinerOf kMarkOf kFirstOf kMarkSlots kClasses) ++ (brW K wq 0 0 p0 1))) H := vpAs hP
      have hD : va_D A ((rsW K xq xl mq cq iq sq xLang xCount) ++ ((mkW K mq m0 m1 m2 m3 m5 m6 m7 m8 m9 kHeads kTails kNext kSlots kReached kClassOf kFinerOf kMarkOf kFirstOf kMarkSlots kClasses) ++ (brW K wq 0 0 p0 1))) := vdAs hD
      obtain ⟨u, eu, hf⟩ := obd hf
      refine w_callA (va_runV (As := [.ref wq]) (rest := [.ref xq]) ⟨hx, hb, hml, hown, hts⟩ (c_Mk_make_Br l H.size eu) (gV 1 hts cd_Mk_make ml_RS_62 im_Mk_make se_Mk_make ini_Mk rfl rfl pd_Mk_make ⟨Nat.le_of_ble_eq_true rfl, Nat.le_of_ble_eq_true rfl⟩) ⟨withX_blind wPre_blind, va_recv hK (vaL (vaR hP)) (ci := 6) (q0 := 0) rfl rfl, withX_of (wPre_of (vaR hP) hK (vdR hD)) hX⟩ rfl rfl hl.1 rfl (lv_room (Nat.le_of_ble_eq_true rfl)) d_RS_letters_38 ⟨(by decide : 2 + 3 ≤ 6), (by decide : 10 + 324 ≤ 340)⟩) (vdR hD) hS hA (fun gm H1 locs hP1 hD1 hk1 hS1 => ?_)
      obtain ⟨hP, hD⟩ := va_keepL hP hD (va_sub (vdR hD) hS hA) hk1 hP1 hD1
      have hS := hS1
      generalize H1 = H at hP hS ⊢
      obtain ⟨o, um⟩ := u
      cases o with
      | none =>
        replace hf := oqn hf
        have hr := (Option.some.inj hf).symm
        refine W.eq (g2 := F0 m 41 ls [.null, .ref xq]) rfl ?_
        refine x_call (vx_runV (As := [.null]) (rest := []) ⟨hx, hb, hml, hown, hts⟩ (c_RS_keep_N (n := n) l hl0 H.size rfl) (gV 1 hts cd_RS_keep ml_RS_66 im_RS_keep se_RS_keep ini_RS rfl rfl pd_RS_keep ⟨Nat.le_of_ble_eq_true rfl, Nat.le_of_ble_eq_true rfl⟩) ⟨xPre_blind, va_recv hK (vaL hP) (ci := 10) (q0 := 0) rfl rfl, xPre_of (T := fun _ => (0, 0, 0, 0, fun _ => 0, 0, fun _ => 0)) (asg := fun _ => none) (vaL hP) hK (vdL hD) hS hA hX hZ xT0⟩ rfl rfl hl.1 rfl (lv_room (Nat.le_of_ble_eq_true rfl)) d_RS_letters_41 ⟨(by decide : 5 + 1 ≤ 6), (by decide : 334 + 6 ≤ 340)⟩) (vdL hD) hS hA (fun E x ex g0 ce q9 H1 locs hP1 hD1 hk1 hS1 hq1 hq2 hq3 => ?_) (fun yk ev => nomatch ev)
        cases ex
        obtain ⟨hP, hD⟩ := va_keepR hP hD (va_sub (vdL hD) hS hA) hk1 hP1 hD1
        have hS := hS1
        generalize H1 = H at hP hS hq1 ⊢
        exact x_out htab B.notSynchronized hq1 hq2 hq3 (gm.1, gm.2.1) hr (va_P.app (vaL hP) (vaL (vaL (vaR hP)))) hK (vdFst hD) hS (by decide : 5 + 1 ≤ 6) (by decide : 334 + 6 ≤ 340)
      | some v =>
        replace hf := oqs hf
        refine W.eq (g2 := F0 m 41 ls [.ref gm.2.2.1, .ref xq]) rfl ?_
        obtain ⟨gk, hf⟩ := ogi hf
        have hr := (Option.some.inj hf).symm
        refine x_call (vx_runV (As := [.ref gm.2.2.1]) (rest := []) ⟨hx, hb, hml, hown, hts⟩ (c_RS_keep_R (n := n) (T := fun _ => (gm.2.2.2.1, gm.2.2.2.2, v.1, (4 * v.1).toNatClampNeg, v.2.2.1, v.2.1, v.2.2.2)) (qz := gm.2.2.1) l hl0 H.size (keepR_ok gk)) (gV 1 hts cd_RS_keep ml_RS_66 im_RS_keep se_RS_keep ini_RS rfl rfl pd_RS_keep ⟨Nat.le_of_ble_eq_true rfl, Nat.le_of_ble_eq_true rfl⟩) ⟨xPre_blind, va_recv hK (vaL hP) (ci := 10) (q0 := 0) rfl rfl, xPre_of2 (vaL hP) hK (vdL hD) hS hA hX hZ (fun q i hi hq => by obtain rfl := Option.some.inj hq; exact ⟨vaR (vaR hP), (gAw_ofR hP hD).right⟩)⟩ rfl rfl hl.1 rfl (lv_room (Nat.le_of_ble_eq_true rfl)) d_RS_letters_41 ⟨(by decide : 5 + 0 ≤ 6), (by decide : 334 + 0 ≤ 340)⟩) (vdL hD) hS hA (fun E x ex g0 ce q9 H1 locs hP1 hD1 hk1 hS1 hq1 hq2 hq3 => nomatch ex) (fun yk ev g0 H1 locs hP1 hD1 hk1 hS1 => ?_)
        cases ev
        obtain ⟨hP, hD⟩ := va_keepR hP hD (va_sub (vdL hD) hS hA) hk1 hP1 hD1
        have hS := hS1
        generalize H1 = H at hP hS ⊢
        have hP : va_P D vwCl (((rsW K xq xl mq cq iq sq (va_up xLang xCount.toNatClampNeg (some gm.2.2.1)) (xCount + 1)) ++ (mkW K mq m0 m1 m2 m3 gm.1 gm.2.1 m7 m8 m9 um.1 um.2.1 um.2.2.1 um.2.2.2.1 um.2.2.2.2.1 um.2.2.2.2.2.1 um.2.2.2.2.2.2.1 um.2.2.2.2.2.2.2.1 um.2.2.2.2.2.2.2.2.1 um.2.2.2.2.2.2.2.2.2.1 um.2.2.2.2.2.2.2.2.2.2.1)) ++ (auW K gm.2.2.1 gm.2.2.2.1 gm.2.2.2.2 v.1 (4 * v.1).toNatClampNeg v.2.2.1 v.2.1 v.2.2.2)) H := hP.sub [0, 1, 2, 3, 4, 5, 6, 7, 8, 9, 10, 11, 13, 14, 15] rfl
        have hD : va_D A (((rsW K xq xl mq cq iq sq (va_up xLang xCount.toNatClampNeg (some gm.2.2.1)) (xCount + 1)) ++ (mkW K mq m0 m1 m2 m3 gm.1 gm.2.1 m7 m8 m9 um.1 um.2.1 um.2.2.1 um.2.2.2.1 um.2.2.2.2.1 um.2.2.2.2.2.1 um.2.2.2.2.2.2.1 um.2.2.2.2.2.2.2.1 um.2.2.2.2.2.2.2.2.1 um.2.2.2.2.2.2.2.2.2.1 um.2.2.2.2.2.2.2.2.2.2.1)) ++ (auW K gm.2.2.1 gm.2.2.2.1 gm.2.2.2.2 v.1 (4 * v.1).toNatClampNeg v.2.2.1 v.2.1 v.2.2.2)) := hD.sub [0, 1, 2, 3, 4, 5, 6, 7, 8, 9, 10, 11, 13, 14, 15] (by decide) rfl
        refine W.widen (k := 6) (n := 340) (by decide) (by decide) ?_
        exact vx_ret (W.iret hx hb B.returns (fun t ht hW => ⟨_, hr, ⟨gm, rfl, by rw [ht]; exact hP, va_K.moved hW.alike hK, hD⟩, hS.F ht⟩) hS.2.2 d_RS_letters_44 (hlocks := B.notSynchronized))
    · rw [if_neg c2] at hf
      have hr := (Option.some.inj hf).symm
      exact g_throw (text := "set is not 0..15") hx hb hl0 hown hts hZ (by decide) cl_RS_47 ini_IllegalArgumentException (by decide) za_IllegalArgumentException zb_IllegalArgumentException zc_IllegalArgumentException htab B.notSynchronized (by rw [hml]; exact hl.1) (m5, m6) hr hP hK hD hS d_RS_letters_10 d_RS_letters_13 d_RS_letters_14 d_RS_letters_16 d_RS_letters_19 (Nat.le_of_ble_eq_true rfl) (Nat.le_of_ble_eq_true rfl) (by decide : 0 + 1 ≤ 6) (by decide : 0 + 6 ≤ 340) (by decide : 0 + 1 ≤ 6) (by decide : 0 + 6 ≤ 340)
def f_RS_empty (n : Nat) (xCount : Int32) (kHeads : Nat → Int32) (kTails : Nat → Int64) (kNext : Nat → Int32) (kSlots : Nat → Int32) (kReached : Int32) (kClassOf : Nat → Int32) (kFinerOf : Nat → Int32) (kMarkOf : Nat → Int32) (kFirstOf : Nat → Int32) (kMarkSlots : Nat → Int32) (kClasses : Int32) : Option ((String × ((Nat → Int32) × (Nat → Int64) × (Nat → Int32) × (Nat → Int32) × Int32 × (Nat → Int32) × (Nat → Int32) × (Nat → Int32) × (Nat → Int32) × (Nat → Int32) × Int32)) ⊕ (Int32 × auP × Int32 × (Nat → Int32) × (Nat → Int64) × (Nat → Int32) × (Nat → Int32) × Int32 × (Nat → Int32) × (Nat → Int32) × (Nat → Int32) × (Nat → Int32) × (Nat → Int32) × Int32)) :=
  (f_RS_requireRoom n xCount).bind fun u1 => u1.elim (fun x => some (.inl (x.1, (kHeads, kTails, kNext, kSlots, kReached, kClassOf, kFinerOf, kMarkOf, kFirstOf, kMarkSlots, kClasses)))) fun y1 =>
  (f_Mk_makeA_Br n kHeads kTails kNext kSlots kClassOf kFinerOf kMarkOf kFirstOf kMarkSlots kClasses 0 0 0).bind fun u =>
  oq u.1 (some (.inl ("java/lang/UnsupportedOperationException", (u.2.1, u.2.2.1, u.2.2.2.1, u.2.2.2.2.1, u.2.2.2.2.2.1, u.2.2.2.2.2.2.1, u.2.2.2.2.2.2.2.1, u.2.2.2.2.2.2.2.2.1, u.2.2.2.2.2.2.2.2.2.1, u.2.2.2.2.2.2.2.2.2.2.1, u.2.2.2.2.2.2.2.2.2.2.2.1)))) fun v =>
  ogd (gin xCount 60) <|
  some (.inr ((xCount + 1) - 1, v, xCount + 1, u.2.1, u.2.2.1, u.2.2.2.1, u.2.2.2.2.1, u.2.2.2.2.2.1, u.2.2.2.2.2.2.1, u.2.2.2.2.2.2.2.1, u.2.2.2.2.2.2.2.2.1, u.2.2.2.2.2.2.2.2.2.1, u.2.2.2.2.2.2.2.2.2.2.1, u.2.2.2.2.2.2.2.2.2.2.2.1))
set_option maxHeartbeats 400000 in
set_option maxRecDepth 100000 in
theorem c_RS_empty (l : Launch) (hl0 : l.stackTraces = false) {D : va_G} {K : Nat → ClassId} {T : auTab} {n : Nat} {xq : Nat} {xl : Nat} {mq : Nat} {cq : Nat} {iq : Nat} {sq : Nat} {m0 : Nat} {m1 : Nat} {m2 : Nat} {m3 : Nat} {m5 : Nat} {m6 : Nat} {m7 : Nat} {m8 : Nat} {m9 : Nat} {xLang : Nat → Option Nat} {xCount : Int32} {kHeads : Nat → Int32} {kTails : Nat → Int64} {kNext : Nat → Int32} {kSlots : Nat → Int32} {kReached : Int32} {kClassOf : Nat → Int32} {kFinerOf : Nat → Int32} {kMarkOf : Nat → Int32} {kFirstOf : Nat → Int32} {kMarkSlots : Nat → Int32} {kClasses : Int32}   {r : (String × ((Nat → Int32) × (Nat → Int64) × (Nat → Int32) × (Nat → Int32) × Int32 × (Nat → Int32) × (Nat → Int32) × (Nat → Int32) × (Nat → Int32) × (Nat → Int32) × Int32)) ⊕ (Int32 × auP × Int32 × (Nat → Int32) × (Nat → Int64) × (Nat → Int32) × (Nat → Int32) × Int32 × (Nat → Int32) × (Nat → Int32) × (Nat → Int32) × (Nat → Int32) × (Nat → Int32) × Int32)} (sz : Nat) (hf : f_RS_empty n xCount kHeads kTails kNext kSlots kReached kClassOf kFinerOf kMarkOf kFirstOf kMarkSlots kClasses = some r) : vx_Met l y_RS_empty w0_RS_empty ({ frames := 7, cells := 6, slots := 340, locals := 113 }) (xPre D K T [.ref xq] ((rsW K xq xl mq cq iq sq xLang xCount) ++ (mkW K mq m0 m1 m2 m3 m5 m6 m7 m8 m9 kHeads kTails kNext kSlots kReached kClassOf kFinerOf kMarkOf kFirstOf kMarkSlots kClasses)) 60 xLang sz) (xPost D K r (fun v (g : Nat × Nat × Nat × Nat × Nat) => some (.int v.1)) (fun v g => ((rsW K xq xl mq cq iq sq (va_up xLang xCount.toNatClampNeg (some g.2.2.1)) v.2.2.1) ++ (mkW K mq m0 m1 m2 m3 g.1 g.2.1 m7 m8 m9 v.2.2.2.1 v.2.2.2.2.1 v.2.2.2.2.2.1 v.2.2.2.2.2.2.1 v.2.2.2.2.2.2.2.1 v.2.2.2.2.2.2.2.2.1 v.2.2.2.2.2.2.2.2.2.1 v.2.2.2.2.2.2.2.2.2.2.1 v.2.2.2.2.2.2.2.2.2.2.2.1 v.2.2.2.2.2.2.2.2.2.2.2.2.1 v.2.2.2.2.2.2.2.2.2.2.2.2.2)) ++ (auW K g.2.2.1 g.2.2.2.1 g.2.2.2.2 v.2.1.1 (4 * v.2.1.1).toNatClampNeg v.2.1.2.2.1 v.2.1.2.1 v.2.1.2.2.2)) (va_A ((rsW K xq xl mq cq iq sq xLang xCount) ++ (mkW K mq m0 m1 m2 m3 m5 m6 m7 m8 m9 kHeads kTails kNext kSlots kReached kClassOf kFinerOf kMarkOf kFirstOf kMarkSlots kClasses)) sz)) (xExc D K r (fun u (g : Nat × Nat) => ((rsW K xq xl mq cq iq sq xLang xCount) ++ (mkW K mq m0 m1 m2 m3 g.1 g.2 m7 m8 m9 u.1 u.2.1 u.2.2.1 u.2.2.2.1 u.2.2.2.2.1 u.2.2.2.2.2.1 u.2.2.2.2.2.2.1 u.2.2.2.2.2.2.2.1 u.2.2.2.2.2.2.2.2.1 u.2.2.2.2.2.2.2.2.2.1 u.2.2.2.2.2.2.2.2.2.2))) (va_A ((rsW K xq xl mq cq iq sq xLang xCount) ++ (mkW K mq m0 m1 m2 m3 m5 m6 m7 m8 m9 kHeads kTails kNext kSlots kReached kClassOf kFinerOf kMarkOf kFirstOf kMarkSlots kClasses)) sz)) 6 340 (va_A ((rsW K xq xl mq cq iq sq xLang xCount) ++ (mkW K mq m0 m1 m2 m3 m5 m6 m7 m8 m9 kHeads kTails kNext kSlots kReached kClassOf kFinerOf kMarkOf kFirstOf kMarkSlots kClasses)) sz) := by
  unfold f_RS_empty at hf
  refine vx_ofW (cc := b_RS_empty) (maxL := 1) (ret := (some .int)) (by decide) rfl ?_
  intro p e s m args below meth c s₁ B hml htab hv
  obtain ⟨⟨rfl, hsz, hP, hK, hD0⟩, hX, hZ, hT0⟩ := hv
  subst hsz
  have hx := B.exec
  have hb := B.bytes
  have hts : ∀ w ∈ gW, w.before _ s = true := fun w hw => atoms_spec (ws := w0_RS_empty) B.pre w (List.mem_cons_of_mem _ hw)
  have hown : s.vm.findClass "RegularSolver" = some m.cls := findClass_of_methodNamed B.named
  have hD := hD0.self (sz := s.heap.size)
  generalize hAe : va_A ((rsW K xq xl mq cq iq sq xLang xCount) ++ (mkW K mq m0 m1 m2 m3 m5 m6 m7 m8 m9 kHeads kTails kNext kSlots kReached kClassOf kFinerOf kMarkOf kFirstOf kMarkSlots kClasses)) s.heap.size = A at hD hZ hT0 ⊢
  have hA : ∀ q : Nat, s.heap.size ≤ q → A q := fun q h => by rw [← hAe]; exact Or.inr h
  have hS : va_S A s.heap s.heap [] := va_S.rf
  have hT : ∀ (q i : Nat), i < 60 → xLang i = some q → ∀ (H : Heap) (locs : List Loc), va_S A s.heap H locs → va_P D vwCl (auT K T q) H := fun q i hi hq _ _ hS => ro_of (hT0 q i hi hq).1 (hT0 q i hi hq).2 hS
  have hTw : ∀ (q i : Nat), i < 60 → xLang i = some q → gAw A (auT K T q) := fun q i hi hq => (hT0 q i hi hq).2
  have hl := lv_entry [.ref xq] (n := 1) (Nat.le_of_ble_eq_true rfl)
  rw [lg_entry_eq]
  generalize (lg_sl [.ref xq] ++ List.replicate (1 - (lg_sl [.ref xq]).length) Slot.unset).toArray = ls at hl ⊢
  refine x_gen (P := fun H => W p l e _ s m _ below meth c H [] 0 0 _ _) ?_
  intro H hHe
  rw [← hHe] at hP
  have hS : va_S A s.heap H [] := by rw [hHe]; exact hS
  refine lv_aload_n hx hb d_RS_empty_0 rfl (lv_at hl 0 rfl) ?_
  obtain ⟨u1, eu1, hf⟩ := obd hf
  refine x_call (vx_runV (As := []) (rest := []) ⟨hx, hb, hml, hown, hts⟩ (c_RS_requireRoom l hl0 H.size eu1) (gV 0 hts cd_RS_requireRoom ml_RS_54 im_RS_requireRoom se_RS_requireRoom ini_RS rfl rfl pd_RS_requireRoom ⟨Nat.le_of_ble_eq_true rfl, Nat.le_of_ble_eq_true rfl⟩) ⟨xPre_blind, va_recv hK (vaL hP) (ci := 10) (q0 := 0) rfl rfl, xPre_of (T := fun _ => (0, 0, 0, 0, fun _ => 0, 0, fun _ => 0)) (asg := fun _ => none) (vaL hP) hK (vdL hD) hS hA hX hZ xT0⟩ rfl rfl hl.1 rfl (lv_room (Nat.le_of_ble_eq_true rfl)) d_RS_empty_1 ⟨(by decide : 0 + 1 ≤ 6), (by decide : 0 + 6 ≤ 340)⟩) (vdL hD) hS hA (fun E x ex g2 ce q9 H1 locs hP1 hD1 hk1 hS1 hq1 hq2 hq3 => ?_) (fun y1 ev g2 H1 locs hP1 hD1 hk1 hS1 => ?_)
  · subst ex
    have hr := (Option.some.inj hf).symm
    obtain ⟨hP, hD⟩ := va_keepR hP hD (va_sub (vdL hD) hS hA) hk1 hP1 hD1
    have hS := hS1
    generalize H1 = H at hP hS hq1 ⊢
    exact x_out htab B.notSynchronized hq1 hq2 hq3 (m5, m6) hr hP hK hD hS (by decide : 0 + 1 ≤ 6) (by decide : 0 + 6 ≤ 340)
  subst ev
  replace hf := oel hf
  obtain ⟨hP, hD⟩ := va_keepR hP hD (va_sub (vdL hD) hS hA) hk1 hP1 hD1
  have hS := hS1
  generalize H1 = H at hP hS ⊢
  have hP : va_P D vwCl ((rsW K xq xl mq cq iq sq xLang xCount) ++ (mkW K mq m0 m1 m2 m3 m5 m6 m7 m8 m9 kHeads kTails kNext kSlots kReached kClassOf kFinerOf kMarkOf kFirstOf kMarkSlots kClasses)) H := hP
  have hD : va_D A ((rsW K xq xl mq cq iq sq xLang xCount) ++ (mkW K mq m0 m1 m2 m3 m5 m6 m7 m8 m9 kHeads kTails kNext kSlots kReached kClassOf kFinerOf kMarkOf kFirstOf kMarkSlots kClasses)) := hD
  refine lv_aload_n hx hb d_RS_empty_4 rfl (lv_at hl 0 rfl) ?_
  refine lv_aload_n hx hb d_RS_empty_5 rfl (lv_at hl 0 rfl) ?_
  refine va_get (D := D) (ci := 10) (v := .ref mq) (C := R_RS) (T := T_RS) (N := 6) hx hb hts in_RS hown hK hP 0 rfl rfl 2 (by decide) (hts _ fl_RS_22) (fun _ h9 => h9) rfl d_RS_empty_6 ?_
  refine va_new (ci := 2) (fs := [.int 0, .long 0, .int 0, .int 0]) (C := R_Br) (T := T_Br) (N := 4) hx hb hts in_Br t_Br t_Br_ok hown (hts _ cl_RS_57) (hts _ it_Br) (hts _ ini_Br) hK hP hD hS hA rfl (by decide) (by decide : 1 + 1 ≤ 6) (by decide : 6 + 4 ≤ 340) d_RS_empty_9 (fun wq H hP hD hS => ?_)
  refine W.widen (k := 2) (n := 10) (by decide) (by decide) ?_
  have hP : va_P D vwCl (((rsW K xq xl mq cq iq sq xLang xCount) ++ (mkW K mq m0 m1 m2 m3 m5 m6 m7 m8 m9 kHeads kTails kNext kSlots kReached kClassOf kFinerOf kMarkOf kFirstOf kMarkSlots kClasses)) ++ [(wq, .inr (2, [.int 0, .long 0, .int 0, .int 0]))]) H := hP
  have hD : va_D A (((rsW K xq xl mq cq iq sq xLang xCount) ++ (mkW K mq m0 m1 m2 m3 m5 m6 m7 m8 m9 kHeads kTails kNext kSlots kReached kClassOf kFinerOf kMarkOf kFirstOf kMarkSlots kClasses)) ++ [(wq, .inr (2, [.int 0, .long 0, .int 0, .int 0]))]) := hD
  refine lv_dup hx hb d_RS_empty_12 rfl ?_
  refine lv_iconst (v := 0) hx hb d_RS_empty_13 (by decide) ?_
  refine lv_iconst (v := 0) hx hb d_RS_empty_14 (by decide) ?_
  refine w_callA (va_runI (As := [.int 0, .int 0]) (rest := [.ref wq, .ref mq, .ref xq]) ⟨hx, hb, hml, hown, hts⟩ (c_Br_init l H.size) (gI 2 hts cd_Br_init ml_RS_59 im_Br_init ini_Br rfl rfl rfl pd_Br_init ⟨Nat.le_of_ble_eq_true rfl, Nat.le_of_ble_eq_true rfl⟩) ⟨withX_blind wPre_blind, withX_of (wPre_of (vaR hP) hK (vdR hD)) hX⟩ rfl rfl hl.1 rfl (lv_room (Nat.le_of_ble_eq_true rfl)) d_RS_empty_15 ⟨(by decide : 2 + 0 ≤ 6), (by decide : 10 + 0 ≤ 340)⟩) (vdR hD) hS hA (fun g0 H1 locs hP1 hD1 hk1 hS1 => ?_)
  obtain ⟨hP, hD⟩ := va_keepL hP hD (va_sub (vdR hD) hS hA) hk1 hP1 hD1
  have hS := hS1
  generalize H1 = H at hP hS ⊢
  have hP : va_P D vwCl ((rsW K xq xl mq cq iq sq xLang xCount) ++ ((mkW K mq m0 m1 m2 m3 m5 m6 m7 m8 m9 kHeads kTails kNext kSlots kReached kClassOf kFinerOf kMarkOf kFirstOf kMarkSlots kClasses) ++ (brW K wq 0 0 0 0))) H := vpAs hP
  have hD : va_D A ((rsW K xq xl mq cq iq sq xLang xCount) ++ ((mkW K mq m0 m1 m2 m3 m5 m6 m7 m8 m9 kHeads kTails kNext kSlots kReached kClassOf kFinerOf kMarkOf kFirstOf kMarkSlots kClasses) ++ (brW K wq 0 0 0 0))) := vdAs hD
  obtain ⟨u, eu, hf⟩ := obd hf
  refine w_callA (va_runV (As := [.ref wq]) (rest := [.ref xq]) ⟨hx, hb, hml, hown, hts⟩ (c_Mk_make_Br l H.size eu) (gV 1 hts cd_Mk_make ml_RS_62 im_Mk_make se_Mk_make ini_Mk rfl rfl pd_Mk_make ⟨Nat.le_of_ble_eq_true rfl, Nat.le_of_ble_eq_true rfl⟩) ⟨withX_blind wPre_blind, va_recv hK (vaL (vaR hP)) (ci := 6) (q0 := 0) rfl rfl, withX_of (wPre_of (vaR hP) hK (vdR hD)) hX⟩ rfl rfl hl.1 rfl (lv_room (Nat.le_of_ble_eq_true rfl)) d_RS_empty_18 ⟨(by decide : 2 + 3 ≤ 6), (by decide : 10 + 324 ≤ 340)⟩) (vdR hD) hS hA (fun gm H1 locs hP1 hD1 hk1 hS1 => ?_)
  obtain ⟨hP, hD⟩ := va_keepL hP hD (va_sub (vdR hD) hS hA) hk1 hP1 hD1
  have hS := hS1
  generalize H1 = H at hP hS ⊢
  obtain ⟨o, um⟩ := u
  cases o with
  | none =>
    replace hf := oqn hf
    have hr := (Option.some.inj hf).symm
    refine W.eq (g2 := F0 m 21 ls [.null, .ref xq]) rfl ?_
    refine x_call (vx_runV (As := [.null]) (rest := []) ⟨hx, hb, hml, hown, hts⟩ (c_RS_keep_N (n := n) l hl0 H.size rfl) (gV 1 hts cd_RS_keep ml_RS_66 im_RS_keep se_RS_keep ini_RS rfl rfl pd_RS_keep ⟨Nat.le_of_ble_eq_true rfl, Nat.le_of_ble_eq_true rfl⟩) ⟨xPre_blind, va_recv hK (vaL hP) (ci := 10) (q0 := 0) rfl rfl, xPre_of (T := fun _ => (0, 0, 0, 0, fun _ => 0, 0, fun _ => 0)) (asg := fun _ => none) (vaL hP) hK (vdL hD) hS hA hX hZ xT0⟩ rfl rfl hl.1 rfl (lv_room (Nat.le_of_ble_eq_true rfl)) d_RS_empty_21 ⟨(by decide : 5 + 1 ≤ 6), (by decide : 334 + 6 ≤ 340)⟩) (vdL hD) hS hA (fun E x ex g0 ce q9 H1 locs hP1 hD1 hk1 hS1 hq1 hq2 hq3 => ?_) (fun yk ev => nomatch ev)
    cases ex
    obtain ⟨hP, hD⟩ := va_keepR hP hD (va_sub (vdL hD) hS hA) hk1 hP1 hD1
    have hS := hS1
    generalize H1 = H at hP hS hq1 ⊢
    exact x_out htab B.notSynchronized hq1 hq2 hq3 (gm.1, gm.2.1) hr (va_P.app (vaL hP) (vaL (vaL (vaR hP)))) hK (vdFst hD) hS (by decide : 5 + 1 ≤ 6) (by decide : 334 + 6 ≤ 340)
  | some v =>
    replace hf := oqs hf
    refine W.eq (g2 := F0 m 21 ls [.ref gm.2.2.1, .ref xq]) rfl ?_
    obtain ⟨gk, hf⟩ := ogi hf
    have hr := (Option.some.inj hf).symm
    refine x_call (vx_runV (As := [.ref gm.2.2.1]) (rest := []) ⟨hx, hb, hml, hown, hts⟩ (c_RS_keep_R (n := n) (T := fun _ => (gm.2.2.2.1, gm.2.2.2.2, v.1, (4 * v.1).toNatClampNeg, v.2.2.1, v.2.1, v.2.2.2)) (qz := gm.2.2.1) l hl0 H.size (keepR_ok gk)) (gV 1 hts cd_RS_keep ml_RS_66 im_RS_keep se_RS_keep ini_RS rfl rfl pd_RS_keep ⟨Nat.le_of_ble_eq_true rfl, Nat.le_of_ble_eq_true rfl⟩) ⟨xPre_blind, va_recv hK (vaL hP) (ci := 10) (q0 := 0) rfl rfl, xPre_of2 (vaL hP) hK (vdL hD) hS hA hX hZ (fun q i hi hq => by obtain rfl := Option.some.inj hq; exact ⟨vaR (vaR hP), (gAw_ofR hP hD).right⟩)⟩ rfl rfl hl.1 rfl (lv_room (Nat.le_of_ble_eq_true rfl)) d_RS_empty_21 ⟨(by decide : 5 + 0 ≤ 6), (by decide : 334 + 0 ≤ 340)⟩) (vdL hD) hS hA (fun E x ex g0 ce q9 H1 locs hP1 hD1 hk1 hS1 hq1 hq2 hq3 => nomatch ex) (fun yk ev g0 H1 locs hP1 hD1 hk1 hS1 => ?_)
    cases ev
    obtain ⟨hP, hD⟩ := va_keepR hP hD (va_sub (vdL hD) hS hA) hk1 hP1 hD1
    have hS := hS1
    generalize H1 = H at hP hS ⊢
    have hP : va_P D vwCl (((rsW K xq xl mq cq iq sq (va_up xLang xCount.toNatClampNeg (some gm.2.2.1)) (xCount + 1)) ++ (mkW K mq m0 m1 m2 m3 gm.1 gm.2.1 m7 m8 m9 um.1 um.2.1 um.2.2.1 um.2.2.2.1 um.2.2.2.2.1 um.2.2.2.2.2.1 um.2.2.2.2.2.2.1 um.2.2.2.2.2.2.2.1 um.2.2.2.2.2.2.2.2.1 um.2.2.2.2.2.2.2.2.2.1 um.2.2.2.2.2.2.2.2.2.2.1)) ++ (auW K gm.2.2.1 gm.2.2.2.1 gm.2.2.2.2 v.1 (4 * v.1).toNatClampNeg v.2.2.1 v.2.1 v.2.2.2)) H := hP.sub [0, 1, 2, 3, 4, 5, 6, 7, 8, 9, 10, 11, 13, 14, 15] rfl
    have hD : va_D A (((rsW K xq xl mq cq iq sq (va_up xLang xCount.toNatClampNeg (some gm.2.2.1)) (xCount + 1)) ++ (mkW K mq m0 m1 m2 m3 gm.1 gm.2.1 m7 m8 m9 um.1 um.2.1 um.2.2.1 um.2.2.2.1 um.2.2.2.2.1 um.2.2.2.2.2.1 um.2.2.2.2.2.2.1 um.2.2.2.2.2.2.2.1 um.2.2.2.2.2.2.2.2.1 um.2.2.2.2.2.2.2.2.2.1 um.2.2.2.2.2.2.2.2.2.2.1)) ++ (auW K gm.2.2.1 gm.2.2.2.1 gm.2.2.2.2 v.1 (4 * v.1).toNatClampNeg v.2.2.1 v.2.1 v.2.2.2)) := hD.sub [0, 1, 2, 3, 4, 5, 6, 7, 8, 9, 10, 11, 13, 14, 15] (by decide) rfl
    refine W.widen (k := 6) (n := 340) (by decide) (by decide) ?_
    exact vx_ret (W.iret hx hb B.returns (fun t ht hW => ⟨_, hr, ⟨gm, rfl, by rw [ht]; exact hP, va_K.moved hW.alike hK, hD⟩, hS.F ht⟩) hS.2.2 d_RS_empty_24 (hlocks := B.notSynchronized))
def f_RS_then (n : Nat) (p0 : Int32) (p1 : Int32) (xLang : Nat → Option Nat) (xCount : Int32) (kHeads : Nat → Int32) (kTails : Nat → Int64) (kNext : Nat → Int32) (kSlots : Nat → Int32) (kReached : Int32) (kClassOf : Nat → Int32) (kFinerOf : Nat → Int32) (kMarkOf : Nat → Int32) (kFirstOf : Nat → Int32) (kMarkSlots : Nat → Int32) (kClasses : Int32) (T : auTab) : Option ((String × ((Nat → Int32) × (Nat → Int64) × (Nat → Int32) × (Nat → Int32) × Int32 × (Nat → Int32) × (Nat → Int32) × (Nat → Int32) × (Nat → Int32) × (Nat → Int32) × Int32)) ⊕ (Int32 × auP × Int32 × (Nat → Int32) × (Nat → Int64) × (Nat → Int32) × (Nat → Int32) × Int32 × (Nat → Int32) × (Nat → Int32) × (Nat → Int32) × (Nat → Int32) × (Nat → Int32) × Int32)) :=
  (f_RS_requireLanguage n p0 xCount).bind fun u1 => u1.elim (fun x => some (.inl (x.1, (kHeads, kTails, kNext, kSlots, kReached, kClassOf, kFinerOf, kMarkOf, kFirstOf, kMarkSlots, kClasses)))) fun y1 =>
  (f_RS_requireLanguage n p1 xCount).bind fun u3 => u3.elim (fun x => some (.inl (x.1, (kHeads, kTails, kNext, kSlots, kReached, kClassOf, kFinerOf, kMarkOf, kFirstOf, kMarkSlots, kClasses)))) fun y3 =>
  (f_RS_requireRoom n xCount).bind fun u5 => u5.elim (fun x => some (.inl (x.1, (kHeads, kTails, kNext, kSlots, kReached, kClassOf, kFinerOf, kMarkOf, kFirstOf, kMarkSlots, kClasses)))) fun y5 =>
  ogd (gin p0 60) <|
  oq (xLang p0.toNatClampNeg) none fun q8 =>
  ogd (gin p1 60) <|
  oq (xLang p1.toNatClampNeg) none fun q10 =>
  (f_Mk_makeA_Ch n kHeads kTails kNext kSlots kClassOf kFinerOf kMarkOf kFirstOf kMarkSlots kClasses ((T q8).2.2.2.1) ((T q8).2.2.2.2.1) ((T q8).2.2.2.2.2.1) ((T q10).2.2.1) ((T q10).2.2.2.1) ((T q10).2.2.2.2.1) ((T q10).2.2.2.2.2.1)).bind fun u =>
  oq u.1 (some (.inl ("java/lang/UnsupportedOperationException", (u.2.1, u.2.2.1, u.2.2.2.1, u.2.2.2.2.1, u.2.2.2.2.2.1, u.2.2.2.2.2.2.1, u.2.2.2.2.2.2.2.1, u.2.2.2.2.2.2.2.2.1, u.2.2.2.2.2.2.2.2.2.1, u.2.2.2.2.2.2.2.2.2.2.1, u.2.2.2.2.2.2.2.2.2.2.2.1)))) fun v =>
  ogd (gin xCount 60) <|
  some (.inr ((xCount + 1) - 1, v, xCount + 1, u.2.1, u.2.2.1, u.2.2.2.1, u.2.2.2.2.1, u.2.2.2.2.2.1, u.2.2.2.2.2.2.1, u.2.2.2.2.2.2.2.1, u.2.2.2.2.2.2.2.2.1, u.2.2.2.2.2.2.2.2.2.1, u.2.2.2.2.2.2.2.2.2.2.1, u.2.2.2.2.2.2.2.2.2.2.2.1))
set_option maxHeartbeats 400000 in
set_option maxRecDepth 100000 in
theorem c_RS_then (l : Launch) (hl0 : l.stackTraces = false) {D : va_G} {K : Nat → ClassId} {T : auTab} {n : Nat} {xq : Nat} {xl : Nat} {mq : Nat} {cq : Nat} {iq : Nat} {sq : Nat} {m0 : Nat} {m1 : Nat} {m2 : Nat} {m3 : Nat} {m5 : Nat} {m6 : Nat} {m7 : Nat} {m8 : Nat} {m9 : Nat} {xLang : Nat → Option Nat} {xCount : Int32} {kHeads : Nat → Int32} {kTails : Nat → Int64} {kNext : Nat → Int32} {kSlots : Nat → Int32} {kReached : Int32} {kClassOf : Nat → Int32} {kFinerOf : Nat → Int32} {kMarkOf : Nat → Int32} {kFirstOf : Nat → Int32} {kMarkSlots : Nat → Int32} {kClasses : Int32} {p0 : Int32} {p1 : Int32}  {r : (String × ((Nat → Int32) × (Nat → Int64) × (Nat → Int32) × (Nat → Int32) × Int32 × (Nat → Int32) × (Nat → Int32) × (Nat → Int32) × (Nat → Int32) × (Nat → Int32) × Int32)) ⊕ (Int32 × auP × Int32 × (Nat → Int32) × (Nat → Int64) × (Nat → Int32) × (Nat → Int32) × Int32 × (Nat → Int32) × (Nat → Int32) × (Nat → Int32) × (Nat → Int32) × (Nat → Int32) × Int32)} (sz : Nat) (hf : f_RS_then n p0 p1 xLang xCount kHeads kTails kNext kSlots kReached kClassOf kFinerOf kMarkOf kFirstOf kMarkSlots kClasses T = some r) : vx_Met l y_RS_then w0_RS_then ({ frames := 7, cells := 8, slots := 352, locals := 119 }) (xPre D K T [.ref xq, .int p0, .int p1] ((rsW K xq xl mq cq iq sq xLang xCount) ++ (mkW K mq m0 m1 m2 m3 m5 m6 m7 m8 m9 kHeads kTails kNext kSlots kReached kClassOf kFinerOf kMarkOf kFirstOf kMarkSlots kClasses)) 60 xLang sz) (xPost D K r (fun v (g : Nat × Nat × Nat × Nat × Nat) => some (.int v.1)) (fun v g => ((rsW K xq xl mq cq iq sq (va_up xLang xCount.toNatClampNeg (some g.2.2.1)) v.2.2.1) ++ (mkW K mq m0 m1 m2 m3 g.1 g.2.1 m7 m8 m9 v.2.2.2.1 v.2.2.2.2.1 v.2.2.2.2.2.1 v.2.2.2.2.2.2.1 v.2.2.2.2.2.2.2.1 v.2.2.2.2.2.2.2.2.1 v.2.2.2.2.2.2.2.2.2.1 v.2.2.2.2.2.2.2.2.2.2.1 v.2.2.2.2.2.2.2.2.2.2.2.1 v.2.2.2.2.2.2.2.2.2.2.2.2.1 v.2.2.2.2.2.2.2.2.2.2.2.2.2)) ++ (auW K g.2.2.1 g.2.2.2.1 g.2.2.2.2 v.2.1.1 (4 * v.2.1.1).toNatClampNeg v.2.1.2.2.1 v.2.1.2.1 v.2.1.2.2.2)) (va_A ((rsW K xq xl mq cq iq sq xLang xCount) ++ (mkW K mq m0 m1 m2 m3 m5 m6 m7 m8 m9 kHeads kTails kNext kSlots kReached kClassOf kFinerOf kMarkOf kFirstOf kMarkSlots kClasses)) sz)) (xExc D K r (fun u (g : Nat × Nat) => ((rsW K xq xl mq cq iq sq xLang xCount) ++ (mkW K mq m0 m1 m2 m3 g.1 g.2 m7 m8 m9 u.1 u.2.1 u.2.2.1 u.2.2.2.1 u.2.2.2.2.1 u.2.2.2.2.2.1 u.2.2.2.2.2.2.1 u.2.2.2.2.2.2.2.1 u.2.2.2.2.2.2.2.2.1 u.2.2.2.2.2.2.2.2.2.1 u.2.2.2.2.2.2.2.2.2.2))) (va_A ((rsW K xq xl mq cq iq sq xLang xCount) ++ (mkW K mq m0 m1 m2 m3 m5 m6 m7 m8 m9 kHeads kTails kNext kSlots kReached kClassOf kFinerOf kMarkOf kFirstOf kMarkSlots kClasses)) sz)) 8 352 (va_A ((rsW K xq xl mq cq iq sq xLang xCount) ++ (mkW K mq m0 m1 m2 m3 m5 m6 m7 m8 m9 kHeads kTails kNext kSlots kReached kClassOf kFinerOf kMarkOf kFirstOf kMarkSlots kClasses)) sz) := by
  unfold f_RS_then at hf
  refine vx_ofW (cc := b_RS_then) (maxL := 3) (ret := (some .int)) (by decide) rfl ?_
  intro p e s m args below meth c s₁ B hml htab hv
  obtain ⟨⟨rfl, hsz, hP, hK, hD0⟩, hX, hZ, hT0⟩ := hv
  subst hsz
  have hx := B.exec
  have hb := B.bytes
  have hts : ∀ w ∈ gW, w.before _ s = true := fun w hw => atoms_spec (ws := w0_RS_then) B.pre w (List.mem_cons_of_mem _ hw)
  have hown : s.vm.findClass "RegularSolver" = some m.cls := findClass_of_methodNamed B.named
  have hD := hD0.self (sz := s.heap.size)
  generalize hAe : va_A ((rsW K xq xl mq cq iq sq xLang xCount) ++ (mkW K mq m0 m1 m2 m3 m5 m6 m7 m8 m9 kHeads kTails kNext kSlots kReached kClassOf kFinerOf kMarkOf kFirstOf kMarkSlots kClasses)) s.heap.size = A at hD hZ hT0 ⊢
  have hA : ∀ q : Nat, s.heap.size ≤ q → A q := fun q h => by rw [← hAe]; exact Or.inr h
  have hS : va_S A s.heap s.heap [] := va_S.rf
  have hT : ∀ (q i : Nat), i < 60 → xLang i = some q → ∀ (H : Heap) (locs : List Loc), va_S A s.heap H locs → va_P D vwCl (auT K T q) H := fun q i hi hq _ _ hS => ro_of (hT0 q i hi hq).1 (hT0 q i hi hq).2 hS
  have hTw : ∀ (q i : Nat), i < 60 → xLang i = some q → gAw A (auT K T q) := fun q i hi hq => (hT0 q i hi hq).2
  have hl := lv_entry [.ref xq, .int p0, .int p1] (n := 3) (Nat.le_of_ble_eq_true rfl)
  rw [lg_entry_eq]
  generalize (lg_sl [.ref xq, .int p0, .int p1] ++ List.replicate (3 - (lg_sl [.ref xq, .int p0, .int p1]).length) Slot.unset).toArray = ls at hl ⊢
  refine x_gen (P := fun H => W p l e _ s m _ below meth c H [] 0 0 _ _) ?_
  intro H hHe
  rw [← hHe] at hP
  have hS : va_S A s.heap H [] := by rw [hHe]; exact hS
  refine lv_aload_n hx hb d_RS_then_0 rfl (lv_at hl 0 rfl) ?_
  refine lv_iload_n hx hb d_RS_then_1 rfl (lv_at hl 1 rfl) ?_
  obtain ⟨u1, eu1, hf⟩ := obd hf
  refine x_call (vx_runV (As := [.int p0]) (rest := []) ⟨hx, hb, hml, hown, hts⟩ (c_RS_requireLanguage l hl0 H.size eu1) (gV 1 hts cd_RS_requireLanguage ml_RS_70 im_RS_requireLanguage se_RS_requireLanguage ini_RS rfl rfl pd_RS_requireLanguage ⟨Nat.le_of_ble_eq_true rfl, Nat.le_of_ble_eq_true rfl⟩) ⟨xPre_blind, va_recv hK (vaL hP) (ci := 10) (q0 := 0) rfl rfl, xPre_of (T := fun _ => (0, 0, 0, 0, fun _ => 0, 0, fun _ => 0)) (asg := fun _ => none) (vaL hP) hK (vdL hD) hS hA hX hZ xT0⟩ rfl rfl hl.1 rfl (lv_room (Nat.le_of_ble_eq_true rfl)) d_RS_then_2 ⟨(by decide : 0 + 1 ≤ 8), (by decide : 0 + 6 ≤ 352)⟩) (vdL hD) hS hA (fun E x ex g2 ce q9 H1 locs hP1 hD1 hk1 hS1 hq1 hq2 hq3 => ?_) (fun y1 ev g2 H1 locs hP1 hD1 hk1 hS1 => ?_)
  · subst ex
    have hr := (Option.some.inj hf).symm
    obtain ⟨hP, hD⟩ := va_keepR hP hD (va_sub (vdL hD) hS hA) hk1 hP1 hD1
    have hS := hS1
    generalize H1 = H at hP hS hq1 ⊢
    exact x_out htab B.notSynchronized hq1 hq2 hq3 (m5, m6) hr hP hK hD hS (by decide : 0 + 1 ≤ 8) (by decide : 0 + 6 ≤ 352)
  subst ev
  replace hf := oel hf
  obtain ⟨hP, hD⟩ := va_keepR hP hD (va_sub (vdL hD) hS hA) hk1 hP1 hD1
  have hS := hS1
  generalize H1 = H at hP hS ⊢
  have hP : va_P D vwCl ((rsW K xq xl mq cq iq sq xLang xCount) ++ (mkW K mq m0 m1 m2 m3 m5 m6 m7 m8 m9 kHeads kTails kNext kSlots kReached kClassOf kFinerOf kMarkOf kFirstOf kMarkSlots kClasses)) H := hP
  have hD : va_D A ((rsW K xq xl mq cq iq sq xLang xCount) ++ (mkW K mq m0 m1 m2 m3 m5 m6 m7 m8 m9 kHeads kTails kNext kSlots kReached kClassOf kFinerOf kMarkOf kFirstOf kMarkSlots kClasses)) := hD
  refine lv_aload_n hx hb d_RS_then_5 rfl (lv_at hl 0 rfl) ?_
  refine lv_iload_n hx hb d_RS_then_6 rfl (lv_at hl 2 rfl) ?_
  obtain ⟨u3, eu3, hf⟩ := obd hf
  refine x_call (vx_runV (As := [.int p1]) (rest := []) ⟨hx, hb, hml, hown, hts⟩ (c_RS_requireLanguage l hl0 H.size eu3) (gV 1 hts cd_RS_requireLanguage ml_RS_70 im_RS_requireLanguage se_RS_requireLanguage ini_RS rfl rfl pd_RS_requireLanguage ⟨Nat.le_of_ble_eq_true rfl, Nat.le_of_ble_eq_true rfl⟩) ⟨xPre_blind, va_recv hK (vaL hP) (ci := 10) (q0 := 0) rfl rfl, xPre_of (T := fun _ => (0, 0, 0, 0, fun _ => 0, 0, fun _ => 0)) (asg := fun _ => none) (vaL hP) hK (vdL hD) hS hA hX hZ xT0⟩ rfl rfl hl.1 rfl (lv_room (Nat.le_of_ble_eq_true rfl)) d_RS_then_7 ⟨(by decide : 1 + 1 ≤ 8), (by decide : 6 + 6 ≤ 352)⟩) (vdL hD) hS hA (fun E x ex g4 ce q9 H1 locs hP1 hD1 hk1 hS1 hq1 hq2 hq3 => ?_) (fun y3 ev g4 H1 locs hP1 hD1 hk1 hS1 => ?_)
  · subst ex
    have hr := (Option.some.inj hf).symm
    obtain ⟨hP, hD⟩ := va_keepR hP hD (va_sub (vdL hD) hS hA) hk1 hP1 hD1
    have hS := hS1
    generalize H1 = H at hP hS hq1 ⊢
    exact x_out htab B.notSynchronized hq1 hq2 hq3 (m5, m6) hr hP hK hD hS (by decide : 1 + 1 ≤ 8) (by decide : 6 + 6 ≤ 352)
  subst ev
  replace hf := oel hf
  obtain ⟨hP, hD⟩ := va_keepR hP hD (va_sub (vdL hD) hS hA) hk1 hP1 hD1
  have hS := hS1
  generalize H1 = H at hP hS ⊢
  have hP : va_P D vwCl ((rsW K xq xl mq cq iq sq xLang xCount) ++ (mkW K mq m0 m1 m2 m3 m5 m6 m7 m8 m9 kHeads kTails kNext kSlots kReached kClassOf kFinerOf kMarkOf kFirstOf kMarkSlots kClasses)) H := hP
  have hD : va_D A ((rsW K xq xl mq cq iq sq xLang xCount) ++ (mkW K mq m0 m1 m2 m3 m5 m6 m7 m8 m9 kHeads kTails kNext kSlots kReached kClassOf kFinerOf kMarkOf kFirstOf kMarkSlots kClasses)) := hD
  refine lv_aload_n hx hb d_RS_then_10 rfl (lv_at hl 0 rfl) ?_
  obtain ⟨u5, eu5, hf⟩ := obd hf
  refine x_call (vx_runV (As := []) (rest := []) ⟨hx, hb, hml, hown, hts⟩ (c_RS_requireRoom l hl0 H.size eu5) (gV 0 hts cd_RS_requireRoom ml_RS_54 im_RS_requireRoom se_RS_requireRoom ini_RS rfl rfl pd_RS_requireRoom ⟨Nat.le_of_ble_eq_true rfl, Nat.le_of_ble_eq_true rfl⟩) ⟨xPre_blind, va_recv hK (vaL hP) (ci := 10) (q0 := 0) rfl rfl, xPre_of (T := fun _ => (0, 0, 0, 0, fun _ => 0, 0, fun _ => 0)) (asg := fun _ => none) (vaL hP) hK (vdL hD) hS hA hX hZ xT0⟩ rfl rfl hl.1 rfl (lv_room (Nat.le_of_ble_eq_true rfl)) d_RS_then_11 ⟨(by decide : 2 + 1 ≤ 8), (by decide : 12 + 6 ≤ 352)⟩) (vdL hD) hS hA (fun E x ex g6 ce q9 H1 locs hP1 hD1 hk1 hS1 hq1 hq2 hq3 => ?_) (fun y5 ev g6 H1 locs hP1 hD1 hk1 hS1 => ?_)
  · subst ex
    have hr := (Option.some.inj hf).symm
    obtain ⟨hP, hD⟩ := va_keepR hP hD (va_sub (vdL hD) hS hA) hk1 hP1 hD1
    have hS := hS1
    generalize H1 = H at hP hS hq1 ⊢
    exact x_out htab B.notSynchronized hq1 hq2 hq3 (m5, m6) hr hP hK hD hS (by decide : 2 + 1 ≤ 8) (by decide : 12 + 6 ≤ 352)
  subst ev
  replace hf := oel hf
  obtain ⟨hP, hD⟩ := va_keepR hP hD (va_sub (vdL hD) hS hA) hk1 hP1 hD1
  have hS := hS1
  generalize H1 = H at hP hS ⊢
  have hP : va_P D vwCl ((rsW K xq xl mq cq iq sq xLang xCount) ++ (mkW K mq m0 m1 m2 m3 m5 m6 m7 m8 m9 kHeads kTails kNext kSlots kReached kClassOf kFinerOf kMarkOf kFirstOf kMarkSlots kClasses)) H := hP
  have hD : va_D A ((rsW K xq xl mq cq iq sq xLang xCount) ++ (mkW K mq m0 m1 m2 m3 m5 m6 m7 m8 m9 kHeads kTails kNext kSlots kReached kClassOf kFinerOf kMarkOf kFirstOf kMarkSlots kClasses)) := hD
  refine lv_aload_n hx hb d_RS_then_14 rfl (lv_at hl 0 rfl) ?_
  refine lv_aload_n hx hb d_RS_then_15 rfl (lv_at hl 0 rfl) ?_
  refine va_get (D := D) (ci := 10) (v := .ref mq) (C := R_RS) (T := T_RS) (N := 6) hx hb hts in_RS hown hK hP 0 rfl rfl 2 (by decide) (hts _ fl_RS_22) (fun _ h9 => h9) rfl d_RS_then_16 ?_
  refine va_new (ci := 3) (fs := [.int 0, .long 0, .null, .null]) (C := R_Ch) (T := T_Ch) (N := 4) hx hb hts in_Ch t_Ch t_Ch_ok hown (hts _ cl_RS_74) (hts _ it_Ch) (hts _ ini_Ch) hK hP hD hS hA rfl (by decide) (by decide : 3 + 1 ≤ 8) (by decide : 18 + 4 ≤ 352) d_RS_then_19 (fun wq H hP hD hS => ?_)
  refine W.widen (k := 4) (n := 22) (by decide) (by decide) ?_
  have hP : va_P D vwCl (((rsW K xq xl mq cq iq sq xLang xCount) ++ (mkW K mq m0 m1 m2 m3 m5 m6 m7 m8 m9 kHeads kTails kNext kSlots kReached kClassOf kFinerOf kMarkOf kFirstOf kMarkSlots kClasses)) ++ [(wq, .inr (3, [.int 0, .long 0, .null, .null]))]) H := hP
  have hD : va_D A (((rsW K xq xl mq cq iq sq xLang xCount) ++ (mkW K mq m0 m1 m2 m3 m5 m6 m7 m8 m9 kHeads kTails kNext kSlots kReached kClassOf kFinerOf kMarkOf kFirstOf kMarkSlots kClasses)) ++ [(wq, .inr (3, [.int 0, .long 0, .null, .null]))]) := hD
  refine lv_dup hx hb d_RS_then_22 rfl ?_
  refine lv_aload_n hx hb d_RS_then_23 rfl (lv_at hl 0 rfl) ?_
  refine va_get (D := D) (ci := 10) (v := .ref xl) (C := R_RS) (T := T_RS) (N := 6) hx hb hts in_RS hown hK hP 0 rfl rfl 0 (by decide) (hts _ fl_RS_11) (fun _ h9 => h9) rfl d_RS_then_24 ?_
  refine lv_iload_n hx hb d_RS_then_27 rfl (lv_at hl 1 rfl) ?_
  obtain ⟨g7, hf⟩ := ogi hf
  refine va_aldq hx hb hK hP 1 3 rfl rfl (gin_in g7) d_RS_then_28 ?_
  obtain ⟨q8, hq8, hf⟩ := oqi hf
  rw [hq8]
  have hTq8 := hT q8 _ (gin_lt g7) hq8
  have hTwq8 := hTw q8 _ (gin_lt g7) hq8
  refine W.eq (g2 := F0 m 29 ls [.ref q8, .ref wq, .ref wq, .ref mq, .ref xq]) rfl ?_
  refine lv_aload_n hx hb d_RS_then_29 rfl (lv_at hl 0 rfl) ?_
  refine va_get (D := D) (ci := 10) (v := .ref xl) (C := R_RS) (T := T_RS) (N := 6) hx hb hts in_RS hown hK hP 0 rfl rfl 0 (by decide) (hts _ fl_RS_11) (fun _ h9 => h9) rfl d_RS_then_30 ?_
  refine lv_iload_n hx hb d_RS_then_33 rfl (lv_at hl 2 rfl) ?_
  obtain ⟨g9, hf⟩ := ogi hf
  refine va_aldq hx hb hK hP 1 3 rfl rfl (gin_in g9) d_RS_then_34 ?_
  obtain ⟨q10, hq10, hf⟩ := oqi hf
  rw [hq10]
  have hTq10 := hT q10 _ (gin_lt g9) hq10
  have hTwq10 := hTw q10 _ (gin_lt g9) hq10
  refine W.eq (g2 := F0 m 35 ls [.ref q10, .ref q8, .ref wq, .ref wq, .ref mq, .ref xq]) rfl ?_
  refine w_callA (va_runI (As := [.ref q8, .ref q10]) (rest := [.ref wq, .ref mq, .ref xq]) ⟨hx, hb, hml, hown, hts⟩ (c_Ch_init l H.size) (gI 2 hts cd_Ch_init ml_RS_76 im_Ch_init ini_Ch rfl rfl rfl pd_Ch_init ⟨Nat.le_of_ble_eq_true rfl, Nat.le_of_ble_eq_true rfl⟩) ⟨withX_blind wPre_blind, withX_of (wPre_of (vaR hP) hK (vdR hD)) hX⟩ rfl rfl hl.1 rfl (lv_room (Nat.le_of_ble_eq_true rfl)) d_RS_then_35 ⟨(by decide : 4 + 0 ≤ 8), (by decide : 22 + 0 ≤ 352)⟩) (vdR hD) hS hA (fun g0 H1 locs hP1 hD1 hk1 hS1 => ?_)
  obtain ⟨hP, hD⟩ := va_keepL hP hD (va_sub (vdR hD) hS hA) hk1 hP1 hD1
  have hS := hS1
  generalize H1 = H at hP hS ⊢
  have hP : va_P D vwCl ((rsW K xq xl mq cq iq sq xLang xCount) ++ ((mkW K mq m0 m1 m2 m3 m5 m6 m7 m8 m9 kHeads kTails kNext kSlots kReached kClassOf kFinerOf kMarkOf kFirstOf kMarkSlots kClasses) ++ (chW K wq q8 q10 0 0))) H := vpAs hP
  have hD : va_D A ((rsW K xq xl mq cq iq sq xLang xCount) ++ ((mkW K mq m0 m1 m2 m3 m5 m6 m7 m8 m9 kHeads kTails kNext kSlots kReached kClassOf kFinerOf kMarkOf kFirstOf kMarkSlots kClasses) ++ (chW K wq q8 q10 0 0))) := vdAs hD
  obtain ⟨u, eu, hf⟩ := obd hf
  refine w_callA (va_runV (As := [.ref wq]) (rest := [.ref xq]) ⟨hx, hb, hml, hown, hts⟩ (c_Mk_make_Ch l H.size eu) (gV 1 hts cd_Mk_make ml_RS_62 im_Mk_make se_Mk_make ini_Mk rfl rfl pd_Mk_make ⟨Nat.le_of_ble_eq_true rfl, Nat.le_of_ble_eq_true rfl⟩) ⟨withX_blind wPreR_blind, va_recv hK (vaL (vaR hP)) (ci := 6) (q0 := 0) rfl rfl, withX_of (wPreR_of (vaR hP) hK (vdR hD) hS hA (va_P.app (hTq8 _ _ hS) (hTq10 _ _ hS)) (gAw.app hTwq8 hTwq10)) hX⟩ rfl rfl hl.1 rfl (lv_room (Nat.le_of_ble_eq_true rfl)) d_RS_then_38 ⟨(by decide : 4 + 3 ≤ 8), (by decide : 22 + 324 ≤ 352)⟩) (vdR hD) hS hA (fun gm H1 locs hP1 hD1 hk1 hS1 => ?_)
  obtain ⟨hP, hD⟩ := va_keepL hP hD (va_sub (vdR hD) hS hA) hk1 hP1 hD1
  have hS := hS1
  generalize H1 = H at hP hS ⊢
  obtain ⟨o, um⟩ := u
  cases o with
  | none =>
    replace hf := oqn hf
    have hr := (Option.some.inj hf).symm
    refine W.eq (g2 := F0 m 41 ls [.null, .ref xq]) rfl ?_
    refine x_call (vx_runV (As := [.null]) (rest := []) ⟨hx, hb, hml, hown, hts⟩ (c_RS_keep_N (n := n) l hl0 H.size rfl) (gV 1 hts cd_RS_keep ml_RS_66 im_RS_keep se_RS_keep ini_RS rfl rfl pd_RS_keep ⟨Nat.le_of_ble_eq_true rfl, Nat.le_of_ble_eq_true rfl⟩) ⟨xPre_blind, va_recv hK (vaL hP) (ci := 10) (q0 := 0) rfl rfl, xPre_of (T := fun _ => (0, 0, 0, 0, fun _ => 0, 0, fun _ => 0)) (asg := fun _ => none) (vaL hP) hK (vdL hD) hS hA hX hZ xT0⟩ rfl rfl hl.1 rfl (lv_room (Nat.le_of_ble_eq_true rfl)) d_RS_then_41 ⟨(by decide : 7 + 1 ≤ 8), (by decide : 346 + 6 ≤ 352)⟩) (vdL hD) hS hA (fun E x ex g0 ce q9 H1 locs hP1 hD1 hk1 hS1 hq1 hq2 hq3 => ?_) (fun yk ev => nomatch ev)
    cases ex
    obtain ⟨hP, hD⟩ := va_keepR hP hD (va_sub (vdL hD) hS hA) hk1 hP1 hD1
    have hS := hS1
    generalize H1 = H at hP hS hq1 ⊢
    exact x_out htab B.notSynchronized hq1 hq2 hq3 (gm.1, gm.2.1) hr (va_P.app (vaL hP) (vaL (vaL (vaR hP)))) hK (vdFst hD) hS (by decide : 7 + 1 ≤ 8) (by decide : 346 + 6 ≤ 352)
  | some v =>
    replace hf := oqs hf
    refine W.eq (g2 := F0 m 41 ls [.ref gm.2.2.1, .ref xq]) rfl ?_
    obtain ⟨gk, hf⟩ := ogi hf
    have hr := (Option.some.inj hf).symm
    refine x_call (vx_runV (As := [.ref gm.2.2.1]) (rest := []) ⟨hx, hb, hml, hown, hts⟩ (c_RS_keep_R (n := n) (T := fun _ => (gm.2.2.2.1, gm.2.2.2.2, v.1, (4 * v.1).toNatClampNeg, v.2.2.1, v.2.1, v.2.2.2)) (qz := gm.2.2.1) l hl0 H.size (keepR_ok gk)) (gV 1 hts cd_RS_keep ml_RS_66 im_RS_keep se_RS_keep ini_RS rfl rfl pd_RS_keep ⟨Nat.le_of_ble_eq_true rfl, Nat.le_of_ble_eq_true rfl⟩) ⟨xPre_blind, va_recv hK (vaL hP) (ci := 10) (q0 := 0) rfl rfl, xPre_of2 (vaL hP) hK (vdL hD) hS hA hX hZ (fun q i hi hq => by obtain rfl := Option.some.inj hq; exact ⟨vaR (vaR hP), (gAw_ofR hP hD).right⟩)⟩ rfl rfl hl.1 rfl (lv_room (Nat.le_of_ble_eq_true rfl)) d_RS_then_41 ⟨(by decide : 7 + 0 ≤ 8), (by decide : 346 + 0 ≤ 352)⟩) (vdL hD) hS hA (fun E x ex g0 ce q9 H1 locs hP1 hD1 hk1 hS1 hq1 hq2 hq3 => nomatch ex) (fun yk ev g0 H1 locs hP1 hD1 hk1 hS1 => ?_)
    cases ev
    obtain ⟨hP, hD⟩ := va_keepR hP hD (va_sub (vdL hD) hS hA) hk1 hP1 hD1
    have hS := hS1
    generalize H1 = H at hP hS ⊢
    have hP : va_P D vwCl (((rsW K xq xl mq cq iq sq (va_up xLang xCount.toNatClampNeg (some gm.2.2.1)) (xCount + 1)) ++ (mkW K mq m0 m1 m2 m3 gm.1 gm.2.1 m7 m8 m9 um.1 um.2.1 um.2.2.1 um.2.2.2.1 um.2.2.2.2.1 um.2.2.2.2.2.1 um.2.2.2.2.2.2.1 um.2.2.2.2.2.2.2.1 um.2.2.2.2.2.2.2.2.1 um.2.2.2.2.2.2.2.2.2.1 um.2.2.2.2.2.2.2.2.2.2.1)) ++ (auW K gm.2.2.1 gm.2.2.2.1 gm.2.2.2.2 v.1 (4 * v.1).toNatClampNeg v.2.2.1 v.2.1 v.2.2.2)) H := hP.sub [0, 1, 2, 3, 4, 5, 6, 7, 8, 9, 10, 11, 13, 14, 15] rfl
    have hD : va_D A (((rsW K xq xl mq cq iq sq (va_up xLang xCount.toNatClampNeg (some gm.2.2.1)) (xCount + 1)) ++ (mkW K mq m0 m1 m2 m3 gm.1 gm.2.1 m7 m8 m9 um.1 um.2.1 um.2.2.1 um.2.2.2.1 um.2.2.2.2.1 um.2.2.2.2.2.1 um.2.2.2.2.2.2.1 um.2.2.2.2.2.2.2.1 um.2.2.2.2.2.2.2.2.1 um.2.2.2.2.2.2.2.2.2.1 um.2.2.2.2.2.2.2.2.2.2.1)) ++ (auW K gm.2.2.1 gm.2.2.2.1 gm.2.2.2.2 v.1 (4 * v.1).toNatClampNeg v.2.2.1 v.2.1 v.2.2.2)) := hD.sub [0, 1, 2, 3, 4, 5, 6, 7, 8, 9, 10, 11, 13, 14, 15] (by decide) rfl
    refine W.widen (k := 8) (n := 352) (by decide) (by decide) ?_
    exact vx_ret (W.iret hx hb B.returns (fun t ht hW => ⟨_, hr, ⟨gm, rfl, by rw [ht]; exact hP, va_K.moved hW.alike hK, hD⟩, hS.F ht⟩) hS.2.2 d_RS_then_44 (hlocks := B.notSynchronized))
def f_RS_or (n : Nat) (p0 : Int32) (p1 : Int32) (xLang : Nat → Option Nat) (xCount : Int32) (kHeads : Nat → Int32) (kTails : Nat → Int64) (kNext : Nat → Int32) (kSlots : Nat → Int32) (kReached : Int32) (kClassOf : Nat → Int32) (kFinerOf : Nat → Int32) (kMarkOf : Nat → Int32) (kFirstOf : Nat → Int32) (kMarkSlots : Nat → Int32) (kClasses : Int32) (T : auTab) : Option ((String × ((Nat → Int32) × (Nat → Int64) × (Nat → Int32) × (Nat → Int32) × Int32 × (Nat → Int32) × (Nat → Int32) × (Nat → Int32) × (Nat → Int32) × (Nat → Int32) × Int32)) ⊕ (Int32 × auP × Int32 × (Nat → Int32) × (Nat → Int64) × (Nat → Int32) × (Nat → Int32) × Int32 × (Nat → Int32) × (Nat → Int32) × (Nat → Int32) × (Nat → Int32) × (Nat → Int32) × Int32)) :=
  (f_RS_requireLanguage n p0 xCount).bind fun u1 => u1.elim (fun x => some (.inl (x.1, (kHeads, kTails, kNext, kSlots, kReached, kClassOf, kFinerOf, kMarkOf, kFirstOf, kMarkSlots, kClasses)))) fun y1 =>
  (f_RS_requireLanguage n p1 xCount).bind fun u3 => u3.elim (fun x => some (.inl (x.1, (kHeads, kTails, kNext, kSlots, kReached, kClassOf, kFinerOf, kMarkOf, kFirstOf, kMarkSlots, kClasses)))) fun y3 =>
  (f_RS_requireRoom n xCount).bind fun u5 => u5.elim (fun x => some (.inl (x.1, (kHeads, kTails, kNext, kSlots, kReached, kClassOf, kFinerOf, kMarkOf, kFirstOf, kMarkSlots, kClasses)))) fun y5 =>
  ogd (gin p0 60) <|
  oq (xLang p0.toNatClampNeg) none fun q8 =>
  ogd (gin p1 60) <|
  oq (xLang p1.toNatClampNeg) none fun q10 =>
  (f_Mk_makeA_Pa n kHeads kTails kNext kSlots kClassOf kFinerOf kMarkOf kFirstOf kMarkSlots kClasses false ((T q8).2.2.2.1) ((T q8).2.2.2.2.1) ((T q8).2.2.2.2.2.1) ((T q10).2.2.2.1) ((T q10).2.2.2.2.1) ((T q10).2.2.2.2.2.1)).bind fun u =>
  oq u.1 (some (.inl ("java/lang/UnsupportedOperationException", (u.2.1, u.2.2.1, u.2.2.2.1, u.2.2.2.2.1, u.2.2.2.2.2.1, u.2.2.2.2.2.2.1, u.2.2.2.2.2.2.2.1, u.2.2.2.2.2.2.2.2.1, u.2.2.2.2.2.2.2.2.2.1, u.2.2.2.2.2.2.2.2.2.2.1, u.2.2.2.2.2.2.2.2.2.2.2.1)))) fun v =>
  ogd (gin xCount 60) <|
  some (.inr ((xCount + 1) - 1, v, xCount + 1, u.2.1, u.2.2.1, u.2.2.2.1, u.2.2.2.2.1, u.2.2.2.2.2.1, u.2.2.2.2.2.2.1, u.2.2.2.2.2.2.2.1, u.2.2.2.2.2.2.2.2.1, u.2.2.2.2.2.2.2.2.2.1, u.2.2.2.2.2.2.2.2.2.2.1, u.2.2.2.2.2.2.2.2.2.2.2.1))
set_option maxHeartbeats 400000 in
set_option maxRecDepth 100000 in
theorem c_RS_or (l : Launch) (hl0 : l.stackTraces = false) {D : va_G} {K : Nat → ClassId} {T : auTab} {n : Nat} {xq : Nat} {xl : Nat} {mq : Nat} {cq : Nat} {iq : Nat} {sq : Nat} {m0 : Nat} {m1 : Nat} {m2 : Nat} {m3 : Nat} {m5 : Nat} {m6 : Nat} {m7 : Nat} {m8 : Nat} {m9 : Nat} {xLang : Nat → Option Nat} {xCount : Int32} {kHeads : Nat → Int32} {kTails : Nat → Int64} {kNext : Nat → Int32} {kSlots : Nat → Int32} {kReached : Int32} {kClassOf : Nat → Int32} {kFinerOf : Nat → Int32} {kMarkOf : Nat → Int32} {kFirstOf : Nat → Int32} {kMarkSlots : Nat → Int32} {kClasses : Int32} {p0 : Int32} {p1 : Int32}  {r : (String × ((Nat → Int32) × (Nat → Int64) × (Nat → Int32) × (Nat → Int32) × Int32 × (Nat → Int32) × (Nat → Int32) × (Nat → Int32) × (Nat → Int32) × (Nat → Int32) × Int32)) ⊕ (Int32 × auP × Int32 × (Nat → Int32) × (Nat → Int64) × (Nat → Int32) × (Nat → Int32) × Int32 × (Nat → Int32) × (Nat → Int32) × (Nat → Int32) × (Nat → Int32) × (Nat → Int32) × Int32)} (sz : Nat) (hf : f_RS_or n p0 p1 xLang xCount kHeads kTails kNext kSlots kReached kClassOf kFinerOf kMarkOf kFirstOf kMarkSlots kClasses T = some r) : vx_Met l y_RS_or w0_RS_or ({ frames := 7, cells := 8, slots := 353, locals := 113 }) (xPre D K T [.ref xq, .int p0, .int p1] ((rsW K xq xl mq cq iq sq xLang xCount) ++ (mkW K mq m0 m1 m2 m3 m5 m6 m7 m8 m9 kHeads kTails kNext kSlots kReached kClassOf kFinerOf kMarkOf kFirstOf kMarkSlots kClasses)) 60 xLang sz) (xPost D K r (fun v (g : Nat × Nat × Nat × Nat × Nat) => some (.int v.1)) (fun v g => ((rsW K xq xl mq cq iq sq (va_up xLang xCount.toNatClampNeg (some g.2.2.1)) v.2.2.1) ++ (mkW K mq m0 m1 m2 m3 g.1 g.2.1 m7 m8 m9 v.2.2.2.1 v.2.2.2.2.1 v.2.2.2.2.2.1 v.2.2.2.2.2.2.1 v.2.2.2.2.2.2.2.1 v.2.2.2.2.2.2.2.2.1 v.2.2.2.2.2.2.2.2.2.1 v.2.2.2.2.2.2.2.2.2.2.1 v.2.2.2.2.2.2.2.2.2.2.2.1 v.2.2.2.2.2.2.2.2.2.2.2.2.1 v.2.2.2.2.2.2.2.2.2.2.2.2.2)) ++ (auW K g.2.2.1 g.2.2.2.1 g.2.2.2.2 v.2.1.1 (4 * v.2.1.1).toNatClampNeg v.2.1.2.2.1 v.2.1.2.1 v.2.1.2.2.2)) (va_A ((rsW K xq xl mq cq iq sq xLang xCount) ++ (mkW K mq m0 m1 m2 m3 m5 m6 m7 m8 m9 kHeads kTails kNext kSlots kReached kClassOf kFinerOf kMarkOf kFirstOf kMarkSlots kClasses)) sz)) (xExc D K r (fun u (g : Nat × Nat) => ((rsW K xq xl mq cq iq sq xLang xCount) ++ (mkW K mq m0 m1 m2 m3 g.1 g.2 m7 m8 m9 u.1 u.2.1 u.2.2.1 u.2.2.2.1 u.2.2.2.2.1 u.2.2.2.2.2.1 u.2.2.2.2.2.2.1 u.2.2.2.2.2.2.2.1 u.2.2.2.2.2.2.2.2.1 u.2.2.2.2.2.2.2.2.2.1 u.2.2.2.2.2.2.2.2.2.2))) (va_A ((rsW K xq xl mq cq iq sq xLang xCount) ++ (mkW K mq m0 m1 m2 m3 m5 m6 m7 m8 m9 kHeads kTails kNext kSlots kReached kClassOf kFinerOf kMarkOf kFirstOf kMarkSlots kClasses)) sz)) 8 353 (va_A ((rsW K xq xl mq cq iq sq xLang xCount) ++ (mkW K mq m0 m1 m2 m3 m5 m6 m7 m8 m9 kHeads kTails kNext kSlots kReached kClassOf kFinerOf kMarkOf kFirstOf kMarkSlots kClasses)) sz) := by
  unfold f_RS_or at hf
  refine vx_ofW (cc := b_RS_or) (maxL := 3) (ret := (some .int)) (by decide) rfl ?_
  intro p e s m args below meth c s₁ B hml htab hv
  obtain ⟨⟨rfl, hsz, hP, hK, hD0⟩, hX, hZ, hT0⟩ := hv
  subst hsz
  have hx := B.exec
  have hb := B.bytes
  have hts : ∀ w ∈ gW, w.before _ s = true := fun w hw => atoms_spec (ws := w0_RS_or) B.pre w (List.mem_cons_of_mem _ hw)
  have hown : s.vm.findClass "RegularSolver" = some m.cls := findClass_of_methodNamed B.named
  have hD := hD0.self (sz := s.heap.size)
  generalize hAe : va_A ((rsW K xq xl mq cq iq sq xLang xCount) ++ (mkW K mq m0 m1 m2 m3 m5 m6 m7 m8 m9 kHeads kTails kNext kSlots kReached kClassOf kFinerOf kMarkOf kFirstOf kMarkSlots kClasses)) s.heap.size = A at hD hZ hT0 ⊢
  have hA : ∀ q : Nat, s.heap.size ≤ q → A q := fun q h => by rw [← hAe]; exact Or.inr h
  have hS : va_S A s.heap s.heap [] := va_S.rf
  have hT : ∀ (q i : Nat), i < 60 → xLang i = some q → ∀ (H : Heap) (locs : List Loc), va_S A s.heap H locs → va_P D vwCl (auT K T q) H := fun q i hi hq _ _ hS => ro_of (hT0 q i hi hq).1 (hT0 q i hi hq).2 hS
  have hTw : ∀ (q i : Nat), i < 60 → xLang i = some q → gAw A (auT K T q) := fun q i hi hq => (hT0 q i hi hq).2
  have hl := lv_entry [.ref xq, .int p0, .int p1] (n := 3) (Nat.le_of_ble_eq_true rfl)
  rw [lg_entry_eq]
  generalize (lg_sl [.ref xq, .int p0, .int p1] ++ List.replicate (3 - (lg_sl [.ref xq, .int p0, .int p1]).length) Slot.unset).toArray = ls at hl ⊢
  refine x_gen (P := fun H => W p l e _ s m _ below meth c H [] 0 0 _ _) ?_
  intro H hHe
  rw [← hHe] at hP
  have hS : va_S A s.heap H [] := by rw [hHe]; exact hS
  refine lv_aload_n hx hb d_RS_or_0 rfl (lv_at hl 0 rfl) ?_
  refine lv_iload_n hx hb d_RS_or_1 rfl (lv_at hl 1 rfl) ?_
  obtain ⟨u1, eu1, hf⟩ := obd hf
  refine x_call (vx_runV (As := [.int p0]) (rest := []) ⟨hx, hb, hml, hown, hts⟩ (c_RS_requireLanguage l hl0 H.size eu1) (gV 1 hts cd_RS_requireLanguage ml_RS_70 im_RS_requireLanguage se_RS_requireLanguage ini_RS rfl rfl pd_RS_requireLanguage ⟨Nat.le_of_ble_eq_true rfl, Nat.le_of_ble_eq_true rfl⟩) ⟨xPre_blind, va_recv hK (vaL hP) (ci := 10) (q0 := 0) rfl rfl, xPre_of (T := fun _ => (0, 0, 0, 0, fun _ => 0, 0, fun _ => 0)) (asg := fun _ => none) (vaL hP) hK (vdL hD) hS hA hX hZ xT0⟩ rfl rfl hl.1 rfl (lv_room (Nat.le_of_ble_eq_true rfl)) d_RS_or_2 ⟨(by decide : 0 + 1 ≤ 8), (by decide : 0 + 6 ≤ 353)⟩) (vdL hD) hS hA (fun E x ex g2 ce q9 H1 locs hP1 hD1 hk1 hS1 hq1 hq2 hq3 => ?_) (fun y1 ev g2 H1 locs hP1 hD1 hk1 hS1 => ?_)
  · subst ex
    have hr := (Option.some.inj hf).symm
    obtain ⟨hP, hD⟩ := va_keepR hP hD (va_sub (vdL hD) hS hA) hk1 hP1 hD1
    have hS := hS1
    generalize H1 = H at hP hS hq1 ⊢
    exact x_out htab B.notSynchronized hq1 hq2 hq3 (m5, m6) hr hP hK hD hS (by decide : 0 + 1 ≤ 8) (by decide : 0 + 6 ≤ 353)
  subst ev
  replace hf := oel hf
  obtain ⟨hP, hD⟩ := va_keepR hP hD (va_sub (vdL hD) hS hA) hk1 hP1 hD1
  have hS := hS1
  generalize H1 = H at hP hS ⊢
  have hP : va_P D vwCl ((rsW K xq xl mq cq iq sq xLang xCount) ++ (mkW K mq m0 m1 m2 m3 m5 m6 m7 m8 m9 kHeads kTails kNext kSlots kReached kClassOf kFinerOf kMarkOf kFirstOf kMarkSlots kClasses)) H := hP
  have hD : va_D A ((rsW K xq xl mq cq iq sq xLang xCount) ++ (mkW K mq m0 m1 m2 m3 m5 m6 m7 m8 m9 kHeads kTails kNext kSlots kReached kClassOf kFinerOf kMarkOf kFirstOf kMarkSlots kClasses)) := hD
  refine lv_aload_n hx hb d_RS_or_5 rfl (lv_at hl 0 rfl) ?_
  refine lv_iload_n hx hb d_RS_or_6 rfl (lv_at hl 2 rfl) ?_
  obtain ⟨u3, eu3, hf⟩ := obd hf
  refine x_call (vx_runV (As := [.int p1]) (rest := []) ⟨hx, hb, hml, hown, hts⟩ (c_RS_requireLanguage l hl0 H.size eu3) (gV 1 hts cd_RS_requireLanguage ml_RS_70 im_RS_requireLanguage se_RS_requireLanguage ini_RS rfl rfl pd_RS_requireLanguage ⟨Nat.le_of_ble_eq_true rfl, Nat.le_of_ble_eq_true rfl⟩) ⟨xPre_blind, va_recv hK (vaL hP) (ci := 10) (q0 := 0) rfl rfl, xPre_of (T := fun _ => (0, 0, 0, 0, fun _ => 0, 0, fun _ => 0)) (asg := fun _ => none) (vaL hP) hK (vdL hD) hS hA hX hZ xT0⟩ rfl rfl hl.1 rfl (lv_room (Nat.le_of_ble_eq_true rfl)) d_RS_or_7 ⟨(by decide : 1 + 1 ≤ 8), (by decide : 6 + 6 ≤ 353)⟩) (vdL hD) hS hA (fun E x ex g4 ce q9 H1 locs hP1 hD1 hk1 hS1 hq1 hq2 hq3 => ?_) (fun y3 ev g4 H1 locs hP1 hD1 hk1 hS1 => ?_)
  · subst ex
    have hr := (Option.some.inj hf).symm
    obtain ⟨hP, hD⟩ := va_keepR hP hD (va_sub (vdL hD) hS hA) hk1 hP1 hD1
    have hS := hS1
    generalize H1 = H at hP hS hq1 ⊢
    exact x_out htab B.notSynchronized hq1 hq2 hq3 (m5, m6) hr hP hK hD hS (by decide : 1 + 1 ≤ 8) (by decide : 6 + 6 ≤ 353)
  subst ev
  replace hf := oel hf
  obtain ⟨hP, hD⟩ := va_keepR hP hD (va_sub (vdL hD) hS hA) hk1 hP1 hD1
  have hS := hS1
  generalize H1 = H at hP hS ⊢
  have hP : va_P D vwCl ((rsW K xq xl mq cq iq sq xLang xCount) ++ (mkW K mq m0 m1 m2 m3 m5 m6 m7 m8 m9 kHeads kTails kNext kSlots kReached kClassOf kFinerOf kMarkOf kFirstOf kMarkSlots kClasses)) H := hP
  have hD : va_D A ((rsW K xq xl mq cq iq sq xLang xCount) ++ (mkW K mq m0 m1 m2 m3 m5 m6 m7 m8 m9 kHeads kTails kNext kSlots kReached kClassOf kFinerOf kMarkOf kFirstOf kMarkSlots kClasses)) := hD
  refine lv_aload_n hx hb d_RS_or_10 rfl (lv_at hl 0 rfl) ?_
  obtain ⟨u5, eu5, hf⟩ := obd hf
  refine x_call (vx_runV (As := []) (rest := []) ⟨hx, hb, hml, hown, hts⟩ (c_RS_requireRoom l hl0 H.size eu5) (gV 0 hts cd_RS_requireRoom ml_RS_54 im_RS_requireRoom se_RS_requireRoom ini_RS rfl rfl pd_RS_requireRoom ⟨Nat.le_of_ble_eq_true rfl, Nat.le_of_ble_eq_true rfl⟩) ⟨xPre_blind, va_recv hK (vaL hP) (ci := 10) (q0 := 0) rfl rfl, xPre_of (T := fun _ => (0, 0, 0, 0, fun _ => 0, 0, fun _ => 0)) (asg := fun _ => none) (vaL hP) hK (vdL hD) hS hA hX hZ xT0⟩ rfl rfl hl.1 rfl (lv_room (Nat.le_of_ble_eq_true rfl)) d_RS_or_11 ⟨(by decide : 2 + 1 ≤ 8), (by decide : 12 + 6 ≤ 353)⟩) (vdL hD) hS hA (fun E x ex g6 ce q9 H1 locs hP1 hD1 hk1 hS1 hq1 hq2 hq3 => ?_) (fun y5 ev g6 H1 locs hP1 hD1 hk1 hS1 => ?_)
  · subst ex
    have hr := (Option.some.inj hf).symm
    obtain ⟨hP, hD⟩ := va_keepR hP hD (va_sub (vdL hD) hS hA) hk1 hP1 hD1
    have hS := hS1
    generalize H1 = H at hP hS hq1 ⊢
    exact x_out htab B.notSynchronized hq1 hq2 hq3 (m5, m6) hr hP hK hD hS (by decide : 2 + 1 ≤ 8) (by decide : 12 + 6 ≤ 353)
  subst ev
  replace hf := oel hf
  obtain ⟨hP, hD⟩ := va_keepR hP hD (va_sub (vdL hD) hS hA) hk1 hP1 hD1
  have hS := hS1
  generalize H1 = H at hP hS ⊢
  have hP : va_P D vwCl ((rsW K xq xl mq cq iq sq xLang xCount) ++ (mkW K mq m0 m1 m2 m3 m5 m6 m7 m8 m9 kHeads kTails kNext kSlots kReached kClassOf kFinerOf kMarkOf kFirstOf kMarkSlots kClasses)) H := hP
  have hD : va_D A ((rsW K xq xl mq cq iq sq xLang xCount) ++ (mkW K mq m0 m1 m2 m3 m5 m6 m7 m8 m9 kHeads kTails kNext kSlots kReached kClassOf kFinerOf kMarkOf kFirstOf kMarkSlots kClasses)) := hD
  refine lv_aload_n hx hb d_RS_or_14 rfl (lv_at hl 0 rfl) ?_
  refine lv_aload_n hx hb d_RS_or_15 rfl (lv_at hl 0 rfl) ?_
  refine va_get (D := D) (ci := 10) (v := .ref mq) (C := R_RS) (T := T_RS) (N := 6) hx hb hts in_RS hown hK hP 0 rfl rfl 2 (by decide) (hts _ fl_RS_22) (fun _ h9 => h9) rfl d_RS_or_16 ?_
  refine va_new (ci := 4) (fs := [.int 0, .long 0, .null, .null, .int (bI false)]) (C := R_Pa) (T := T_Pa) (N := 5) hx hb hts in_Pa t_Pa t_Pa_ok hown (hts _ cl_RS_79) (hts _ it_Pa) (hts _ ini_Pa) hK hP hD hS hA rfl (by decide) (by decide : 3 + 1 ≤ 8) (by decide : 18 + 5 ≤ 353) d_RS_or_19 (fun wq H hP hD hS => ?_)
  refine W.widen (k := 4) (n := 23) (by decide) (by decide) ?_
  have hP : va_P D vwCl (((rsW K xq xl mq cq iq sq xLang xCount) ++ (mkW K mq m0 m1 m2 m3 m5 m6 m7 m8 m9 kHeads kTails kNext kSlots kReached kClassOf kFinerOf kMarkOf kFirstOf kMarkSlots kClasses)) ++ [(wq, .inr (4, [.int 0, .long 0, .null, .null, .int (bI false)]))]) H := hP
  have hD : va_D A (((rsW K xq xl mq cq iq sq xLang xCount) ++ (mkW K mq m0 m1 m2 m3 m5 m6 m7 m8 m9 kHeads kTails kNext kSlots kReached kClassOf kFinerOf kMarkOf kFirstOf kMarkSlots kClasses)) ++ [(wq, .inr (4, [.int 0, .long 0, .null, .null, .int (bI false)]))]) := hD
  refine lv_dup hx hb d_RS_or_22 rfl ?_
  refine lv_aload_n hx hb d_RS_or_23 rfl (lv_at hl 0 rfl) ?_
  refine va_get (D := D) (ci := 10) (v := .ref xl) (C := R_RS) (T := T_RS) (N := 6) hx hb hts in_RS hown hK hP 0 rfl rfl 0 (by decide) (hts _ fl_RS_11) (fun _ h9 => h9) rfl d_RS_or_24 ?_
  refine lv_iload_n hx hb d_RS_or_27 rfl (lv_at hl 1 rfl) ?_
  obtain ⟨g7, hf⟩ := ogi hf
  refine va_aldq hx hb hK hP 1 3 rfl rfl (gin_in g7) d_RS_or_28 ?_
  obtain ⟨q8, hq8, hf⟩ := oqi hf
  rw [hq8]
  have hTq8 := hT q8 _ (gin_lt g7) hq8
  have hTwq8 := hTw q8 _ (gin_lt g7) hq8
  refine W.eq (g2 := F0 m 29 ls [.ref q8, .ref wq, .ref wq, .ref mq, .ref xq]) rfl ?_
  refine lv_aload_n hx hb d_RS_or_29 rfl (lv_at hl 0 rfl) ?_
  refine va_get (D := D) (ci := 10) (v := .ref xl) (C := R_RS) (T := T_RS) (N := 6) hx hb hts in_RS hown hK hP 0 rfl rfl 0 (by decide) (hts _ fl_RS_11) (fun _ h9 => h9) rfl d_RS_or_30 ?_
  refine lv_iload_n hx hb d_RS_or_33 rfl (lv_at hl 2 rfl) ?_
  obtain ⟨g9, hf⟩ := ogi hf
  refine va_aldq hx hb hK hP 1 3 rfl rfl (gin_in g9) d_RS_or_34 ?_
  obtain ⟨q10, hq10, hf⟩ := oqi hf
  rw [hq10]
  have hTq10 := hT q10 _ (gin_lt g9) hq10
  have hTwq10 := hTw q10 _ (gin_lt g9) hq10
  refine W.eq (g2 := F0 m 35 ls [.ref q10, .ref q8, .ref wq, .ref wq, .ref mq, .ref xq]) rfl ?_
  refine lv_iconst (v := 0) hx hb d_RS_or_35 (by decide) ?_
  refine w_callA (va_runI (As := [.ref q8, .ref q10, .int (bI false)]) (rest := [.ref wq, .ref mq, .ref xq]) ⟨hx, hb, hml, hown, hts⟩ (c_Pa_init l H.size) (gI 3 hts cd_Pa_init ml_RS_81 im_Pa_init ini_Pa rfl rfl rfl pd_Pa_init ⟨Nat.le_of_ble_eq_true rfl, Nat.le_of_ble_eq_true rfl⟩) ⟨withX_blind wPre_blind, withX_of (wPre_of (vaR hP) hK (vdR hD)) hX⟩ rfl rfl hl.1 rfl (lv_room (Nat.le_of_ble_eq_true rfl)) d_RS_or_36 ⟨(by decide : 4 + 0 ≤ 8), (by decide : 23 + 0 ≤ 353)⟩) (vdR hD) hS hA (fun g0 H1 locs hP1 hD1 hk1 hS1 => ?_)
  obtain ⟨hP, hD⟩ := va_keepL hP hD (va_sub (vdR hD) hS hA) hk1 hP1 hD1
  have hS := hS1
  generalize H1 = H at hP hS ⊢
  have hP : va_P D vwCl ((rsW K xq xl mq cq iq sq xLang xCount) ++ ((mkW K mq m0 m1 m2 m3 m5 m6 m7 m8 m9 kHeads kTails kNext kSlots kReached kClassOf kFinerOf kMarkOf kFirstOf kMarkSlots kClasses) ++ (paW K wq q8 q10 0 0 false))) H := vpAs hP
  have hD : va_D A ((rsW K xq xl mq cq iq sq xLang xCount) ++ ((mkW K mq m0 m1 m2 m3 m5 m6 m7 m8 m9 kHeads kTails kNext kSlots kReached kClassOf kFinerOf kMarkOf kFirstOf kMarkSlots kClasses) ++ (paW K wq q8 q10 0 0 false))) := vdAs hD
  obtain ⟨u, eu, hf⟩ := obd hf
  refine w_callA (va_runV (As := [.ref wq]) (rest := [.ref xq]) ⟨hx, hb, hml, hown, hts⟩ (c_Mk_make_Pa l H.size eu) (gV 1 hts cd_Mk_make ml_RS_62 im_Mk_make se_Mk_make ini_Mk rfl rfl pd_Mk_make ⟨Nat.le_of_ble_eq_true rfl, Nat.le_of_ble_eq_true rfl⟩) ⟨withX_blind wPreR_blind, va_recv hK (vaL (vaR hP)) (ci := 6) (q0 := 0) rfl rfl, withX_of (wPreR_of (vaR hP) hK (vdR hD) hS hA (va_P.app (hTq8 _ _ hS) (hTq10 _ _ hS)) (gAw.app hTwq8 hTwq10)) hX⟩ rfl rfl hl.1 rfl (lv_room (Nat.le_of_ble_eq_true rfl)) d_RS_or_39 ⟨(by decide : 4 + 3 ≤ 8), (by decide : 23 + 324 ≤ 353)⟩) (vdR hD) hS hA (fun gm H1 locs hP1 hD1 hk1 hS1 => ?_)
  obtain ⟨hP, hD⟩ := va_keepL hP hD (va_sub (vdR hD) hS hA) hk1 hP1 hD1
  have hS := hS1
  generalize H1 = H at hP hS ⊢
  obtain ⟨o, um⟩ := u
  cases o with
  | none =>
    replace hf := oqn hf
    have hr := (Option.some.inj hf).symm
    refine W.eq (g2 := F0 m 42 ls [.null, .ref xq]) rfl ?_
    refine x_call (vx_runV (As := [.null]) (rest := []) ⟨hx, hb, hml, hown, hts⟩ (c_RS_keep_N (n := n) l hl0 H.size rfl) (gV 1 hts cd_RS_keep ml_RS_66 im_RS_keep se_RS_keep ini_RS rfl rfl pd_RS_keep ⟨Nat.le_of_ble_eq_true rfl, Nat.le_of_ble_eq_true rfl⟩) ⟨xPre_blind, va_recv hK (vaL hP) (ci := 10) (q0 := 0) rfl rfl, xPre_of (T := fun _ => (0, 0, 0, 0, fun _ => 0, 0, fun _ => 0)) (asg := fun _ => none) (vaL hP) hK (vdL hD) hS hA hX hZ xT0⟩ rfl rfl hl.1 rfl (lv_room (Nat.le_of_ble_eq_true rfl)) d_RS_or_42 ⟨(by decide : 7 + 1 ≤ 8), (by decide : 347 + 6 ≤ 353)⟩) (vdL hD) hS hA (fun E x ex g0 ce q9 H1 locs hP1 hD1 hk1 hS1 hq1 hq2 hq3 => ?_) (fun yk ev => nomatch ev)
    cases ex
    obtain ⟨hP, hD⟩ := va_keepR hP hD (va_sub (vdL hD) hS hA) hk1 hP1 hD1
    have hS := hS1
    generalize H1 = H at hP hS hq1 ⊢
    exact x_out htab B.notSynchronized hq1 hq2 hq3 (gm.1, gm.2.1) hr (va_P.app (vaL hP) (vaL (vaL (vaR hP)))) hK (vdFst hD) hS (by decide : 7 + 1 ≤ 8) (by decide : 347 + 6 ≤ 353)
  | some v =>
    replace hf := oqs hf
    refine W.eq (g2 := F0 m 42 ls [.ref gm.2.2.1, .ref xq]) rfl ?_
    obtain ⟨gk, hf⟩ := ogi hf
    have hr := (Option.some.inj hf).symm
    refine x_call (vx_runV (As := [.ref gm.2.2.1]) (rest := []) ⟨hx, hb, hml, hown, hts⟩ (c_RS_keep_R (n := n) (T := fun _ => (gm.2.2.2.1, gm.2.2.2.2, v.1, (4 * v.1).toNatClampNeg, v.2.2.1, v.2.1, v.2.2.2)) (qz := gm.2.2.1) l hl0 H.size (keepR_ok gk)) (gV 1 hts cd_RS_keep ml_RS_66 im_RS_keep se_RS_keep ini_RS rfl rfl pd_RS_keep ⟨Nat.le_of_ble_eq_true rfl, Nat.le_of_ble_eq_true rfl⟩) ⟨xPre_blind, va_recv hK (vaL hP) (ci := 10) (q0 := 0) rfl rfl, xPre_of2 (vaL hP) hK (vdL hD) hS hA hX hZ (fun q i hi hq => by obtain rfl := Option.some.inj hq; exact ⟨vaR (vaR hP), (gAw_ofR hP hD).right⟩)⟩ rfl rfl hl.1 rfl (lv_room (Nat.le_of_ble_eq_true rfl)) d_RS_or_42 ⟨(by decide : 7 + 0 ≤ 8), (by decide : 347 + 0 ≤ 353)⟩) (vdL hD) hS hA (fun E x ex g0 ce q9 H1 locs hP1 hD1 hk1 hS1 hq1 hq2 hq3 => nomatch ex) (fun yk ev g0 H1 locs hP1 hD1 hk1 hS1 => ?_)
    cases ev
    obtain ⟨hP, hD⟩ := va_keepR hP hD (va_sub (vdL hD) hS hA) hk1 hP1 hD1
    have hS := hS1
    generalize H1 = H at hP hS ⊢
    have hP : va_P D vwCl (((rsW K xq xl mq cq iq sq (va_up xLang xCount.toNatClampNeg (some gm.2.2.1)) (xCount + 1)) ++ (mkW K mq m0 m1 m2 m3 gm.1 gm.2.1 m7 m8 m9 um.1 um.2.1 um.2.2.1 um.2.2.2.1 um.2.2.2.2.1 um.2.2.2.2.2.1 um.2.2.2.2.2.2.1 um.2.2.2.2.2.2.2.1 um.2.2.2.2.2.2.2.2.1 um.2.2.2.2.2.2.2.2.2.1 um.2.2.2.2.2.2.2.2.2.2.1)) ++ (auW K gm.2.2.1 gm.2.2.2.1 gm.2.2.2.2 v.1 (4 * v.1).toNatClampNeg v.2.2.1 v.2.1 v.2.2.2)) H := hP.sub [0, 1, 2, 3, 4, 5, 6, 7, 8, 9, 10, 11, 13, 14, 15] rfl
    have hD : va_D A (((rsW K xq xl mq cq iq sq (va_up xLang xCount.toNatClampNeg (some gm.2.2.1)) (xCount + 1)) ++ (mkW K mq m0 m1 m2 m3 gm.1 gm.2.1 m7 m8 m9 um.1 um.2.1 um.2.2.1 um.2.2.2.1 um.2.2.2.2.1 um.2.2.2.2.2.1 um.2.2.2.2.2.2.1 um.2.2.2.2.2.2.2.1 um.2.2.2.2.2.2.2.2.1 um.2.2.2.2.2.2.2.2.2.1 um.2.2.2.2.2.2.2.2.2.2.1)) ++ (auW K gm.2.2.1 gm.2.2.2.1 gm.2.2.2.2 v.1 (4 * v.1).toNatClampNeg v.2.2.1 v.2.1 v.2.2.2)) := hD.sub [0, 1, 2, 3, 4, 5, 6, 7, 8, 9, 10, 11, 13, 14, 15] (by decide) rfl
    refine W.widen (k := 8) (n := 353) (by decide) (by decide) ?_
    exact vx_ret (W.iret hx hb B.returns (fun t ht hW => ⟨_, hr, ⟨gm, rfl, by rw [ht]; exact hP, va_K.moved hW.alike hK, hD⟩, hS.F ht⟩) hS.2.2 d_RS_or_45 (hlocks := B.notSynchronized))
def f_RS_and (n : Nat) (p0 : Int32) (p1 : Int32) (xLang : Nat → Option Nat) (xCount : Int32) (kHeads : Nat → Int32) (kTails : Nat → Int64) (kNext : Nat → Int32) (kSlots : Nat → Int32) (kReached : Int32) (kClassOf : Nat → Int32) (kFinerOf : Nat → Int32) (kMarkOf : Nat → Int32) (kFirstOf : Nat → Int32) (kMarkSlots : Nat → Int32) (kClasses : Int32) (T : auTab) : Option ((String × ((Nat → Int32) × (Nat → Int64) × (Nat → Int32) × (Nat → Int32) × Int32 × (Nat → Int32) × (Nat → Int32) × (Nat → Int32) × (Nat → Int32) × (Nat → Int32) × Int32)) ⊕ (Int32 × auP × Int32 × (Nat → Int32) × (Nat → Int64) × (Nat → Int32) × (Nat → Int32) × Int32 × (Nat → Int32) × (Nat → Int32) × (Nat → Int32) × (Nat → Int32) × (Nat → Int32) × Int32)) :=
  (f_RS_requireLanguage n p0 xCount).bind fun u1 => u1.elim (fun x => some (.inl (x.1, (kHeads, kTails, kNext, kSlots, kReached, kClassOf, kFinerOf, kMarkOf, kFirstOf, kMarkSlots, kClasses)))) fun y1 =>
  (f_RS_requireLanguage n p1 xCount).bind fun u3 => u3.elim (fun x => some (.inl (x.1, (kHeads, kTails, kNext, kSlots, kReached, kClassOf, kFinerOf, kMarkOf, kFirstOf, kMarkSlots, kClasses)))) fun y3 =>
  (f_RS_requireRoom n xCount).bind fun u5 => u5.elim (fun x => some (.inl (x.1, (kHeads, kTails, kNext, kSlots, kReached, kClassOf, kFinerOf, kMarkOf, kFirstOf, kMarkSlots, kClasses)))) fun y5 =>
  ogd (gin p0 60) <|
  oq (xLang p0.toNatClampNeg) none fun q8 =>
  ogd (gin p1 60) <|
  oq (xLang p1.toNatClampNeg) none fun q10 =>
  (f_Mk_makeA_Pa n kHeads kTails kNext kSlots kClassOf kFinerOf kMarkOf kFirstOf kMarkSlots kClasses true ((T q8).2.2.2.1) ((T q8).2.2.2.2.1) ((T q8).2.2.2.2.2.1) ((T q10).2.2.2.1) ((T q10).2.2.2.2.1) ((T q10).2.2.2.2.2.1)).bind fun u =>
  oq u.1 (some (.inl ("java/lang/UnsupportedOperationException", (u.2.1, u.2.2.1, u.2.2.2.1, u.2.2.2.2.1, u.2.2.2.2.2.1, u.2.2.2.2.2.2.1, u.2.2.2.2.2.2.2.1, u.2.2.2.2.2.2.2.2.1, u.2.2.2.2.2.2.2.2.2.1, u.2.2.2.2.2.2.2.2.2.2.1, u.2.2.2.2.2.2.2.2.2.2.2.1)))) fun v =>
  ogd (gin xCount 60) <|
  some (.inr ((xCount + 1) - 1, v, xCount + 1, u.2.1, u.2.2.1, u.2.2.2.1, u.2.2.2.2.1, u.2.2.2.2.2.1, u.2.2.2.2.2.2.1, u.2.2.2.2.2.2.2.1, u.2.2.2.2.2.2.2.2.1, u.2.2.2.2.2.2.2.2.2.1, u.2.2.2.2.2.2.2.2.2.2.1, u.2.2.2.2.2.2.2.2.2.2.2.1))
set_option maxHeartbeats 400000 in
set_option maxRecDepth 100000 in
theorem c_RS_and (l : Launch) (hl0 : l.stackTraces = false) {D : va_G} {K : Nat → ClassId} {T : auTab} {n : Nat} {xq : Nat} {xl : Nat} {mq : Nat} {cq : Nat} {iq : Nat} {sq : Nat} {m0 : Nat} {m1 : Nat} {m2 : Nat} {m3 : Nat} {m5 : Nat} {m6 : Nat} {m7 : Nat} {m8 : Nat} {m9 : Nat} {xLang : Nat → Option Nat} {xCount : Int32} {kHeads : Nat → Int32} {kTails : Nat → Int64} {kNext : Nat → Int32} {kSlots : Nat → Int32} {kReached : Int32} {kClassOf : Nat → Int32} {kFinerOf : Nat → Int32} {kMarkOf : Nat → Int32} {kFirstOf : Nat → Int32} {kMarkSlots : Nat → Int32} {kClasses : Int32} {p0 : Int32} {p1 : Int32}  {r : (String × ((Nat → Int32) × (Nat → Int64) × (Nat → Int32) × (Nat → Int32) × Int32 × (Nat → Int32) × (Nat → Int32) × (Nat → Int32) × (Nat → Int32) × (Nat → Int32) × Int32)) ⊕ (Int32 × auP × Int32 × (Nat → Int32) × (Nat → Int64) × (Nat → Int32) × (Nat → Int32) × Int32 × (Nat → Int32) × (Nat → Int32) × (Nat → Int32) × (Nat → Int32) × (Nat → Int32) × Int32)} (sz : Nat) (hf : f_RS_and n p0 p1 xLang xCount kHeads kTails kNext kSlots kReached kClassOf kFinerOf kMarkOf kFirstOf kMarkSlots kClasses T = some r) : vx_Met l y_RS_and w0_RS_and ({ frames := 7, cells := 8, slots := 353, locals := 113 }) (xPre D K T [.ref xq, .int p0, .int p1] ((rsW K xq xl mq cq iq sq xLang xCount) ++ (mkW K mq m0 m1 m2 m3 m5 m6 m7 m8 m9 kHeads kTails kNext kSlots kReached kClassOf kFinerOf kMarkOf kFirstOf kMarkSlots kClasses)) 60 xLang sz) (xPost D K r (fun v (g : Nat × Nat × Nat × Nat × Nat) => some (.int v.1)) (fun v g => ((rsW K xq xl mq cq iq sq (va_up xLang xCount.toNatClampNeg (some g.2.2.1)) v.2.2.1) ++ (mkW K mq m0 m1 m2 m3 g.1 g.2.1 m7 m8 m9 v.2.2.2.1 v.2.2.2.2.1 v.2.2.2.2.2.1 v.2.2.2.2.2.2.1 v.2.2.2.2.2.2.2.1 v.2.2.2.2.2.2.2.2.1 v.2.2.2.2.2.2.2.2.2.1 v.2.2.2.2.2.2.2.2.2.2.1 v.2.2.2.2.2.2.2.2.2.2.2.1 v.2.2.2.2.2.2.2.2.2.2.2.2.1 v.2.2.2.2.2.2.2.2.2.2.2.2.2)) ++ (auW K g.2.2.1 g.2.2.2.1 g.2.2.2.2 v.2.1.1 (4 * v.2.1.1).toNatClampNeg v.2.1.2.2.1 v.2.1.2.1 v.2.1.2.2.2)) (va_A ((rsW K xq xl mq cq iq sq xLang xCount) ++ (mkW K mq m0 m1 m2 m3 m5 m6 m7 m8 m9 kHeads kTails kNext kSlots kReached kClassOf kFinerOf kMarkOf kFirstOf kMarkSlots kClasses)) sz)) (xExc D K r (fun u (g : Nat × Nat) => ((rsW K xq xl mq cq iq sq xLang xCount) ++ (mkW K mq m0 m1 m2 m3 g.1 g.2 m7 m8 m9 u.1 u.2.1 u.2.2.1 u.2.2.2.1 u.2.2.2.2.1 u.2.2.2.2.2.1 u.2.2.2.2.2.2.1 u.2.2.2.2.2.2.2.1 u.2.2.2.2.2.2.2.2.1 u.2.2.2.2.2.2.2.2.2.1 u.2.2.2.2.2.2.2.2.2.2))) (va_A ((rsW K xq xl mq cq iq sq xLang xCount) ++ (mkW K mq m0 m1 m2 m3 m5 m6 m7 m8 m9 kHeads kTails kNext kSlots kReached kClassOf kFinerOf kMarkOf kFirstOf kMarkSlots kClasses)) sz)) 8 353 (va_A ((rsW K xq xl mq cq iq sq xLang xCount) ++ (mkW K mq m0 m1 m2 m3 m5 m6 m7 m8 m9 kHeads kTails kNext kSlots kReached kClassOf kFinerOf kMarkOf kFirstOf kMarkSlots kClasses)) sz) := by
  unfold f_RS_and at hf
  refine vx_ofW (cc := b_RS_and) (maxL := 3) (ret := (some .int)) (by decide) rfl ?_
  intro p e s m args below meth c s₁ B hml htab hv
  obtain ⟨⟨rfl, hsz, hP, hK, hD0⟩, hX, hZ, hT0⟩ := hv
  subst hsz
  have hx := B.exec
  have hb := B.bytes
  have hts : ∀ w ∈ gW, w.before _ s = true := fun w hw => atoms_spec (ws := w0_RS_and) B.pre w (List.mem_cons_of_mem _ hw)
  have hown : s.vm.findClass "RegularSolver" = some m.cls := findClass_of_methodNamed B.named
  have hD := hD0.self (sz := s.heap.size)
  generalize hAe : va_A ((rsW K xq xl mq cq iq sq xLang xCount) ++ (mkW K mq m0 m1 m2 m3 m5 m6 m7 m8 m9 kHeads kTails kNext kSlots kReached kClassOf kFinerOf kMarkOf kFirstOf kMarkSlots kClasses)) s.heap.size = A at hD hZ hT0 ⊢
  have hA : ∀ q : Nat, s.heap.size ≤ q → A q := fun q h => by rw [← hAe]; exact Or.inr h
  have hS : va_S A s.heap s.heap [] := va_S.rf
  have hT : ∀ (q i : Nat), i < 60 → xLang i = some q → ∀ (H : Heap) (locs : List Loc), va_S A s.heap H locs → va_P D vwCl (auT K T q) H := fun q i hi hq _ _ hS => ro_of (hT0 q i hi hq).1 (hT0 q i hi hq).2 hS
  have hTw : ∀ (q i : Nat), i < 60 → xLang i = some q → gAw A (auT K T q) := fun q i hi hq => (hT0 q i hi hq).2
  have hl := lv_entry [.ref xq, .int p0, .int p1] (n := 3) (Nat.le_of_ble_eq_true rfl)
  rw [lg_entry_eq]
  generalize (lg_sl [.ref xq, .int p0, .int p1] ++ List.replicate (3 - (lg_sl [.ref xq, .int p0, .int p1]).length) Slot.unset).toArray = ls at hl ⊢
  refine x_gen (P := fun H => W p l e _ s m _ below meth c H [] 0 0 _ _) ?_
  intro H hHe
  rw [← hHe] at hP
  have hS : va_S A s.heap H [] := by rw [hHe]; exact hS
  refine lv_aload_n hx hb d_RS_and_0 rfl (lv_at hl 0 rfl) ?_
  refine lv_iload_n hx hb d_RS_and_1 rfl (lv_at hl 1 rfl) ?_
  obtain ⟨u1, eu1, hf⟩ := obd hf
  refine x_call (vx_runV (As := [.int p0]) (rest := []) ⟨hx, hb, hml, hown, hts⟩ (c_RS_requireLanguage l hl0 H.size eu1) (gV 1 hts cd_RS_requireLanguage ml_RS_70 im_RS_requireLanguage se_RS_requireLanguage ini_RS rfl rfl pd_RS_requireLanguage ⟨Nat.le_of_ble_eq_true rfl, Nat.le_of_ble_eq_true rfl⟩) ⟨xPre_blind, va_recv hK (vaL hP) (ci := 10) (q0 := 0) rfl rfl, xPre_of (T := fun _ => (0, 0, 0, 0, fun _ => 0, 0, fun _ => 0)) (asg := fun _ => none) (vaL hP) hK (vdL hD) hS hA hX hZ xT0⟩ rfl rfl hl.1 rfl (lv_room (Nat.le_of_ble_eq_true rfl)) d_RS_and_2 ⟨(by decide : 0 + 1 ≤ 8), (by decide : 0 + 6 ≤ 353)⟩) (vdL hD) hS hA (fun E x ex g2 ce q9 H1 locs hP1 hD1 hk1 hS1 hq1 hq2 hq3 => ?_) (fun y1 ev g2 H1 locs hP1 hD1 hk1 hS1 => ?_)
  · subst ex
    have hr := (Option.some.inj hf).symm
    obtain ⟨hP, hD⟩ := va_keepR hP hD (va_sub (vdL hD) hS hA) hk1 hP1 hD1
    have hS := hS1
    generalize H1 = H at hP hS hq1 ⊢
    exact x_out htab B.notSynchronized hq1 hq2 hq3 (m5, m6) hr hP hK hD hS (by decide : 0 + 1 ≤ 8) (by decide : 0 + 6 ≤ 353)
  subst ev
  replace hf := oel hf
  obtain ⟨hP, hD⟩ := va_keepR hP hD (va_sub (vdL hD) hS hA) hk1 hP1 hD1
  have hS := hS1
  generalize H1 = H at hP hS ⊢
  have hP : va_P D vwCl ((rsW K xq xl mq cq iq sq xLang xCount) ++ (mkW K mq m0 m1 m2 m3 m5 m6 m7 m8 m9 kHeads kTails kNext kSlots kReached kClassOf kFinerOf kMarkOf kFirstOf kMarkSlots kClasses)) H := hP
  have hD : va_D A ((rsW K xq xl mq cq iq sq xLang xCount) ++ (mkW K mq m0 m1 m2 m3 m5 m6 m7 m8 m9 kHeads kTails kNext kSlots kReached kClassOf kFinerOf kMarkOf kFirstOf kMarkSlots kClasses)) := hD
  refine lv_aload_n hx hb d_RS_and_5 rfl (lv_at hl 0 rfl) ?_
  refine lv_iload_n hx hb d_RS_and_6 rfl (lv_at hl 2 rfl) ?_
  obtain ⟨u3, eu3, hf⟩ := obd hf
  refine x_call (vx_runV (As := [.int p1]) (rest := []) ⟨hx, hb, hml, hown, hts⟩ (c_RS_requireLanguage l hl0 H.size eu3) (gV 1 hts cd_RS_requireLanguage ml_RS_70 im_RS_requireLanguage se_RS_requireLanguage ini_RS rfl rfl pd_RS_requireLanguage ⟨Nat.le_of_ble_eq_true rfl, Nat.le_of_ble_eq_true rfl⟩) ⟨xPre_blind, va_recv hK (vaL hP) (ci := 10) (q0 := 0) rfl rfl, xPre_of (T := fun _ => (0, 0, 0, 0, fun _ => 0, 0, fun _ => 0)) (asg := fun _ => none) (vaL hP) hK (vdL hD) hS hA hX hZ xT0⟩ rfl rfl hl.1 rfl (lv_room (Nat.le_of_ble_eq_true rfl)) d_RS_and_7 ⟨(by decide : 1 + 1 ≤ 8), (by decide : 6 + 6 ≤ 353)⟩) (vdL hD) hS hA (fun E x ex g4 ce q9 H1 locs hP1 hD1 hk1 hS1 hq1 hq2 hq3 => ?_) (fun y3 ev g4 H1 locs hP1 hD1 hk1 hS1 => ?_)
  · subst ex
    have hr := (Option.some.inj hf).symm
    obtain ⟨hP, hD⟩ := va_keepR hP hD (va_sub (vdL hD) hS hA) hk1 hP1 hD1
    have hS := hS1
    generalize H1 = H at hP hS hq1 ⊢
    exact x_out htab B.notSynchronized hq1 hq2 hq3 (m5, m6) hr hP hK hD hS (by decide : 1 + 1 ≤ 8) (by decide : 6 + 6 ≤ 353)
  subst ev
  replace hf := oel hf
  obtain ⟨hP, hD⟩ := va_keepR hP hD (va_sub (vdL hD) hS hA) hk1 hP1 hD1
  have hS := hS1
  generalize H1 = H at hP hS ⊢
  have hP : va_P D vwCl ((rsW K xq xl mq cq iq sq xLang xCount) ++ (mkW K mq m0 m1 m2 m3 m5 m6 m7 m8 m9 kHeads kTails kNext kSlots kReached kClassOf kFinerOf kMarkOf kFirstOf kMarkSlots kClasses)) H := hP
  have hD : va_D A ((rsW K xq xl mq cq iq sq xLang xCount) ++ (mkW K mq m0 m1 m2 m3 m5 m6 m7 m8 m9 kHeads kTails kNext kSlots kReached kClassOf kFinerOf kMarkOf kFirstOf kMarkSlots kClasses)) := hD
  refine lv_aload_n hx hb d_RS_and_10 rfl (lv_at hl 0 rfl) ?_
  obtain ⟨u5, eu5, hf⟩ := obd hf
  refine x_call (vx_runV (As := []) (rest := []) ⟨hx, hb, hml, hown, hts⟩ (c_RS_requireRoom l hl0 H.size eu5) (gV 0 hts cd_RS_requireRoom ml_RS_54 im_RS_requireRoom se_RS_requireRoom ini_RS rfl rfl pd_RS_requireRoom ⟨Nat.le_of_ble_eq_true rfl, Nat.le_of_ble_eq_true rfl⟩) ⟨xPre_blind, va_recv hK (vaL hP) (ci := 10) (q0 := 0) rfl rfl, xPre_of (T := fun _ => (0, 0, 0, 0, fun _ => 0, 0, fun _ => 0)) (asg := fun _ => none) (vaL hP) hK (vdL hD) hS hA hX hZ xT0⟩ rfl rfl hl.1 rfl (lv_room (Nat.le_of_ble_eq_true rfl)) d_RS_and_11 ⟨(by decide : 2 + 1 ≤ 8), (by decide : 12 + 6 ≤ 353)⟩) (vdL hD) hS hA (fun E x ex g6 ce q9 H1 locs hP1 hD1 hk1 hS1 hq1 hq2 hq3 => ?_) (fun y5 ev g6 H1 locs hP1 hD1 hk1 hS1 => ?_)
  · subst ex
    have hr := (Option.some.inj hf).symm
    obtain ⟨hP, hD⟩ := va_keepR hP hD (va_sub (vdL hD) hS hA) hk1 hP1 hD1
    have hS := hS1
    generalize H1 = H at hP hS hq1 ⊢
    exact x_out htab B.notSynchronized hq1 hq2 hq3 (m5, m6) hr hP hK hD hS (by decide : 2 + 1 ≤ 8) (by decide : 12 + 6 ≤ 353)
  subst ev
  replace hf := oel hf
  obtain ⟨hP, hD⟩ := va_keepR hP hD (va_sub (vdL hD) hS hA) hk1 hP1 hD1
  have hS := hS1
  generalize H1 = H at hP hS ⊢
  have hP : va_P D vwCl ((rsW K xq xl mq cq iq sq xLang xCount) ++ (mkW K mq m0 m1 m2 m3 m5 m6 m7 m8 m9 kHeads kTails kNext kSlots kReached kClassOf kFinerOf kMarkOf kFirstOf kMarkSlots kClasses)) H := hP
  have hD : va_D A ((rsW K xq xl mq cq iq sq xLang xCount) ++ (mkW K mq m0 m1 m2 m3 m5 m6 m7 m8 m9 kHeads kTails kNext kSlots kReached kClassOf kFinerOf kMarkOf kFirstOf kMarkSlots kClasses)) := hD
  refine lv_aload_n hx hb d_RS_and_14 rfl (lv_at hl 0 rfl) ?_
  refine lv_aload_n hx hb d_RS_and_15 rfl (lv_at hl 0 rfl) ?_
  refine va_get (D := D) (ci := 10) (v := .ref mq) (C := R_RS) (T := T_RS) (N := 6) hx hb hts in_RS hown hK hP 0 rfl rfl 2 (by decide) (hts _ fl_RS_22) (fun _ h9 => h9) rfl d_RS_and_16 ?_
  refine va_new (ci := 4) (fs := [.int 0, .long 0, .null, .null, .int (bI false)]) (C := R_Pa) (T := T_Pa) (N := 5) hx hb hts in_Pa t_Pa t_Pa_ok hown (hts _ cl_RS_79) (hts _ it_Pa) (hts _ ini_Pa) hK hP hD hS hA rfl (by decide) (by decide : 3 + 1 ≤ 8) (by decide : 18 + 5 ≤ 353) d_RS_and_19 (fun wq H hP hD hS => ?_)
  refine W.widen (k := 4) (n := 23) (by decide) (by decide) ?_
  have hP : va_P D vwCl (((rsW K xq xl mq cq iq sq xLang xCount) ++ (mkW K mq m0 m1 m2 m3 m5 m6 m7 m8 m9 kHeads kTails kNext kSlots kReached kClassOf kFinerOf kMarkOf kFirstOf kMarkSlots kClasses)) ++ [(wq, .inr (4, [.int 0, .long 0, .null, .null, .int (bI false)]))]) H := hP
  have hD : va_D A (((rsW K xq xl mq cq iq sq xLang xCount) ++ (mkW K mq m0 m1 m2 m3 m5 m6 m7 m8 m9 kHeads kTails kNext kSlots kReached kClassOf kFinerOf kMarkOf kFirstOf kMarkSlots kClasses)) ++ [(wq, .inr (4, [.int 0, .long 0, .null, .null, .int (bI false)]))]) := hD
  refine lv_dup hx hb d_RS_and_22 rfl ?_
  refine lv_aload_n hx hb d_RS_and_23 rfl (lv_at hl 0 rfl) ?_
  refine va_get (D := D) (ci := 10) (v := .ref xl) (C := R_RS) (T := T_RS) (N := 6) hx hb hts in_RS hown hK hP 0 rfl rfl 0 (by decide) (hts _ fl_RS_11) (fun _ h9 => h9) rfl d_RS_and_24 ?_
  refine lv_iload_n hx hb d_RS_and_27 rfl (lv_at hl 1 rfl) ?_
  obtain ⟨g7, hf⟩ := ogi hf
  refine va_aldq hx hb hK hP 1 3 rfl rfl (gin_in g7) d_RS_and_28 ?_
  obtain ⟨q8, hq8, hf⟩ := oqi hf
  rw [hq8]
  have hTq8 := hT q8 _ (gin_lt g7) hq8
  have hTwq8 := hTw q8 _ (gin_lt g7) hq8
  refine W.eq (g2 := F0 m 29 ls [.ref q8, .ref wq, .ref wq, .ref mq, .ref xq]) rfl ?_
  refine lv_aload_n hx hb d_RS_and_29 rfl (lv_at hl 0 rfl) ?_
  refine va_get (D := D) (ci := 10) (v := .ref xl) (C := R_RS) (T := T_RS) (N := 6) hx hb hts in_RS hown hK hP 0 rfl rfl 0 (by decide) (hts _ fl_RS_11) (fun _ h9 => h9) rfl d_RS_and_30 ?_
  refine lv_iload_n hx hb d_RS_and_33 rfl (lv_at hl 2 rfl) ?_
  obtain ⟨g9, hf⟩ := ogi hf
  refine va_aldq hx hb hK hP 1 3 rfl rfl (gin_in g9) d_RS_and_34 ?_
  obtain ⟨q10, hq10, hf⟩ := oqi hf
  rw [hq10]
  have hTq10 := hT q10 _ (gin_lt g9) hq10
  have hTwq10 := hTw q10 _ (gin_lt g9) hq10
  refine W.eq (g2 := F0 m 35 ls [.ref q10, .ref q8, .ref wq, .ref wq, .ref mq, .ref xq]) rfl ?_
  refine lv_iconst (v := 1) hx hb d_RS_and_35 (by decide) ?_
  refine w_callA (va_runI (As := [.ref q8, .ref q10, .int (bI true)]) (rest := [.ref wq, .ref mq, .ref xq]) ⟨hx, hb, hml, hown, hts⟩ (c_Pa_init l H.size) (gI 3 hts cd_Pa_init ml_RS_81 im_Pa_init ini_Pa rfl rfl rfl pd_Pa_init ⟨Nat.le_of_ble_eq_true rfl, Nat.le_of_ble_eq_true rfl⟩) ⟨withX_blind wPre_blind, withX_of (wPre_of (vaR hP) hK (vdR hD)) hX⟩ rfl rfl hl.1 rfl (lv_room (Nat.le_of_ble_eq_true rfl)) d_RS_and_36 ⟨(by decide : 4 + 0 ≤ 8), (by decide : 23 + 0 ≤ 353)⟩) (vdR hD) hS hA (fun g0 H1 locs hP1 hD1 hk1 hS1 => ?_)
  obtain ⟨hP, hD⟩ := va_keepL hP hD (va_sub (vdR hD) hS hA) hk1 hP1 hD1
  have hS := hS1
  generalize H1 = H at hP hS ⊢
  have hP : va_P D vwCl ((rsW K xq xl mq cq iq sq xLang xCount) ++ ((mkW K mq m0 m1 m2 m3 m5 m6 m7 m8 m9 kHeads kTails kNext kSlots kReached kClassOf kFinerOf kMarkOf kFirstOf kMarkSlots kClasses) ++ (paW K wq q8 q10 0 0 true))) H := vpAs hP
  have hD : va_D A ((rsW K xq xl mq cq iq sq xLang xCount) ++ ((mkW K mq m0 m1 m2 m3 m5 m6 m7 m8 m9 kHeads kTails kNext kSlots kReached kClassOf kFinerOf kMarkOf kFirstOf kMarkSlots kClasses) ++ (paW K wq q8 q10 0 0 true))) := vdAs hD
  obtain ⟨u, eu, hf⟩ := obd hf
  refine w_callA (va_runV (As := [.ref wq]) (rest := [.ref xq]) ⟨hx, hb, hml, hown, hts⟩ (c_Mk_make_Pa l H.size eu) (gV 1 hts cd_Mk_make ml_RS_62 im_Mk_make se_Mk_make ini_Mk rfl rfl pd_Mk_make ⟨Nat.le_of_ble_eq_true rfl, Nat.le_of_ble_eq_true rfl⟩) ⟨withX_blind wPreR_blind, va_recv hK (vaL (vaR hP)) (ci := 6) (q0 := 0) rfl rfl, withX_of (wPreR_of (vaR hP) hK (vdR hD) hS hA (va_P.app (hTq8 _ _ hS) (hTq10 _ _ hS)) (gAw.app hTwq8 hTwq10)) hX⟩ rfl rfl hl.1 rfl (lv_room (Nat.le_of_ble_eq_true rfl)) d_RS_and_39 ⟨(by decide : 4 + 3 ≤ 8), (by decide : 23 + 324 ≤ 353)⟩) (vdR hD) hS hA (fun gm H1 locs hP1 hD1 hk1 hS1 => ?_)
  obtain ⟨hP, hD⟩ := va_keepL hP hD (va_sub (vdR hD) hS hA) hk1 hP1 hD1
  have hS := hS1
  generalize H1 = H at hP hS ⊢
  obtain ⟨o, um⟩ := u
  cases o with
  | none =>
    replace hf := oqn hf
    have hr := (Option.some.inj hf).symm
    refine W.eq (g2 := F0 m 42 ls [.null, .ref xq]) rfl ?_
    refine x_call (vx_runV (As := [.null]) (rest := []) ⟨hx, hb, hml, hown, hts⟩ (c_RS_keep_N (n := n) l hl0 H.size rfl) (gV 1 hts cd_RS_keep ml_RS_66 im_RS_keep se_RS_keep ini_RS rfl rfl pd_RS_keep ⟨Nat.le_of_ble_eq_true rfl, Nat.le_of_ble_eq_true rfl⟩) ⟨xPre_blind, va_recv hK (vaL hP) (ci := 10) (q0 := 0) rfl rfl, xPre_of (T := fun _ => (0, 0, 0, 0, fun _ => 0, 0, fun _ => 0)) (asg := fun _ => none) (vaL hP) hK (vdL hD) hS hA hX hZ xT0⟩ rfl rfl hl.1 rfl (lv_room (Nat.le_of_ble_eq_true rfl)) d_RS_and_42 ⟨(by decide : 7 + 1 ≤ 8), (by decide : 347 + 6 ≤ 353)⟩) (vdL hD) hS hA (fun E x ex g0 ce q9 H1 locs hP1 hD1 hk1 hS1 hq1 hq2 hq3 => ?_) (fun yk ev => nomatch ev)
    cases ex
    obtain ⟨hP, hD⟩ := va_keepR hP hD (va_sub (vdL hD) hS hA) hk1 hP1 hD1
    have hS := hS1
    generalize H1 = H at hP hS hq1 ⊢
    exact x_out htab B.notSynchronized hq1 hq2 hq3 (gm.1, gm.2.1) hr (va_P.app (vaL hP) (vaL (vaL (vaR hP)))) hK (vdFst hD) hS (by decide : 7 + 1 ≤ 8) (by decide : 347 + 6 ≤ 353)
  | some v =>
    replace hf := oqs hf
    refine W.eq (g2 := F0 m 42 ls [.ref gm.2.2.1, .ref xq]) rfl ?_
    obtain ⟨gk, hf⟩ := ogi hf
    have hr := (Option.some.inj hf).symm
    refine x_call (vx_runV (As := [.ref gm.2.2.1]) (rest := []) ⟨hx, hb, hml, hown, hts⟩ (c_RS_keep_R (n := n) (T := fun _ => (gm.2.2.2.1, gm.2.2.2.2, v.1, (4 * v.1).toNatClampNeg, v.2.2.1, v.2.1, v.2.2.2)) (qz := gm.2.2.1) l hl0 H.size (keepR_ok gk)) (gV 1 hts cd_RS_keep ml_RS_66 im_RS_keep se_RS_keep ini_RS rfl rfl pd_RS_keep ⟨Nat.le_of_ble_eq_true rfl, Nat.le_of_ble_eq_true rfl⟩) ⟨xPre_blind, va_recv hK (vaL hP) (ci := 10) (q0 := 0) rfl rfl, xPre_of2 (vaL hP) hK (vdL hD) hS hA hX hZ (fun q i hi hq => by obtain rfl := Option.some.inj hq; exact ⟨vaR (vaR hP), (gAw_ofR hP hD).right⟩)⟩ rfl rfl hl.1 rfl (lv_room (Nat.le_of_ble_eq_true rfl)) d_RS_and_42 ⟨(by decide : 7 + 0 ≤ 8), (by decide : 347 + 0 ≤ 353)⟩) (vdL hD) hS hA (fun E x ex g0 ce q9 H1 locs hP1 hD1 hk1 hS1 hq1 hq2 hq3 => nomatch ex) (fun yk ev g0 H1 locs hP1 hD1 hk1 hS1 => ?_)
    cases ev
    obtain ⟨hP, hD⟩ := va_keepR hP hD (va_sub (vdL hD) hS hA) hk1 hP1 hD1
    have hS := hS1
    generalize H1 = H at hP hS ⊢
    have hP : va_P D vwCl (((rsW K xq xl mq cq iq sq (va_up xLang xCount.toNatClampNeg (some gm.2.2.1)) (xCount + 1)) ++ (mkW K mq m0 m1 m2 m3 gm.1 gm.2.1 m7 m8 m9 um.1 um.2.1 um.2.2.1 um.2.2.2.1 um.2.2.2.2.1 um.2.2.2.2.2.1 um.2.2.2.2.2.2.1 um.2.2.2.2.2.2.2.1 um.2.2.2.2.2.2.2.2.1 um.2.2.2.2.2.2.2.2.2.1 um.2.2.2.2.2.2.2.2.2.2.1)) ++ (auW K gm.2.2.1 gm.2.2.2.1 gm.2.2.2.2 v.1 (4 * v.1).toNatClampNeg v.2.2.1 v.2.1 v.2.2.2)) H := hP.sub [0, 1, 2, 3, 4, 5, 6, 7, 8, 9, 10, 11, 13, 14, 15] rfl
    have hD : va_D A (((rsW K xq xl mq cq iq sq (va_up xLang xCount.toNatClampNeg (some gm.2.2.1)) (xCount + 1)) ++ (mkW K mq m0 m1 m2 m3 gm.1 gm.2.1 m7 m8 m9 um.1 um.2.1 um.2.2.1 um.2.2.2.1 um.2.2.2.2.1 um.2.2.2.2.2.1 um.2.2.2.2.2.2.1 um.2.2.2.2.2.2.2.1 um.2.2.2.2.2.2.2.2.1 um.2.2.2.2.2.2.2.2.2.1 um.2.2.2.2.2.2.2.2.2.2.1)) ++ (auW K gm.2.2.1 gm.2.2.2.1 gm.2.2.2.2 v.1 (4 * v.1).toNatClampNeg v.2.2.1 v.2.1 v.2.2.2)) := hD.sub [0, 1, 2, 3, 4, 5, 6, 7, 8, 9, 10, 11, 13, 14, 15] (by decide) rfl
    refine W.widen (k := 8) (n := 353) (by decide) (by decide) ?_
    exact vx_ret (W.iret hx hb B.returns (fun t ht hW => ⟨_, hr, ⟨gm, rfl, by rw [ht]; exact hP, va_K.moved hW.alike hK, hD⟩, hS.F ht⟩) hS.2.2 d_RS_and_45 (hlocks := B.notSynchronized))
def f_RS_again (n : Nat) (p0 : Int32) (xLang : Nat → Option Nat) (xCount : Int32) (kHeads : Nat → Int32) (kTails : Nat → Int64) (kNext : Nat → Int32) (kSlots : Nat → Int32) (kReached : Int32) (kClassOf : Nat → Int32) (kFinerOf : Nat → Int32) (kMarkOf : Nat → Int32) (kFirstOf : Nat → Int32) (kMarkSlots : Nat → Int32) (kClasses : Int32) (T : auTab) : Option ((String × ((Nat → Int32) × (Nat → Int64) × (Nat → Int32) × (Nat → Int32) × Int32 × (Nat → Int32) × (Nat → Int32) × (Nat → Int32) × (Nat → Int32) × (Nat → Int32) × Int32)) ⊕ (Int32 × auP × Int32 × (Nat → Int32) × (Nat → Int64) × (Nat → Int32) × (Nat → Int32) × Int32 × (Nat → Int32) × (Nat → Int32) × (Nat → Int32) × (Nat → Int32) × (Nat → Int32) × Int32)) :=
  (f_RS_requireLanguage n p0 xCount).bind fun u1 => u1.elim (fun x => some (.inl (x.1, (kHeads, kTails, kNext, kSlots, kReached, kClassOf, kFinerOf, kMarkOf, kFirstOf, kMarkSlots, kClasses)))) fun y1 =>
  (f_RS_requireRoom n xCount).bind fun u3 => u3.elim (fun x => some (.inl (x.1, (kHeads, kTails, kNext, kSlots, kReached, kClassOf, kFinerOf, kMarkOf, kFirstOf, kMarkSlots, kClasses)))) fun y3 =>
  ogd (gin p0 60) <|
  oq (xLang p0.toNatClampNeg) none fun q6 =>
  (f_Mk_makeA_Re n kHeads kTails kNext kSlots kClassOf kFinerOf kMarkOf kFirstOf kMarkSlots kClasses 0 ((T q6).2.2.1) ((T q6).2.2.2.1) ((T q6).2.2.2.2.1) ((T q6).2.2.2.2.2.1)).bind fun u =>
  oq u.1 (some (.inl ("java/lang/UnsupportedOperationException", (u.2.1, u.2.2.1, u.2.2.2.1, u.2.2.2.2.1, u.2.2.2.2.2.1, u.2.2.2.2.2.2.1, u.2.2.2.2.2.2.2.1, u.2.2.2.2.2.2.2.2.1, u.2.2.2.2.2.2.2.2.2.1, u.2.2.2.2.2.2.2.2.2.2.1, u.2.2.2.2.2.2.2.2.2.2.2.1)))) fun v =>
  ogd (gin xCount 60) <|
  some (.inr ((xCount + 1) - 1, v, xCount + 1, u.2.1, u.2.2.1, u.2.2.2.1, u.2.2.2.2.1, u.2.2.2.2.2.1, u.2.2.2.2.2.2.1, u.2.2.2.2.2.2.2.1, u.2.2.2.2.2.2.2.2.1, u.2.2.2.2.2.2.2.2.2.1, u.2.2.2.2.2.2.2.2.2.2.1, u.2.2.2.2.2.2.2.2.2.2.2.1))
set_option maxHeartbeats 400000 in
set_option maxRecDepth 100000 in
theorem c_RS_again (l : Launch) (hl0 : l.stackTraces = false) {D : va_G} {K : Nat → ClassId} {T : auTab} {n : Nat} {xq : Nat} {xl : Nat} {mq : Nat} {cq : Nat} {iq : Nat} {sq : Nat} {m0 : Nat} {m1 : Nat} {m2 : Nat} {m3 : Nat} {m5 : Nat} {m6 : Nat} {m7 : Nat} {m8 : Nat} {m9 : Nat} {xLang : Nat → Option Nat} {xCount : Int32} {kHeads : Nat → Int32} {kTails : Nat → Int64} {kNext : Nat → Int32} {kSlots : Nat → Int32} {kReached : Int32} {kClassOf : Nat → Int32} {kFinerOf : Nat → Int32} {kMarkOf : Nat → Int32} {kFirstOf : Nat → Int32} {kMarkSlots : Nat → Int32} {kClasses : Int32} {p0 : Int32}  {r : (String × ((Nat → Int32) × (Nat → Int64) × (Nat → Int32) × (Nat → Int32) × Int32 × (Nat → Int32) × (Nat → Int32) × (Nat → Int32) × (Nat → Int32) × (Nat → Int32) × Int32)) ⊕ (Int32 × auP × Int32 × (Nat → Int32) × (Nat → Int64) × (Nat → Int32) × (Nat → Int32) × Int32 × (Nat → Int32) × (Nat → Int32) × (Nat → Int32) × (Nat → Int32) × (Nat → Int32) × Int32)} (sz : Nat) (hf : f_RS_again n p0 xLang xCount kHeads kTails kNext kSlots kReached kClassOf kFinerOf kMarkOf kFirstOf kMarkSlots kClasses T = some r) : vx_Met l y_RS_again w0_RS_again ({ frames := 7, cells := 7, slots := 345, locals := 121 }) (xPre D K T [.ref xq, .int p0] ((rsW K xq xl mq cq iq sq xLang xCount) ++ (mkW K mq m0 m1 m2 m3 m5 m6 m7 m8 m9 kHeads kTails kNext kSlots kReached kClassOf kFinerOf kMarkOf kFirstOf kMarkSlots kClasses)) 60 xLang sz) (xPost D K r (fun v (g : Nat × Nat × Nat × Nat × Nat) => some (.int v.1)) (fun v g => ((rsW K xq xl mq cq iq sq (va_up xLang xCount.toNatClampNeg (some g.2.2.1)) v.2.2.1) ++ (mkW K mq m0 m1 m2 m3 g.1 g.2.1 m7 m8 m9 v.2.2.2.1 v.2.2.2.2.1 v.2.2.2.2.2.1 v.2.2.2.2.2.2.1 v.2.2.2.2.2.2.2.1 v.2.2.2.2.2.2.2.2.1 v.2.2.2.2.2.2.2.2.2.1 v.2.2.2.2.2.2.2.2.2.2.1 v.2.2.2.2.2.2.2.2.2.2.2.1 v.2.2.2.2.2.2.2.2.2.2.2.2.1 v.2.2.2.2.2.2.2.2.2.2.2.2.2)) ++ (auW K g.2.2.1 g.2.2.2.1 g.2.2.2.2 v.2.1.1 (4 * v.2.1.1).toNatClampNeg v.2.1.2.2.1 v.2.1.2.1 v.2.1.2.2.2)) (va_A ((rsW K xq xl mq cq iq sq xLang xCount) ++ (mkW K mq m0 m1 m2 m3 m5 m6 m7 m8 m9 kHeads kTails kNext kSlots kReached kClassOf kFinerOf kMarkOf kFirstOf kMarkSlots kClasses)) sz)) (xExc D K r (fun u (g : Nat × Nat) => ((rsW K xq xl mq cq iq sq xLang xCount) ++ (mkW K mq m0 m1 m2 m3 g.1 g.2 m7 m8 m9 u.1 u.2.1 u.2.2.1 u.2.2.2.1 u.2.2.2.2.1 u.2.2.2.2.2.1 u.2.2.2.2.2.2.1 u.2.2.2.2.2.2.2.1 u.2.2.2.2.2.2.2.2.1 u.2.2.2.2.2.2.2.2.2.1 u.2.2.2.2.2.2.2.2.2.2))) (va_A ((rsW K xq xl mq cq iq sq xLang xCount) ++ (mkW K mq m0 m1 m2 m3 m5 m6 m7 m8 m9 kHeads kTails kNext kSlots kReached kClassOf kFinerOf kMarkOf kFirstOf kMarkSlots kClasses)) sz)) 7 345 (va_A ((rsW K xq xl mq cq iq sq xLang xCount) ++ (mkW K mq m0 m1 m2 m3 m5 m6 m7 m8 m9 kHeads kTails kNext kSlots kReached kClassOf kFinerOf kMarkOf kFirstOf kMarkSlots kClasses)) sz) := by
  unfold f_RS_again at hf
  refine vx_ofW (cc := b_RS_again) (maxL := 2) (ret := (some .int)) (by decide) rfl ?_
  intro p e s m args below meth c s₁ B hml htab hv
  obtain ⟨⟨rfl, hsz, hP, hK, hD0⟩, hX, hZ, hT0⟩ := hv
  subst hsz
  have hx := B.exec
  have hb := B.bytes
  have hts : ∀ w ∈ gW, w.before _ s = true := fun w hw => atoms_spec (ws := w0_RS_again) B.pre w (List.mem_cons_of_mem _ hw)
  have hown : s.vm.findClass "RegularSolver" = some m.cls := findClass_of_methodNamed B.named
  have hD := hD0.self (sz := s.heap.size)
  generalize hAe : va_A ((rsW K xq xl mq cq iq sq xLang xCount) ++ (mkW K mq m0 m1 m2 m3 m5 m6 m7 m8 m9 kHeads kTails kNext kSlots kReached kClassOf kFinerOf kMarkOf kFirstOf kMarkSlots kClasses)) s.heap.size = A at hD hZ hT0 ⊢
  have hA : ∀ q : Nat, s.heap.size ≤ q → A q := fun q h => by rw [← hAe]; exact Or.inr h
  have hS : va_S A s.heap s.heap [] := va_S.rf
  have hT : ∀ (q i : Nat), i < 60 → xLang i = some q → ∀ (H : Heap) (locs : List Loc), va_S A s.heap H locs → va_P D vwCl (auT K T q) H := fun q i hi hq _ _ hS => ro_of (hT0 q i hi hq).1 (hT0 q i hi hq).2 hS
  have hTw : ∀ (q i : Nat), i < 60 → xLang i = some q → gAw A (auT K T q) := fun q i hi hq => (hT0 q i hi hq).2
  have hl := lv_entry [.ref xq, .int p0] (n := 2) (Nat.le_of_ble_eq_true rfl)
  rw [lg_entry_eq]
  generalize (lg_sl [.ref xq, .int p0] ++ List.replicate (2 - (lg_sl [.ref xq, .int p0]).length) Slot.unset).toArray = ls at hl ⊢
  refine x_gen (P := fun H => W p l e _ s m _ below meth c H [] 0 0 _ _) ?_
  intro H hHe
  rw [← hHe] at hP
  have hS : va_S A s.heap H [] := by rw [hHe]; exact hS
  refine lv_aload_n hx hb d_RS_again_0 rfl (lv_at hl 0 rfl) ?_
  refine lv_iload_n hx hb d_RS_again_1 rfl (lv_at hl 1 rfl) ?_
  obtain ⟨u1, eu1, hf⟩ := obd hf
  refine x_call (vx_runV (As := [.int p0]) (rest := []) ⟨hx, hb, hml, hown, hts⟩ (c_RS_requireLanguage l hl0 H.size eu1) (gV 1 hts cd_RS_requireLanguage ml_RS_70 im_RS_requireLanguage se_RS_requireLanguage ini_RS rfl rfl pd_RS_requireLanguage ⟨Nat.le_of_ble_eq_true rfl, Nat.le_of_ble_eq_true rfl⟩) ⟨xPre_blind, va_recv hK (vaL hP) (ci := 10) (q0 := 0) rfl rfl, xPre_of (T := fun _ => (0, 0, 0, 0, fun _ => 0, 0, fun _ => 0)) (asg := fun _ => none) (vaL hP) hK (vdL hD) hS hA hX hZ xT0⟩ rfl rfl hl.1 rfl (lv_room (Nat.le_of_ble_eq_true rfl)) d_RS_again_2 ⟨(by decide : 0 + 1 ≤ 7), (by decide : 0 + 6 ≤ 345)⟩) (vdL hD) hS hA (fun E x ex g2 ce q9 H1 locs hP1 hD1 hk1 hS1 hq1 hq2 hq3 => ?_) (fun y1 ev g2 H1 locs hP1 hD1 hk1 hS1 => ?_)
  · subst ex
    have hr := (Option.some.inj hf).symm
    obtain ⟨hP, hD⟩ := va_keepR hP hD (va_sub (vdL hD) hS hA) hk1 hP1 hD1
    have hS := hS1
    generalize H1 = H at hP hS hq1 ⊢
    exact x_out htab B.notSynchronized hq1 hq2 hq3 (m5, m6) hr hP hK hD hS (by decide : 0 + 1 ≤ 7) (by decide : 0 + 6 ≤ 345)
  subst ev
  replace hf := oel hf
  obtain ⟨hP, hD⟩ := va_keepR hP hD (va_sub (vdL hD) hS hA) hk1 hP1 hD1
  have hS := hS1
  generalize H1 = H at hP hS ⊢
  have hP : va_P D vwCl ((rsW K xq xl mq cq iq sq xLang xCount) ++ (mkW K mq m0 m1 m2 m3 m5 m6 m7 m8 m9 kHeads kTails kNext kSlots kReached kClassOf kFinerOf kMarkOf kFirstOf kMarkSlots kClasses)) H := hP
  have hD : va_D A ((rsW K xq xl mq cq iq sq xLang xCount) ++ (mkW K mq m0 m1 m2 m3 m5 m6 m7 m8 m9 kHeads kTails kNext kSlots kReached kClassOf kFinerOf kMarkOf kFirstOf kMarkSlots kClasses)) := hD
  refine lv_aload_n hx hb d_RS_again_5 rfl (lv_at hl 0 rfl) ?_
  obtain ⟨u3, eu3, hf⟩ := obd hf
  refine x_call (vx_runV (As := []) (rest := []) ⟨hx, hb, hml, hown, hts⟩ (c_RS_requireRoom l hl0 H.size eu3) (gV 0 hts cd_RS_requireRoom ml_RS_54 im_RS_requireRoom se_RS_requireRoom ini_RS rfl rfl pd_RS_requireRoom ⟨Nat.le_of_ble_eq_true rfl, Nat.le_of_ble_eq_true rfl⟩) ⟨xPre_blind, va_recv hK (vaL hP) (ci := 10) (q0 := 0) rfl rfl, xPre_of (T := fun _ => (0, 0, 0, 0, fun _ => 0, 0, fun _ => 0)) (asg := fun _ => none) (vaL hP) hK (vdL hD) hS hA hX hZ xT0⟩ rfl rfl hl.1 rfl (lv_room (Nat.le_of_ble_eq_true rfl)) d_RS_again_6 ⟨(by decide : 1 + 1 ≤ 7), (by decide : 6 + 6 ≤ 345)⟩) (vdL hD) hS hA (fun E x ex g4 ce q9 H1 locs hP1 hD1 hk1 hS1 hq1 hq2 hq3 => ?_) (fun y3 ev g4 H1 locs hP1 hD1 hk1 hS1 => ?_)
  · subst ex
    have hr := (Option.some.inj hf).symm
    obtain ⟨hP, hD⟩ := va_keepR hP hD (va_sub (vdL hD) hS hA) hk1 hP1 hD1
    have hS := hS1
    generalize H1 = H at hP hS hq1 ⊢
    exact x_out htab B.notSynchronized hq1 hq2 hq3 (m5, m6) hr hP hK hD hS (by decide : 1 + 1 ≤ 7) (by decide : 6 + 6 ≤ 345)
  subst ev
  replace hf := oel hf
  obtain ⟨hP, hD⟩ := va_keepR hP hD (va_sub (vdL hD) hS hA) hk1 hP1 hD1
  have hS := hS1
  generalize H1 = H at hP hS ⊢
  have hP : va_P D vwCl ((rsW K xq xl mq cq iq sq xLang xCount) ++ (mkW K mq m0 m1 m2 m3 m5 m6 m7 m8 m9 kHeads kTails kNext kSlots kReached kClassOf kFinerOf kMarkOf kFirstOf kMarkSlots kClasses)) H := hP
  have hD : va_D A ((rsW K xq xl mq cq iq sq xLang xCount) ++ (mkW K mq m0 m1 m2 m3 m5 m6 m7 m8 m9 kHeads kTails kNext kSlots kReached kClassOf kFinerOf kMarkOf kFirstOf kMarkSlots kClasses)) := hD
  refine lv_aload_n hx hb d_RS_again_9 rfl (lv_at hl 0 rfl) ?_
  refine lv_aload_n hx hb d_RS_again_10 rfl (lv_at hl 0 rfl) ?_
  refine va_get (D := D) (ci := 10) (v := .ref mq) (C := R_RS) (T := T_RS) (N := 6) hx hb hts in_RS hown hK hP 0 rfl rfl 2 (by decide) (hts _ fl_RS_22) (fun _ h9 => h9) rfl d_RS_again_11 ?_
  refine va_new (ci := 5) (fs := [.int 0, .long 0, .null]) (C := R_Re) (T := T_Re) (N := 3) hx hb hts in_Re t_Re t_Re_ok hown (hts _ cl_RS_88) (hts _ it_Re) (hts _ ini_Re) hK hP hD hS hA rfl (by decide) (by decide : 2 + 1 ≤ 7) (by decide : 12 + 3 ≤ 345) d_RS_again_14 (fun wq H hP hD hS => ?_)
  refine W.widen (k := 3) (n := 15) (by decide) (by decide) ?_
  have hP : va_P D vwCl (((rsW K xq xl mq cq iq sq xLang xCount) ++ (mkW K mq m0 m1 m2 m3 m5 m6 m7 m8 m9 kHeads kTails kNext kSlots kReached kClassOf kFinerOf kMarkOf kFirstOf kMarkSlots kClasses)) ++ [(wq, .inr (5, [.int 0, .long 0, .null]))]) H := hP
  have hD : va_D A (((rsW K xq xl mq cq iq sq xLang xCount) ++ (mkW K mq m0 m1 m2 m3 m5 m6 m7 m8 m9 kHeads kTails kNext kSlots kReached kClassOf kFinerOf kMarkOf kFirstOf kMarkSlots kClasses)) ++ [(wq, .inr (5, [.int 0, .long 0, .null]))]) := hD
  refine lv_dup hx hb d_RS_again_17 rfl ?_
  refine lv_aload_n hx hb d_RS_again_18 rfl (lv_at hl 0 rfl) ?_
  refine va_get (D := D) (ci := 10) (v := .ref xl) (C := R_RS) (T := T_RS) (N := 6) hx hb hts in_RS hown hK hP 0 rfl rfl 0 (by decide) (hts _ fl_RS_11) (fun _ h9 => h9) rfl d_RS_again_19 ?_
  refine lv_iload_n hx hb d_RS_again_22 rfl (lv_at hl 1 rfl) ?_
  obtain ⟨g5, hf⟩ := ogi hf
  refine va_aldq hx hb hK hP 1 3 rfl rfl (gin_in g5) d_RS_again_23 ?_
  obtain ⟨q6, hq6, hf⟩ := oqi hf
  rw [hq6]
  have hTq6 := hT q6 _ (gin_lt g5) hq6
  have hTwq6 := hTw q6 _ (gin_lt g5) hq6
  refine W.eq (g2 := F0 m 24 ls [.ref q6, .ref wq, .ref wq, .ref mq, .ref xq]) rfl ?_
  refine w_callA (va_runI (As := [.ref q6]) (rest := [.ref wq, .ref mq, .ref xq]) ⟨hx, hb, hml, hown, hts⟩ (c_Re_init l H.size) (gI 1 hts cd_Re_init ml_RS_90 im_Re_init ini_Re rfl rfl rfl pd_Re_init ⟨Nat.le_of_ble_eq_true rfl, Nat.le_of_ble_eq_true rfl⟩) ⟨withX_blind wPre_blind, withX_of (wPre_of (vaR hP) hK (vdR hD)) hX⟩ rfl rfl hl.1 rfl (lv_room (Nat.le_of_ble_eq_true rfl)) d_RS_again_24 ⟨(by decide : 3 + 0 ≤ 7), (by decide : 15 + 0 ≤ 345)⟩) (vdR hD) hS hA (fun g0 H1 locs hP1 hD1 hk1 hS1 => ?_)
  obtain ⟨hP, hD⟩ := va_keepL hP hD (va_sub (vdR hD) hS hA) hk1 hP1 hD1
  have hS := hS1
  generalize H1 = H at hP hS ⊢
  have hP : va_P D vwCl ((rsW K xq xl mq cq iq sq xLang xCount) ++ ((mkW K mq m0 m1 m2 m3 m5 m6 m7 m8 m9 kHeads kTails kNext kSlots kReached kClassOf kFinerOf kMarkOf kFirstOf kMarkSlots kClasses) ++ (reW K wq q6 0 0))) H := vpAs hP
  have hD : va_D A ((rsW K xq xl mq cq iq sq xLang xCount) ++ ((mkW K mq m0 m1 m2 m3 m5 m6 m7 m8 m9 kHeads kTails kNext kSlots kReached kClassOf kFinerOf kMarkOf kFirstOf kMarkSlots kClasses) ++ (reW K wq q6 0 0))) := vdAs hD
  obtain ⟨u, eu, hf⟩ := obd hf
  refine w_callA (va_runV (As := [.ref wq]) (rest := [.ref xq]) ⟨hx, hb, hml, hown, hts⟩ (c_Mk_make_Re l H.size eu) (gV 1 hts cd_Mk_make ml_RS_62 im_Mk_make se_Mk_make ini_Mk rfl rfl pd_Mk_make ⟨Nat.le_of_ble_eq_true rfl, Nat.le_of_ble_eq_true rfl⟩) ⟨withX_blind wPreR_blind, va_recv hK (vaL (vaR hP)) (ci := 6) (q0 := 0) rfl rfl, withX_of (wPreR_of (vaR hP) hK (vdR hD) hS hA (hTq6 _ _ hS) hTwq6) hX⟩ rfl rfl hl.1 rfl (lv_room (Nat.le_of_ble_eq_true rfl)) d_RS_again_27 ⟨(by decide : 3 + 3 ≤ 7), (by decide : 15 + 324 ≤ 345)⟩) (vdR hD) hS hA (fun gm H1 locs hP1 hD1 hk1 hS1 => ?_)
  obtain ⟨hP, hD⟩ := va_keepL hP hD (va_sub (vdR hD) hS hA) hk1 hP1 hD1
  have hS := hS1
  generalize H1 = H at hP hS ⊢
  obtain ⟨o, um⟩ := u
  cases o with
  | none =>
    replace hf := oqn hf
    have hr := (Option.some.inj hf).symm
    refine W.eq (g2 := F0 m 30 ls [.null, .ref xq]) rfl ?_
    refine x_call (vx_runV (As := [.null]) (rest := []) ⟨hx, hb, hml, hown, hts⟩ (c_RS_keep_N (n := n) l hl0 H.size rfl) (gV 1 hts cd_RS_keep ml_RS_66 im_RS_keep se_RS_keep ini_RS rfl rfl pd_RS_keep ⟨Nat.le_of_ble_eq_true rfl, Nat.le_of_ble_eq_true rfl⟩) ⟨xPre_blind, va_recv hK (vaL hP) (ci := 10) (q0 := 0) rfl rfl, xPre_of (T := fun _ => (0, 0, 0, 0, fun _ => 0, 0, fun _ => 0)) (asg := fun _ => none) (vaL hP) hK (vdL hD) hS hA hX hZ xT0⟩ rfl rfl hl.1 rfl (lv_room (Nat.le_of_ble_eq_true rfl)) d_RS_again_30 ⟨(by decide : 6 + 1 ≤ 7), (by decide : 339 + 6 ≤ 345)⟩) (vdL hD) hS hA (fun E x ex g0 ce q9 H1 locs hP1 hD1 hk1 hS1 hq1 hq2 hq3 => ?_) (fun yk ev => nomatch ev)
    cases ex
    obtain ⟨hP, hD⟩ := va_keepR hP hD (va_sub (vdL hD) hS hA) hk1 hP1 hD1
    have hS := hS1
    generalize H1 = H at hP hS hq1 ⊢
    exact x_out htab B.notSynchronized hq1 hq2 hq3 (gm.1, gm.2.1) hr (va_P.app (vaL hP) (vaL (vaL (vaR hP)))) hK (vdFst hD) hS (by decide : 6 + 1 ≤ 7) (by decide : 339 + 6 ≤ 345)
  | some v =>
    replace hf := oqs hf
    refine W.eq (g2 := F0 m 30 ls [.ref gm.2.2.1, .ref xq]) rfl ?_
    obtain ⟨gk, hf⟩ := ogi hf
    have hr := (Option.some.inj hf).symm
    refine x_call (vx_runV (As := [.ref gm.2.2.1]) (rest := []) ⟨hx, hb, hml, hown, hts⟩ (c_RS_keep_R (n := n) (T := fun _ => (gm.2.2.2.1, gm.2.2.2.2, v.1, (4 * v.1).toNatClampNeg, v.2.2.1, v.2.1, v.2.2.2)) (qz := gm.2.2.1) l hl0 H.size (keepR_ok gk)) (gV 1 hts cd_RS_keep ml_RS_66 im_RS_keep se_RS_keep ini_RS rfl rfl pd_RS_keep ⟨Nat.le_of_ble_eq_true rfl, Nat.le_of_ble_eq_true rfl⟩) ⟨xPre_blind, va_recv hK (vaL hP) (ci := 10) (q0 := 0) rfl rfl, xPre_of2 (vaL hP) hK (vdL hD) hS hA hX hZ (fun q i hi hq => by obtain rfl := Option.some.inj hq; exact ⟨vaR (vaR hP), (gAw_ofR hP hD).right⟩)⟩ rfl rfl hl.1 rfl (lv_room (Nat.le_of_ble_eq_true rfl)) d_RS_again_30 ⟨(by decide : 6 + 0 ≤ 7), (by decide : 339 + 0 ≤ 345)⟩) (vdL hD) hS hA (fun E x ex g0 ce q9 H1 locs hP1 hD1 hk1 hS1 hq1 hq2 hq3 => nomatch ex) (fun yk ev g0 H1 locs hP1 hD1 hk1 hS1 => ?_)
    cases ev
    obtain ⟨hP, hD⟩ := va_keepR hP hD (va_sub (vdL hD) hS hA) hk1 hP1 hD1
    have hS := hS1
    generalize H1 = H at hP hS ⊢
    have hP : va_P D vwCl (((rsW K xq xl mq cq iq sq (va_up xLang xCount.toNatClampNeg (some gm.2.2.1)) (xCount + 1)) ++ (mkW K mq m0 m1 m2 m3 gm.1 gm.2.1 m7 m8 m9 um.1 um.2.1 um.2.2.1 um.2.2.2.1 um.2.2.2.2.1 um.2.2.2.2.2.1 um.2.2.2.2.2.2.1 um.2.2.2.2.2.2.2.1 um.2.2.2.2.2.2.2.2.1 um.2.2.2.2.2.2.2.2.2.1 um.2.2.2.2.2.2.2.2.2.2.1)) ++ (auW K gm.2.2.1 gm.2.2.2.1 gm.2.2.2.2 v.1 (4 * v.1).toNatClampNeg v.2.2.1 v.2.1 v.2.2.2)) H := hP.sub [0, 1, 2, 3, 4, 5, 6, 7, 8, 9, 10, 11, 13, 14, 15] rfl
    have hD : va_D A (((rsW K xq xl mq cq iq sq (va_up xLang xCount.toNatClampNeg (some gm.2.2.1)) (xCount + 1)) ++ (mkW K mq m0 m1 m2 m3 gm.1 gm.2.1 m7 m8 m9 um.1 um.2.1 um.2.2.1 um.2.2.2.1 um.2.2.2.2.1 um.2.2.2.2.2.1 um.2.2.2.2.2.2.1 um.2.2.2.2.2.2.2.1 um.2.2.2.2.2.2.2.2.1 um.2.2.2.2.2.2.2.2.2.1 um.2.2.2.2.2.2.2.2.2.2.1)) ++ (auW K gm.2.2.1 gm.2.2.2.1 gm.2.2.2.2 v.1 (4 * v.1).toNatClampNeg v.2.2.1 v.2.1 v.2.2.2)) := hD.sub [0, 1, 2, 3, 4, 5, 6, 7, 8, 9, 10, 11, 13, 14, 15] (by decide) rfl
    refine W.widen (k := 7) (n := 345) (by decide) (by decide) ?_
    exact vx_ret (W.iret hx hb B.returns (fun t ht hW => ⟨_, hr, ⟨gm, rfl, by rw [ht]; exact hP, va_K.moved hW.alike hK, hD⟩, hS.F ht⟩) hS.2.2 d_RS_again_33 (hlocks := B.notSynchronized))
def f_RS_not (n : Nat) (p0 : Int32) (xLang : Nat → Option Nat) (xCount : Int32) (T : auTab) : Option ((String × (Unit)) ⊕ (Int32 × Nat × Int64 × (Nat → Int64) × Int32)) :=
  (f_RS_requireLanguage n p0 xCount).bind fun u1 => u1.elim (fun x => some (.inl (x.1, ()))) fun y1 =>
  (f_RS_requireRoom n xCount).bind fun u3 => u3.elim (fun x => some (.inl (x.1, ()))) fun y3 =>
  ogd (gin p0 60) <|
  oq (xLang p0.toNatClampNeg) none fun q6 =>
  (f_Au_opposite n (T q6).2.2.1 (T q6).2.2.2.1 (T q6).2.2.2.2.1 (T q6).2.2.2.2.2.1).bind fun u =>
  ogd (gin xCount 60) <|
  some (.inr ((xCount + 1) - 1, q6, u.1, u.2, xCount + 1))
set_option maxHeartbeats 400000 in
set_option maxRecDepth 100000 in
theorem c_RS_not (l : Launch) (hl0 : l.stackTraces = false) {D : va_G} {K : Nat → ClassId} {T : auTab} {n : Nat} {xq : Nat} {xl : Nat} {mq : Nat} {cq : Nat} {iq : Nat} {sq : Nat} {xLang : Nat → Option Nat} {xCount : Int32} {p0 : Int32}  {r : (String × (Unit)) ⊕ (Int32 × Nat × Int64 × (Nat → Int64) × Int32)} (sz : Nat) (hf : f_RS_not n p0 xLang xCount T = some r) : vx_Met l y_RS_not w0_RS_not ({ frames := 7, cells := 4, slots := 80, locals := 103 }) (xPre D K T [.ref xq, .int p0] (rsW K xq xl mq cq iq sq xLang xCount) 60 xLang sz) (xPost D K r (fun v (g : Nat × Nat) => some (.int v.1)) (fun v g => (rsW K xq xl mq cq iq sq (va_up xLang xCount.toNatClampNeg (some g.1)) v.2.2.2.2) ++ (auoW K g.1 (T v.2.1).1 g.2 (T v.2.1).2.2.1 v.2.2.1 v.2.2.2.1)) (va_A (rsW K xq xl mq cq iq sq xLang xCount) sz)) (xExc D K r (fun u (g : Unit) => (rsW K xq xl mq cq iq sq xLang xCount)) (va_A (rsW K xq xl mq cq iq sq xLang xCount) sz)) 4 80 (va_A (rsW K xq xl mq cq iq sq xLang xCount) sz) := by
  unfold f_RS_not at hf
  refine vx_ofW (cc := b_RS_not) (maxL := 2) (ret := (some .int)) (by decide) rfl ?_
  intro p e s m args below meth c s₁ B hml htab hv
  obtain ⟨⟨rfl, hsz, hP, hK, hD0⟩, hX, hZ, hT0⟩ := hv
  subst hsz
  have hx := B.exec
  have hb := B.bytes
  have hts : ∀ w ∈ gW, w.before _ s = true := fun w hw => atoms_spec (ws := w0_RS_not) B.pre w (List.mem_cons_of_mem _ hw)
  have hown : s.vm.findClass "RegularSolver" = some m.cls := findClass_of_methodNamed B.named
  have hD := hD0.self (sz := s.heap.size)
  generalize hAe : va_A (rsW K xq xl mq cq iq sq xLang xCount) s.heap.size = A at hD hZ hT0 ⊢
  have hA : ∀ q : Nat, s.heap.size ≤ q → A q := fun q h => by rw [← hAe]; exact Or.inr h
  have hS : va_S A s.heap s.heap [] := va_S.rf
  have hT : ∀ (q i : Nat), i < 60 → xLang i = some q → ∀ (H : Heap) (locs : List Loc), va_S A s.heap H locs → va_P D vwCl (auT K T q) H := fun q i hi hq _ _ hS => ro_of (hT0 q i hi hq).1 (hT0 q i hi hq).2 hS
  have hTw : ∀ (q i : Nat), i < 60 → xLang i = some q → gAw A (auT K T q) := fun q i hi hq => (hT0 q i hi hq).2
  have hl := lv_entry [.ref xq, .int p0] (n := 2) (Nat.le_of_ble_eq_true rfl)
  rw [lg_entry_eq]
  generalize (lg_sl [.ref xq, .int p0] ++ List.replicate (2 - (lg_sl [.ref xq, .int p0]).length) Slot.unset).toArray = ls at hl ⊢
  refine x_gen (P := fun H => W p l e _ s m _ below meth c H [] 0 0 _ _) ?_
  intro H hHe
  rw [← hHe] at hP
  have hS : va_S A s.heap H [] := by rw [hHe]; exact hS
  refine lv_aload_n hx hb d_RS_not_0 rfl (lv_at hl 0 rfl) ?_
  refine lv_iload_n hx hb d_RS_not_1 rfl (lv_at hl 1 rfl) ?_
  obtain ⟨u1, eu1, hf⟩ := obd hf
  refine x_call (vx_runV (As := [.int p0]) (rest := []) ⟨hx, hb, hml, hown, hts⟩ (c_RS_requireLanguage l hl0 H.size eu1) (gV 1 hts cd_RS_requireLanguage ml_RS_70 im_RS_requireLanguage se_RS_requireLanguage ini_RS rfl rfl pd_RS_requireLanguage ⟨Nat.le_of_ble_eq_true rfl, Nat.le_of_ble_eq_true rfl⟩) ⟨xPre_blind, va_recv hK hP (ci := 10) (q0 := 0) rfl rfl, xPre_of (T := fun _ => (0, 0, 0, 0, fun _ => 0, 0, fun _ => 0)) (asg := fun _ => none) hP hK hD hS hA hX hZ xT0⟩ rfl rfl hl.1 rfl (lv_room (Nat.le_of_ble_eq_true rfl)) d_RS_not_2 ⟨(by decide : 0 + 1 ≤ 4), (by decide : 0 + 6 ≤ 80)⟩) hD hS hA (fun E x ex g2 ce q9 H1 locs hP1 hD1 hk1 hS1 hq1 hq2 hq3 => ?_) (fun y1 ev g2 H1 locs hP1 hD1 hk1 hS1 => ?_)
  · subst ex
    have hr := (Option.some.inj hf).symm
    obtain ⟨hP, hD⟩ : _ ∧ _ := ⟨hP1, hD1.weaken (fun _ q _ h => va_sub hD hS hA q.1 h)⟩
    have hS := hS1
    generalize H1 = H at hP hS hq1 ⊢
    exact x_out htab B.notSynchronized hq1 hq2 hq3 () hr hP hK hD hS (by decide : 0 + 1 ≤ 4) (by decide : 0 + 6 ≤ 80)
  subst ev
  replace hf := oel hf
  obtain ⟨hP, hD⟩ : _ ∧ _ := ⟨hP1, hD1.weaken (fun _ q _ h => va_sub hD hS hA q.1 h)⟩
  have hS := hS1
  generalize H1 = H at hP hS ⊢
  have hP : va_P D vwCl (rsW K xq xl mq cq iq sq xLang xCount) H := hP
  have hD : va_D A (rsW K xq xl mq cq iq sq xLang xCount) := hD
  refine lv_aload_n hx hb d_RS_not_5 rfl (lv_at hl 0 rfl) ?_
  obtain ⟨u3, eu3, hf⟩ := obd hf
  refine x_call (vx_runV (As := []) (rest := []) ⟨hx, hb, hml, hown, hts⟩ (c_RS_requireRoom l hl0 H.size eu3) (gV 0 hts cd_RS_requireRoom ml_RS_54 im_RS_requireRoom se_RS_requireRoom ini_RS rfl rfl pd_RS_requireRoom ⟨Nat.le_of_ble_eq_true rfl, Nat.le_of_ble_eq_true rfl⟩) ⟨xPre_blind, va_recv hK hP (ci := 10) (q0 := 0) rfl rfl, xPre_of (T := fun _ => (0, 0, 0, 0, fun _ => 0, 0, fun _ => 0)) (asg := fun _ => none) hP hK hD hS hA hX hZ xT0⟩ rfl rfl hl.1 rfl (lv_room (Nat.le_of_ble_eq_true rfl)) d_RS_not_6 ⟨(by decide : 1 + 1 ≤ 4), (by decide : 6 + 6 ≤ 80)⟩) hD hS hA (fun E x ex g4 ce q9 H1 locs hP1 hD1 hk1 hS1 hq1 hq2 hq3 => ?_) (fun y3 ev g4 H1 locs hP1 hD1 hk1 hS1 => ?_)
  · subst ex
    have hr := (Option.some.inj hf).symm
    obtain ⟨hP, hD⟩ : _ ∧ _ := ⟨hP1, hD1.weaken (fun _ q _ h => va_sub hD hS hA q.1 h)⟩
    have hS := hS1
    generalize H1 = H at hP hS hq1 ⊢
    exact x_out htab B.notSynchronized hq1 hq2 hq3 () hr hP hK hD hS (by decide : 1 + 1 ≤ 4) (by decide : 6 + 6 ≤ 80)
  subst ev
  replace hf := oel hf
  obtain ⟨hP, hD⟩ : _ ∧ _ := ⟨hP1, hD1.weaken (fun _ q _ h => va_sub hD hS hA q.1 h)⟩
  have hS := hS1
  generalize H1 = H at hP hS ⊢
  have hP : va_P D vwCl (rsW K xq xl mq cq iq sq xLang xCount) H := hP
  have hD : va_D A (rsW K xq xl mq cq iq sq xLang xCount) := hD
  refine lv_aload_n hx hb d_RS_not_9 rfl (lv_at hl 0 rfl) ?_
  refine lv_aload_n hx hb d_RS_not_10 rfl (lv_at hl 0 rfl) ?_
  refine va_get (D := D) (ci := 10) (v := .ref xl) (C := R_RS) (T := T_RS) (N := 6) hx hb hts in_RS hown hK hP 0 rfl rfl 0 (by decide) (hts _ fl_RS_11) (fun _ h9 => h9) rfl d_RS_not_11 ?_
  refine lv_iload_n hx hb d_RS_not_14 rfl (lv_at hl 1 rfl) ?_
  obtain ⟨g5, hf⟩ := ogi hf
  refine va_aldq hx hb hK hP 1 3 rfl rfl (gin_in g5) d_RS_not_15 ?_
  obtain ⟨q6, hq6, hf⟩ := oqi hf
  rw [hq6]
  have hTq6 := hT q6 _ (gin_lt g5) hq6
  have hTwq6 := hTw q6 _ (gin_lt g5) hq6
  refine W.eq (g2 := F0 m 16 ls [.ref q6, .ref xq]) rfl ?_
  obtain ⟨u, eu, hf⟩ := obd hf
  refine w_callA (va_runV (As := []) (rest := [.ref xq]) ⟨hx, hb, hml, hown, hts⟩ (c_Au_opposite l H.size eu) (gV 0 hts cd_Au_opposite ml_RS_84 im_Au_opposite se_Au_opposite ini_Au rfl rfl pd_Au_opposite ⟨Nat.le_of_ble_eq_true rfl, Nat.le_of_ble_eq_true rfl⟩) ⟨wPreR_blind, va_recv hK (hTq6 _ _ hS) (ci := 1) (q0 := 0) rfl rfl, wPreR_of va_P0 hK va_nil hS hA (hTq6 _ _ hS) hTwq6⟩ rfl rfl hl.1 rfl (lv_room (Nat.le_of_ble_eq_true rfl)) d_RS_not_16 ⟨(by decide : 2 + 2 ≤ 4), (by decide : 12 + 68 ≤ 80)⟩) va_nil hS hA (fun gm H1 locs hP1 hD1 hk1 hS1 => ?_)
  obtain ⟨hP, hD⟩ : va_P D vwCl ((rsW K xq xl mq cq iq sq xLang xCount) ++ (auoW K gm.1 (T q6).1 gm.2 (T q6).2.2.1 u.1 u.2)) H1 ∧ va_D A ((rsW K xq xl mq cq iq sq xLang xCount) ++ (auoW K gm.1 (T q6).1 gm.2 (T q6).2.2.1 u.1 u.2)) := by
    have h9 := va_keepL (X := (rsW K xq xl mq cq iq sq xLang xCount)) (Y := []) (by rw [List.append_nil]; exact hP) (by rw [List.append_nil]; exact hD) (va_sub va_nil hS hA) hk1 hP1 hD1
    exact h9
  have hS := hS1
  generalize H1 = H at hP hS ⊢
  refine W.eq (g2 := F0 m 19 ls [.ref gm.1, .ref xq]) rfl ?_
  obtain ⟨gk, hf⟩ := ogi hf
  have hr := (Option.some.inj hf).symm
  refine x_call (vx_runV (As := [.ref gm.1]) (rest := []) ⟨hx, hb, hml, hown, hts⟩ (c_RS_keep_R (n := n) (T := fun _ => ((T q6).1, gm.2, (T q6).2.2.1, (T q6).2.2.2.1, (T q6).2.2.2.2.1, u.1, u.2)) (qz := gm.1) l hl0 H.size (keepR_ok gk)) (gV 1 hts cd_RS_keep ml_RS_66 im_RS_keep se_RS_keep ini_RS rfl rfl pd_RS_keep ⟨Nat.le_of_ble_eq_true rfl, Nat.le_of_ble_eq_true rfl⟩) ⟨xPre_blind, va_recv hK (vaL hP) (ci := 10) (q0 := 0) rfl rfl, xPre_of2 (vaL hP) hK (vdL hD) hS hA hX hZ (fun q i hi hq => by obtain rfl := Option.some.inj hq; exact ⟨au_of_o (vaR hP) (vaC (hTq6 _ _ hS) 1 rfl), gAw_of_o (gAw_ofR hP hD) (gAw.mono (hTwq6.cell 1 rfl) (va_sub (vdL hD) hS hA))⟩)⟩ rfl rfl hl.1 rfl (lv_room (Nat.le_of_ble_eq_true rfl)) d_RS_not_19 ⟨(by decide : 4 + 0 ≤ 4), (by decide : 80 + 0 ≤ 80)⟩) (vdL hD) hS hA (fun E x ex g0 ce q9 H1 locs hP1 hD1 hk1 hS1 hq1 hq2 hq3 => nomatch ex) (fun yk ev g0 H1 locs hP1 hD1 hk1 hS1 => ?_)
  cases ev
  obtain ⟨hP, hD⟩ := va_keepR hP hD (va_sub (vdL hD) hS hA) hk1 hP1 hD1
  have hS := hS1
  generalize H1 = H at hP hS ⊢
  refine W.widen (k := 4) (n := 80) (by decide) (by decide) ?_
  exact vx_ret (W.iret hx hb B.returns (fun t ht hW => ⟨_, hr, ⟨gm, rfl, by rw [ht]; exact hP, va_K.moved hW.alike hK, hD⟩, hS.F ht⟩) hS.2.2 d_RS_not_22 (hlocks := B.notSynchronized))
