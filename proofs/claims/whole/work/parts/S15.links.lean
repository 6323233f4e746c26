/-! the tables say what the links are -/
theorem lw_i1 {w : Cond} (h : w ∈ tables_1_1) : w ∈ lw_tbl := List.mem_append_right _ (List.mem_append_left _ h)
theorem lw_i2 {w : Cond} (h : w ∈ tables_1_2) : w ∈ lw_tbl := List.mem_append_right _ (List.mem_append_right _ (List.mem_append_left _ h))
theorem lw_i3 {w : Cond} (h : w ∈ tables_1_3) : w ∈ lw_tbl := List.mem_append_right _ (List.mem_append_right _ (List.mem_append_right _ (List.mem_append_left _ h)))
theorem lw_i4 {w : Cond} (h : w ∈ tables_1_4) : w ∈ lw_tbl := List.mem_append_right _ (List.mem_append_right _ (List.mem_append_right _ (List.mem_append_right _ (List.mem_append_left _ h))))
theorem lw_i5 {w : Cond} (h : w ∈ tables_1_5) : w ∈ lw_tbl := List.mem_append_right _ (List.mem_append_right _ (List.mem_append_right _ (List.mem_append_right _ (List.mem_append_right _ (List.mem_append_left _ h)))))
theorem lw_i6 {w : Cond} (h : w ∈ tables_1_6) : w ∈ lw_tbl := List.mem_append_right _ (List.mem_append_right _ (List.mem_append_right _ (List.mem_append_right _ (List.mem_append_right _ (List.mem_append_right _ (List.mem_append_left _ h))))))
theorem lw_i7 {w : Cond} (h : w ∈ tables_1_7) : w ∈ lw_tbl := List.mem_append_right _ (List.mem_append_right _ (List.mem_append_right _ (List.mem_append_right _ (List.mem_append_right _ (List.mem_append_right _ (List.mem_append_right _ (h)))))))
theorem lw_s1 {q : MethodName × Nat} (h : q ∈ lw_privs_1) : Cond.selects q.1.cls q.1 q.1 ∈ lw_tbl := List.mem_append_left _ (List.mem_map.mpr ⟨q, List.mem_append_left _ h, rfl⟩)
theorem lw_s2 {q : MethodName × Nat} (h : q ∈ lw_privs_2) : Cond.selects q.1.cls q.1 q.1 ∈ lw_tbl := List.mem_append_left _ (List.mem_map.mpr ⟨q, List.mem_append_right _ (List.mem_append_left _ h), rfl⟩)
theorem lw_s3 {q : MethodName × Nat} (h : q ∈ lw_privs_3) : Cond.selects q.1.cls q.1 q.1 ∈ lw_tbl := List.mem_append_left _ (List.mem_map.mpr ⟨q, List.mem_append_right _ (List.mem_append_right _ (List.mem_append_left _ h)), rfl⟩)
theorem lw_s4 {q : MethodName × Nat} (h : q ∈ lw_privs_4) : Cond.selects q.1.cls q.1 q.1 ∈ lw_tbl := List.mem_append_left _ (List.mem_map.mpr ⟨q, List.mem_append_right _ (List.mem_append_right _ (List.mem_append_right _ (List.mem_append_left _ h))), rfl⟩)
theorem lw_s5 {q : MethodName × Nat} (h : q ∈ lw_privs_5) : Cond.selects q.1.cls q.1 q.1 ∈ lw_tbl := List.mem_append_left _ (List.mem_map.mpr ⟨q, List.mem_append_right _ (List.mem_append_right _ (List.mem_append_right _ (List.mem_append_right _ (List.mem_append_left _ h)))), rfl⟩)
theorem lw_s6 {q : MethodName × Nat} (h : q ∈ lw_privs_6) : Cond.selects q.1.cls q.1 q.1 ∈ lw_tbl := List.mem_append_left _ (List.mem_map.mpr ⟨q, List.mem_append_right _ (List.mem_append_right _ (List.mem_append_right _ (List.mem_append_right _ (List.mem_append_right _ (List.mem_append_left _ h))))), rfl⟩)
theorem lw_s7 {q : MethodName × Nat} (h : q ∈ lw_privs_7) : Cond.selects q.1.cls q.1 q.1 ∈ lw_tbl := List.mem_append_left _ (List.mem_map.mpr ⟨q, List.mem_append_right _ (List.mem_append_right _ (List.mem_append_right _ (List.mem_append_right _ (List.mem_append_right _ (List.mem_append_right _ (List.mem_append_left _ h)))))), rfl⟩)
theorem lw_s8 {q : MethodName × Nat} (h : q ∈ lw_privs_8) : Cond.selects q.1.cls q.1 q.1 ∈ lw_tbl := List.mem_append_left _ (List.mem_map.mpr ⟨q, List.mem_append_right _ (List.mem_append_right _ (List.mem_append_right _ (List.mem_append_right _ (List.mem_append_right _ (List.mem_append_right _ (List.mem_append_right _ (h))))))), rfl⟩)
def am_FL (q : Nat × Nat × Nat × Nat × Nat) : Prop := ∃ (C : String) (T : u_T) (N : Nat), vwCl[q.2.2.1]? = some (C, T, N) ∧ q.2.2.2.1 < N ∧ (T q.2.2.2.1).1 = C ∧ Cond.fieldLink (am_cn q.1) q.2.1 C (T q.2.2.2.1).2.1 (T q.2.2.2.1).2.2.1 ∈ lw_tbl ∧ am_isr q.2.2.1 q.2.2.2.1 = Nat.beq q.2.2.2.2 1 ∧ q.2.2.1 < 8
def am_FP (q : Nat × Nat × Nat × Nat) : Prop := ∃ (C : String) (T : u_T) (N : Nat), vwCl[q.2.2.1]? = some (C, T, N) ∧ q.2.2.2 < N ∧ (T q.2.2.2).1 = C ∧ Cond.fieldLink (am_cn q.1) (q.2.1 / 2) C (T q.2.2.2).2.1 (T q.2.2.2).2.2.1 ∈ lw_tbl ∧ am_isr q.2.2.1 q.2.2.2 = false ∧ q.2.2.1 < 8 ∧ (T q.2.2.2).2.2.2 = false ∧ parseFieldDescriptor (T q.2.2.2).2.2.1 = some (cond (Nat.beq (q.2.1 % 2) 1) .boolean .int)
def am_GN (n : Nat) : String := (["FIRST_VERB", "LAST_VERB", "ASKS"] : List String).getD (n - 200) ""
def am_GL (q : Nat × Nat × Nat) : Prop := Cond.fieldLinkNest (am_cn q.1) q.2.1 "LentHands" (am_GN q.2.2) "[I" "LentHands" ∈ lw_tbl ∧ 200 ≤ q.2.2 ∧ q.2.2 < 203
def am_KL (q : Nat × Nat × Int) : Prop := Cond.constant (am_cn q.1) q.2.1 (Int32.ofInt q.2.2) ∈ lw_tbl
def am_AC (q : Nat × Nat) : Prop := Cond.methodLink (am_cn q.1) q.2 arraycopyName ∈ lw_tbl
def am_XL (q : Nat × Nat) : Prop := Cond.methodLink (am_cn q.1) q.2 Lib.Math.max.name ∈ lw_tbl
def am_NL (q : Nat × Nat) : Prop := Cond.methodLink (am_cn q.1) q.2 Lib.Math.min.name ∈ lw_tbl
theorem am_fl_0 : am_FL (7, 7, 7, 0, 1) := ⟨_, _, _, rfl, by decide, rfl, lw_i4 (List.mem_of_getElem? (i := 135) rfl), rfl, by decide⟩
theorem am_fl_1 : am_FL (7, 80, 7, 16, 0) := ⟨_, _, _, rfl, by decide, rfl, lw_i4 (List.mem_of_getElem? (i := 151) rfl), rfl, by decide⟩
theorem am_fl_2 : am_FL (7, 31, 7, 9, 1) := ⟨_, _, _, rfl, by decide, rfl, lw_i4 (List.mem_of_getElem? (i := 144) rfl), rfl, by decide⟩
theorem am_fl_3 : am_FL (7, 83, 7, 17, 0) := ⟨_, _, _, rfl, by decide, rfl, lw_i4 (List.mem_of_getElem? (i := 152) rfl), rfl, by decide⟩
theorem am_fl_4 : am_FL (7, 86, 7, 19, 0) := ⟨_, _, _, rfl, by decide, rfl, lw_i4 (List.mem_of_getElem? (i := 154) rfl), rfl, by decide⟩
theorem am_fl_5 : am_FL (7, 167, 7, 12, 0) := ⟨_, _, _, rfl, by decide, rfl, lw_i4 (List.mem_of_getElem? (i := 147) rfl), rfl, by decide⟩
theorem am_fl_6 : am_FL (7, 209, 7, 20, 0) := ⟨_, _, _, rfl, by decide, rfl, lw_i4 (List.mem_of_getElem? (i := 155) rfl), rfl, by decide⟩
theorem am_fl_7 : am_FL (7, 197, 7, 18, 0) := ⟨_, _, _, rfl, by decide, rfl, lw_i4 (List.mem_of_getElem? (i := 153) rfl), rfl, by decide⟩
theorem am_fl_8 : am_FL (7, 25, 7, 7, 1) := ⟨_, _, _, rfl, by decide, rfl, lw_i4 (List.mem_of_getElem? (i := 142) rfl), rfl, by decide⟩
theorem am_fl_9 : am_FL (7, 224, 7, 14, 0) := ⟨_, _, _, rfl, by decide, rfl, lw_i4 (List.mem_of_getElem? (i := 149) rfl), rfl, by decide⟩
theorem am_fl_10 : am_FL (7, 227, 7, 24, 0) := ⟨_, _, _, rfl, by decide, rfl, lw_i4 (List.mem_of_getElem? (i := 159) rfl), rfl, by decide⟩
theorem am_fl_11 : am_FL (7, 259, 7, 13, 0) := ⟨_, _, _, rfl, by decide, rfl, lw_i4 (List.mem_of_getElem? (i := 148) rfl), rfl, by decide⟩
theorem am_fl_12 : am_FL (7, 22, 7, 6, 1) := ⟨_, _, _, rfl, by decide, rfl, lw_i4 (List.mem_of_getElem? (i := 141) rfl), rfl, by decide⟩
theorem am_fl_13 : am_FL (7, 28, 7, 8, 1) := ⟨_, _, _, rfl, by decide, rfl, lw_i4 (List.mem_of_getElem? (i := 143) rfl), rfl, by decide⟩
theorem am_fl_14 : am_FL (7, 265, 7, 26, 0) := ⟨_, _, _, rfl, by decide, rfl, lw_i4 (List.mem_of_getElem? (i := 161) rfl), rfl, by decide⟩
theorem am_fl_15 : am_FL (7, 272, 7, 15, 0) := ⟨_, _, _, rfl, by decide, rfl, lw_i4 (List.mem_of_getElem? (i := 150) rfl), rfl, by decide⟩
theorem am_fl_16 : am_FL (7, 212, 7, 21, 0) := ⟨_, _, _, rfl, by decide, rfl, lw_i4 (List.mem_of_getElem? (i := 156) rfl), rfl, by decide⟩
theorem am_fl_17 : am_FL (7, 215, 7, 22, 0) := ⟨_, _, _, rfl, by decide, rfl, lw_i4 (List.mem_of_getElem? (i := 157) rfl), rfl, by decide⟩
theorem am_fl_18 : am_FL (7, 285, 7, 23, 0) := ⟨_, _, _, rfl, by decide, rfl, lw_i4 (List.mem_of_getElem? (i := 158) rfl), rfl, by decide⟩
theorem am_fl_19 : am_FL (7, 40, 7, 25, 0) := ⟨_, _, _, rfl, by decide, rfl, lw_i4 (List.mem_of_getElem? (i := 160) rfl), rfl, by decide⟩
theorem am_fl_20 : am_FL (7, 34, 7, 10, 1) := ⟨_, _, _, rfl, by decide, rfl, lw_i4 (List.mem_of_getElem? (i := 145) rfl), rfl, by decide⟩
theorem am_fl_21 : am_FL (7, 37, 7, 11, 1) := ⟨_, _, _, rfl, by decide, rfl, lw_i4 (List.mem_of_getElem? (i := 146) rfl), rfl, by decide⟩
theorem am_fl_22 : am_FL (7, 58, 7, 4, 0) := ⟨_, _, _, rfl, by decide, rfl, lw_i4 (List.mem_of_getElem? (i := 139) rfl), rfl, by decide⟩
theorem am_fl_23 : am_FL (7, 16, 7, 2, 1) := ⟨_, _, _, rfl, by decide, rfl, lw_i4 (List.mem_of_getElem? (i := 137) rfl), rfl, by decide⟩
theorem am_fl_24 : am_FL (7, 383, 7, 27, 0) := ⟨_, _, _, rfl, by decide, rfl, lw_i4 (List.mem_of_getElem? (i := 162) rfl), rfl, by decide⟩
theorem am_fl_25 : am_FL (7, 44, 7, 29, 1) := ⟨_, _, _, rfl, by decide, rfl, lw_i4 (List.mem_of_getElem? (i := 164) rfl), rfl, by decide⟩
theorem am_fl_26 : am_FL (7, 47, 7, 30, 1) := ⟨_, _, _, rfl, by decide, rfl, lw_i4 (List.mem_of_getElem? (i := 165) rfl), rfl, by decide⟩
theorem am_fl_27 : am_FL (7, 19, 7, 3, 1) := ⟨_, _, _, rfl, by decide, rfl, lw_i4 (List.mem_of_getElem? (i := 138) rfl), rfl, by decide⟩
theorem am_fl_28 : am_FL (7, 386, 7, 28, 0) := ⟨_, _, _, rfl, by decide, rfl, lw_i4 (List.mem_of_getElem? (i := 163) rfl), rfl, by decide⟩
theorem am_fl_29 : am_FL (7, 451, 7, 32, 0) := ⟨_, _, _, rfl, by decide, rfl, lw_i4 (List.mem_of_getElem? (i := 167) rfl), rfl, by decide⟩
theorem am_fl_30 : am_FL (7, 454, 7, 31, 0) := ⟨_, _, _, rfl, by decide, rfl, lw_i4 (List.mem_of_getElem? (i := 166) rfl), rfl, by decide⟩
theorem am_fl_31 : am_FL (7, 469, 7, 33, 0) := ⟨_, _, _, rfl, by decide, rfl, lw_i4 (List.mem_of_getElem? (i := 168) rfl), rfl, by decide⟩
theorem am_fl_32 : am_FL (7, 475, 7, 34, 0) := ⟨_, _, _, rfl, by decide, rfl, lw_i4 (List.mem_of_getElem? (i := 169) rfl), rfl, by decide⟩
theorem am_fl_33 : am_FL (7, 478, 7, 35, 0) := ⟨_, _, _, rfl, by decide, rfl, lw_i4 (List.mem_of_getElem? (i := 170) rfl), rfl, by decide⟩
theorem am_fl_34 : am_FL (7, 484, 7, 5, 0) := ⟨_, _, _, rfl, by decide, rfl, lw_i4 (List.mem_of_getElem? (i := 140) rfl), rfl, by decide⟩
theorem am_fl_35 : am_FL (7, 13, 7, 1, 1) := ⟨_, _, _, rfl, by decide, rfl, lw_i4 (List.mem_of_getElem? (i := 136) rfl), rfl, by decide⟩
theorem am_fl_36 : am_FL (5, 48, 5, 0, 0) := ⟨_, _, _, rfl, by decide, rfl, lw_i1 (List.mem_of_getElem? (i := 30) rfl), rfl, by decide⟩
theorem am_fl_37 : am_FL (5, 52, 5, 1, 0) := ⟨_, _, _, rfl, by decide, rfl, lw_i1 (List.mem_of_getElem? (i := 32) rfl), rfl, by decide⟩
theorem am_fl_38 : am_FL (5, 55, 5, 2, 0) := ⟨_, _, _, rfl, by decide, rfl, lw_i1 (List.mem_of_getElem? (i := 34) rfl), rfl, by decide⟩
theorem am_fl_39 : am_FL (5, 58, 5, 3, 0) := ⟨_, _, _, rfl, by decide, rfl, lw_i1 (List.mem_of_getElem? (i := 36) rfl), rfl, by decide⟩
theorem am_fl_40 : am_FL (5, 61, 5, 4, 0) := ⟨_, _, _, rfl, by decide, rfl, lw_i1 (List.mem_of_getElem? (i := 38) rfl), rfl, by decide⟩
theorem am_fl_41 : am_FL (5, 9, 5, 5, 1) := ⟨_, _, _, rfl, by decide, rfl, lw_i1 (List.mem_of_getElem? (i := 40) rfl), rfl, by decide⟩
theorem am_fl_42 : am_FL (5, 15, 5, 6, 1) := ⟨_, _, _, rfl, by decide, rfl, lw_i1 (List.mem_of_getElem? (i := 42) rfl), rfl, by decide⟩
theorem am_fl_43 : am_FL (5, 18, 5, 7, 1) := ⟨_, _, _, rfl, by decide, rfl, lw_i1 (List.mem_of_getElem? (i := 44) rfl), rfl, by decide⟩
theorem am_fl_44 : am_FL (5, 21, 5, 8, 1) := ⟨_, _, _, rfl, by decide, rfl, lw_i1 (List.mem_of_getElem? (i := 46) rfl), rfl, by decide⟩
theorem am_fl_45 : am_FL (5, 24, 5, 9, 1) := ⟨_, _, _, rfl, by decide, rfl, lw_i1 (List.mem_of_getElem? (i := 48) rfl), rfl, by decide⟩
theorem am_fl_46 : am_FL (5, 27, 5, 10, 1) := ⟨_, _, _, rfl, by decide, rfl, lw_i1 (List.mem_of_getElem? (i := 50) rfl), rfl, by decide⟩
theorem am_fl_47 : am_FL (5, 30, 5, 11, 1) := ⟨_, _, _, rfl, by decide, rfl, lw_i1 (List.mem_of_getElem? (i := 52) rfl), rfl, by decide⟩
theorem am_fl_48 : am_FL (5, 33, 5, 12, 1) := ⟨_, _, _, rfl, by decide, rfl, lw_i1 (List.mem_of_getElem? (i := 54) rfl), rfl, by decide⟩
theorem am_fl_49 : am_FL (5, 36, 5, 13, 1) := ⟨_, _, _, rfl, by decide, rfl, lw_i1 (List.mem_of_getElem? (i := 56) rfl), rfl, by decide⟩
theorem am_fl_50 : am_FL (5, 39, 5, 14, 1) := ⟨_, _, _, rfl, by decide, rfl, lw_i1 (List.mem_of_getElem? (i := 58) rfl), rfl, by decide⟩
theorem am_fl_51 : am_FL (5, 42, 5, 15, 1) := ⟨_, _, _, rfl, by decide, rfl, lw_i1 (List.mem_of_getElem? (i := 60) rfl), rfl, by decide⟩
theorem am_fl_52 : am_FL (5, 45, 5, 16, 1) := ⟨_, _, _, rfl, by decide, rfl, lw_i1 (List.mem_of_getElem? (i := 62) rfl), rfl, by decide⟩
theorem am_fl_53 : am_FL (1, 27, 1, 0, 0) := ⟨_, _, _, rfl, by decide, rfl, lw_i1 (List.mem_of_getElem? (i := 129) rfl), rfl, by decide⟩
theorem am_fl_54 : am_FL (1, 31, 1, 1, 0) := ⟨_, _, _, rfl, by decide, rfl, lw_i1 (List.mem_of_getElem? (i := 132) rfl), rfl, by decide⟩
theorem am_fl_55 : am_FL (1, 9, 1, 2, 1) := ⟨_, _, _, rfl, by decide, rfl, lw_i1 (List.mem_of_getElem? (i := 134) rfl), rfl, by decide⟩
theorem am_fl_56 : am_FL (1, 15, 1, 3, 1) := ⟨_, _, _, rfl, by decide, rfl, lw_i1 (List.mem_of_getElem? (i := 136) rfl), rfl, by decide⟩
theorem am_fl_57 : am_FL (1, 18, 1, 4, 1) := ⟨_, _, _, rfl, by decide, rfl, lw_i1 (List.mem_of_getElem? (i := 138) rfl), rfl, by decide⟩
theorem am_fl_58 : am_FL (1, 21, 1, 5, 1) := ⟨_, _, _, rfl, by decide, rfl, lw_i1 (List.mem_of_getElem? (i := 140) rfl), rfl, by decide⟩
theorem am_fl_59 : am_FL (1, 24, 1, 6, 1) := ⟨_, _, _, rfl, by decide, rfl, lw_i1 (List.mem_of_getElem? (i := 142) rfl), rfl, by decide⟩
theorem am_fl_60 : am_FL (1, 44, 0, 1, 1) := ⟨_, _, _, rfl, by decide, rfl, lw_i1 (List.mem_of_getElem? (i := 227) rfl), rfl, by decide⟩
theorem am_fl_61 : am_FL (1, 49, 0, 0, 1) := ⟨_, _, _, rfl, by decide, rfl, lw_i1 (List.mem_of_getElem? (i := 224) rfl), rfl, by decide⟩
theorem am_fl_62 : am_FL (3, 9, 3, 1, 1) := ⟨_, _, _, rfl, by decide, rfl, lw_i1 (List.mem_of_getElem? (i := 117) rfl), rfl, by decide⟩
theorem am_fl_63 : am_FL (3, 15, 3, 0, 0) := ⟨_, _, _, rfl, by decide, rfl, lw_i1 (List.mem_of_getElem? (i := 114) rfl), rfl, by decide⟩
theorem am_fl_64 : am_FL (4, 11, 4, 0, 1) := ⟨_, _, _, rfl, by decide, rfl, lw_i1 (List.mem_of_getElem? (i := 158) rfl), rfl, by decide⟩
theorem am_fl_65 : am_FL (4, 20, 4, 1, 1) := ⟨_, _, _, rfl, by decide, rfl, lw_i1 (List.mem_of_getElem? (i := 160) rfl), rfl, by decide⟩
theorem am_fl_66 : am_FL (4, 24, 4, 2, 1) := ⟨_, _, _, rfl, by decide, rfl, lw_i1 (List.mem_of_getElem? (i := 162) rfl), rfl, by decide⟩
theorem am_fl_67 : am_FL (2, 39, 2, 3, 0) := ⟨_, _, _, rfl, by decide, rfl, lw_i1 (List.mem_of_getElem? (i := 184) rfl), rfl, by decide⟩
theorem am_fl_68 : am_FL (2, 9, 2, 0, 1) := ⟨_, _, _, rfl, by decide, rfl, lw_i1 (List.mem_of_getElem? (i := 181) rfl), rfl, by decide⟩
theorem am_fl_69 : am_FL (2, 15, 2, 1, 1) := ⟨_, _, _, rfl, by decide, rfl, lw_i1 (List.mem_of_getElem? (i := 182) rfl), rfl, by decide⟩
theorem am_fl_70 : am_FL (2, 18, 2, 2, 1) := ⟨_, _, _, rfl, by decide, rfl, lw_i1 (List.mem_of_getElem? (i := 183) rfl), rfl, by decide⟩
theorem am_fl_71 : am_FL (2, 42, 2, 4, 0) := ⟨_, _, _, rfl, by decide, rfl, lw_i1 (List.mem_of_getElem? (i := 185) rfl), rfl, by decide⟩
theorem am_fl_72 : am_FL (2, 28, 2, 8, 1) := ⟨_, _, _, rfl, by decide, rfl, lw_i1 (List.mem_of_getElem? (i := 191) rfl), rfl, by decide⟩
theorem am_fl_73 : am_FL (2, 92, 1, 0, 0) := ⟨_, _, _, rfl, by decide, rfl, lw_i1 (List.mem_of_getElem? (i := 131) rfl), rfl, by decide⟩
theorem am_fl_74 : am_FL (2, 113, 1, 2, 1) := ⟨_, _, _, rfl, by decide, rfl, lw_i1 (List.mem_of_getElem? (i := 135) rfl), rfl, by decide⟩
theorem am_fl_75 : am_FL (2, 116, 1, 3, 1) := ⟨_, _, _, rfl, by decide, rfl, lw_i1 (List.mem_of_getElem? (i := 137) rfl), rfl, by decide⟩
theorem am_fl_76 : am_FL (2, 95, 1, 1, 0) := ⟨_, _, _, rfl, by decide, rfl, lw_i1 (List.mem_of_getElem? (i := 133) rfl), rfl, by decide⟩
theorem am_fl_77 : am_FL (2, 123, 1, 4, 1) := ⟨_, _, _, rfl, by decide, rfl, lw_i1 (List.mem_of_getElem? (i := 139) rfl), rfl, by decide⟩
theorem am_fl_78 : am_FL (2, 129, 1, 5, 1) := ⟨_, _, _, rfl, by decide, rfl, lw_i1 (List.mem_of_getElem? (i := 141) rfl), rfl, by decide⟩
theorem am_fl_79 : am_FL (2, 101, 2, 7, 0) := ⟨_, _, _, rfl, by decide, rfl, lw_i1 (List.mem_of_getElem? (i := 190) rfl), rfl, by decide⟩
theorem am_fl_80 : am_FL (2, 35, 2, 9, 1) := ⟨_, _, _, rfl, by decide, rfl, lw_i1 (List.mem_of_getElem? (i := 193) rfl), rfl, by decide⟩
theorem am_fl_81 : am_FL (2, 146, 3, 0, 0) := ⟨_, _, _, rfl, by decide, rfl, lw_i1 (List.mem_of_getElem? (i := 116) rfl), rfl, by decide⟩
theorem am_fl_82 : am_FL (2, 154, 3, 1, 1) := ⟨_, _, _, rfl, by decide, rfl, lw_i1 (List.mem_of_getElem? (i := 118) rfl), rfl, by decide⟩
theorem am_fl_83 : am_FL (6, 10, 6, 0, 1) := ⟨_, _, _, rfl, by decide, rfl, lw_i1 (List.mem_of_getElem? (i := 233) rfl), rfl, by decide⟩
theorem am_fl_84 : am_FL (6, 64, 5, 0, 0) := ⟨_, _, _, rfl, by decide, rfl, lw_i1 (List.mem_of_getElem? (i := 31) rfl), rfl, by decide⟩
theorem am_fl_85 : am_FL (6, 75, 5, 2, 0) := ⟨_, _, _, rfl, by decide, rfl, lw_i1 (List.mem_of_getElem? (i := 35) rfl), rfl, by decide⟩
theorem am_fl_86 : am_FL (6, 96, 6, 12, 0) := ⟨_, _, _, rfl, by decide, rfl, lw_i2 (List.mem_of_getElem? (i := 5) rfl), rfl, by decide⟩
theorem am_fl_87 : am_FL (6, 43, 6, 11, 1) := ⟨_, _, _, rfl, by decide, rfl, lw_i2 (List.mem_of_getElem? (i := 4) rfl), rfl, by decide⟩
theorem am_fl_88 : am_FL (6, 50, 6, 13, 1) := ⟨_, _, _, rfl, by decide, rfl, lw_i2 (List.mem_of_getElem? (i := 6) rfl), rfl, by decide⟩
theorem am_fl_89 : am_FL (6, 26, 6, 5, 1) := ⟨_, _, _, rfl, by decide, rfl, lw_i1 (List.mem_of_getElem? (i := 238) rfl), rfl, by decide⟩
theorem am_fl_90 : am_FL (6, 110, 4, 0, 1) := ⟨_, _, _, rfl, by decide, rfl, lw_i1 (List.mem_of_getElem? (i := 159) rfl), rfl, by decide⟩
theorem am_fl_91 : am_FL (6, 114, 2, 8, 1) := ⟨_, _, _, rfl, by decide, rfl, lw_i1 (List.mem_of_getElem? (i := 192) rfl), rfl, by decide⟩
theorem am_fl_92 : am_FL (6, 124, 1, 0, 0) := ⟨_, _, _, rfl, by decide, rfl, lw_i1 (List.mem_of_getElem? (i := 130) rfl), rfl, by decide⟩
theorem am_fl_93 : am_FL (6, 130, 4, 1, 1) := ⟨_, _, _, rfl, by decide, rfl, lw_i1 (List.mem_of_getElem? (i := 161) rfl), rfl, by decide⟩
theorem am_fl_94 : am_FL (6, 134, 2, 9, 1) := ⟨_, _, _, rfl, by decide, rfl, lw_i1 (List.mem_of_getElem? (i := 194) rfl), rfl, by decide⟩
theorem am_fl_95 : am_FL (6, 142, 4, 2, 1) := ⟨_, _, _, rfl, by decide, rfl, lw_i1 (List.mem_of_getElem? (i := 163) rfl), rfl, by decide⟩
theorem am_fl_96 : am_FL (6, 145, 3, 0, 0) := ⟨_, _, _, rfl, by decide, rfl, lw_i1 (List.mem_of_getElem? (i := 115) rfl), rfl, by decide⟩
theorem am_fl_97 : am_FL (6, 146, 2, 5, 0) := ⟨_, _, _, rfl, by decide, rfl, lw_i1 (List.mem_of_getElem? (i := 187) rfl), rfl, by decide⟩
theorem am_fl_98 : am_FL (6, 149, 2, 6, 0) := ⟨_, _, _, rfl, by decide, rfl, lw_i1 (List.mem_of_getElem? (i := 189) rfl), rfl, by decide⟩
theorem am_fl_99 : am_FL (6, 169, 5, 9, 1) := ⟨_, _, _, rfl, by decide, rfl, lw_i1 (List.mem_of_getElem? (i := 49) rfl), rfl, by decide⟩
theorem am_fl_100 : am_FL (6, 172, 5, 10, 1) := ⟨_, _, _, rfl, by decide, rfl, lw_i1 (List.mem_of_getElem? (i := 51) rfl), rfl, by decide⟩
theorem am_fl_101 : am_FL (6, 179, 5, 7, 1) := ⟨_, _, _, rfl, by decide, rfl, lw_i1 (List.mem_of_getElem? (i := 45) rfl), rfl, by decide⟩
theorem am_fl_102 : am_FL (6, 186, 5, 8, 1) := ⟨_, _, _, rfl, by decide, rfl, lw_i1 (List.mem_of_getElem? (i := 47) rfl), rfl, by decide⟩
theorem am_fl_103 : am_FL (6, 193, 5, 4, 0) := ⟨_, _, _, rfl, by decide, rfl, lw_i1 (List.mem_of_getElem? (i := 39) rfl), rfl, by decide⟩
theorem am_fl_104 : am_FL (6, 30, 6, 6, 1) := ⟨_, _, _, rfl, by decide, rfl, lw_i1 (List.mem_of_getElem? (i := 239) rfl), rfl, by decide⟩
theorem am_fl_105 : am_FL (6, 196, 5, 1, 0) := ⟨_, _, _, rfl, by decide, rfl, lw_i1 (List.mem_of_getElem? (i := 33) rfl), rfl, by decide⟩
theorem am_fl_106 : am_FL (6, 19, 6, 2, 1) := ⟨_, _, _, rfl, by decide, rfl, lw_i1 (List.mem_of_getElem? (i := 235) rfl), rfl, by decide⟩
theorem am_fl_107 : am_FL (6, 209, 6, 4, 0) := ⟨_, _, _, rfl, by decide, rfl, lw_i1 (List.mem_of_getElem? (i := 237) rfl), rfl, by decide⟩
theorem am_fl_108 : am_FL (6, 215, 6, 3, 0) := ⟨_, _, _, rfl, by decide, rfl, lw_i1 (List.mem_of_getElem? (i := 236) rfl), rfl, by decide⟩
theorem am_fl_109 : am_FL (6, 34, 6, 7, 1) := ⟨_, _, _, rfl, by decide, rfl, lw_i2 (List.mem_of_getElem? (i := 0) rfl), rfl, by decide⟩
theorem am_fl_110 : am_FL (6, 37, 6, 8, 1) := ⟨_, _, _, rfl, by decide, rfl, lw_i2 (List.mem_of_getElem? (i := 1) rfl), rfl, by decide⟩
theorem am_fl_111 : am_FL (6, 40, 6, 9, 1) := ⟨_, _, _, rfl, by decide, rfl, lw_i2 (List.mem_of_getElem? (i := 2) rfl), rfl, by decide⟩
theorem am_fl_112 : am_FL (6, 232, 6, 10, 0) := ⟨_, _, _, rfl, by decide, rfl, lw_i2 (List.mem_of_getElem? (i := 3) rfl), rfl, by decide⟩
theorem am_fl_113 : am_FL (6, 236, 5, 5, 1) := ⟨_, _, _, rfl, by decide, rfl, lw_i1 (List.mem_of_getElem? (i := 41) rfl), rfl, by decide⟩
theorem am_fl_114 : am_FL (6, 239, 5, 6, 1) := ⟨_, _, _, rfl, by decide, rfl, lw_i1 (List.mem_of_getElem? (i := 43) rfl), rfl, by decide⟩
theorem am_fl_115 : am_FL (6, 248, 5, 11, 1) := ⟨_, _, _, rfl, by decide, rfl, lw_i1 (List.mem_of_getElem? (i := 53) rfl), rfl, by decide⟩
theorem am_fl_116 : am_FL (6, 251, 5, 12, 1) := ⟨_, _, _, rfl, by decide, rfl, lw_i1 (List.mem_of_getElem? (i := 55) rfl), rfl, by decide⟩
theorem am_fl_117 : am_FL (6, 254, 5, 13, 1) := ⟨_, _, _, rfl, by decide, rfl, lw_i1 (List.mem_of_getElem? (i := 57) rfl), rfl, by decide⟩
theorem am_fl_118 : am_FL (6, 257, 5, 14, 1) := ⟨_, _, _, rfl, by decide, rfl, lw_i1 (List.mem_of_getElem? (i := 59) rfl), rfl, by decide⟩
theorem am_fl_119 : am_FL (6, 260, 5, 15, 1) := ⟨_, _, _, rfl, by decide, rfl, lw_i1 (List.mem_of_getElem? (i := 61) rfl), rfl, by decide⟩
theorem am_fl_120 : am_FL (6, 269, 5, 3, 0) := ⟨_, _, _, rfl, by decide, rfl, lw_i1 (List.mem_of_getElem? (i := 37) rfl), rfl, by decide⟩
theorem am_fl_121 : am_FL (6, 57, 6, 14, 1) := ⟨_, _, _, rfl, by decide, rfl, lw_i2 (List.mem_of_getElem? (i := 7) rfl), rfl, by decide⟩
theorem am_fl_122 : am_FL (6, 288, 0, 0, 1) := ⟨_, _, _, rfl, by decide, rfl, lw_i1 (List.mem_of_getElem? (i := 225) rfl), rfl, by decide⟩
theorem am_fl_123 : am_FL (6, 61, 6, 15, 1) := ⟨_, _, _, rfl, by decide, rfl, lw_i2 (List.mem_of_getElem? (i := 8) rfl), rfl, by decide⟩
theorem am_fl_124 : am_FL (6, 16, 6, 1, 1) := ⟨_, _, _, rfl, by decide, rfl, lw_i1 (List.mem_of_getElem? (i := 234) rfl), rfl, by decide⟩
theorem am_fl_all : ∀ q ∈ am_fl, am_FL q := List.forall_mem_cons.mpr ⟨am_fl_0, List.forall_mem_cons.mpr ⟨am_fl_1, List.forall_mem_cons.mpr ⟨am_fl_2, List.forall_mem_cons.mpr ⟨am_fl_3, List.forall_mem_cons.mpr ⟨am_fl_4, List.forall_mem_cons.mpr ⟨am_fl_5, List.forall_mem_cons.mpr ⟨am_fl_6, List.forall_mem_cons.mpr ⟨am_fl_7, List.forall_mem_cons.mpr ⟨am_fl_8, List.forall_mem_cons.mpr ⟨am_fl_9, List.forall_mem_cons.mpr ⟨am_fl_10, List.forall_mem_cons.mpr ⟨am_fl_11, List.forall_mem_cons.mpr ⟨am_fl_12, List.forall_mem_cons.mpr ⟨am_fl_13, List.forall_mem_cons.mpr ⟨am_fl_14, List.forall_mem_cons.mpr ⟨am_fl_15, List.forall_mem_cons.mpr ⟨am_fl_16, List.forall_mem_cons.mpr ⟨am_fl_17, List.forall_mem_cons.mpr ⟨am_fl_18, List.forall_mem_cons.mpr ⟨am_fl_19, List.forall_mem_cons.mpr ⟨am_fl_20, List.forall_mem_cons.mpr ⟨am_fl_21, List.forall_mem_cons.mpr ⟨am_fl_22, List.forall_mem_cons.mpr ⟨am_fl_23, List.forall_mem_cons.mpr ⟨am_fl_24, List.forall_mem_cons.mpr ⟨am_fl_25, List.forall_mem_cons.mpr ⟨am_fl_26, List.forall_mem_cons.mpr ⟨am_fl_27, List.forall_mem_cons.mpr ⟨am_fl_28, List.forall_mem_cons.mpr ⟨am_fl_29, List.forall_mem_cons.mpr ⟨am_fl_30, List.forall_mem_cons.mpr ⟨am_fl_31, List.forall_mem_cons.mpr ⟨am_fl_32, List.forall_mem_cons.mpr ⟨am_fl_33, List.forall_mem_cons.mpr ⟨am_fl_34, List.forall_mem_cons.mpr ⟨am_fl_35, List.forall_mem_cons.mpr ⟨am_fl_36, List.forall_mem_cons.mpr ⟨am_fl_37, List.forall_mem_cons.mpr ⟨am_fl_38, List.forall_mem_cons.mpr ⟨am_fl_39, List.forall_mem_cons.mpr ⟨am_fl_40, List.forall_mem_cons.mpr ⟨am_fl_41, List.forall_mem_cons.mpr ⟨am_fl_42, List.forall_mem_cons.mpr ⟨am_fl_43, List.forall_mem_cons.mpr ⟨am_fl_44, List.forall_mem_cons.mpr ⟨am_fl_45, List.forall_mem_cons.mpr ⟨am_fl_46, List.forall_mem_cons.mpr ⟨am_fl_47, List.forall_mem_cons.mpr ⟨am_fl_48, List.forall_mem_cons.mpr ⟨am_fl_49, List.forall_mem_cons.mpr ⟨am_fl_50, List.forall_mem_cons.mpr ⟨am_fl_51, List.forall_mem_cons.mpr ⟨am_fl_52, List.forall_mem_cons.mpr ⟨am_fl_53, List.forall_mem_cons.mpr ⟨am_fl_54, List.forall_mem_cons.mpr ⟨am_fl_55, List.forall_mem_cons.mpr ⟨am_fl_56, List.forall_mem_cons.mpr ⟨am_fl_57, List.forall_mem_cons.mpr ⟨am_fl_58, List.forall_mem_cons.mpr ⟨am_fl_59, List.forall_mem_cons.mpr ⟨am_fl_60, List.forall_mem_cons.mpr ⟨am_fl_61, List.forall_mem_cons.mpr ⟨am_fl_62, List.forall_mem_cons.mpr ⟨am_fl_63, List.forall_mem_cons.mpr ⟨am_fl_64, List.forall_mem_cons.mpr ⟨am_fl_65, List.forall_mem_cons.mpr ⟨am_fl_66, List.forall_mem_cons.mpr ⟨am_fl_67, List.forall_mem_cons.mpr ⟨am_fl_68, List.forall_mem_cons.mpr ⟨am_fl_69, List.forall_mem_cons.mpr ⟨am_fl_70, List.forall_mem_cons.mpr ⟨am_fl_71, List.forall_mem_cons.mpr ⟨am_fl_72, List.forall_mem_cons.mpr ⟨am_fl_73, List.forall_mem_cons.mpr ⟨am_fl_74, List.forall_mem_cons.mpr ⟨am_fl_75, List.forall_mem_cons.mpr ⟨am_fl_76, List.forall_mem_cons.mpr ⟨am_fl_77, List.forall_mem_cons.mpr ⟨am_fl_78, List.forall_mem_cons.mpr ⟨am_fl_79, List.forall_mem_cons.mpr ⟨am_fl_80, List.forall_mem_cons.mpr ⟨am_fl_81, List.forall_mem_cons.mpr ⟨am_fl_82, List.forall_mem_cons.mpr ⟨am_fl_83, List.forall_mem_cons.mpr ⟨am_fl_84, List.forall_mem_cons.mpr ⟨am_fl_85, List.forall_mem_cons.mpr ⟨am_fl_86, List.forall_mem_cons.mpr ⟨am_fl_87, List.forall_mem_cons.mpr ⟨am_fl_88, List.forall_mem_cons.mpr ⟨am_fl_89, List.forall_mem_cons.mpr ⟨am_fl_90, List.forall_mem_cons.mpr ⟨am_fl_91, List.forall_mem_cons.mpr ⟨am_fl_92, List.forall_mem_cons.mpr ⟨am_fl_93, List.forall_mem_cons.mpr ⟨am_fl_94, List.forall_mem_cons.mpr ⟨am_fl_95, List.forall_mem_cons.mpr ⟨am_fl_96, List.forall_mem_cons.mpr ⟨am_fl_97, List.forall_mem_cons.mpr ⟨am_fl_98, List.forall_mem_cons.mpr ⟨am_fl_99, List.forall_mem_cons.mpr ⟨am_fl_100, List.forall_mem_cons.mpr ⟨am_fl_101, List.forall_mem_cons.mpr ⟨am_fl_102, List.forall_mem_cons.mpr ⟨am_fl_103, List.forall_mem_cons.mpr ⟨am_fl_104, List.forall_mem_cons.mpr ⟨am_fl_105, List.forall_mem_cons.mpr ⟨am_fl_106, List.forall_mem_cons.mpr ⟨am_fl_107, List.forall_mem_cons.mpr ⟨am_fl_108, List.forall_mem_cons.mpr ⟨am_fl_109, List.forall_mem_cons.mpr ⟨am_fl_110, List.forall_mem_cons.mpr ⟨am_fl_111, List.forall_mem_cons.mpr ⟨am_fl_112, List.forall_mem_cons.mpr ⟨am_fl_113, List.forall_mem_cons.mpr ⟨am_fl_114, List.forall_mem_cons.mpr ⟨am_fl_115, List.forall_mem_cons.mpr ⟨am_fl_116, List.forall_mem_cons.mpr ⟨am_fl_117, List.forall_mem_cons.mpr ⟨am_fl_118, List.forall_mem_cons.mpr ⟨am_fl_119, List.forall_mem_cons.mpr ⟨am_fl_120, List.forall_mem_cons.mpr ⟨am_fl_121, List.forall_mem_cons.mpr ⟨am_fl_122, List.forall_mem_cons.mpr ⟨am_fl_123, List.forall_mem_cons.mpr ⟨am_fl_124, fun _ h => absurd h List.not_mem_nil⟩⟩⟩⟩⟩⟩⟩⟩⟩⟩⟩⟩⟩⟩⟩⟩⟩⟩⟩⟩⟩⟩⟩⟩⟩⟩⟩⟩⟩⟩⟩⟩⟩⟩⟩⟩⟩⟩⟩⟩⟩⟩⟩⟩⟩⟩⟩⟩⟩⟩⟩⟩⟩⟩⟩⟩⟩⟩⟩⟩⟩⟩⟩⟩⟩⟩⟩⟩⟩⟩⟩⟩⟩⟩⟩⟩⟩⟩⟩⟩⟩⟩⟩⟩⟩⟩⟩⟩⟩⟩⟩⟩⟩⟩⟩⟩⟩⟩⟩⟩⟩⟩⟩⟩⟩⟩⟩⟩⟩⟩⟩⟩⟩⟩⟩⟩⟩⟩⟩⟩⟩⟩⟩⟩⟩
theorem am_fp_0 : am_FP (7, 116, 7, 4) := ⟨_, _, _, rfl, by decide, rfl, lw_i4 (List.mem_of_getElem? (i := 139) rfl), rfl, by decide, rfl, by decide +kernel⟩
theorem am_fp_1 : am_FP (7, 160, 7, 16) := ⟨_, _, _, rfl, by decide, rfl, lw_i4 (List.mem_of_getElem? (i := 151) rfl), rfl, by decide, rfl, by decide +kernel⟩
theorem am_fp_2 : am_FP (7, 166, 7, 17) := ⟨_, _, _, rfl, by decide, rfl, lw_i4 (List.mem_of_getElem? (i := 152) rfl), rfl, by decide, rfl, by decide +kernel⟩
theorem am_fp_3 : am_FP (7, 172, 7, 19) := ⟨_, _, _, rfl, by decide, rfl, lw_i4 (List.mem_of_getElem? (i := 154) rfl), rfl, by decide, rfl, by decide +kernel⟩
theorem am_fp_4 : am_FP (7, 394, 7, 18) := ⟨_, _, _, rfl, by decide, rfl, lw_i4 (List.mem_of_getElem? (i := 153) rfl), rfl, by decide, rfl, by decide +kernel⟩
theorem am_fp_5 : am_FP (7, 418, 7, 20) := ⟨_, _, _, rfl, by decide, rfl, lw_i4 (List.mem_of_getElem? (i := 155) rfl), rfl, by decide, rfl, by decide +kernel⟩
theorem am_fp_6 : am_FP (7, 424, 7, 21) := ⟨_, _, _, rfl, by decide, rfl, lw_i4 (List.mem_of_getElem? (i := 156) rfl), rfl, by decide, rfl, by decide +kernel⟩
theorem am_fp_7 : am_FP (7, 430, 7, 22) := ⟨_, _, _, rfl, by decide, rfl, lw_i4 (List.mem_of_getElem? (i := 157) rfl), rfl, by decide, rfl, by decide +kernel⟩
theorem am_fp_8 : am_FP (7, 448, 7, 14) := ⟨_, _, _, rfl, by decide, rfl, lw_i4 (List.mem_of_getElem? (i := 149) rfl), rfl, by decide, rfl, by decide +kernel⟩
theorem am_fp_9 : am_FP (7, 454, 7, 24) := ⟨_, _, _, rfl, by decide, rfl, lw_i4 (List.mem_of_getElem? (i := 159) rfl), rfl, by decide, rfl, by decide +kernel⟩
theorem am_fp_10 : am_FP (7, 518, 7, 13) := ⟨_, _, _, rfl, by decide, rfl, lw_i4 (List.mem_of_getElem? (i := 148) rfl), rfl, by decide, rfl, by decide +kernel⟩
theorem am_fp_11 : am_FP (7, 530, 7, 26) := ⟨_, _, _, rfl, by decide, rfl, lw_i4 (List.mem_of_getElem? (i := 161) rfl), rfl, by decide, rfl, by decide +kernel⟩
theorem am_fp_12 : am_FP (7, 544, 7, 15) := ⟨_, _, _, rfl, by decide, rfl, lw_i4 (List.mem_of_getElem? (i := 150) rfl), rfl, by decide, rfl, by decide +kernel⟩
theorem am_fp_13 : am_FP (7, 570, 7, 23) := ⟨_, _, _, rfl, by decide, rfl, lw_i4 (List.mem_of_getElem? (i := 158) rfl), rfl, by decide, rfl, by decide +kernel⟩
theorem am_fp_14 : am_FP (7, 80, 7, 25) := ⟨_, _, _, rfl, by decide, rfl, lw_i4 (List.mem_of_getElem? (i := 160) rfl), rfl, by decide, rfl, by decide +kernel⟩
theorem am_fp_15 : am_FP (7, 334, 7, 12) := ⟨_, _, _, rfl, by decide, rfl, lw_i4 (List.mem_of_getElem? (i := 147) rfl), rfl, by decide, rfl, by decide +kernel⟩
theorem am_fp_16 : am_FP (7, 766, 7, 27) := ⟨_, _, _, rfl, by decide, rfl, lw_i4 (List.mem_of_getElem? (i := 162) rfl), rfl, by decide, rfl, by decide +kernel⟩
theorem am_fp_17 : am_FP (7, 772, 7, 28) := ⟨_, _, _, rfl, by decide, rfl, lw_i4 (List.mem_of_getElem? (i := 163) rfl), rfl, by decide, rfl, by decide +kernel⟩
theorem am_fp_18 : am_FP (7, 902, 7, 32) := ⟨_, _, _, rfl, by decide, rfl, lw_i4 (List.mem_of_getElem? (i := 167) rfl), rfl, by decide, rfl, by decide +kernel⟩
theorem am_fp_19 : am_FP (7, 908, 7, 31) := ⟨_, _, _, rfl, by decide, rfl, lw_i4 (List.mem_of_getElem? (i := 166) rfl), rfl, by decide, rfl, by decide +kernel⟩
theorem am_fp_20 : am_FP (7, 938, 7, 33) := ⟨_, _, _, rfl, by decide, rfl, lw_i4 (List.mem_of_getElem? (i := 168) rfl), rfl, by decide, rfl, by decide +kernel⟩
theorem am_fp_21 : am_FP (7, 950, 7, 34) := ⟨_, _, _, rfl, by decide, rfl, lw_i4 (List.mem_of_getElem? (i := 169) rfl), rfl, by decide, rfl, by decide +kernel⟩
theorem am_fp_22 : am_FP (7, 956, 7, 35) := ⟨_, _, _, rfl, by decide, rfl, lw_i4 (List.mem_of_getElem? (i := 170) rfl), rfl, by decide, rfl, by decide +kernel⟩
theorem am_fp_23 : am_FP (7, 969, 7, 5) := ⟨_, _, _, rfl, by decide, rfl, lw_i4 (List.mem_of_getElem? (i := 140) rfl), rfl, by decide, rfl, by decide +kernel⟩
theorem am_fp_24 : am_FP (5, 96, 5, 0) := ⟨_, _, _, rfl, by decide, rfl, lw_i1 (List.mem_of_getElem? (i := 30) rfl), rfl, by decide, rfl, by decide +kernel⟩
theorem am_fp_25 : am_FP (5, 104, 5, 1) := ⟨_, _, _, rfl, by decide, rfl, lw_i1 (List.mem_of_getElem? (i := 32) rfl), rfl, by decide, rfl, by decide +kernel⟩
theorem am_fp_26 : am_FP (5, 110, 5, 2) := ⟨_, _, _, rfl, by decide, rfl, lw_i1 (List.mem_of_getElem? (i := 34) rfl), rfl, by decide, rfl, by decide +kernel⟩
theorem am_fp_27 : am_FP (5, 116, 5, 3) := ⟨_, _, _, rfl, by decide, rfl, lw_i1 (List.mem_of_getElem? (i := 36) rfl), rfl, by decide, rfl, by decide +kernel⟩
theorem am_fp_28 : am_FP (5, 122, 5, 4) := ⟨_, _, _, rfl, by decide, rfl, lw_i1 (List.mem_of_getElem? (i := 38) rfl), rfl, by decide, rfl, by decide +kernel⟩
theorem am_fp_29 : am_FP (1, 54, 1, 0) := ⟨_, _, _, rfl, by decide, rfl, lw_i1 (List.mem_of_getElem? (i := 129) rfl), rfl, by decide, rfl, by decide +kernel⟩
theorem am_fp_30 : am_FP (1, 62, 1, 1) := ⟨_, _, _, rfl, by decide, rfl, lw_i1 (List.mem_of_getElem? (i := 132) rfl), rfl, by decide, rfl, by decide +kernel⟩
theorem am_fp_31 : am_FP (3, 30, 3, 0) := ⟨_, _, _, rfl, by decide, rfl, lw_i1 (List.mem_of_getElem? (i := 114) rfl), rfl, by decide, rfl, by decide +kernel⟩
theorem am_fp_32 : am_FP (2, 78, 2, 3) := ⟨_, _, _, rfl, by decide, rfl, lw_i1 (List.mem_of_getElem? (i := 184) rfl), rfl, by decide, rfl, by decide +kernel⟩
theorem am_fp_33 : am_FP (2, 84, 2, 4) := ⟨_, _, _, rfl, by decide, rfl, lw_i1 (List.mem_of_getElem? (i := 185) rfl), rfl, by decide, rfl, by decide +kernel⟩
theorem am_fp_34 : am_FP (2, 90, 2, 5) := ⟨_, _, _, rfl, by decide, rfl, lw_i1 (List.mem_of_getElem? (i := 186) rfl), rfl, by decide, rfl, by decide +kernel⟩
theorem am_fp_35 : am_FP (2, 42, 2, 6) := ⟨_, _, _, rfl, by decide, rfl, lw_i1 (List.mem_of_getElem? (i := 188) rfl), rfl, by decide, rfl, by decide +kernel⟩
theorem am_fp_36 : am_FP (2, 184, 1, 0) := ⟨_, _, _, rfl, by decide, rfl, lw_i1 (List.mem_of_getElem? (i := 131) rfl), rfl, by decide, rfl, by decide +kernel⟩
theorem am_fp_37 : am_FP (2, 190, 1, 1) := ⟨_, _, _, rfl, by decide, rfl, lw_i1 (List.mem_of_getElem? (i := 133) rfl), rfl, by decide, rfl, by decide +kernel⟩
theorem am_fp_38 : am_FP (2, 202, 2, 7) := ⟨_, _, _, rfl, by decide, rfl, lw_i1 (List.mem_of_getElem? (i := 190) rfl), rfl, by decide, rfl, by decide +kernel⟩
theorem am_fp_39 : am_FP (2, 292, 3, 0) := ⟨_, _, _, rfl, by decide, rfl, lw_i1 (List.mem_of_getElem? (i := 116) rfl), rfl, by decide, rfl, by decide +kernel⟩
theorem am_fp_40 : am_FP (6, 128, 5, 0) := ⟨_, _, _, rfl, by decide, rfl, lw_i1 (List.mem_of_getElem? (i := 31) rfl), rfl, by decide, rfl, by decide +kernel⟩
theorem am_fp_41 : am_FP (6, 192, 6, 12) := ⟨_, _, _, rfl, by decide, rfl, lw_i2 (List.mem_of_getElem? (i := 5) rfl), rfl, by decide, rfl, by decide +kernel⟩
theorem am_fp_42 : am_FP (6, 386, 5, 4) := ⟨_, _, _, rfl, by decide, rfl, lw_i1 (List.mem_of_getElem? (i := 39) rfl), rfl, by decide, rfl, by decide +kernel⟩
theorem am_fp_43 : am_FP (6, 418, 6, 4) := ⟨_, _, _, rfl, by decide, rfl, lw_i1 (List.mem_of_getElem? (i := 237) rfl), rfl, by decide, rfl, by decide +kernel⟩
theorem am_fp_44 : am_FP (6, 430, 6, 3) := ⟨_, _, _, rfl, by decide, rfl, lw_i1 (List.mem_of_getElem? (i := 236) rfl), rfl, by decide, rfl, by decide +kernel⟩
theorem am_fp_45 : am_FP (6, 465, 6, 10) := ⟨_, _, _, rfl, by decide, rfl, lw_i2 (List.mem_of_getElem? (i := 3) rfl), rfl, by decide, rfl, by decide +kernel⟩
theorem am_fp_46 : am_FP (6, 392, 5, 1) := ⟨_, _, _, rfl, by decide, rfl, lw_i1 (List.mem_of_getElem? (i := 33) rfl), rfl, by decide, rfl, by decide +kernel⟩
theorem am_fp_all : ∀ q ∈ am_fp, am_FP q := List.forall_mem_cons.mpr ⟨am_fp_0, List.forall_mem_cons.mpr ⟨am_fp_1, List.forall_mem_cons.mpr ⟨am_fp_2, List.forall_mem_cons.mpr ⟨am_fp_3, List.forall_mem_cons.mpr ⟨am_fp_4, List.forall_mem_cons.mpr ⟨am_fp_5, List.forall_mem_cons.mpr ⟨am_fp_6, List.forall_mem_cons.mpr ⟨am_fp_7, List.forall_mem_cons.mpr ⟨am_fp_8, List.forall_mem_cons.mpr ⟨am_fp_9, List.forall_mem_cons.mpr ⟨am_fp_10, List.forall_mem_cons.mpr ⟨am_fp_11, List.forall_mem_cons.mpr ⟨am_fp_12, List.forall_mem_cons.mpr ⟨am_fp_13, List.forall_mem_cons.mpr ⟨am_fp_14, List.forall_mem_cons.mpr ⟨am_fp_15, List.forall_mem_cons.mpr ⟨am_fp_16, List.forall_mem_cons.mpr ⟨am_fp_17, List.forall_mem_cons.mpr ⟨am_fp_18, List.forall_mem_cons.mpr ⟨am_fp_19, List.forall_mem_cons.mpr ⟨am_fp_20, List.forall_mem_cons.mpr ⟨am_fp_21, List.forall_mem_cons.mpr ⟨am_fp_22, List.forall_mem_cons.mpr ⟨am_fp_23, List.forall_mem_cons.mpr ⟨am_fp_24, List.forall_mem_cons.mpr ⟨am_fp_25, List.forall_mem_cons.mpr ⟨am_fp_26, List.forall_mem_cons.mpr ⟨am_fp_27, List.forall_mem_cons.mpr ⟨am_fp_28, List.forall_mem_cons.mpr ⟨am_fp_29, List.forall_mem_cons.mpr ⟨am_fp_30, List.forall_mem_cons.mpr ⟨am_fp_31, List.forall_mem_cons.mpr ⟨am_fp_32, List.forall_mem_cons.mpr ⟨am_fp_33, List.forall_mem_cons.mpr ⟨am_fp_34, List.forall_mem_cons.mpr ⟨am_fp_35, List.forall_mem_cons.mpr ⟨am_fp_36, List.forall_mem_cons.mpr ⟨am_fp_37, List.forall_mem_cons.mpr ⟨am_fp_38, List.forall_mem_cons.mpr ⟨am_fp_39, List.forall_mem_cons.mpr ⟨am_fp_40, List.forall_mem_cons.mpr ⟨am_fp_41, List.forall_mem_cons.mpr ⟨am_fp_42, List.forall_mem_cons.mpr ⟨am_fp_43, List.forall_mem_cons.mpr ⟨am_fp_44, List.forall_mem_cons.mpr ⟨am_fp_45, List.forall_mem_cons.mpr ⟨am_fp_46, fun _ h => absurd h List.not_mem_nil⟩⟩⟩⟩⟩⟩⟩⟩⟩⟩⟩⟩⟩⟩⟩⟩⟩⟩⟩⟩⟩⟩⟩⟩⟩⟩⟩⟩⟩⟩⟩⟩⟩⟩⟩⟩⟩⟩⟩⟩⟩⟩⟩⟩⟩⟩⟩
theorem am_gl_0 : am_GL (2, 98, 202) := ⟨lw_i2 (List.mem_of_getElem? (i := 177) rfl), by decide, by decide⟩
theorem am_gl_1 : am_GL (2, 107, 200) := ⟨lw_i2 (List.mem_of_getElem? (i := 187) rfl), by decide, by decide⟩
theorem am_gl_2 : am_GL (2, 110, 201) := ⟨lw_i2 (List.mem_of_getElem? (i := 189) rfl), by decide, by decide⟩
theorem am_gl_all : ∀ q ∈ am_gl, am_GL q := List.forall_mem_cons.mpr ⟨am_gl_0, List.forall_mem_cons.mpr ⟨am_gl_1, List.forall_mem_cons.mpr ⟨am_gl_2, fun _ h => absurd h List.not_mem_nil⟩⟩⟩
theorem am_kl_0 : am_KL (7, 64, 1664525) := lw_i6 (List.mem_of_getElem? (i := 135) rfl)
theorem am_kl_1 : am_KL (7, 65, 1013904223) := lw_i6 (List.mem_of_getElem? (i := 136) rfl)
theorem am_kl_2 : am_KL (7, 450, 1000000) := lw_i7 (List.mem_of_getElem? (i := 20) rfl)
theorem am_kl_3 : am_KL (5, 91, 1664525) := lw_i3 (List.mem_of_getElem? (i := 146) rfl)
theorem am_kl_4 : am_KL (5, 92, 1013904223) := lw_i3 (List.mem_of_getElem? (i := 147) rfl)
theorem am_kl_5 : am_KL (6, 376, 1000000) := lw_i4 (List.mem_of_getElem? (i := 112) rfl)
theorem am_kl_6 : am_KL (9, 265, 1431655765) := lw_i3 (List.mem_of_getElem? (i := 163) rfl)
theorem am_kl_7 : am_KL (9, 266, 858993459) := lw_i3 (List.mem_of_getElem? (i := 164) rfl)
theorem am_kl_8 : am_KL (9, 267, 252645135) := lw_i3 (List.mem_of_getElem? (i := 165) rfl)
theorem am_kl_all : ∀ q ∈ am_kl, am_KL q := List.forall_mem_cons.mpr ⟨am_kl_0, List.forall_mem_cons.mpr ⟨am_kl_1, List.forall_mem_cons.mpr ⟨am_kl_2, List.forall_mem_cons.mpr ⟨am_kl_3, List.forall_mem_cons.mpr ⟨am_kl_4, List.forall_mem_cons.mpr ⟨am_kl_5, List.forall_mem_cons.mpr ⟨am_kl_6, List.forall_mem_cons.mpr ⟨am_kl_7, List.forall_mem_cons.mpr ⟨am_kl_8, fun _ h => absurd h List.not_mem_nil⟩⟩⟩⟩⟩⟩⟩⟩⟩
theorem am_xl_0 : am_XL (6, 282) := lw_i3 (List.mem_of_getElem? (i := 139) rfl)
theorem am_xl_all : ∀ q ∈ am_xl, am_XL q := List.forall_mem_cons.mpr ⟨am_xl_0, fun _ h => absurd h List.not_mem_nil⟩
theorem am_nl_0 : am_NL (5, 78) := lw_i3 (List.mem_of_getElem? (i := 69) rfl)
theorem am_nl_1 : am_NL (6, 218) := lw_i3 (List.mem_of_getElem? (i := 62) rfl)
theorem am_nl_all : ∀ q ∈ am_nl, am_NL q := List.forall_mem_cons.mpr ⟨am_nl_0, List.forall_mem_cons.mpr ⟨am_nl_1, fun _ h => absurd h List.not_mem_nil⟩⟩
theorem am_ac_0 : am_AC (5, 64) := lw_i3 (List.mem_of_getElem? (i := 61) rfl)
theorem am_ac_1 : am_AC (1, 34) := lw_i2 (List.mem_of_getElem? (i := 223) rfl)
theorem am_ac_2 : am_AC (3, 19) := lw_i3 (List.mem_of_getElem? (i := 6) rfl)
theorem am_ac_3 : am_AC (6, 226) := lw_i3 (List.mem_of_getElem? (i := 180) rfl)
theorem am_ac_all : ∀ q ∈ am_ac, am_AC q := List.forall_mem_cons.mpr ⟨am_ac_0, List.forall_mem_cons.mpr ⟨am_ac_1, List.forall_mem_cons.mpr ⟨am_ac_2, List.forall_mem_cons.mpr ⟨am_ac_3, fun _ h => absurd h List.not_mem_nil⟩⟩⟩⟩
theorem am_l_coder : Cond.fieldLink (am_cn 11) 15 "java/lang/String" "coder" "B" ∈ lw_tbl := lw_i7 (List.mem_of_getElem? (i := 87) rfl)
theorem am_l_value : Cond.fieldLink (am_cn 11) 9 "java/lang/String" "value" "[B" ∈ lw_tbl := lw_i7 (List.mem_of_getElem? (i := 86) rfl)
theorem am_l_compact : Cond.fieldLink (am_cn 11) 38 "java/lang/String" "COMPACT_STRINGS" "Z" ∈ lw_tbl := lw_i2 (List.mem_of_getElem? (i := 120) rfl)
theorem am_l_sioobe : Cond.fieldLink (am_cn 11) 1053 "jdk/internal/util/Preconditions" "SIOOBE_FORMATTER" "Ljava/util/function/BiFunction;" ∈ lw_tbl := lw_i2 (List.mem_of_getElem? (i := 136) rfl)
theorem am_l_nat : Cond.native arraycopyName ∈ lw_tbl := lw_i2 (List.mem_of_getElem? (i := 225) rfl)
theorem am_l_stat : Cond.static arraycopyName ∈ lw_tbl := lw_i2 (List.mem_of_getElem? (i := 224) rfl)
theorem am_l_max1 : Cond.static Lib.Math.max.name ∈ lw_tbl := lw_i3 (List.mem_of_getElem? (i := 140) rfl)
theorem am_l_max2 : Cond.code Lib.Math.max.name Lib.Math.max.code 2 (some .int) ∈ lw_tbl := lw_i3 (List.mem_of_getElem? (i := 141) rfl)
theorem am_l_min1 : Cond.static Lib.Math.min.name ∈ lw_tbl := lw_i3 (List.mem_of_getElem? (i := 63) rfl)
theorem am_l_min2 : Cond.code Lib.Math.min.name Lib.Math.min.code 2 (some .int) ∈ lw_tbl := lw_i3 (List.mem_of_getElem? (i := 64) rfl)
theorem am_l_math : Cond.initialized "java/lang/Math" ∈ lw_tbl := lw_i1 (List.mem_of_getElem? (i := 10) rfl)
theorem am_l_sys : Cond.initialized "java/lang/System" ∈ lw_tbl := lw_i1 (List.mem_of_getElem? (i := 9) rfl)
def lw_gd : List Cond := lw_tbl.filter goodWord
theorem lw_g {w : Cond} (h : w ∈ lw_tbl) (g : goodWord w = true) : w ∈ lw_gd := List.mem_filter.mpr ⟨h, g⟩
theorem lw_gd_good : ∀ w ∈ lw_gd, (w.onTables && w.keeps) = true ∨ ∃ ty, w = .arrayClass ty := fun w h => good_of_word (List.mem_filter.mp h).2
/-- each class: its fields' types, apart, in the tables -/
def am_CF (q : vw_C) : Prop := (∃ ty : Nat → FieldType, ∀ k, k < q.2.2 → parseFieldDescriptor (q.2.1 k).2.2.1 = some (ty k)) ∧ (∀ a, a < q.2.2 → ∀ b, b < q.2.2 → a ≠ b → (q.2.1 a).2.1 ≠ (q.2.1 b).2.1) ∧ ∀ w ∈ u_ws q.1 q.2.1 q.2.2, w ∈ lw_gd
theorem am_cf0 : am_CF (RX0, TX0, 2) := ⟨⟨tyX0, tyX0_ok⟩, nmX0, List.forall_mem_cons.mpr ⟨lw_g (lw_i1 (List.mem_of_getElem? (i := 228) rfl)) rfl, List.forall_mem_cons.mpr ⟨lw_g (lw_i1 (List.mem_of_getElem? (i := 230) rfl)) rfl, fun _ h => absurd h List.not_mem_nil⟩⟩⟩
theorem am_cf1 : am_CF (RX1, TX1, 7) := ⟨⟨tyX1, tyX1_ok⟩, nmX1, List.forall_mem_cons.mpr ⟨lw_g (lw_i1 (List.mem_of_getElem? (i := 143) rfl)) rfl, List.forall_mem_cons.mpr ⟨lw_g (lw_i1 (List.mem_of_getElem? (i := 145) rfl)) rfl, List.forall_mem_cons.mpr ⟨lw_g (lw_i1 (List.mem_of_getElem? (i := 147) rfl)) rfl, List.forall_mem_cons.mpr ⟨lw_g (lw_i1 (List.mem_of_getElem? (i := 149) rfl)) rfl, List.forall_mem_cons.mpr ⟨lw_g (lw_i1 (List.mem_of_getElem? (i := 151) rfl)) rfl, List.forall_mem_cons.mpr ⟨lw_g (lw_i1 (List.mem_of_getElem? (i := 153) rfl)) rfl, List.forall_mem_cons.mpr ⟨lw_g (lw_i1 (List.mem_of_getElem? (i := 155) rfl)) rfl, fun _ h => absurd h List.not_mem_nil⟩⟩⟩⟩⟩⟩⟩⟩
theorem am_cf2 : am_CF (RX2, TX2, 10) := ⟨⟨tyX2, tyX2_ok⟩, nmX2, List.forall_mem_cons.mpr ⟨lw_g (lw_i1 (List.mem_of_getElem? (i := 195) rfl)) rfl, List.forall_mem_cons.mpr ⟨lw_g (lw_i1 (List.mem_of_getElem? (i := 197) rfl)) rfl, List.forall_mem_cons.mpr ⟨lw_g (lw_i1 (List.mem_of_getElem? (i := 199) rfl)) rfl, List.forall_mem_cons.mpr ⟨lw_g (lw_i1 (List.mem_of_getElem? (i := 201) rfl)) rfl, List.forall_mem_cons.mpr ⟨lw_g (lw_i1 (List.mem_of_getElem? (i := 203) rfl)) rfl, List.forall_mem_cons.mpr ⟨lw_g (lw_i1 (List.mem_of_getElem? (i := 205) rfl)) rfl, List.forall_mem_cons.mpr ⟨lw_g (lw_i1 (List.mem_of_getElem? (i := 207) rfl)) rfl, List.forall_mem_cons.mpr ⟨lw_g (lw_i1 (List.mem_of_getElem? (i := 209) rfl)) rfl, List.forall_mem_cons.mpr ⟨lw_g (lw_i1 (List.mem_of_getElem? (i := 211) rfl)) rfl, List.forall_mem_cons.mpr ⟨lw_g (lw_i1 (List.mem_of_getElem? (i := 213) rfl)) rfl, fun _ h => absurd h List.not_mem_nil⟩⟩⟩⟩⟩⟩⟩⟩⟩⟩⟩
theorem am_cf3 : am_CF (RX3, TX3, 2) := ⟨⟨tyX3, tyX3_ok⟩, nmX3, List.forall_mem_cons.mpr ⟨lw_g (lw_i1 (List.mem_of_getElem? (i := 119) rfl)) rfl, List.forall_mem_cons.mpr ⟨lw_g (lw_i1 (List.mem_of_getElem? (i := 121) rfl)) rfl, fun _ h => absurd h List.not_mem_nil⟩⟩⟩
theorem am_cf4 : am_CF (RX4, TX4, 3) := ⟨⟨tyX4, tyX4_ok⟩, nmX4, List.forall_mem_cons.mpr ⟨lw_g (lw_i1 (List.mem_of_getElem? (i := 164) rfl)) rfl, List.forall_mem_cons.mpr ⟨lw_g (lw_i1 (List.mem_of_getElem? (i := 166) rfl)) rfl, List.forall_mem_cons.mpr ⟨lw_g (lw_i1 (List.mem_of_getElem? (i := 168) rfl)) rfl, fun _ h => absurd h List.not_mem_nil⟩⟩⟩⟩
theorem am_cf5 : am_CF (RX5, TX5, 17) := ⟨⟨tyX5, tyX5_ok⟩, nmX5, List.forall_mem_cons.mpr ⟨lw_g (lw_i1 (List.mem_of_getElem? (i := 63) rfl)) rfl, List.forall_mem_cons.mpr ⟨lw_g (lw_i1 (List.mem_of_getElem? (i := 65) rfl)) rfl, List.forall_mem_cons.mpr ⟨lw_g (lw_i1 (List.mem_of_getElem? (i := 67) rfl)) rfl, List.forall_mem_cons.mpr ⟨lw_g (lw_i1 (List.mem_of_getElem? (i := 69) rfl)) rfl, List.forall_mem_cons.mpr ⟨lw_g (lw_i1 (List.mem_of_getElem? (i := 71) rfl)) rfl, List.forall_mem_cons.mpr ⟨lw_g (lw_i1 (List.mem_of_getElem? (i := 73) rfl)) rfl, List.forall_mem_cons.mpr ⟨lw_g (lw_i1 (List.mem_of_getElem? (i := 75) rfl)) rfl, List.forall_mem_cons.mpr ⟨lw_g (lw_i1 (List.mem_of_getElem? (i := 77) rfl)) rfl, List.forall_mem_cons.mpr ⟨lw_g (lw_i1 (List.mem_of_getElem? (i := 79) rfl)) rfl, List.forall_mem_cons.mpr ⟨lw_g (lw_i1 (List.mem_of_getElem? (i := 81) rfl)) rfl, List.forall_mem_cons.mpr ⟨lw_g (lw_i1 (List.mem_of_getElem? (i := 83) rfl)) rfl, List.forall_mem_cons.mpr ⟨lw_g (lw_i1 (List.mem_of_getElem? (i := 85) rfl)) rfl, List.forall_mem_cons.mpr ⟨lw_g (lw_i1 (List.mem_of_getElem? (i := 87) rfl)) rfl, List.forall_mem_cons.mpr ⟨lw_g (lw_i1 (List.mem_of_getElem? (i := 89) rfl)) rfl, List.forall_mem_cons.mpr ⟨lw_g (lw_i1 (List.mem_of_getElem? (i := 91) rfl)) rfl, List.forall_mem_cons.mpr ⟨lw_g (lw_i1 (List.mem_of_getElem? (i := 93) rfl)) rfl, List.forall_mem_cons.mpr ⟨lw_g (lw_i1 (List.mem_of_getElem? (i := 95) rfl)) rfl, fun _ h => absurd h List.not_mem_nil⟩⟩⟩⟩⟩⟩⟩⟩⟩⟩⟩⟩⟩⟩⟩⟩⟩⟩
theorem am_cf6 : am_CF (RX6, TX6, 16) := ⟨⟨tyX6, tyX6_ok⟩, nmX6, List.forall_mem_cons.mpr ⟨lw_g (lw_i2 (List.mem_of_getElem? (i := 9) rfl)) rfl, List.forall_mem_cons.mpr ⟨lw_g (lw_i2 (List.mem_of_getElem? (i := 11) rfl)) rfl, List.forall_mem_cons.mpr ⟨lw_g (lw_i2 (List.mem_of_getElem? (i := 13) rfl)) rfl, List.forall_mem_cons.mpr ⟨lw_g (lw_i2 (List.mem_of_getElem? (i := 15) rfl)) rfl, List.forall_mem_cons.mpr ⟨lw_g (lw_i2 (List.mem_of_getElem? (i := 17) rfl)) rfl, List.forall_mem_cons.mpr ⟨lw_g (lw_i2 (List.mem_of_getElem? (i := 19) rfl)) rfl, List.forall_mem_cons.mpr ⟨lw_g (lw_i2 (List.mem_of_getElem? (i := 21) rfl)) rfl, List.forall_mem_cons.mpr ⟨lw_g (lw_i2 (List.mem_of_getElem? (i := 23) rfl)) rfl, List.forall_mem_cons.mpr ⟨lw_g (lw_i2 (List.mem_of_getElem? (i := 25) rfl)) rfl, List.forall_mem_cons.mpr ⟨lw_g (lw_i2 (List.mem_of_getElem? (i := 27) rfl)) rfl, List.forall_mem_cons.mpr ⟨lw_g (lw_i2 (List.mem_of_getElem? (i := 29) rfl)) rfl, List.forall_mem_cons.mpr ⟨lw_g (lw_i2 (List.mem_of_getElem? (i := 31) rfl)) rfl, List.forall_mem_cons.mpr ⟨lw_g (lw_i2 (List.mem_of_getElem? (i := 33) rfl)) rfl, List.forall_mem_cons.mpr ⟨lw_g (lw_i2 (List.mem_of_getElem? (i := 35) rfl)) rfl, List.forall_mem_cons.mpr ⟨lw_g (lw_i2 (List.mem_of_getElem? (i := 37) rfl)) rfl, List.forall_mem_cons.mpr ⟨lw_g (lw_i2 (List.mem_of_getElem? (i := 39) rfl)) rfl, fun _ h => absurd h List.not_mem_nil⟩⟩⟩⟩⟩⟩⟩⟩⟩⟩⟩⟩⟩⟩⟩⟩⟩
theorem am_cf7 : am_CF (RX7, TX7, 36) := ⟨⟨tyX7, tyX7_ok⟩, nmX7, List.forall_mem_cons.mpr ⟨lw_g (lw_i4 (List.mem_of_getElem? (i := 171) rfl)) rfl, List.forall_mem_cons.mpr ⟨lw_g (lw_i4 (List.mem_of_getElem? (i := 173) rfl)) rfl, List.forall_mem_cons.mpr ⟨lw_g (lw_i4 (List.mem_of_getElem? (i := 175) rfl)) rfl, List.forall_mem_cons.mpr ⟨lw_g (lw_i4 (List.mem_of_getElem? (i := 177) rfl)) rfl, List.forall_mem_cons.mpr ⟨lw_g (lw_i4 (List.mem_of_getElem? (i := 179) rfl)) rfl, List.forall_mem_cons.mpr ⟨lw_g (lw_i4 (List.mem_of_getElem? (i := 181) rfl)) rfl, List.forall_mem_cons.mpr ⟨lw_g (lw_i4 (List.mem_of_getElem? (i := 183) rfl)) rfl, List.forall_mem_cons.mpr ⟨lw_g (lw_i4 (List.mem_of_getElem? (i := 185) rfl)) rfl, List.forall_mem_cons.mpr ⟨lw_g (lw_i4 (List.mem_of_getElem? (i := 187) rfl)) rfl, List.forall_mem_cons.mpr ⟨lw_g (lw_i4 (List.mem_of_getElem? (i := 189) rfl)) rfl, List.forall_mem_cons.mpr ⟨lw_g (lw_i4 (List.mem_of_getElem? (i := 191) rfl)) rfl, List.forall_mem_cons.mpr ⟨lw_g (lw_i4 (List.mem_of_getElem? (i := 193) rfl)) rfl, List.forall_mem_cons.mpr ⟨lw_g (lw_i4 (List.mem_of_getElem? (i := 195) rfl)) rfl, List.forall_mem_cons.mpr ⟨lw_g (lw_i4 (List.mem_of_getElem? (i := 197) rfl)) rfl, List.forall_mem_cons.mpr ⟨lw_g (lw_i4 (List.mem_of_getElem? (i := 199) rfl)) rfl, List.forall_mem_cons.mpr ⟨lw_g (lw_i4 (List.mem_of_getElem? (i := 201) rfl)) rfl, List.forall_mem_cons.mpr ⟨lw_g (lw_i4 (List.mem_of_getElem? (i := 203) rfl)) rfl, List.forall_mem_cons.mpr ⟨lw_g (lw_i4 (List.mem_of_getElem? (i := 205) rfl)) rfl, List.forall_mem_cons.mpr ⟨lw_g (lw_i4 (List.mem_of_getElem? (i := 207) rfl)) rfl, List.forall_mem_cons.mpr ⟨lw_g (lw_i4 (List.mem_of_getElem? (i := 209) rfl)) rfl, List.forall_mem_cons.mpr ⟨lw_g (lw_i4 (List.mem_of_getElem? (i := 211) rfl)) rfl, List.forall_mem_cons.mpr ⟨lw_g (lw_i4 (List.mem_of_getElem? (i := 213) rfl)) rfl, List.forall_mem_cons.mpr ⟨lw_g (lw_i4 (List.mem_of_getElem? (i := 215) rfl)) rfl, List.forall_mem_cons.mpr ⟨lw_g (lw_i4 (List.mem_of_getElem? (i := 217) rfl)) rfl, List.forall_mem_cons.mpr ⟨lw_g (lw_i4 (List.mem_of_getElem? (i := 219) rfl)) rfl, List.forall_mem_cons.mpr ⟨lw_g (lw_i4 (List.mem_of_getElem? (i := 221) rfl)) rfl, List.forall_mem_cons.mpr ⟨lw_g (lw_i4 (List.mem_of_getElem? (i := 223) rfl)) rfl, List.forall_mem_cons.mpr ⟨lw_g (lw_i4 (List.mem_of_getElem? (i := 225) rfl)) rfl, List.forall_mem_cons.mpr ⟨lw_g (lw_i4 (List.mem_of_getElem? (i := 227) rfl)) rfl, List.forall_mem_cons.mpr ⟨lw_g (lw_i4 (List.mem_of_getElem? (i := 229) rfl)) rfl, List.forall_mem_cons.mpr ⟨lw_g (lw_i4 (List.mem_of_getElem? (i := 231) rfl)) rfl, List.forall_mem_cons.mpr ⟨lw_g (lw_i4 (List.mem_of_getElem? (i := 233) rfl)) rfl, List.forall_mem_cons.mpr ⟨lw_g (lw_i4 (List.mem_of_getElem? (i := 235) rfl)) rfl, List.forall_mem_cons.mpr ⟨lw_g (lw_i4 (List.mem_of_getElem? (i := 237) rfl)) rfl, List.forall_mem_cons.mpr ⟨lw_g (lw_i4 (List.mem_of_getElem? (i := 239) rfl)) rfl, List.forall_mem_cons.mpr ⟨lw_g (lw_i5 (List.mem_of_getElem? (i := 1) rfl)) rfl, fun _ h => absurd h List.not_mem_nil⟩⟩⟩⟩⟩⟩⟩⟩⟩⟩⟩⟩⟩⟩⟩⟩⟩⟩⟩⟩⟩⟩⟩⟩⟩⟩⟩⟩⟩⟩⟩⟩⟩⟩⟩⟩⟩
theorem am_cf_all : ∀ (ci : Nat) (q : vw_C), vwCl[ci]? = some q → am_CF q := by
  intro ci q h
  match ci, h with
  | 0, h => cases h; exact am_cf0
  | 1, h => cases h; exact am_cf1
  | 2, h => cases h; exact am_cf2
  | 3, h => cases h; exact am_cf3
  | 4, h => cases h; exact am_cf4
  | 5, h => cases h; exact am_cf5
  | 6, h => cases h; exact am_cf6
  | 7, h => cases h; exact am_cf7
  | k + 8, h => simp [vwCl] at h
