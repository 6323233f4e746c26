/-! START: what the start gives: strings, tables, statics (written by genstart.py) -/
def am_Fl : List Jvm.Cond := flatC (Jvm.Cond.and given_1 narrow_1)
def am_sb : List (Nat × Nat × Nat × List Int) := [(43, 2, 69, [108, 101, 102, 116, 32, 98, 101, 115, 116, 32, 119, 111, 114, 110, 32, 115, 99, 97, 114, 115, 32, 104, 111, 117, 114, 115, 32, 112, 114, 105, 99, 101, 32, 99, 111, 105, 110, 32, 99, 104, 105, 108, 100, 32, 111, 119, 110, 32, 99, 104, 97, 105, 110, 32, 115, 107, 105, 108, 108, 32, 104, 101, 108, 100, 32, 107, 105, 110, 100, 32, 104, 111, 117, 114, 32, 119, 104, 101, 110, 32, 111, 114, 32, 97, 110, 100, 32, 110, 111, 116, 32, 109, 97, 121, 32, 98, 97, 114, 32, 108, 101, 97, 114, 110, 32, 119, 101, 97, 114, 32, 115, 99, 97, 114, 32, 112, 97, 121, 32, 104, 97, 110, 100, 32, 104, 101, 97, 100, 32, 98, 111, 116, 104, 32, 110, 111, 110, 101, 32, 108, 101, 110, 100, 32, 116, 111, 32, 97, 116, 32, 102, 111, 114, 32, 119, 111, 114, 107, 32, 110, 101, 101, 100, 115, 32, 112, 97, 121, 115]), (216, 7, 154, [108, 101, 110, 100]), (224, 7, 156, [116, 111]), (230, 7, 158, [97, 116]), (236, 7, 159, [102, 111, 114]), (243, 7, 121, [112, 114, 105, 99, 101]), (252, 7, 161, [119, 111, 114, 107]), (260, 7, 163, [110, 101, 101, 100, 115]), (269, 7, 165, [112, 97, 121, 115]), (277, 7, 150, [98, 111, 116, 104]), (285, 7, 176, [119, 104, 101, 110]), (293, 7, 178, [111, 114]), (299, 7, 180, [97, 110, 100]), (306, 7, 182, [110, 111, 116]), (313, 7, 111, [109, 97, 121]), (320, 7, 113, [98, 97, 114]), (327, 7, 115, [98, 101, 115, 116]), (335, 7, 117, [119, 111, 114, 110]), (343, 7, 119, [104, 111, 117, 114, 115]), (352, 7, 123, [99, 111, 105, 110]), (360, 7, 125, [99, 104, 97, 105, 110]), (369, 7, 99, [108, 101, 102, 116]), (377, 7, 105, [115, 99, 97, 114, 115]), (386, 7, 107, [99, 104, 105, 108, 100]), (395, 7, 109, [111, 119, 110]), (402, 7, 130, [108, 101, 97, 114, 110]), (411, 7, 132, [119, 101, 97, 114]), (419, 7, 134, [115, 99, 97, 114]), (427, 7, 136, [112, 97, 121]), (434, 7, 138, [115, 107, 105, 108, 108]), (443, 7, 140, [104, 101, 108, 100]), (451, 7, 142, [107, 105, 110, 100]), (459, 7, 144, [104, 111, 117, 114]), (467, 7, 146, [104, 97, 110, 100]), (475, 7, 148, [104, 101, 97, 100]), (483, 7, 152, [110, 111, 110, 101])]
def am_tb : List (Nat × List Int) := [(15, [18, 20, 24]), (21, [19, 23, 27]), (9, [1023, 15757, 2475])]
def am_sg (i : Nat) : Nat × Nat × Nat × List Int := am_sb.getD i (0, 0, 0, [])
def am_by (i : Nat) : List Int := (am_sg i).2.2.2
def am_ti (i : Nat) : List Int := (am_tb.getD i (0, [])).2
def am_sT (i : Nat) : Term := .string (am_cn (am_sg i).2.1) (am_sg i).2.2.1
def am_sV (i : Nat) : Term := .field (am_sT i) "java/lang/String" "value" "[B"
def am_se (i : Nat) : List Jvm.Cond := [.exactly (am_sT i) "java/lang/String", .eq (.field (am_sT i) "java/lang/String" "coder" "B") (.int 0), .arrayOf (am_sV i) .byte, .eq (.length (am_sV i)) (.int (Int32.ofNat (am_by i).length))] ++ (List.range (am_by i).length).map (fun j => .eq (.elem (am_sV i) (.int (Int32.ofNat j))) (.int (Int32.ofInt ((am_by i).getD j 0))))
def am_sq (i : Nat) : Term := .static "LentHands" (am_GN (200 + i)) "[I"
def am_te (i : Nat) : List Jvm.Cond := [.arrayOf (am_sq i) .int, .eq (.length (am_sq i)) (.int (Int32.ofNat (am_ti i).length))] ++ (List.range (am_ti i).length).map (fun j => .eq (.elem (am_sq i) (.int (Int32.ofNat j))) (.int (Int32.ofInt ((am_ti i).getD j 0))))
set_option maxRecDepth 100000 in
theorem am_se_ok : ∀ i, i < 36 → (am_Fl.drop (am_sg i).1).take (4 + (am_by i).length) = am_se i := by decide +kernel
theorem am_te_ok : ∀ i, i < 3 → (am_Fl.drop ((am_tb.getD i (0, [])).1 + 1)).take (2 + (am_ti i).length) = am_te i := by decide +kernel
theorem am_by_len : ∀ i, i < 36 → am_len (fun _ _ => 0) (400 + i) = (am_by i).length ∧ (am_by i).length < 2000 ∧ ∀ x ∈ am_by i, am_in x := by decide +kernel
theorem am_ti_len : ∀ i, i < 3 → am_len (fun _ _ => 0) (200 + i) = (am_ti i).length ∧ (am_ti i).length < 2000 ∧ ∀ x ∈ am_ti i, am_in x := by decide +kernel
theorem am_Fl_sl : ∀ q ∈ am_sl, 300 ≤ q.2.2 ∧ q.2.2 < 336 ∧ am_sT (q.2.2 - 300) = .string (am_cn q.1) q.2.1 := by decide +kernel
theorem am_nC : am_Fl[4]? = some (.eq (.static "java/lang/String" "COMPACT_STRINGS" "Z") (.int 1)) := by rfl
theorem am_nS : am_Fl[5]? = some (.isRef (.static "jdk/internal/util/Preconditions" "SIOOBE_FORMATTER" "Ljava/util/function/BiFunction;")) := by rfl
theorem am_w_cs : Cond.laysStatic "java/lang/String" "COMPACT_STRINGS" "Z" ∈ lw_tbl := lw_i2 (List.mem_of_getElem? (i := 121) rfl)
theorem am_w_ss : Cond.laysStatic "jdk/internal/util/Preconditions" "SIOOBE_FORMATTER" "Ljava/util/function/BiFunction;" ∈ lw_tbl := lw_i2 (List.mem_of_getElem? (i := 137) rfl)
theorem am_w_istr : Cond.initialized "java/lang/String" ∈ lw_tbl := lw_i1 (List.mem_of_getElem? (i := 12) rfl)
theorem am_w_ipre : Cond.initialized "jdk/internal/util/Preconditions" ∈ lw_tbl := lw_i1 (List.mem_of_getElem? (i := 14) rfl)
theorem am_w_ilh : Cond.initialized "LentHands" ∈ lw_tbl := lw_i1 (List.mem_of_getElem? (i := 1) rfl)
theorem am_w_ts : ∀ i, i < 3 → Cond.laysStatic "LentHands" (am_GN (200 + i)) "[I" ∈ lw_tbl := by
  intro i hi
  match i, hi with
  | 0, _ => exact lw_i2 (List.mem_of_getElem? (i := 188) rfl)
  | 1, _ => exact lw_i2 (List.mem_of_getElem? (i := 190) rfl)
  | 2, _ => exact lw_i2 (List.mem_of_getElem? (i := 178) rfl)
theorem am_w_aint : Cond.arrayClass .int ∈ lw_tbl := lw_i1 (List.mem_of_getElem? (i := 98) rfl)
theorem am_w_achar : Cond.arrayClass .char ∈ lw_tbl := lw_i1 (List.mem_of_getElem? (i := 216) rfl)
theorem am_w_sr : ∀ q ∈ am_sl, ∃ tx : String, Cond.stringRef (am_cn q.1) q.2.1 tx ∈ lw_tbl := List.forall_mem_cons.mpr ⟨⟨"left", lw_i5 (List.mem_of_getElem? (i := 108) rfl)⟩, List.forall_mem_cons.mpr ⟨⟨"scars", lw_i5 (List.mem_of_getElem? (i := 109) rfl)⟩, List.forall_mem_cons.mpr ⟨⟨"child", lw_i5 (List.mem_of_getElem? (i := 110) rfl)⟩, List.forall_mem_cons.mpr ⟨⟨"own", lw_i5 (List.mem_of_getElem? (i := 111) rfl)⟩, List.forall_mem_cons.mpr ⟨⟨"may", lw_i5 (List.mem_of_getElem? (i := 97) rfl)⟩, List.forall_mem_cons.mpr ⟨⟨"bar", lw_i5 (List.mem_of_getElem? (i := 98) rfl)⟩, List.forall_mem_cons.mpr ⟨⟨"best", lw_i5 (List.mem_of_getElem? (i := 99) rfl)⟩, List.forall_mem_cons.mpr ⟨⟨"worn", lw_i5 (List.mem_of_getElem? (i := 100) rfl)⟩, List.forall_mem_cons.mpr ⟨⟨"hours", lw_i5 (List.mem_of_getElem? (i := 101) rfl)⟩, List.forall_mem_cons.mpr ⟨⟨"price", lw_i5 (List.mem_of_getElem? (i := 80) rfl)⟩, List.forall_mem_cons.mpr ⟨⟨"coin", lw_i5 (List.mem_of_getElem? (i := 102) rfl)⟩, List.forall_mem_cons.mpr ⟨⟨"chain", lw_i5 (List.mem_of_getElem? (i := 103) rfl)⟩, List.forall_mem_cons.mpr ⟨⟨"learn", lw_i5 (List.mem_of_getElem? (i := 116) rfl)⟩, List.forall_mem_cons.mpr ⟨⟨"wear", lw_i5 (List.mem_of_getElem? (i := 117) rfl)⟩, List.forall_mem_cons.mpr ⟨⟨"scar", lw_i5 (List.mem_of_getElem? (i := 118) rfl)⟩, List.forall_mem_cons.mpr ⟨⟨"pay", lw_i5 (List.mem_of_getElem? (i := 119) rfl)⟩, List.forall_mem_cons.mpr ⟨⟨"skill", lw_i5 (List.mem_of_getElem? (i := 120) rfl)⟩, List.forall_mem_cons.mpr ⟨⟨"held", lw_i5 (List.mem_of_getElem? (i := 121) rfl)⟩, List.forall_mem_cons.mpr ⟨⟨"kind", lw_i5 (List.mem_of_getElem? (i := 122) rfl)⟩, List.forall_mem_cons.mpr ⟨⟨"hour", lw_i5 (List.mem_of_getElem? (i := 123) rfl)⟩, List.forall_mem_cons.mpr ⟨⟨"hand", lw_i5 (List.mem_of_getElem? (i := 128) rfl)⟩, List.forall_mem_cons.mpr ⟨⟨"head", lw_i5 (List.mem_of_getElem? (i := 129) rfl)⟩, List.forall_mem_cons.mpr ⟨⟨"both", lw_i5 (List.mem_of_getElem? (i := 88) rfl)⟩, List.forall_mem_cons.mpr ⟨⟨"none", lw_i5 (List.mem_of_getElem? (i := 130) rfl)⟩, List.forall_mem_cons.mpr ⟨⟨"lend", lw_i5 (List.mem_of_getElem? (i := 70) rfl)⟩, List.forall_mem_cons.mpr ⟨⟨"to", lw_i5 (List.mem_of_getElem? (i := 77) rfl)⟩, List.forall_mem_cons.mpr ⟨⟨"at", lw_i5 (List.mem_of_getElem? (i := 78) rfl)⟩, List.forall_mem_cons.mpr ⟨⟨"for", lw_i5 (List.mem_of_getElem? (i := 79) rfl)⟩, List.forall_mem_cons.mpr ⟨⟨"work", lw_i5 (List.mem_of_getElem? (i := 85) rfl)⟩, List.forall_mem_cons.mpr ⟨⟨"needs", lw_i5 (List.mem_of_getElem? (i := 86) rfl)⟩, List.forall_mem_cons.mpr ⟨⟨"pays", lw_i5 (List.mem_of_getElem? (i := 87) rfl)⟩, List.forall_mem_cons.mpr ⟨⟨"when", lw_i5 (List.mem_of_getElem? (i := 89) rfl)⟩, List.forall_mem_cons.mpr ⟨⟨"or", lw_i5 (List.mem_of_getElem? (i := 90) rfl)⟩, List.forall_mem_cons.mpr ⟨⟨"and", lw_i5 (List.mem_of_getElem? (i := 91) rfl)⟩, List.forall_mem_cons.mpr ⟨⟨"not", lw_i5 (List.mem_of_getElem? (i := 92) rfl)⟩, List.forall_mem_cons.mpr ⟨⟨"left best worn scars hours price coin child own chain skill held kind hour when or and not may bar learn wear scar pay hand head both none lend to at for work needs pays", lw_i2 (List.mem_of_getElem? (i := 111) rfl)⟩, fun _ h => absurd h List.not_mem_nil⟩⟩⟩⟩⟩⟩⟩⟩⟩⟩⟩⟩⟩⟩⟩⟩⟩⟩⟩⟩⟩⟩⟩⟩⟩⟩⟩⟩⟩⟩⟩⟩⟩⟩⟩⟩
def am_C (L : Nat) (xs : Nat → Int32) : am_M := fun a i =>
  if a = 203 then (if i = -1 then (L : Int) else if 0 ≤ i ∧ i < L then (xs i.toNat).toInt else 0)
  else if 200 ≤ a ∧ a < 203 ∧ 0 ≤ i then (am_ti (a - 200)).getD i.toNat 0
  else if 400 ≤ a ∧ a < 436 ∧ 0 ≤ i then (am_by (a - 400)).getD i.toNat 0
  else 0
theorem am_getD_in {l : List Int} (h : ∀ x ∈ l, am_in x) (j : Nat) : am_in (l.getD j 0) := by
  rw [List.getD_eq_getElem?_getD]
  cases hj : l[j]? with
  | none => exact ⟨by decide, by decide⟩
  | some x => exact h x (List.mem_of_getElem? hj)
theorem am_getD_map (l : List Int) (j : Nat) : (l.map Int32.ofInt).getD j 0 = Int32.ofInt (l.getD j 0) := by
  rw [List.getD_eq_getElem?_getD, List.getD_eq_getElem?_getD, List.getElem?_map]
  cases l[j]? <;> rfl
theorem am_C_in (L : Nat) (xs : Nat → Int32) (hL : L ≤ 3072) : ∀ a i, am_in (am_C L xs a i) := by
  intro a i
  have z : am_in 0 := ⟨by decide, by decide⟩
  unfold am_C
  split
  · split
    · exact ⟨by omega, by omega⟩
    · split
      · have h1 := Int32.le_toInt (xs i.toNat)
        have h2 := Int32.toInt_lt (xs i.toNat)
        exact ⟨by omega, by omega⟩
      · exact z
  · split
    · rename_i h
      exact am_getD_in (am_ti_len (a - 200) (by omega)).2.2 _
    · split
      · rename_i h
        exact am_getD_in (am_by_len (a - 400) (by omega)).2.2 _
      · exact z
theorem am_strq {args : Array Value} {s : State} (hfl : ∀ w ∈ am_Fl, w.before args s = true) {A : Nat → Prop} (hA : ∀ a : Nat, a < s.heap.size → ¬ A a) (i : Nat) (hi : i < 36) : ∃ q : Nat × Nat, (am_sT i).eval args s none [] s = some (.ref q.1) ∧ va_O "java/lang/String" q.1 A s s.heap ∧ va_OF "java/lang/String" "coder" "B" (.int 0) q.1 A s s.heap ∧ va_OF "java/lang/String" "value" "[B" (.ref q.2) q.1 A s s.heap ∧ va_T .byte q.2 (am_by i).length (fun j => .int (Int32.ofInt ((am_by i).getD j 0))) A s s.heap := by
  have hse : ∀ w ∈ am_se i, w.before args s = true := by
    rw [← am_se_ok i hi]
    exact fun w hw => hfl w (List.mem_of_mem_drop (List.mem_of_mem_take hw))
  have hlen := (am_by_len i hi).2.1
  have z : ∀ k, k < 1 → k = 0 := fun k hk => by omega
  obtain ⟨adK, adV, h1, h2⟩ := vk_Sof (N := 1) (tm := fun _ => am_sT i) (len := [(am_by i).length]) (byt := [(am_by i).map Int32.ofInt]) (A := A) (args := args) (s := s)
    (fun k hk => by rw [z k hk]; show (am_by i).length < 2 ^ 31; omega)
    (fun k hk => hse _ (List.mem_append_left _ (List.mem_of_getElem? (i := 0) rfl)))
    (fun k hk => hse _ (List.mem_append_left _ (List.mem_of_getElem? (i := 1) rfl)))
    (fun k hk => hse _ (List.mem_append_left _ (List.mem_of_getElem? (i := 2) rfl)))
    (fun k hk => by rw [z k hk]; exact hse _ (List.mem_append_left _ (List.mem_of_getElem? (i := 3) rfl)))
    (fun k hk j hj => by
      rw [z k hk] at hj ⊢
      have hj : j < (am_by i).length := hj
      show (Cond.eq (.elem (am_sV i) (.int (Int32.ofNat j))) (.int (((am_by i).map Int32.ofInt).getD j 0))).before args s = true
      rw [am_getD_map]
      exact hse _ (List.mem_append_right _ (List.mem_map.mpr ⟨j, List.mem_range.mpr hj, rfl⟩)))
    (fun k j hk hj hne => absurd ((z k hk).trans (z j hj).symm) hne) hA
  obtain ⟨a1, a2, a3, a4⟩ := h1.1 0 (by decide)
  refine ⟨(adK 0, adV 0), h2 0 (by decide), a1, a2, a3, ?_⟩
  have e : (fun j => Value.int ((([(am_by i).map Int32.ofInt] : List (List Int32)).getD 0 []).getD j 0)) = (fun j => .int (Int32.ofInt ((am_by i).getD j 0))) := by
    funext j
    show Value.int (((am_by i).map Int32.ofInt).getD j 0) = _
    rw [am_getD_map]
  rw [e] at a4
  exact a4
theorem am_tab {args : Array Value} {s : State} (hfl : ∀ w ∈ am_Fl, w.before args s = true) (hts : ∀ w ∈ lw_tbl, w.before args s = true) {A : Nat → Prop} (hA : ∀ a : Nat, a < s.heap.size → ¬ A a) (i : Nat) (hi : i < 3) : ∃ t : Nat, va_Z "LentHands" (am_GN (200 + i)) "[I" (.ref t) A s s.heap ∧ va_T .int t (am_ti i).length (fun j => .int (Int32.ofInt ((am_ti i).getD j 0))) A s s.heap := by
  have hse : ∀ w ∈ am_te i, w.before args s = true := by
    rw [← am_te_ok i hi]
    exact fun w hw => hfl w (List.mem_of_mem_drop (List.mem_of_mem_take hw))
  have hlen := (am_ti_len i hi).2.1
  obtain ⟨t, h1, h2⟩ := va_Tof (N := (am_ti i).length) (f := fun j => .int (Int32.ofInt ((am_ti i).getD j 0))) (A := A) (tm := am_sq i) (ty := .int) (args := args) (s := s) (by omega)
    (hse _ (List.mem_append_left _ (List.mem_of_getElem? (i := 0) rfl)))
    (va_eqt (hse _ (List.mem_append_left _ (List.mem_of_getElem? (i := 1) rfl))))
    (fun j hj => va_eqt (hse _ (List.mem_append_right _ (List.mem_map.mpr ⟨j, List.mem_range.mpr hj, rfl⟩)))) hA
  exact ⟨t, va_Zof (hts _ (am_w_ts i hi)) (hts _ am_w_ilh) h1 hA, h2⟩
theorem am_arr {args : Array Value} {s : State} {ty : FieldType} (h : (Cond.arrayClass ty).before args s = true) : ∃ cA comp kA, s.vm.findClass ("[" ++ ty.toString) = some cA ∧ s.vm.classes[cA]? = some kA ∧ kA.kind = .array comp ty := by
  simp only [Cond.before, Cond.holds, Cond.value, beq_iff_eq] at h
  cases hc : s.vm.findClass ("[" ++ ty.toString) with
  | none => simp [hc] at h
  | some cA =>
    simp only [hc, Option.bind_some, Option.map_eq_some_iff] at h
    obtain ⟨k, hk, hb⟩ := h
    refine ⟨cA, ?_⟩
    cases hkk : k.kind with
    | array comp ty' =>
      rw [hkk] at hb
      have : ty' = ty := by simpa using hb
      subst this
      exact ⟨comp, k, rfl, hk, hkk⟩
    | _ => rw [hkk] at hb; simp at hb
theorem am_setup {s : State} {b L : Nat} {xs : Nat → Int32} (hL : L ≤ 3072) (hts : ∀ w ∈ lw_tbl, w.before #[Value.ref b] s = true) (hX : va_X b L xs s s.heap) (hbl : b < s.heap.size) (hgv : (Jvm.Cond.and given_1 narrow_1).before #[Value.ref b] s = true) : ∃ (D : va_G) (ad : Nat → Nat) (cA : Nat → ClassId) (vF : Value), (∀ k, k < 199 → ad k = s.heap.size + k) ∧ ad 203 = b ∧ (vF = .null ∨ ∃ x, vF = .ref x) ∧ va_K D vwCl (am_tys cA) s ∧ bm_St s ∧ am_St ad vF (am_C L xs) s s.heap := by
  have hfl : ∀ w ∈ am_Fl, w.before #[Value.ref b] s = true := flat_of_before _ hgv
  have hK0 : ∀ c : Nat, ∃ x : ClassId × (Nat → Nat), ∀ q : vw_C, vwCl[c]? = some q → u_Kn s q.1 q.2.1 q.2.2 x.1 x.2 := by
    intro c
    cases hq : vwCl[c]? with
    | none => exact ⟨(0, fun _ => 0), fun q h => (by cases h)⟩
    | some q =>
      have hc : c < 8 := (List.getElem?_eq_some_iff.mp hq).1
      have key : ∀ c, c < 8 → ∃ q ∈ bm_nw, q.2.2 = c := by decide +kernel
      obtain ⟨z, hz, hz2⟩ := key c hc
      obtain ⟨-, hi, -, -⟩ := bm_nw_all z hz
      rw [hz2] at hi
      obtain ⟨q', hq', hq2⟩ := am_vw c hc
      rw [hq] at hq'
      obtain rfl : q = q' := Option.some.inj hq'
      rw [← hq2] at hi
      obtain ⟨x1, x2, hx⟩ := u_known (C := q.1) (T := q.2.1) (N := q.2.2) hts (fun w hw => (List.mem_filter.mp ((am_cf_all c q hq).2.2 w hw)).1) (hts _ hi)
      exact ⟨(x1, x2), fun q' h => by obtain rfl := Option.some.inj h; exact hx⟩
  obtain ⟨f, hf⟩ := Classical.axiomOfChoice hK0
  obtain ⟨c9, o9, k9, a9, b9, d9⟩ := am_arr (hts _ am_w_aint)
  obtain ⟨c10, o10, k10, a10, b10, d10⟩ := am_arr (hts _ am_w_achar)
  obtain ⟨o11, c11, k11, e11, -, b11, d11, a11⟩ := Cond.arrayOver_spec (hts _ bm_l_aoWorld)
  obtain ⟨o14, c14, k14, e14, -, b14, d14, a14⟩ := Cond.arrayOver_spec (hts _ bm_l_aoLaw)
  obtain ⟨A0, hA1⟩ : ∃ A0 : Nat → Prop, A0 = fun q : Nat => ∃ k, k < 199 ∧ q = s.heap.size + k := ⟨_, rfl⟩
  have hA0 : ∀ a : Nat, a < s.heap.size → ¬ A0 a := fun a h q => by rw [hA1] at q; obtain ⟨k, -, e⟩ := q; omega
  have hst : ∀ i, ∃ q : Nat × Nat, i < 36 → (am_sT i).eval #[Value.ref b] s none [] s = some (.ref q.1) ∧ va_O "java/lang/String" q.1 A0 s s.heap ∧ va_OF "java/lang/String" "coder" "B" (.int 0) q.1 A0 s s.heap ∧ va_OF "java/lang/String" "value" "[B" (.ref q.2) q.1 A0 s s.heap ∧ va_T .byte q.2 (am_by i).length (fun j => .int (Int32.ofInt ((am_by i).getD j 0))) A0 s s.heap := by
    intro i
    rcases Nat.lt_or_ge i 36 with h | h
    · obtain ⟨q, hq⟩ := am_strq hfl hA0 i h
      exact ⟨q, fun _ => hq⟩
    · exact ⟨(0, 0), fun h2 => absurd h2 (Nat.not_lt.mpr h)⟩
  obtain ⟨g, hg⟩ := Classical.axiomOfChoice hst
  have htt : ∀ i, ∃ t : Nat, i < 3 → va_Z "LentHands" (am_GN (200 + i)) "[I" (.ref t) A0 s s.heap ∧ va_T .int t (am_ti i).length (fun j => .int (Int32.ofInt ((am_ti i).getD j 0))) A0 s s.heap := by
    intro i
    rcases Nat.lt_or_ge i 3 with h | h
    · obtain ⟨q, hq⟩ := am_tab hfl hts hA0 i h
      exact ⟨q, fun _ => hq⟩
    · exact ⟨0, fun h2 => absurd h2 (Nat.not_lt.mpr h)⟩
  obtain ⟨t, ht⟩ := Classical.axiomOfChoice htt
  obtain ⟨vF, hF1, hF2⟩ : ∃ vF, va_Z "jdk/internal/util/Preconditions" "SIOOBE_FORMATTER" "Ljava/util/function/BiFunction;" vF A0 s s.heap ∧ (vF = .null ∨ ∃ x, vF = .ref x) := by
    rcases va_Zqof (A := A0) (hts _ am_w_ss) (hts _ am_w_ipre) (hfl _ (List.mem_of_getElem? am_nS)) hA0 with h | ⟨x, h⟩
    · exact ⟨.null, h, Or.inl rfl⟩
    · exact ⟨.ref x, h, Or.inr ⟨x, rfl⟩⟩
  obtain ⟨ad, had⟩ : ∃ ad : Nat → Nat, ad = fun k => if k < 199 then s.heap.size + k else if k = 203 then b else if k < 203 then t (k - 200) else if k < 336 then (g (k - 300)).1 else (g (k - 400)).2 := ⟨_, rfl⟩
  obtain ⟨cA, hcA⟩ : ∃ cA : Nat → ClassId, cA = fun k => if k = 9 then c9 else if k = 10 then c10 else if k = 11 then c11 else c14 := ⟨_, rfl⟩
  have ad1 : ∀ k, k < 199 → ad k = s.heap.size + k := fun k hk => by rw [had]; simp [hk]
  have ad2 : ad 203 = b := by rw [had]; simp
  have ad3 : ∀ i, i < 3 → ad (200 + i) = t i := fun i hi => by
    rw [had]
    simp only [show ¬ 200 + i < 199 from by omega, show ¬ 200 + i = 203 from by omega, show 200 + i < 203 from by omega, if_true, if_false, show 200 + i - 200 = i from by omega]
  have ad4 : ∀ i, i < 36 → ad (300 + i) = (g i).1 := fun i hi => by
    rw [had]
    simp only [show ¬ 300 + i < 199 from by omega, show ¬ 300 + i = 203 from by omega, show ¬ 300 + i < 203 from by omega, show 300 + i < 336 from by omega, if_true, if_false, show 300 + i - 300 = i from by omega]
  have ad5 : ∀ i, i < 36 → ad (400 + i) = (g i).2 := fun i hi => by
    rw [had]
    simp only [show ¬ 400 + i < 199 from by omega, show ¬ 400 + i = 203 from by omega, show ¬ 400 + i < 203 from by omega, show ¬ 400 + i < 336 from by omega, if_false, show 400 + i - 400 = i from by omega]
  have hAe : am_A ad = A0 := by
    rw [hA1]
    funext q
    refine propext ⟨fun h => ?_, fun h => ?_⟩
    · obtain ⟨k, h1, h2⟩ := h
      exact ⟨k, h1, by rw [h2, ad1 k h1]⟩
    · obtain ⟨k, h1, h2⟩ := h
      exact ⟨k, h1, by rw [h2, ad1 k h1]⟩
  refine ⟨(fun c => (f c).1, fun c => (f c).2), ad, cA, vF, ad1, ad2, hF2, ⟨fun c q hq => hf c q hq, fun k q hq => ?_⟩, ⟨fun q hq h1 => ?_, va_AO.of (hts _ bm_l_aoWorld), va_AO.of (hts _ bm_l_aoLaw)⟩, ?_⟩
  · rw [hcA] at hq
    match k, hq with
    | 0, hq => cases hq; exact ⟨fun n z => ⟨fun k h => (by cases h), k9, b9, o9, d9⟩, a9⟩
    | 1, hq => cases hq; exact ⟨fun n z => ⟨fun k h => (by cases h), k10, b10, o10, d10⟩, a10⟩
    | 2, hq => cases hq; exact ⟨fun n z => ⟨fun k h => (by cases h), k11, b11, o11, d11⟩, k11, o11, b11, d11, e11, a11⟩
    | 3, hq => cases hq; exact ⟨fun n z => ⟨fun k h => (by cases h), k14, b14, o14, d14⟩, k14, o14, b14, d14, e14, a14⟩
    | k + 4, hq => simp [am_tys] at hq
  · have h2 := (bm_iv_all q hq).1
    rw [h1] at h2
    exact va_Nw.of rfl (hts _ h2)
  have lenC : ∀ a, a ≠ 203 → am_len (am_C L xs) a = am_len (fun _ _ => 0) a := fun a ha => by
    unfold am_len
    rw [show Nat.beq a 203 = false from by rw [← Bool.not_eq_true]; exact fun q => ha (Nat.eq_of_beq_eq_true q)]
    rfl
  have ct : ∀ i, i < 3 → ∀ j : Nat, am_C L xs (200 + i) j = (am_ti i).getD j 0 := fun i hi j => by
    unfold am_C
    rw [if_neg (by omega), if_pos ⟨by omega, by omega, Int.natCast_nonneg j⟩, show 200 + i - 200 = i from by omega, Int.toNat_natCast]
  have cb : ∀ i, i < 36 → ∀ j : Nat, am_C L xs (400 + i) j = (am_by i).getD j 0 := fun i hi j => by
    unfold am_C
    rw [if_neg (by omega), if_neg (by omega), if_pos ⟨by omega, by omega, Int.natCast_nonneg j⟩, show 400 + i - 400 = i from by omega, Int.toNat_natCast]
  rw [am_St, hAe]
  refine ⟨fun i h1 h2 => ?_, fun i h1 h2 => ?_, ?_, hF1, fun i hi => ?_, fun q hq => ?_, fun q hq => va_Nw.of rfl (hts _ (am_gl_all q hq).1)⟩
  · have := (ht (i - 200) (by omega)).1
    rw [show 200 + (i - 200) = i from by omega] at this
    rw [show i = 200 + (i - 200) from by omega, ad3 _ (by omega), show 200 + (i - 200) = i from by omega]
    exact this
  · by_cases h3 : i = 203
    · subst h3
      have e : am_len (am_C L xs) 203 = L := by
        show am_C L xs 203 (-1) = L
        unfold am_C
        simp
      rw [e]
      refine ⟨?_, by omega⟩
      rw [ad2, Int.toNat_natCast]
      obtain ⟨cell, x1, x2, x3, x4, x5⟩ := hX
      refine ⟨cell, x1, x2, x3, by omega, by rw [x4], fun j hj => ?_, hA0 b hbl⟩
      rw [x5 j hj]
      show some (Value.int (xs j)) = some (.int (Int32.ofInt (am_C L xs 203 j)))
      have : am_C L xs 203 j = (xs j).toInt := by
        unfold am_C
        rw [if_pos rfl, if_neg (by omega), if_pos ⟨by omega, by omega⟩, Int.toNat_natCast]
      rw [this, Int32.ofInt_toInt]
    · have h4 := am_ti_len (i - 200) (by omega)
      rw [show 200 + (i - 200) = i from by omega] at h4
      rw [lenC i h3, h4.1]
      refine ⟨?_, by omega⟩
      have h5 := (ht (i - 200) (by omega)).2
      have e : ad i = t (i - 200) := by
        rw [← ad3 _ (by omega), show 200 + (i - 200) = i from by omega]
      have e2 : (fun j : Nat => Value.int (Int32.ofInt (am_C L xs i j))) = fun j => .int (Int32.ofInt ((am_ti (i - 200)).getD j 0)) := by
        funext j
        rw [← ct (i - 200) (by omega), show 200 + (i - 200) = i from by omega]
      rw [e, e2, Int.toNat_natCast]
      exact h5
  · exact va_Zof (hts _ am_w_cs) (hts _ am_w_istr) (va_eqi (hfl _ (List.mem_of_getElem? am_nC))) hA0
  · obtain ⟨-, g2, g3, g4, g5⟩ := hg i hi
    have e2 : (fun j : Nat => Value.int (Int32.ofInt (am_C L xs (400 + i) j))) = fun j => .int (Int32.ofInt ((am_by i).getD j 0)) := by
      funext j
      rw [cb i hi]
    rw [ad4 i hi, ad5 i hi, lenC (400 + i) (by omega), (am_by_len i hi).1, Int.toNat_natCast, e2]
    refine ⟨g2, g3, g4, g5, ?_⟩
    unfold am_C
    rw [if_neg (by omega), if_neg (by omega), if_neg (by omega)]
  · obtain ⟨h1, h2, h3⟩ := am_Fl_sl q hq
    obtain ⟨tx, htx⟩ := am_w_sr q hq
    refine ⟨tx, ?_, by omega⟩
    have e := (hg (q.2.2 - 300) (by omega)).1
    rw [h3, ← ad4 _ (by omega), show 300 + (q.2.2 - 300) = q.2.2 from by omega] at e
    exact vk_R.of (hts _ htx) e

