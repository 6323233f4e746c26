/-! SOUND: each instruction of the abstract machine is one of the real machine -/
def am_rv (ad : Nat → Nat) (vF : Value) (a : Nat) : Value := if a = 204 then vF else .ref (ad a)
def am_enc (ad : Nat → Nat) (vF : Value) (v : am_V) : Value := match v with
  | .inl x => .int (Int32.ofInt x)
  | .inr a => am_rv ad vF a
def am_vok (v : am_V) : Prop := match v with
  | .inl x => am_in x
  | .inr _ => True
def am_mok (C M : am_M) : Prop := (∀ a i, am_in (M a i)) ∧ ∀ a, 199 ≤ a → M a = C a
def am_tys (cA : Nat → ClassId) : List (ClassId × FieldType) := [(cA 9, .int), (cA 10, .char), (cA 11, .object "LentHands$World"), (cA 14, .object "LentHands$Law")]
def am_lok (ad : Nat → Nat) (vF : Value) (ls : List (Option am_V)) (L : Array Slot) : Prop := L.size = ls.length ∧ lv_wf L ∧ ∀ (k : Nat) (v : am_V), ls[k]? = some (some v) → L[k]? = some (.val (am_enc ad vF v)) ∧ am_vok v
def am_St (ad : Nat → Nat) (vF : Value) (C : am_M) (U : State) (H : Heap) : Prop :=
  (∀ i, 200 ≤ i → i < 203 → va_Z "LentHands" (am_GN i) "[I" (.ref (ad i)) (am_A ad) U H) ∧
  (∀ i, 200 ≤ i → i < 204 → va_T .int (ad i) (am_len C i).toNat (fun j => .int (Int32.ofInt (C i j))) (am_A ad) U H ∧ 0 ≤ am_len C i) ∧
  va_Z "java/lang/String" "COMPACT_STRINGS" "Z" (.int 1) (am_A ad) U H ∧
  va_Z "jdk/internal/util/Preconditions" "SIOOBE_FORMATTER" "Ljava/util/function/BiFunction;" vF (am_A ad) U H ∧
  (∀ i, i < 36 → va_O "java/lang/String" (ad (300 + i)) (am_A ad) U H ∧ va_OF "java/lang/String" "coder" "B" (.int 0) (ad (300 + i)) (am_A ad) U H ∧ va_OF "java/lang/String" "value" "[B" (.ref (ad (400 + i))) (ad (300 + i)) (am_A ad) U H ∧ va_T .byte (ad (400 + i)) (am_len C (400 + i)).toNat (fun j => .int (Int32.ofInt (C (400 + i) j))) (am_A ad) U H ∧ C (300 + i) 0 = 0) ∧
  (∀ q ∈ am_sl, ∃ tx : String, vk_R (am_cn q.1) q.2.1 tx (ad q.2.2) U ∧ ¬ q.2.2 = 204) ∧
  (∀ q ∈ am_gl, va_Nw (.fieldLinkNest (am_cn q.1) q.2.1 "LentHands" (am_GN q.2.2) "[I" "LentHands") U)
def am_Cx (p : Program) (R : Room) (s : State) (m : MethodId) (args : Array Value) (c : Code) (cells slots : Nat) (D : va_G) (ad : Nat → Nat) (cA : Nat → ClassId) (vF : Value) (C : am_M) (own nL : Nat) (cc : ByteArray) : Prop :=
  p.tables.exec = Jvm.exec ∧ c.code = cc ∧ c.maxLocals = nL ∧ s.vm.findClass (am_cn own) = some m.cls ∧ (∀ w ∈ lw_gd, w.before args s = true) ∧ va_K D vwCl (am_tys cA) s ∧ am_St ad vF C s s.heap ∧ (∀ i j, i < 199 → j < 199 → ad i = ad j → i = j) ∧ (vF = .null ∨ ∃ x, vF = .ref x) ∧ 1 ≤ R.frames ∧ nativeFrameWords "java/lang/System" "arraycopy" 5 + 11 ≤ R.locals ∧ 21 ≤ R.locals ∧ cells ≤ R.cells ∧ slots ≤ R.slots
def am_Go (p : Program) (l : Launch) (e : Env) (R : Room) (s : State) (m : MethodId) (args : Array Value) (below : List Frame) (meth : Method) (c : Code) (cells slots : Nat) (Q : State → Prop) (D : va_G) (ad : Nat → Nat) (cA : Nat → ClassId) (vF : Value) (C : am_M) (nL : Nat) (bp : Nat) (ls : List (Option am_V)) (st : List am_V) (M : am_M) : Prop :=
  ls.length = nL → (∀ v ∈ st, am_vok v) → am_mok C M → ∀ (H : Heap) (locs : List Loc) (L : Array Slot), am_lok ad vF ls L → va_P D vwCl (am_ws ad cA M) H → va_S (am_A ad) s.heap H locs → W p l e R s m args below meth c H locs cells slots Q (F0 m bp L (st.map (am_enc ad vF)))
def am_SS (p : Program) (l : Launch) (e : Env) (R : Room) (s : State) (m : MethodId) (args : Array Value) (below : List Frame) (meth : Method) (c : Code) (cells slots : Nat) (Q : State → Prop) (D : va_G) (ad : Nat → Nat) (cA : Nat → ClassId) (vF : Value) (C : am_M) (own rt nL : Nat) (cc : ByteArray) (ps : List Nat) (call : Nat → List am_V → am_M → am_R) (res : Int × am_M) (ai : am_I) : Prop :=
  ∀ bp nx, am_dec own rt cc ps bp nx ai = true → ∀ ls st M ks kj, am_stp am_cls am_rf am_len call ai ls st M ks kj = some res → (∀ l' s' m', ks l' s' m' = some res → am_Go p l e R s m args below meth c cells slots Q D ad cA vF C nL nx l' s' m') → (∀ t l' s' m', kj t l' s' m' = some res → am_Go p l e R s m args below meth c cells slots Q D ad cA vF C nL (ps.getD t 0) l' s' m') → am_Go p l e R s m args below meth c cells slots Q D ad cA vF C nL bp ls st M
theorem am_no {res : Int × am_M} (h : (none : am_R) = some res) : False := by cases h
theorem am_vtl {v : am_V} {st : List am_V} (h : ∀ w ∈ v :: st, am_vok w) : ∀ w ∈ st, am_vok w := fun w hw => h w (List.mem_cons_of_mem _ hw)
theorem am_vc {v : am_V} {st : List am_V} (h : am_vok v) (hs : ∀ w ∈ st, am_vok w) : ∀ w ∈ v :: st, am_vok w := fun w hw => (List.mem_cons.mp hw).elim (fun e => e ▸ h) (hs w)
theorem am_and {a b : Bool} (h : (a && b) = true) : a = true ∧ b = true := by simpa using h
theorem am_d1_ok {cc : ByteArray} {bp nx n : Nat} {ins : Jvm.ClassFile.Instr} (h : am_d1 cc bp nx ins n = true) : decode cc bp = .ok (ins, n) ∧ nx = bp + n := by
  obtain ⟨h1, h2⟩ := am_and h
  exact ⟨of_decide_eq_true h1, Nat.eq_of_beq_eq_true h2⟩
theorem am_mem {α : Type} [BEq α] [LawfulBEq α] {a : α} {l : List α} (h : l.contains a = true) : a ∈ l := List.contains_iff_mem.mp h
theorem am_chk_some {c : Prop} [Decidable c] {x : am_R} {res : Int × am_M} (h : am_chk c x = some res) : c ∧ x = some res := by
  unfold am_chk at h
  split at h
  · rename_i q; exact ⟨q, h⟩
  · cases h
theorem am_cond_some {b : Bool} {x : am_R} {res : Int × am_M} (h : cond b x none = some res) : b = true ∧ x = some res := by
  cases b with
  | true => exact ⟨rfl, h⟩
  | false => cases h
theorem am_lo_some {o : Option (Option am_V)} {f : am_V → am_R} {res : Int × am_M} (h : am_lo o f = some res) : ∃ v, o = some (some v) ∧ f v = some res := by
  match o, h with
  | some (some v), h => exact ⟨v, rfl, h⟩
theorem am_vi_some {v : am_V} {f : Int → am_R} {res : Int × am_M} (h : am_vi v f = some res) : ∃ x, v = .inl x ∧ f x = some res := by
  match v, h with
  | .inl x, h => exact ⟨x, rfl, h⟩
theorem am_put_some {b : Nat} {x : Int} {o : am_R} {res : Int × am_M} (h : am_ret (b % 2) x o = some res) : (Nat.beq (b % 2) 1 = true → x = 0 ∨ x = 1) ∧ o = some res := by
  rcases Nat.mod_two_eq_zero_or_one b with e | e
  · rw [e] at h ⊢
    exact ⟨fun q => (by cases q), h⟩
  · rw [e] at h ⊢
    obtain ⟨h1, h2⟩ := am_chk_some h
    exact ⟨fun _ => h1, h2⟩
theorem am_topI {p : Program} {l : Launch} {e : Env} {R : Room} {s : State} {m : MethodId} {args : Array Value} {below : List Frame} {meth : Method} {c : Code} {H : Heap} {locs : List Loc} {cells slots : Nat} {Q : State → Prop} {pc : Nat} {ls : Array Slot} {rest : List Value} {x y : Int32} (h : x = y) (k : W p l e R s m args below meth c H locs cells slots Q (F0 m pc ls (.int x :: rest))) : W p l e R s m args below meth c H locs cells slots Q (F0 m pc ls (.int y :: rest)) := h ▸ k
theorem am_rv_or {ad : Nat → Nat} {vF : Value} (h : vF = .null ∨ ∃ x, vF = .ref x) (a : Nat) : am_rv ad vF a = .null ∨ ∃ y, am_rv ad vF a = .ref y := by
  unfold am_rv
  split
  · exact h
  · exact Or.inr ⟨_, rfl⟩
theorem am_enc_cat {ad : Nat → Nat} {vF : Value} (h : vF = .null ∨ ∃ x, vF = .ref x) (v : am_V) : (am_enc ad vF v).category = 1 := by
  cases v with
  | inl x => rfl
  | inr a =>
    show (am_rv ad vF a).category = 1
    rcases am_rv_or (ad := ad) h a with e | ⟨y, e⟩ <;> rw [e] <;> rfl
theorem am_f4 {n : Nat} (h : decide (n < 4) = true) : ((Fin.ofNat 4 n : Fin 4) : Nat) = n := Nat.mod_eq_of_lt (of_decide_eq_true h)
/-- the locals that are known, as the kit's list -/
def am_lv (ad : Nat → Nat) (vF : Value) (ls : List (Option am_V)) : List (Nat × Value) := (List.range ls.length).filterMap (fun k => match ls[k]? with
  | some (some v) => some (k, am_enc ad vF v)
  | _ => none)
theorem am_lv_mem {ad : Nat → Nat} {vF : Value} {ls : List (Option am_V)} {q : Nat × Value} : q ∈ am_lv ad vF ls ↔ ∃ v, ls[q.1]? = some (some v) ∧ q.2 = am_enc ad vF v := by
  unfold am_lv
  rw [List.mem_filterMap]
  constructor
  · rintro ⟨k, -, h⟩
    split at h
    · rename_i v hv
      cases h
      exact ⟨v, hv, rfl⟩
    · cases h
  · rintro ⟨v, h1, h2⟩
    refine ⟨q.1, List.mem_range.mpr (List.getElem?_eq_some_iff.mp h1).1, ?_⟩
    rw [h1]
    exact congrArg some (Prod.ext rfl h2.symm)
theorem am_lv_at {ad : Nat → Nat} {vF : Value} {ls : List (Option am_V)} {n : Nat} {v : am_V} (h : ls[n]? = some (some v)) : ∃ i : Nat, (am_lv ad vF ls)[i]? = some (n, am_enc ad vF v) := List.mem_iff_getElem?.mp (am_lv_mem.mpr ⟨v, h, rfl⟩)
theorem am_lok_has {ad : Nat → Nat} {vF : Value} {ls : List (Option am_V)} {L : Array Slot} (_ : vF = .null ∨ ∃ x, vF = .ref x) (h : am_lok ad vF ls L) : lv_has L ls.length (am_lv ad vF ls) := by
  refine ⟨h.1, h.2.1, fun q hq => ?_⟩
  obtain ⟨v, h1, h2⟩ := am_lv_mem.mp hq
  rw [h2]
  exact (h.2.2 _ _ h1).1
theorem am_lok_set {ad : Nat → Nat} {vF : Value} {ls : List (Option am_V)} {L L' : Array Slot} {n : Nat} {v : am_V} (hF : vF = .null ∨ ∃ x, vF = .ref x) (h : am_lok ad vF ls L) (hn : n < ls.length) (hv : am_vok v) (h' : lv_has L' ls.length ((n, am_enc ad vF v) :: (am_lv ad vF ls).filter (fun q => !(q.1 == n) && !(q.1 + 1 == n && q.2.category == 2)))) : am_lok ad vF (ls.set n (some v)) L' := by
  refine ⟨by rw [List.length_set]; exact h'.1, h'.2.1, fun k w hk => ?_⟩
  rw [List.getElem?_set] at hk
  by_cases e : n = k
  · subst e
    rw [if_pos rfl, if_pos hn] at hk
    cases hk
    exact ⟨h'.2.2 (n, am_enc ad vF v) List.mem_cons_self, hv⟩
  · rw [if_neg e] at hk
    refine ⟨h'.2.2 (k, am_enc ad vF w) (List.mem_cons_of_mem _ (List.mem_filter.mpr ⟨am_lv_mem.mpr ⟨w, hk, rfl⟩, ?_⟩)), (h.2.2 _ _ hk).2⟩
    have h1 : (k == n) = false := by simpa using fun q => e q.symm
    have h2 : ((am_enc ad vF w).category == 2) = false := by rw [am_enc_cat hF w]; rfl
    simp [h1, h2]
theorem am_off_ok (ps : List Nat) (bp : Nat) (t : Int) : (bp : Int) + am_off ps bp t = ((ps.getD t.toNat 0 : Nat) : Int) := by
  unfold am_off
  omega
theorem am_sw_cases {x d : Int} (kj : Nat → am_R) : ∀ (ts : List Int) (lo : Int), ((x < lo ∨ lo + ts.length ≤ x) ∧ am_sw x d kj lo ts = kj d.toNat) ∨ ∃ (i : Nat) (t : Int), x = lo + i ∧ ts[i]? = some t ∧ am_sw x d kj lo ts = kj t.toNat := by
  intro ts
  induction ts with
  | nil => intro lo; exact Or.inl ⟨by simp; omega, rfl⟩
  | cons t ts ih =>
    intro lo
    by_cases h : x = lo
    · exact Or.inr ⟨0, t, by omega, rfl, by simp [am_sw, h]⟩
    · rcases ih (lo + 1) with ⟨g1, g2⟩ | ⟨i, u, g1, g2, g3⟩
      · refine Or.inl ⟨?_, by simp [am_sw, h, g2]⟩
        simp only [List.length_cons]
        omega
      · exact Or.inr ⟨i + 1, u, by omega, by simpa using g2, by simp [am_sw, h, g3]⟩
theorem am_swl_cases (f : Int → Int) (x d : Int) (kj : Nat → am_R) : ∀ ts : List (Int × Int), ∃ t : Int, Op.lookupswitch.offset (ts.map (fun q => (q.1, f q.2))) (f d) x = f t ∧ am_swl x d kj ts = kj t.toNat := by
  intro ts
  induction ts with
  | nil => exact ⟨d, rfl, rfl⟩
  | cons q ts ih =>
    obtain ⟨v, t⟩ := q
    by_cases h : x = v
    · exact ⟨t, by simp [Op.lookupswitch.offset, h], by simp [am_swl, h]⟩
    · obtain ⟨u, g1, g2⟩ := ih
      refine ⟨u, ?_, by simp [am_swl, h, g2]⟩
      rw [← g1]
      simp only [Op.lookupswitch.offset, List.map_cons]
      exact if_neg (fun q => h q.symm)
theorem am_sorted (f : Int → Int) : ∀ ts : List (Int × Int), (ts.zip (ts.drop 1)).all (fun (a, next) => a.1 < next.1) = true → ((ts.map (fun q => (q.1, f q.2))).zip ((ts.map (fun q => (q.1, f q.2))).drop 1)).all (fun (a, next) => a.1 < next.1) = true := by
  intro ts h
  rw [← List.map_drop, List.zip_map]
  rw [List.all_map]
  exact h
theorem am_cls_big {a : Nat} (h : 436 ≤ a) : am_cls a = 15 := by
  have f : ∀ n, n < 436 → Nat.ble a n = false := by
    intro n hn
    rw [← Bool.not_eq_true]; intro q; have := Nat.le_of_ble_eq_true q; omega
  unfold am_cls
  rw [f 255 (by omega), f 299 (by omega), f 335 (by omega), f 399 (by omega), f 435 (by omega)]
  rfl
theorem am_str {a : Nat} (h : am_cls a = 8) : ∃ i, i < 36 ∧ a = 300 + i := by
  rcases Nat.lt_or_ge a 436 with h1 | h1
  · have key : ∀ b, b < 436 → am_cls b = 8 → 300 ≤ b ∧ b < 336 := by decide +kernel
    have := key a h1 h
    exact ⟨a - 300, by omega, by omega⟩
  · exact absurd h (by rw [am_cls_big h1]; decide)
theorem am_byt {a : Nat} (h : am_cls a = 13) : ∃ i, i < 36 ∧ a = 400 + i := by
  rcases Nat.lt_or_ge a 436 with h1 | h1
  · have key : ∀ b, b < 436 → am_cls b = 13 → 400 ≤ b ∧ b < 436 := by decide +kernel
    have := key a h1 h
    exact ⟨a - 400, by omega, by omega⟩
  · exact absurd h (by rw [am_cls_big h1]; decide)
theorem am_stt {a : Nat} (h : am_cls a = 12) : 200 ≤ a ∧ a < 204 := by
  rcases Nat.lt_or_ge a 436 with h1 | h1
  · have key : ∀ b, b < 436 → am_cls b = 12 → 200 ≤ b ∧ b < 204 := by decide +kernel
    exact key a h1 h
  · exact absurd h (by rw [am_cls_big h1]; decide)
theorem am_own_k : ∀ a, a < 199 → am_cls a < 12 ∨ am_cls a = 14 := by decide +kernel
theorem am_nf_ok {ci : Nat} {Cn : String} {T : u_T} {N : Nat} (h : vwCl[ci]? = some (Cn, T, N)) : N = am_nf ci := by
  match ci, h with
  | 0, h => cases h; rfl
  | 1, h => cases h; rfl
  | 2, h => cases h; rfl
  | 3, h => cases h; rfl
  | 4, h => cases h; rfl
  | 5, h => cases h; rfl
  | 6, h => cases h; rfl
  | 7, h => cases h; rfl
  | k + 8, h => simp [vwCl] at h
theorem am_fs_get {ad : Nat → Nat} {M : am_M} {q ci k : Nat} (h : k < am_nf ci) : (am_fs ad M q ci)[k]? = some (am_fld ad M q ci k) := by
  rw [am_fs, List.getElem?_map, List.getElem?_range h]
  rfl
theorem am_ws_o {ad : Nat → Nat} {cA : Nat → ClassId} {M : am_M} {q ci : Nat} (hq : q < 199) (hc : am_cls q = ci) (h8 : ci < 8) : (am_ws ad cA M)[q]? = some (ad q, .inr (ci, am_fs ad M q ci)) := by
  rw [am_ws_get ad cA M hq, am_cell, if_neg (by omega), if_neg (by omega), hc]
theorem am_ws_r {ad : Nat → Nat} {cA : Nat → ClassId} {M : am_M} {q k : Nat} (hq : q < 199) (hc : am_cls q = k) (hk : k = 9 ∨ k = 10) : (am_ws ad cA M)[q]? = some (ad q, .inl (cA k, am_ln q, .inl (am_row M q))) := by
  rw [am_ws_get ad cA M hq, am_cell, if_pos (by omega), hc]
theorem am_ws_q {ad : Nat → Nat} {cA : Nat → ClassId} {M : am_M} {q k : Nat} (hq : q < 199) (hc : am_cls q = k) (hk : k = 11 ∨ k = 14) : (am_ws ad cA M)[q]? = some (ad q, .inl (cA k, am_ln q, .inr (.inr (.inr (.inr (am_rrow ad q)))))) := by
  rw [am_ws_get ad cA M hq, am_cell, if_neg (by omega), if_pos (by omega), hc]
theorem am_ws_D {ad : Nat → Nat} {cA : Nat → ClassId} (h : ∀ i j, i < 199 → j < 199 → ad i = ad j → i = j) (M : am_M) : va_D (am_A ad) (am_ws ad cA M) := by
  have key : ∀ (i : Nat) (q : Nat × va_E), (am_ws ad cA M)[i]? = some q → i < 199 ∧ q.1 = ad i := by
    intro i q hq
    have hi : i < 199 := by
      have := (List.getElem?_eq_some_iff.mp hq).1
      rwa [am_ws_len] at this
    rw [am_ws_get ad cA M hi] at hq
    cases hq
    exact ⟨hi, rfl⟩
  refine ⟨fun i j p q hi hj e => ?_, fun k q hk => ?_⟩
  · obtain ⟨a1, a2⟩ := key i p hi
    obtain ⟨b1, b2⟩ := key j q hj
    exact h i j a1 b1 (by rw [← a2, ← b2]; exact e)
  · obtain ⟨a1, a2⟩ := key k q hk
    exact ⟨k, a1, a2⟩
theorem am_rf_own : ∀ a, a < 199 → ∀ k : Nat, am_isr (am_cls a) k = true → am_rf a k < 199 := by
  have key : ∀ a, a < 199 → ∀ k, k < 36 → am_isr (am_cls a) k = true → am_rf a ((k : Nat) : Int) < 199 := by decide +kernel
  intro a ha k hk
  rcases Nat.lt_or_ge k 36 with h | h
  · exact key a ha k h hk
  · exfalso
    have big : ∀ c, c < 16 → ∀ k, 36 ≤ k → am_isr c k = false := by
      intro c hc k hk
      unfold am_isr
      rw [List.getD_eq_getElem?_getD, List.getElem?_eq_none]
      · rfl
      · have w : ∀ c, c < 16 → (am_isrl.getD c []).length ≤ 36 := by decide +kernel
        exact Nat.le_trans (w c hc) hk
    have hc : am_cls a < 16 := by have := am_own_k a ha; omega
    rw [big _ hc k h] at hk
    cases hk
theorem am_rf_row : ∀ a, a < 199 → (am_cls a = 11 ∨ am_cls a = 14) → ∀ i : Nat, i < am_ln a → am_rf a i < 199 := by
  have key : ∀ a, a < 199 → (am_cls a = 11 ∨ am_cls a = 14) → am_ln a ≤ 6 ∧ ∀ i, i < 6 → i < am_ln a → am_rf a ((i : Nat) : Int) < 199 := by decide +kernel
  intro a ha hc i hi
  obtain ⟨h1, h2⟩ := key a ha hc
  exact h2 i (by omega) hi
theorem am_len_own {a : Nat} (h : a < 199) (M : am_M) : am_len M a = am_ln a := by
  have h1 : Nat.beq a 203 = false := by
    rw [← Bool.not_eq_true]; intro q; have := Nat.eq_of_beq_eq_true q; omega
  have h2 : Nat.ble a 255 = true := Nat.ble_eq_true_of_le (by omega)
  unfold am_ln am_len
  rw [h1, h2]
  simp only [cond]
  exact (Int.toNat_of_nonneg (Int.natCast_nonneg _)).symm
theorem am_len_C {C M : am_M} (h : am_mok C M) (a : Nat) : am_len M a = am_len C a := by
  unfold am_len
  rw [h.2 203 (by omega)]
theorem am_len_pos (M : am_M) (a : Nat) (h : a ≠ 203) : 0 ≤ am_len M a := by
  have h1 : Nat.beq a 203 = false := by
    rw [← Bool.not_eq_true]; intro q; have := Nat.eq_of_beq_eq_true q; omega
  unfold am_len
  rw [h1]
  cases Nat.ble a 255 <;> exact Int.natCast_nonneg _
theorem am_len_in {C M : am_M} (h : am_mok C M) (a : Nat) : am_in (am_len M a) := by
  unfold am_len
  cases Nat.beq a 203 with
  | true => exact h.1 _ _
  | false =>
    have key : ∀ n : Nat, am_in (Int.ofNat (n % 65536)) := by
      intro n
      have : n % 65536 < 65536 := Nat.mod_lt _ (by omega)
      constructor
      · show (-2147483648 : Int) ≤ ((n % 65536 : Nat) : Int); omega
      · show ((n % 65536 : Nat) : Int) < 2147483648; omega
    cases Nat.ble a 255 <;> exact key _
theorem am_ofNat (n : Nat) : Int32.ofNat n = Int32.ofInt (n : Int) := by
  rw [← Int32.toInt_inj, Int32.toInt_ofInt, Int32.toInt_ofNat']
theorem am_narc (x : Int) : vp_nar .char (Int32.ofInt x) = Int32.ofInt (am_chr x) := by
  rw [vp_nar_char, am_e_chr, UInt32.toUInt32_toUInt16]
theorem am_mok_upd {C M : am_M} (h : am_mok C M) {a : Nat} {i v : Int} (ha : a < 199) (hv : am_in v) : am_mok C (am_upd M a i v) := by
  refine ⟨fun b j => ?_, fun b hb => ?_⟩
  · unfold am_upd
    split
    · exact hv
    · exact h.1 b j
  · rw [← h.2 b hb]
    exact am_upd_other M a i v b (by omega)
theorem am_mok_cpy {C M : am_M} (h : am_mok C M) {a b : Nat} {i j n : Int} (hb : b < 199) : am_mok C (am_cpy M a i b j n) := by
  refine ⟨fun c k => ?_, fun c hc => ?_⟩
  · unfold am_cpy
    split
    · exact h.1 _ _
    · exact h.1 c k
  · rw [← h.2 c hc]
    exact am_cpy_other M a i b j n c (by omega)
theorem am_in_max {x y : Int} (hx : am_in x) (hy : am_in y) : am_in (max x y) := by
  obtain ⟨a, b⟩ := hx
  obtain ⟨c, d⟩ := hy
  constructor <;> omega
theorem am_in_min {x y : Int} (hx : am_in x) (hy : am_in y) : am_in (min x y) := by
  obtain ⟨a, b⟩ := hx
  obtain ⟨c, d⟩ := hy
  constructor <;> omega
theorem am_e_max {x y : Int} (hx : am_in x) (hy : am_in y) : Int32.ofInt (max x y) = if Int32.ofInt x < Int32.ofInt y then Int32.ofInt y else Int32.ofInt x := by
  by_cases h : x < y
  · rw [if_pos ((am_lt hx hy).mpr h), show max x y = y from by omega]
  · rw [if_neg (fun q => h ((am_lt hx hy).mp q)), show max x y = x from by omega]
theorem am_e_min {x y : Int} (hx : am_in x) (hy : am_in y) : Int32.ofInt (min x y) = if Int32.ofInt y < Int32.ofInt x then Int32.ofInt y else Int32.ofInt x := by
  by_cases h : y < x
  · rw [if_pos ((am_lt hy hx).mpr h), show min x y = y from by omega]
  · rw [if_neg (fun q => h ((am_lt hy hx).mp q)), show min x y = x from by omega]
theorem am_cats {ad : Nat → Nat} {vF : Value} (hF : vF = .null ∨ ∃ x, vF = .ref x) : ∀ {st : List am_V} {n : Nat}, st.length ≤ n → ((st.map (am_enc ad vF)).map fun v => v.category).sum ≤ n := by
  intro st
  induction st with
  | nil => intro n _; exact Nat.zero_le _
  | cons v st ih =>
    intro n h
    obtain ⟨n, rfl⟩ : ∃ k, n = k + 1 := ⟨n - 1, by simp at h; omega⟩
    have := ih (n := n) (by simpa using h)
    simp only [List.map_cons, List.sum_cons, am_enc_cat hF v]
    omega

section SND
variable {p : Program} {l : Launch} {e : Env} {R : Room} {s : State} {m : MethodId} {args : Array Value} {below : List Frame} {meth : Method} {c : Code} {cells slots : Nat} {Q : State → Prop} {D : va_G} {ad : Nat → Nat} {cA : Nat → ClassId} {vF : Value} {C : am_M} {own rt nL : Nat} {cc : ByteArray} {ps : List Nat} {call : Nat → List am_V → am_M → am_R} {res : Int × am_M}

theorem am_s_iadd (X : am_Cx p R s m args c cells slots D ad cA vF C own nL cc) {a b : Nat} : am_SS p l e R s m args below meth c cells slots Q D ad cA vF C own rt nL cc ps call res (.iadd, a, b) := by
  intro bp nx hd ls st M ks kj h hs hj hn hv hM H locs L hL hP hS
  obtain ⟨hx, hb, hml, hown, hts, hK, hSt, hinj, hvF, hRf, hRl, hRl2, hcs⟩ := id X
  rcases st with _ | ⟨y | y, _ | ⟨x | x, st⟩⟩ <;> try (exact (am_no h).elim)
  have vy : am_in y := hv _ List.mem_cons_self
  have vx : am_in x := hv _ (List.mem_cons_of_mem _ List.mem_cons_self)
  have vs := am_vtl (am_vtl hv)
  obtain ⟨hd1, rfl⟩ := am_d1_ok hd
  exact lv_iadd hx hb hd1 (by rw [← am_e_add]; exact hs _ _ _ h hn (am_vc (v := .inl _) (am_in_wrap _) vs) hM H locs L hL hP hS)

theorem am_s_isub (X : am_Cx p R s m args c cells slots D ad cA vF C own nL cc) {a b : Nat} : am_SS p l e R s m args below meth c cells slots Q D ad cA vF C own rt nL cc ps call res (.isub, a, b) := by
  intro bp nx hd ls st M ks kj h hs hj hn hv hM H locs L hL hP hS
  obtain ⟨hx, hb, hml, hown, hts, hK, hSt, hinj, hvF, hRf, hRl, hRl2, hcs⟩ := id X
  rcases st with _ | ⟨y | y, _ | ⟨x | x, st⟩⟩ <;> try (exact (am_no h).elim)
  have vy : am_in y := hv _ List.mem_cons_self
  have vx : am_in x := hv _ (List.mem_cons_of_mem _ List.mem_cons_self)
  have vs := am_vtl (am_vtl hv)
  obtain ⟨hd1, rfl⟩ := am_d1_ok hd
  exact lv_isub hx hb hd1 (by rw [← am_e_sub]; exact hs _ _ _ h hn (am_vc (v := .inl _) (am_in_wrap _) vs) hM H locs L hL hP hS)

theorem am_s_imul (X : am_Cx p R s m args c cells slots D ad cA vF C own nL cc) {a b : Nat} : am_SS p l e R s m args below meth c cells slots Q D ad cA vF C own rt nL cc ps call res (.imul, a, b) := by
  intro bp nx hd ls st M ks kj h hs hj hn hv hM H locs L hL hP hS
  obtain ⟨hx, hb, hml, hown, hts, hK, hSt, hinj, hvF, hRf, hRl, hRl2, hcs⟩ := id X
  rcases st with _ | ⟨y | y, _ | ⟨x | x, st⟩⟩ <;> try (exact (am_no h).elim)
  have vy : am_in y := hv _ List.mem_cons_self
  have vx : am_in x := hv _ (List.mem_cons_of_mem _ List.mem_cons_self)
  have vs := am_vtl (am_vtl hv)
  obtain ⟨hd1, rfl⟩ := am_d1_ok hd
  exact lv_imul hx hb hd1 (by rw [← am_e_mul]; exact hs _ _ _ h hn (am_vc (v := .inl _) (am_in_wrap _) vs) hM H locs L hL hP hS)

theorem am_s_iand (X : am_Cx p R s m args c cells slots D ad cA vF C own nL cc) {a b : Nat} : am_SS p l e R s m args below meth c cells slots Q D ad cA vF C own rt nL cc ps call res (.iand, a, b) := by
  intro bp nx hd ls st M ks kj h hs hj hn hv hM H locs L hL hP hS
  obtain ⟨hx, hb, hml, hown, hts, hK, hSt, hinj, hvF, hRf, hRl, hRl2, hcs⟩ := id X
  rcases st with _ | ⟨y | y, _ | ⟨x | x, st⟩⟩ <;> try (exact (am_no h).elim)
  have vy : am_in y := hv _ List.mem_cons_self
  have vx : am_in x := hv _ (List.mem_cons_of_mem _ List.mem_cons_self)
  have vs := am_vtl (am_vtl hv)
  obtain ⟨hd1, rfl⟩ := am_d1_ok hd
  exact lv_iand hx hb hd1 (am_topI (am_int _) (hs _ _ _ h hn (am_vc (v := .inl _) (am_in_toInt _) vs) hM H locs L hL hP hS))

theorem am_s_ior (X : am_Cx p R s m args c cells slots D ad cA vF C own nL cc) {a b : Nat} : am_SS p l e R s m args below meth c cells slots Q D ad cA vF C own rt nL cc ps call res (.ior, a, b) := by
  intro bp nx hd ls st M ks kj h hs hj hn hv hM H locs L hL hP hS
  obtain ⟨hx, hb, hml, hown, hts, hK, hSt, hinj, hvF, hRf, hRl, hRl2, hcs⟩ := id X
  rcases st with _ | ⟨y | y, _ | ⟨x | x, st⟩⟩ <;> try (exact (am_no h).elim)
  have vy : am_in y := hv _ List.mem_cons_self
  have vx : am_in x := hv _ (List.mem_cons_of_mem _ List.mem_cons_self)
  have vs := am_vtl (am_vtl hv)
  obtain ⟨hd1, rfl⟩ := am_d1_ok hd
  exact lv_ior hx hb hd1 (am_topI (am_int _) (hs _ _ _ h hn (am_vc (v := .inl _) (am_in_toInt _) vs) hM H locs L hL hP hS))

theorem am_s_ixor (X : am_Cx p R s m args c cells slots D ad cA vF C own nL cc) {a b : Nat} : am_SS p l e R s m args below meth c cells slots Q D ad cA vF C own rt nL cc ps call res (.ixor, a, b) := by
  intro bp nx hd ls st M ks kj h hs hj hn hv hM H locs L hL hP hS
  obtain ⟨hx, hb, hml, hown, hts, hK, hSt, hinj, hvF, hRf, hRl, hRl2, hcs⟩ := id X
  rcases st with _ | ⟨y | y, _ | ⟨x | x, st⟩⟩ <;> try (exact (am_no h).elim)
  have vy : am_in y := hv _ List.mem_cons_self
  have vx : am_in x := hv _ (List.mem_cons_of_mem _ List.mem_cons_self)
  have vs := am_vtl (am_vtl hv)
  obtain ⟨hd1, rfl⟩ := am_d1_ok hd
  exact lv_ixor hx hb hd1 (am_topI (am_int _) (hs _ _ _ h hn (am_vc (v := .inl _) (am_in_toInt _) vs) hM H locs L hL hP hS))

theorem am_s_ishl (X : am_Cx p R s m args c cells slots D ad cA vF C own nL cc) {a b : Nat} : am_SS p l e R s m args below meth c cells slots Q D ad cA vF C own rt nL cc ps call res (.ishl, a, b) := by
  intro bp nx hd ls st M ks kj h hs hj hn hv hM H locs L hL hP hS
  obtain ⟨hx, hb, hml, hown, hts, hK, hSt, hinj, hvF, hRf, hRl, hRl2, hcs⟩ := id X
  rcases st with _ | ⟨y | y, _ | ⟨x | x, st⟩⟩ <;> try (exact (am_no h).elim)
  have vy : am_in y := hv _ List.mem_cons_self
  have vx : am_in x := hv _ (List.mem_cons_of_mem _ List.mem_cons_self)
  have vs := am_vtl (am_vtl hv)
  obtain ⟨hd1, rfl⟩ := am_d1_ok hd
  exact lv_ishl hx hb hd1 (am_topI (am_int _) (hs _ _ _ h hn (am_vc (v := .inl _) (am_in_toInt _) vs) hM H locs L hL hP hS))

theorem am_s_ishr (X : am_Cx p R s m args c cells slots D ad cA vF C own nL cc) {a b : Nat} : am_SS p l e R s m args below meth c cells slots Q D ad cA vF C own rt nL cc ps call res (.ishr, a, b) := by
  intro bp nx hd ls st M ks kj h hs hj hn hv hM H locs L hL hP hS
  obtain ⟨hx, hb, hml, hown, hts, hK, hSt, hinj, hvF, hRf, hRl, hRl2, hcs⟩ := id X
  rcases st with _ | ⟨y | y, _ | ⟨x | x, st⟩⟩ <;> try (exact (am_no h).elim)
  have vy : am_in y := hv _ List.mem_cons_self
  have vx : am_in x := hv _ (List.mem_cons_of_mem _ List.mem_cons_self)
  have vs := am_vtl (am_vtl hv)
  obtain ⟨hd1, rfl⟩ := am_d1_ok hd
  exact lv_ishr hx hb hd1 (am_topI (am_int _) (hs _ _ _ h hn (am_vc (v := .inl _) (am_in_toInt _) vs) hM H locs L hL hP hS))

theorem am_s_iushr (X : am_Cx p R s m args c cells slots D ad cA vF C own nL cc) {a b : Nat} : am_SS p l e R s m args below meth c cells slots Q D ad cA vF C own rt nL cc ps call res (.iushr, a, b) := by
  intro bp nx hd ls st M ks kj h hs hj hn hv hM H locs L hL hP hS
  obtain ⟨hx, hb, hml, hown, hts, hK, hSt, hinj, hvF, hRf, hRl, hRl2, hcs⟩ := id X
  rcases st with _ | ⟨y | y, _ | ⟨x | x, st⟩⟩ <;> try (exact (am_no h).elim)
  have vy : am_in y := hv _ List.mem_cons_self
  have vx : am_in x := hv _ (List.mem_cons_of_mem _ List.mem_cons_self)
  have vs := am_vtl (am_vtl hv)
  obtain ⟨hd1, rfl⟩ := am_d1_ok hd
  exact lv_iushr hx hb hd1 rfl (am_topI (am_int _) (hs _ _ _ h hn (am_vc (v := .inl _) (am_in_toInt _) vs) hM H locs L hL hP hS))

theorem am_s_idiv (X : am_Cx p R s m args c cells slots D ad cA vF C own nL cc) {a b : Nat} : am_SS p l e R s m args below meth c cells slots Q D ad cA vF C own rt nL cc ps call res (.idiv, a, b) := by
  intro bp nx hd ls st M ks kj h hs hj hn hv hM H locs L hL hP hS
  obtain ⟨hx, hb, hml, hown, hts, hK, hSt, hinj, hvF, hRf, hRl, hRl2, hcs⟩ := id X
  rcases st with _ | ⟨y | y, _ | ⟨x | x, st⟩⟩ <;> try (exact (am_no h).elim)
  have vy : am_in y := hv _ List.mem_cons_self
  have vx : am_in x := hv _ (List.mem_cons_of_mem _ List.mem_cons_self)
  have vs := am_vtl (am_vtl hv)
  obtain ⟨hd1, rfl⟩ := am_d1_ok hd
  obtain ⟨hne, h⟩ := am_chk_some h
  exact lv_idiv hx hb hd1 (fun q => hne ((am_eq0 vy).mp q)) (am_topI (am_int _) (hs _ _ _ h hn (am_vc (v := .inl _) (am_in_toInt _) vs) hM H locs L hL hP hS))

theorem am_s_irem (X : am_Cx p R s m args c cells slots D ad cA vF C own nL cc) {a b : Nat} : am_SS p l e R s m args below meth c cells slots Q D ad cA vF C own rt nL cc ps call res (.irem, a, b) := by
  intro bp nx hd ls st M ks kj h hs hj hn hv hM H locs L hL hP hS
  obtain ⟨hx, hb, hml, hown, hts, hK, hSt, hinj, hvF, hRf, hRl, hRl2, hcs⟩ := id X
  rcases st with _ | ⟨y | y, _ | ⟨x | x, st⟩⟩ <;> try (exact (am_no h).elim)
  have vy : am_in y := hv _ List.mem_cons_self
  have vx : am_in x := hv _ (List.mem_cons_of_mem _ List.mem_cons_self)
  have vs := am_vtl (am_vtl hv)
  obtain ⟨hd1, rfl⟩ := am_d1_ok hd
  obtain ⟨hne, h⟩ := am_chk_some h
  exact lv_irem hx hb hd1 (fun q => hne ((am_eq0 vy).mp q)) (am_topI (am_int _) (hs _ _ _ h hn (am_vc (v := .inl _) (am_in_toInt _) vs) hM H locs L hL hP hS))

theorem am_s_ladd (X : am_Cx p R s m args c cells slots D ad cA vF C own nL cc) {a b : Nat} : am_SS p l e R s m args below meth c cells slots Q D ad cA vF C own rt nL cc ps call res (.ladd, a, b) := by
  intro bp nx hd ls st M ks kj h hs hj hn hv hM H locs L hL hP hS
  obtain ⟨hx, hb, hml, hown, hts, hK, hSt, hinj, hvF, hRf, hRl, hRl2, hcs⟩ := id X
  rcases st with _ | ⟨y | y, _ | ⟨x | x, st⟩⟩ <;> try (exact (am_no h).elim)
  have vy : am_in y := hv _ List.mem_cons_self
  have vx : am_in x := hv _ (List.mem_cons_of_mem _ List.mem_cons_self)
  have vs := am_vtl (am_vtl hv)
  obtain ⟨hd, h3⟩ := am_and hd
  obtain ⟨hd1, rfl⟩ := am_d1_ok hd
  obtain ⟨hlen, h⟩ := am_cond_some h
  have hlen := am_cats (ad := ad) hvF (Nat.le_of_ble_eq_true hlen)
  exact va_mmax hx hb (by rw [hml, hL.1, hn]) hown (hts _ (lw_g (am_xl_all _ (am_mem h3)) rfl)) (hts _ (lw_g am_l_max1 rfl)) (hts _ (lw_g am_l_math rfl)) (hts _ (lw_g am_l_max2 rfl)) hRf (by omega) hcs.1 hcs.2 hd1 (am_topI (am_e_max vx vy) (hs _ _ _ h hn (am_vc (v := .inl (max x y)) (am_in_max vx vy) vs) hM H locs L hL hP hS))

theorem am_s_lsub (X : am_Cx p R s m args c cells slots D ad cA vF C own nL cc) {a b : Nat} : am_SS p l e R s m args below meth c cells slots Q D ad cA vF C own rt nL cc ps call res (.lsub, a, b) := by
  intro bp nx hd ls st M ks kj h hs hj hn hv hM H locs L hL hP hS
  obtain ⟨hx, hb, hml, hown, hts, hK, hSt, hinj, hvF, hRf, hRl, hRl2, hcs⟩ := id X
  rcases st with _ | ⟨y | y, _ | ⟨x | x, st⟩⟩ <;> try (exact (am_no h).elim)
  have vy : am_in y := hv _ List.mem_cons_self
  have vx : am_in x := hv _ (List.mem_cons_of_mem _ List.mem_cons_self)
  have vs := am_vtl (am_vtl hv)
  obtain ⟨hd, h3⟩ := am_and hd
  obtain ⟨hd1, rfl⟩ := am_d1_ok hd
  obtain ⟨hlen, h⟩ := am_cond_some h
  have hlen := am_cats (ad := ad) hvF (Nat.le_of_ble_eq_true hlen)
  exact va_mmin hx hb (by rw [hml, hL.1, hn]) hown (hts _ (lw_g (am_nl_all _ (am_mem h3)) rfl)) (hts _ (lw_g am_l_min1 rfl)) (hts _ (lw_g am_l_math rfl)) (hts _ (lw_g am_l_min2 rfl)) hRf (by omega) hcs.1 hcs.2 hd1 (am_topI (am_e_min vx vy) (hs _ _ _ h hn (am_vc (v := .inl (min x y)) (am_in_min vx vy) vs) hM H locs L hL hP hS))

theorem am_s_ineg (X : am_Cx p R s m args c cells slots D ad cA vF C own nL cc) {a b : Nat} : am_SS p l e R s m args below meth c cells slots Q D ad cA vF C own rt nL cc ps call res (.ineg, a, b) := by
  intro bp nx hd ls st M ks kj h hs hj hn hv hM H locs L hL hP hS
  obtain ⟨hx, hb, hml, hown, hts, hK, hSt, hinj, hvF, hRf, hRl, hRl2, hcs⟩ := id X
  rcases st with _ | ⟨x | x, st⟩ <;> try (exact (am_no h).elim)
  have vx : am_in x := hv _ List.mem_cons_self
  have vs := am_vtl hv
  obtain ⟨hd1, rfl⟩ := am_d1_ok hd
  exact lv_ineg hx hb hd1 (by rw [← am_e_neg]; exact hs _ _ _ h hn (am_vc (v := .inl _) (am_in_wrap _) vs) hM H locs L hL hP hS)

theorem am_s_i2c (X : am_Cx p R s m args c cells slots D ad cA vF C own nL cc) {a b : Nat} : am_SS p l e R s m args below meth c cells slots Q D ad cA vF C own rt nL cc ps call res (.i2c, a, b) := by
  intro bp nx hd ls st M ks kj h hs hj hn hv hM H locs L hL hP hS
  obtain ⟨hx, hb, hml, hown, hts, hK, hSt, hinj, hvF, hRf, hRl, hRl2, hcs⟩ := id X
  rcases st with _ | ⟨x | x, st⟩ <;> try (exact (am_no h).elim)
  have vx : am_in x := hv _ List.mem_cons_self
  have vs := am_vtl hv
  obtain ⟨hd1, rfl⟩ := am_d1_ok hd
  exact lv_i2c hx hb hd1 (am_e_chr x).symm (hs _ _ _ h hn (am_vc (v := .inl _) (am_in_chr _) vs) hM H locs L hL hP hS)

theorem am_s_dup (X : am_Cx p R s m args c cells slots D ad cA vF C own nL cc) {a b : Nat} : am_SS p l e R s m args below meth c cells slots Q D ad cA vF C own rt nL cc ps call res (.dup, a, b) := by
  intro bp nx hd ls st M ks kj h hs hj hn hv hM H locs L hL hP hS
  obtain ⟨hx, hb, hml, hown, hts, hK, hSt, hinj, hvF, hRf, hRl, hRl2, hcs⟩ := id X
  rcases st with _ | ⟨v, st⟩
  · cases h
  obtain ⟨hd1, rfl⟩ := am_d1_ok hd
  exact lv_dup hx hb hd1 (am_enc_cat hvF v) (hs _ _ _ h hn (am_vc (hv _ List.mem_cons_self) hv) hM H locs L hL hP hS)

theorem am_s_dup2 (X : am_Cx p R s m args c cells slots D ad cA vF C own nL cc) {a b : Nat} : am_SS p l e R s m args below meth c cells slots Q D ad cA vF C own rt nL cc ps call res (.dup2, a, b) := by
  intro bp nx hd ls st M ks kj h hs hj hn hv hM H locs L hL hP hS
  obtain ⟨hx, hb, hml, hown, hts, hK, hSt, hinj, hvF, hRf, hRl, hRl2, hcs⟩ := id X
  rcases st with _ | ⟨v, _ | ⟨w, st⟩⟩
  · cases h
  · cases h
  obtain ⟨hd1, rfl⟩ := am_d1_ok hd
  exact lv_dup2_11 hx hb hd1 (am_enc_cat hvF v) (am_enc_cat hvF w) (hs _ _ _ h hn (am_vc (hv _ List.mem_cons_self) (am_vc (hv _ (List.mem_cons_of_mem _ List.mem_cons_self)) hv)) hM H locs L hL hP hS)

theorem am_s_pop (X : am_Cx p R s m args c cells slots D ad cA vF C own nL cc) {a b : Nat} : am_SS p l e R s m args below meth c cells slots Q D ad cA vF C own rt nL cc ps call res (.pop, a, b) := by
  intro bp nx hd ls st M ks kj h hs hj hn hv hM H locs L hL hP hS
  obtain ⟨hx, hb, hml, hown, hts, hK, hSt, hinj, hvF, hRf, hRl, hRl2, hcs⟩ := id X
  rcases st with _ | ⟨v, st⟩
  · cases h
  obtain ⟨hd1, rfl⟩ := am_d1_ok hd
  exact lv_pop hx hb hd1 (am_enc_cat hvF v) (hs _ _ _ h hn (am_vtl hv) hM H locs L hL hP hS)

theorem am_s_bipush (X : am_Cx p R s m args c cells slots D ad cA vF C own nL cc) {v : Int} {a b : Nat} : am_SS p l e R s m args below meth c cells slots Q D ad cA vF C own rt nL cc ps call res (.bipush v, a, b) := by
  intro bp nx hd ls st M ks kj h hs hj hn hv hM H locs L hL hP hS
  obtain ⟨hx, hb, hml, hown, hts, hK, hSt, hinj, hvF, hRf, hRl, hRl2, hcs⟩ := id X
  obtain ⟨hin, hd⟩ := am_and hd
  have hin : am_in v := of_decide_eq_true hin
  have k := fun (q : Nat) (hq : nx = q) => (hq ▸ hs _ _ _ h hn (am_vc (v := .inl v) hin hv) hM H locs L hL hP hS : W p l e R s m args below meth c H locs cells slots Q (F0 m q L (.int (Int32.ofInt v) :: st.map (am_enc ad vF))))
  revert hd
  match a with
  | 0 => intro hd; obtain ⟨hd1, h2⟩ := am_d1_ok hd; exact lv_iconst hx hb hd1 rfl (k _ h2)
  | 1 => intro hd; obtain ⟨hd, h3⟩ := am_and hd; obtain ⟨hd1, h2⟩ := am_d1_ok hd; exact lv_bipush hx hb hd1 (of_decide_eq_true h3) (k _ h2)
  | 2 => intro hd; obtain ⟨hd, h3⟩ := am_and hd; obtain ⟨hd1, h2⟩ := am_d1_ok hd; exact lv_sipush hx hb hd1 (of_decide_eq_true h3) (k _ h2)
  | 3 => intro hd; obtain ⟨hd, h3⟩ := am_and hd; obtain ⟨hd1, h2⟩ := am_d1_ok hd; exact lv_ldc hx hb hown (hts _ (lw_g (am_kl_all _ (am_mem h3)) rfl)) hd1 (k _ h2)
  | 4 => intro hd; obtain ⟨hd, h3⟩ := am_and hd; obtain ⟨hd1, h2⟩ := am_d1_ok hd; exact lv_ldcw hx hb hown (hts _ (lw_g (am_kl_all _ (am_mem h3)) rfl)) hd1 (k _ h2)
  | a + 5 =>
    intro hd
    obtain ⟨hd, h3⟩ := am_and hd
    obtain ⟨hd1, h2⟩ := am_d1_ok hd
    obtain ⟨rfl, rfl, rfl⟩ := of_decide_eq_true h3
    exact va_gets hx hb hSt.2.2.1 hS hown (hts _ (lw_g am_l_compact rfl)) (fun _ h9 => h9) hd1 (k _ h2)

theorem am_s_aload (X : am_Cx p R s m args c cells slots D ad cA vF C own nL cc) {n a b : Nat} : am_SS p l e R s m args below meth c cells slots Q D ad cA vF C own rt nL cc ps call res (.aload n, a, b) := by
  intro bp nx hd ls st M ks kj h hs hj hn hv hM H locs L hL hP hS
  obtain ⟨hx, hb, hml, hown, hts, hK, hSt, hinj, hvF, hRf, hRl, hRl2, hcs⟩ := id X
  have k := fun (q : Nat) (hq : nx = q) => (hq ▸ hs _ _ _ h hn (am_vc (v := .inr n) trivial hv) hM H locs L hL hP hS : W p l e R s m args below meth c H locs cells slots Q (F0 m q L (am_rv ad vF n :: st.map (am_enc ad vF))))
  revert hd
  match a with
  | 0 =>
    intro hd
    obtain ⟨hd, h3⟩ := am_and hd
    obtain ⟨hd1, h2⟩ := am_d1_ok hd
    obtain ⟨tx, hR, hne⟩ := hSt.2.2.2.2.2.1 _ (am_mem h3)
    have k := k _ h2
    rw [am_rv, if_neg hne] at k
    exact va_ldcS hx hb hown hR hd1 k
  | 1 =>
    intro hd
    obtain ⟨hd, h3⟩ := am_and hd
    obtain ⟨hd1, h2⟩ := am_d1_ok hd
    obtain ⟨g1, g2, g3⟩ := am_gl_all _ (am_mem h3)
    have k := k _ h2
    dsimp only at g1 g2 g3
    rw [am_rv, if_neg (by omega)] at k
    exact va_getsN hx hb (hSt.1 n g2 g3) hS hown (va_Nw.use rfl (hSt.2.2.2.2.2.2 _ (am_mem h3))) (fun _ h9 => h9) hd1 k
  | a + 2 =>
    intro hd
    obtain ⟨hd, h3⟩ := am_and hd
    obtain ⟨hd1, h2⟩ := am_d1_ok hd
    obtain ⟨rfl, rfl, rfl⟩ := of_decide_eq_true h3
    have k := k _ h2
    rw [am_rv, if_pos rfl] at k
    exact va_gets hx hb hSt.2.2.2.1 hS hown (hts _ (lw_g am_l_sioobe rfl)) (fun _ h9 => h9) hd1 k

theorem am_s_iload (X : am_Cx p R s m args c cells slots D ad cA vF C own nL cc) {n kd b : Nat} : am_SS p l e R s m args below meth c cells slots Q D ad cA vF C own rt nL cc ps call res (.iload n, kd, b) := by
  intro bp nx hd ls st M ks kj h hs hj hn hv hM H locs L hL hP hS
  obtain ⟨hx, hb, hml, hown, hts, hK, hSt, hinj, hvF, hRf, hRl, hRl2, hcs⟩ := id X
  obtain ⟨v, hlv, h⟩ := am_lo_some h
  obtain ⟨hkd, h⟩ := am_cond_some h
  obtain ⟨hLv, hok⟩ := hL.2.2 n v hlv
  have k := fun (q : Nat) (hq : nx = q) => (hq ▸ hs _ _ _ h hn (am_vc hok hv) hM H locs L hL hP hS : W p l e R s m args below meth c H locs cells slots Q (F0 m q L (am_enc ad vF v :: st.map (am_enc ad vF))))
  revert hd hkd
  match v with
  | .inl x =>
    match kd, b with
    | 0, 0 => intro hd _; obtain ⟨hd, h3⟩ := am_and hd; obtain ⟨hd1, h2⟩ := am_d1_ok hd; exact lv_iload_n hx hb hd1 (am_f4 h3) hLv (k _ h2)
    | 0, b + 1 => intro hd _; obtain ⟨hd1, h2⟩ := am_d1_ok hd; exact lv_iload hx hb hd1 hLv (k _ h2)
    | kd + 1, b => intro _ hkd; cases hkd
  | .inr x =>
    have hr : am_rv ad vF x = .null ∨ ∃ y, am_rv ad vF x = .ref y := am_rv_or hvF x
    match kd, b with
    | 0, b => intro _ hkd; cases hkd
    | kd + 1, 0 =>
      intro hd _
      obtain ⟨hd, h3⟩ := am_and hd
      obtain ⟨hd1, h2⟩ := am_d1_ok hd
      have k := k _ h2
      simp only [am_enc] at hLv k
      rcases hr with hr | ⟨y, hr⟩
      · rw [hr] at hLv k; exact lv_aload_nN hx hb hd1 (am_f4 h3) hLv k
      · rw [hr] at hLv k; exact lv_aload_n hx hb hd1 (am_f4 h3) hLv k
    | kd + 1, b + 1 =>
      intro hd _
      obtain ⟨hd1, h2⟩ := am_d1_ok hd
      have k := k _ h2
      simp only [am_enc] at hLv k
      rcases hr with hr | ⟨y, hr⟩
      · rw [hr] at hLv k; exact lv_aloadN hx hb hd1 hLv k
      · rw [hr] at hLv k; exact lv_aload hx hb hd1 hLv k

theorem am_s_istore (X : am_Cx p R s m args c cells slots D ad cA vF C own nL cc) {n kd b : Nat} : am_SS p l e R s m args below meth c cells slots Q D ad cA vF C own rt nL cc ps call res (.istore n, kd, b) := by
  intro bp nx hd ls st M ks kj h hs hj hn hv hM H locs L hL hP hS
  obtain ⟨hx, hb, hml, hown, hts, hK, hSt, hinj, hvF, hRf, hRl, hRl2, hcs⟩ := id X
  rcases st with _ | ⟨v, st⟩
  · cases h
  obtain ⟨hkd, h⟩ := am_cond_some h
  obtain ⟨hkd, hlt⟩ := am_and hkd
  have hlt : n < ls.length := Nat.le_of_ble_eq_true hlt
  have hok := hv _ List.mem_cons_self
  have hlh := am_lok_has hvF hL
  have k := fun (q : Nat) (hq : nx = q) (L' : Array Slot) (h' : lv_has L' ls.length ((n, am_enc ad vF v) :: (am_lv ad vF ls).filter (fun q => !(q.1 == n) && !(q.1 + 1 == n && q.2.category == 2)))) => (hq ▸ hs _ _ _ h (by rw [List.length_set]; exact hn) (am_vtl hv) hM H locs L' (am_lok_set hvF hL hlt hok h') hP hS : W p l e R s m args below meth c H locs cells slots Q (F0 m q L' (st.map (am_enc ad vF))))
  revert hd hkd
  match v with
  | .inl x =>
    match kd, b with
    | 0, 0 => intro hd _; obtain ⟨hd, h3⟩ := am_and hd; obtain ⟨hd1, h2⟩ := am_d1_ok hd; exact lv_istore_n hx hb hd1 (am_f4 h3) hlh hlt rfl (k _ h2)
    | 0, b + 1 => intro hd _; obtain ⟨hd1, h2⟩ := am_d1_ok hd; exact lv_istore hx hb hd1 hlh hlt rfl (k _ h2)
    | kd + 1, b => intro _ hkd; cases hkd
  | .inr x =>
    have hr : am_rv ad vF x = .null ∨ ∃ y, am_rv ad vF x = .ref y := am_rv_or hvF x
    match kd, b with
    | 0, b => intro _ hkd; cases hkd
    | kd + 1, 0 =>
      intro hd _
      obtain ⟨hd, h3⟩ := am_and hd
      obtain ⟨hd1, h2⟩ := am_d1_ok hd
      have k := k _ h2
      show W p l e R s m args below meth c H locs cells slots Q (F0 m bp L (am_rv ad vF x :: st.map (am_enc ad vF)))
      simp only [am_enc] at k
      rcases hr with hr | ⟨y, hr⟩
      · rw [hr] at k ⊢; exact lv_astore_nN hx hb hd1 (am_f4 h3) hlh hlt rfl k
      · rw [hr] at k ⊢; exact lv_astore_n hx hb hd1 (am_f4 h3) hlh hlt rfl k
    | kd + 1, b + 1 =>
      intro hd _
      obtain ⟨hd1, h2⟩ := am_d1_ok hd
      have k := k _ h2
      show W p l e R s m args below meth c H locs cells slots Q (F0 m bp L (am_rv ad vF x :: st.map (am_enc ad vF)))
      simp only [am_enc] at k
      rcases hr with hr | ⟨y, hr⟩
      · rw [hr] at k ⊢; exact lv_astoreN hx hb hd1 hlh hlt rfl k
      · rw [hr] at k ⊢; exact lv_astore hx hb hd1 hlh hlt rfl k

theorem am_s_iinc (X : am_Cx p R s m args c cells slots D ad cA vF C own nL cc) {n a b : Nat} {z : Int} : am_SS p l e R s m args below meth c cells slots Q D ad cA vF C own rt nL cc ps call res (.iinc n z, a, b) := by
  intro bp nx hd ls st M ks kj h hs hj hn hv hM H locs L hL hP hS
  obtain ⟨hx, hb, hml, hown, hts, hK, hSt, hinj, hvF, hRf, hRl, hRl2, hcs⟩ := id X
  obtain ⟨v, hlv, h⟩ := am_lo_some h
  obtain ⟨x, rfl, h⟩ := am_vi_some h
  obtain ⟨hd1, rfl⟩ := am_d1_ok hd
  have hlt : n < ls.length := (List.getElem?_eq_some_iff.mp hlv).1
  have hlh := am_lok_has hvF hL
  obtain ⟨i, hi⟩ := am_lv_at (ad := ad) (vF := vF) hlv
  exact lv_iinc (k := i) hx hb hd1 hlh hi (am_e_add x z).symm hlt rfl (fun L' h' => hs _ _ _ h (by rw [List.length_set]; exact hn) hv hM H locs L' (am_lok_set (v := .inl (am_wrap (x + z))) hvF hL hlt (am_in_wrap _) h') hP hS)

theorem am_s_ifCond (X : am_Cx p R s m args c cells slots D ad cA vF C own nL cc) {cd : Jvm.ClassFile.Cond} {t : Int} {a b : Nat} : am_SS p l e R s m args below meth c cells slots Q D ad cA vF C own rt nL cc ps call res (.ifCond cd t, a, b) := by
  intro bp nx hd ls st M ks kj h hs hj hn hv hM H locs L hL hP hS
  obtain ⟨hx, hb, hml, hown, hts, hK, hSt, hinj, hvF, hRf, hRl, hRl2, hcs⟩ := id X
  rcases st with _ | ⟨x | x, st⟩ <;> try (exact (am_no h).elim)
  have vx : am_in x := hv _ List.mem_cons_self
  have vs := am_vtl hv
  obtain ⟨hd1, rfl⟩ := am_d1_ok hd
  revert h hd1
  cases cd
  · intro h hd1
    exact lv_if_eq (tgt := ps.getD t.toNat 0) hx hb hd1 (am_off_ok _ _ _) (fun q => (hj _ _ _ _ ((if_pos ((am_eq0 vx).mp q)).symm.trans h) hn vs hM H locs L hL hP hS)) (fun q => (hs _ _ _ ((if_neg (fun z => q ((am_eq0 vx).mpr z))).symm.trans h) hn vs hM H locs L hL hP hS))
  · intro h hd1
    exact lv_if_ne (tgt := ps.getD t.toNat 0) hx hb hd1 (am_off_ok _ _ _) (fun q => (hj _ _ _ _ ((if_neg (fun z => q ((am_eq0 vx).mpr z))).symm.trans h) hn vs hM H locs L hL hP hS)) (fun q => (hs _ _ _ ((if_pos ((am_eq0 vx).mp q)).symm.trans h) hn vs hM H locs L hL hP hS))
  · intro h hd1
    exact lv_if_lt (tgt := ps.getD t.toNat 0) hx hb hd1 (am_off_ok _ _ _) (fun q => (hj _ _ _ _ ((if_pos ((am_lt0 vx).mp q)).symm.trans h) hn vs hM H locs L hL hP hS)) (fun q => (hs _ _ _ ((if_neg (fun z => q ((am_lt0 vx).mpr z))).symm.trans h) hn vs hM H locs L hL hP hS))
  · intro h hd1
    exact lv_if_ge (tgt := ps.getD t.toNat 0) hx hb hd1 (am_off_ok _ _ _) (fun q => (hj _ _ _ _ ((if_neg (fun z => absurd ((am_le (x := 0) (by constructor <;> decide) vx).mp q) (by omega))).symm.trans h) hn vs hM H locs L hL hP hS)) (fun q => (hs _ _ _ ((if_pos (Int.not_le.mp (fun z => q ((am_le (x := 0) (by constructor <;> decide) vx).mpr z)))).symm.trans h) hn vs hM H locs L hL hP hS))
  · intro h hd1
    exact lv_if_gt (tgt := ps.getD t.toNat 0) hx hb hd1 (am_off_ok _ _ _) (fun q => (hj _ _ _ _ ((if_pos ((am_0lt vx).mp q)).symm.trans h) hn vs hM H locs L hL hP hS)) (fun q => (hs _ _ _ ((if_neg (fun z => q ((am_0lt vx).mpr z))).symm.trans h) hn vs hM H locs L hL hP hS))
  · intro h hd1
    exact lv_if_le (tgt := ps.getD t.toNat 0) hx hb hd1 (am_off_ok _ _ _) (fun q => (hj _ _ _ _ ((if_neg (fun z => absurd ((am_le (y := 0) vx (by constructor <;> decide)).mp q) (by omega))).symm.trans h) hn vs hM H locs L hL hP hS)) (fun q => (hs _ _ _ ((if_pos (Int.not_le.mp (fun z => q ((am_le (y := 0) vx (by constructor <;> decide)).mpr z)))).symm.trans h) hn vs hM H locs L hL hP hS))

theorem am_s_if_icmp (X : am_Cx p R s m args c cells slots D ad cA vF C own nL cc) {cd : Jvm.ClassFile.Cond} {t : Int} {a b : Nat} : am_SS p l e R s m args below meth c cells slots Q D ad cA vF C own rt nL cc ps call res (.if_icmp cd t, a, b) := by
  intro bp nx hd ls st M ks kj h hs hj hn hv hM H locs L hL hP hS
  obtain ⟨hx, hb, hml, hown, hts, hK, hSt, hinj, hvF, hRf, hRl, hRl2, hcs⟩ := id X
  rcases st with _ | ⟨y | y, _ | ⟨x | x, st⟩⟩ <;> try (exact (am_no h).elim)
  have vy : am_in y := hv _ List.mem_cons_self
  have vx : am_in x := hv _ (List.mem_cons_of_mem _ List.mem_cons_self)
  have vs := am_vtl (am_vtl hv)
  obtain ⟨hd1, rfl⟩ := am_d1_ok hd
  revert h hd1
  cases cd
  · intro h hd1
    exact lv_icmp_eq (tgt := ps.getD t.toNat 0) hx hb hd1 (am_off_ok _ _ _) (fun q => (hj _ _ _ _ ((if_pos ((am_eq vx vy).mp q)).symm.trans h) hn vs hM H locs L hL hP hS)) (fun q => (hs _ _ _ ((if_neg (fun z => q ((am_eq vx vy).mpr z))).symm.trans h) hn vs hM H locs L hL hP hS))
  · intro h hd1
    exact lv_icmp_ne (tgt := ps.getD t.toNat 0) hx hb hd1 (am_off_ok _ _ _) (fun q => (hj _ _ _ _ ((if_neg (fun z => q ((am_eq vx vy).mpr z))).symm.trans h) hn vs hM H locs L hL hP hS)) (fun q => (hs _ _ _ ((if_pos ((am_eq vx vy).mp q)).symm.trans h) hn vs hM H locs L hL hP hS))
  · intro h hd1
    exact lv_icmp_lt (tgt := ps.getD t.toNat 0) hx hb hd1 (am_off_ok _ _ _) (fun q => (hj _ _ _ _ ((if_pos ((am_lt vx vy).mp q)).symm.trans h) hn vs hM H locs L hL hP hS)) (fun q => (hs _ _ _ ((if_neg (fun z => q ((am_lt vx vy).mpr z))).symm.trans h) hn vs hM H locs L hL hP hS))
  · intro h hd1
    exact lv_icmp_ge (tgt := ps.getD t.toNat 0) hx hb hd1 (am_off_ok _ _ _) (fun q => (hj _ _ _ _ ((if_neg (fun z => absurd ((am_le vy vx).mp q) (by omega))).symm.trans h) hn vs hM H locs L hL hP hS)) (fun q => (hs _ _ _ ((if_pos (Int.not_le.mp (fun z => q ((am_le vy vx).mpr z)))).symm.trans h) hn vs hM H locs L hL hP hS))
  · intro h hd1
    exact lv_icmp_gt (tgt := ps.getD t.toNat 0) hx hb hd1 (am_off_ok _ _ _) (fun q => (hj _ _ _ _ ((if_pos ((am_lt vy vx).mp q)).symm.trans h) hn vs hM H locs L hL hP hS)) (fun q => (hs _ _ _ ((if_neg (fun z => q ((am_lt vy vx).mpr z))).symm.trans h) hn vs hM H locs L hL hP hS))
  · intro h hd1
    exact lv_icmp_le (tgt := ps.getD t.toNat 0) hx hb hd1 (am_off_ok _ _ _) (fun q => (hj _ _ _ _ ((if_neg (fun z => absurd ((am_le vx vy).mp q) (by omega))).symm.trans h) hn vs hM H locs L hL hP hS)) (fun q => (hs _ _ _ ((if_pos (Int.not_le.mp (fun z => q ((am_le vx vy).mpr z)))).symm.trans h) hn vs hM H locs L hL hP hS))

theorem am_s_goto (X : am_Cx p R s m args c cells slots D ad cA vF C own nL cc) {t : Int} {a b : Nat} : am_SS p l e R s m args below meth c cells slots Q D ad cA vF C own rt nL cc ps call res (.goto t, a, b) := by
  intro bp nx hd ls st M ks kj h hs hj hn hv hM H locs L hL hP hS
  obtain ⟨hx, hb, hml, hown, hts, hK, hSt, hinj, hvF, hRf, hRl, hRl2, hcs⟩ := id X
  exact lv_goto (tgt := ps.getD t.toNat 0) hx hb (of_decide_eq_true hd) (am_off_ok _ _ _) (hj _ _ _ _ h hn hv hM H locs L hL hP hS)

theorem am_s_tableswitch (X : am_Cx p R s m args c cells slots D ad cA vF C own nL cc) {d lo hi : Int} {ts : Array Int} {a b : Nat} : am_SS p l e R s m args below meth c cells slots Q D ad cA vF C own rt nL cc ps call res (.tableswitch d lo hi ts, a, b) := by
  intro bp nx hd ls st M ks kj h hs hj hn hv hM H locs L hL hP hS
  obtain ⟨hx, hb, hml, hown, hts, hK, hSt, hinj, hvF, hRf, hRl, hRl2, hcs⟩ := id X
  rcases st with _ | ⟨x | x, st⟩ <;> try (exact (am_no h).elim)
  have vx : am_in x := hv _ List.mem_cons_self
  have vs := am_vtl hv
  obtain ⟨hd1, h2⟩ := am_and hd
  have hd1 := of_decide_eq_true hd1
  have h2 : hi = lo + (ts.size : Int) - 1 := of_decide_eq_true h2
  have h : am_sw x d (fun t => kj t ls st M) lo ts.toList = some res := h
  rcases am_sw_cases (fun t => kj t ls st M) ts.toList lo with ⟨g1, g2⟩ | ⟨i, t, g1, g2, g3⟩
  · rw [g2] at h
    refine lv_tableOut (tgt := ps.getD d.toNat 0) hx hb hd1 ?_ (am_off_ok _ _ _) (hj _ _ _ _ h hn vs hM H locs L hL hP hS)
    rw [am_toInt vx, h2]
    have : ts.toList.length = ts.size := by simp
    omega
  · rw [g3] at h
    have hlt : i < ts.size := by
      have := (List.getElem?_eq_some_iff.mp g2).1
      simpa using this
    refine lv_tableIn (tgt := ps.getD t.toNat 0) (off := am_off ps bp t) hx hb hd1 ?_ ?_ ?_ (am_off_ok _ _ _) (hj _ _ _ _ h hn vs hM H locs L hL hP hS)
    · rw [am_toInt vx]; omega
    · rw [am_toInt vx]; omega
    · rw [am_toInt vx, show (x - lo).toNat = i from by omega, Array.getElem?_map, ← Array.getElem?_toList, g2]
      rfl

theorem am_s_lookupswitch (X : am_Cx p R s m args c cells slots D ad cA vF C own nL cc) {d : Int} {ts : Array (Int × Int)} {a b : Nat} : am_SS p l e R s m args below meth c cells slots Q D ad cA vF C own rt nL cc ps call res (.lookupswitch d ts, a, b) := by
  intro bp nx hd ls st M ks kj h hs hj hn hv hM H locs L hL hP hS
  obtain ⟨hx, hb, hml, hown, hts, hK, hSt, hinj, hvF, hRf, hRl, hRl2, hcs⟩ := id X
  rcases st with _ | ⟨x | x, st⟩ <;> try (exact (am_no h).elim)
  have vx : am_in x := hv _ List.mem_cons_self
  have vs := am_vtl hv
  obtain ⟨hd1, h2⟩ := am_and hd
  have hd1 := of_decide_eq_true hd1
  have h : am_swl x d (fun t => kj t ls st M) ts.toList = some res := h
  obtain ⟨t, g1, g2⟩ := am_swl_cases (am_off ps bp) x d (fun t => kj t ls st M) ts.toList
  rw [g2] at h
  refine lv_lookup (tgt := ps.getD t.toNat 0) (off := am_off ps bp t) hx hb hd1 ?_ ?_ (am_off_ok _ _ _) (hj _ _ _ _ h hn vs hM H locs L hL hP hS)
  · rw [Array.toList_map]
    exact am_sorted _ _ h2
  · rw [am_toInt vx, Array.toList_map]
    exact g1

theorem am_s_getfield (X : am_Cx p R s m args c cells slots D ad cA vF C own nL cc) {k ci b : Nat} : am_SS p l e R s m args below meth c cells slots Q D ad cA vF C own rt nL cc ps call res (.getfield k, ci, b) := by
  intro bp nx hd ls st M ks kj h hs hj hn hv hM H locs L hL hP hS
  obtain ⟨hx, hb, hml, hown, hts, hK, hSt, hinj, hvF, hRf, hRl, hRl2, hcs⟩ := id X
  rcases st with _ | ⟨x | q, st⟩ <;> try (exact (am_no h).elim)
  obtain ⟨hc, h⟩ := am_cond_some h
  have hc : am_cls q = ci := Nat.eq_of_beq_eq_true hc
  obtain ⟨hd, h3⟩ := am_and hd
  obtain ⟨hd1, rfl⟩ := am_d1_ok hd
  have kk := hs _ _ _ h hn (am_vc (v := .inl (M q k)) (hM.1 q k) (am_vtl hv)) hM H locs L hL hP hS
  revert h3
  cases h8 : Nat.beq ci 8 with
  | true =>
    intro h3
    obtain ⟨rfl, rfl, rfl⟩ := of_decide_eq_true h3
    have h8 := Nat.eq_of_beq_eq_true h8
    obtain ⟨i, hi, rfl⟩ := am_str (hc.trans h8)
    obtain ⟨g1, g2, g3, g4, g5⟩ := hSt.2.2.2.2.1 i hi
    have e9 : M (300 + i) ((0 : Nat) : Int) = 0 := by rw [hM.2 _ (by omega)]; exact g5
    rw [List.map_cons, show am_enc ad vF (.inl (M (300 + i) ((0 : Nat) : Int))) = .int 0 from by rw [e9]; rfl] at kk
    show W p l e R s m args below meth c H locs cells slots Q (F0 m bp L (am_rv ad vF (300 + i) :: st.map (am_enc ad vF)))
    rw [am_rv, if_neg (by omega)]
    exact vk_getf hx hb g2 hS hown (hts _ (lw_g am_l_coder rfl)) (fun _ h9 => h9) hd1 kk
  | false =>
    intro h3
    obtain ⟨Cn, T, N, f1, f2, f3, f4, f5, f6⟩ := am_fl_all _ (am_mem h3)
    dsimp only at f1 f2 f3 f4 f5 f6
    have hq : q < 199 := am_own hc (Or.inl f6)
    show W p l e R s m args below meth c H locs cells slots Q (F0 m bp L (am_rv ad vF q :: st.map (am_enc ad vF)))
    rw [am_rv, if_neg (by omega)]
    refine va_get (v := .int (Int32.ofInt (M q k))) hx hb hts (am_cf_all ci _ f1).2.2 hown hK hP q (am_ws_o hq hc f6) f1 k f2 (hts _ (lw_g f4 rfl)) (f3 ▸ fun _ h9 => h9) ?_ hd1 kk
    rw [am_fs_get (am_nf_ok f1 ▸ f2)]
    simp [am_fld, f5]

theorem am_s_checkcast (X : am_Cx p R s m args c cells slots D ad cA vF C own nL cc) {k ci b : Nat} : am_SS p l e R s m args below meth c cells slots Q D ad cA vF C own rt nL cc ps call res (.checkcast k, ci, b) := by
  intro bp nx hd ls st M ks kj h hs hj hn hv hM H locs L hL hP hS
  obtain ⟨hx, hb, hml, hown, hts, hK, hSt, hinj, hvF, hRf, hRl, hRl2, hcs⟩ := id X
  rcases st with _ | ⟨x | q, st⟩ <;> try (exact (am_no h).elim)
  obtain ⟨hc, h⟩ := am_cond_some h
  have hc : am_cls q = ci := Nat.eq_of_beq_eq_true hc
  obtain ⟨hd, h3⟩ := am_and hd
  obtain ⟨hd1, rfl⟩ := am_d1_ok hd
  have kk := hs _ _ _ h hn (am_vc (v := .inr (am_rf q k)) trivial (am_vtl hv)) hM H locs L hL hP hS
  revert h3
  cases h8 : Nat.beq ci 8 with
  | true =>
    intro h3
    obtain ⟨rfl, rfl, rfl⟩ := of_decide_eq_true h3
    have h8 := Nat.eq_of_beq_eq_true h8
    obtain ⟨i, hi, rfl⟩ := am_str (hc.trans h8)
    obtain ⟨g1, g2, g3, g4, g5⟩ := hSt.2.2.2.2.1 i hi
    have e9 : am_rf (300 + i) 0 = 400 + i := by
      unfold am_rf
      rw [hc, h8]
      show 300 + i + 100 = 400 + i
      omega
    rw [List.map_cons, show am_enc ad vF (.inr (am_rf (300 + i) ((0 : Nat) : Int))) = .ref (ad (400 + i)) from by
      show am_rv ad vF (am_rf (300 + i) 0) = _
      rw [e9, am_rv, if_neg (by omega)]] at kk
    show W p l e R s m args below meth c H locs cells slots Q (F0 m bp L (am_rv ad vF (300 + i) :: st.map (am_enc ad vF)))
    rw [am_rv, if_neg (by omega)]
    exact vk_getf hx hb g3 hS hown (hts _ (lw_g am_l_value rfl)) (fun _ h9 => h9) hd1 kk
  | false =>
    intro h3
    obtain ⟨Cn, T, N, f1, f2, f3, f4, f5, f6⟩ := am_fl_all _ (am_mem h3)
    dsimp only at f1 f2 f3 f4 f5 f6
    have hq : q < 199 := am_own hc (Or.inl f6)
    show W p l e R s m args below meth c H locs cells slots Q (F0 m bp L (am_rv ad vF q :: st.map (am_enc ad vF)))
    have hr : am_rf q k < 199 := am_rf_own q hq k (by rw [hc]; exact f5)
    rw [List.map_cons, show am_enc ad vF (.inr (am_rf q k)) = .ref (ad (am_rf q k)) from by
      show am_rv ad vF (am_rf q k) = _
      rw [am_rv, if_neg (by omega)]] at kk
    rw [am_rv, if_neg (by omega)]
    refine va_get (v := .ref (ad (am_rf q k))) hx hb hts (am_cf_all ci _ f1).2.2 hown hK hP q (am_ws_o hq hc f6) f1 k f2 (hts _ (lw_g f4 rfl)) (f3 ▸ fun _ h9 => h9) ?_ hd1 kk
    rw [am_fs_get (am_nf_ok f1 ▸ f2)]
    simp [am_fld, f5]

theorem am_s_putfield (X : am_Cx p R s m args c cells slots D ad cA vF C own nL cc) {k ci b : Nat} : am_SS p l e R s m args below meth c cells slots Q D ad cA vF C own rt nL cc ps call res (.putfield k, ci, b) := by
  intro bp nx hd ls st M ks kj h hs hj hn hv hM H locs L hL hP hS
  obtain ⟨hx, hb, hml, hown, hts, hK, hSt, hinj, hvF, hRf, hRl, hRl2, hcs⟩ := id X
  rcases st with _ | ⟨x | x, _ | ⟨q | q, st⟩⟩ <;> try (exact (am_no h).elim)
  have vx : am_in x := hv _ List.mem_cons_self
  obtain ⟨hc, h⟩ := am_cond_some h
  have hc : am_cls q = ci := Nat.eq_of_beq_eq_true hc
  obtain ⟨hd, h3⟩ := am_and hd
  obtain ⟨hd1, rfl⟩ := am_d1_ok hd
  obtain ⟨Cn, T, N, f1, f2, f3, f4, f5, f6, f7, f8⟩ := am_fp_all _ (am_mem h3)
  dsimp only at f1 f2 f3 f4 f5 f6 f7 f8
  obtain ⟨hz, h⟩ := am_put_some h
  have hq : q < 199 := am_own hc (Or.inl f6)
  obtain ⟨⟨ty0, hty⟩, hnm, hws⟩ := am_cf_all ci _ f1
  show W p l e R s m args below meth c H locs cells slots Q (F0 m bp L (.int (Int32.ofInt x) :: am_rv ad vF q :: st.map (am_enc ad vF)))
  rw [am_rv, if_neg (by omega)]
  refine va_put (v := .int (Int32.ofInt x)) hx hb hts hws ty0 hty hnm hown hK hP (am_ws_D hinj M) hS q (am_ws_o hq hc f6) f1 k f2 (hts _ (lw_g f4 rfl)) (f3 ▸ fun _ h9 => h9) f7 f8 ?_ ?_ ?_ hd1 (fun H1 locs1 hP1 _ hS1 => ?_)
  · cases hb2 : Nat.beq (b % 2) 1 with
    | true => rcases hz hb2 with rfl | rfl <;> rfl
    | false => rfl
  · cases hb2 : Nat.beq (b % 2) 1 with
    | true => rcases hz hb2 with rfl | rfl <;> rfl
    | false => rfl
  · rw [am_fs, List.length_map, List.length_range]; exact am_nf_ok f1 ▸ f2
  · rw [am_set_f ad cA hc f6 f5] at hP1
    exact hs _ _ _ h hn (am_vtl (am_vtl hv)) (am_mok_upd hM (by omega) vx) H1 locs1 L hL hP1 hS1

theorem am_s_iaload (X : am_Cx p R s m args c cells slots D ad cA vF C own nL cc) {a b : Nat} : am_SS p l e R s m args below meth c cells slots Q D ad cA vF C own rt nL cc ps call res (.iaload, a, b) := by
  intro bp nx hd ls st M ks kj h hs hj hn hv hM H locs L hL hP hS
  obtain ⟨hx, hb, hml, hown, hts, hK, hSt, hinj, hvF, hRf, hRl, hRl2, hcs⟩ := id X
  rcases st with _ | ⟨i | i, _ | ⟨q | q, st⟩⟩ <;> try (exact (am_no h).elim)
  have vi : am_in i := hv _ List.mem_cons_self
  obtain ⟨hc, h⟩ := am_cond_some h
  obtain ⟨⟨hi0, hi1⟩, h⟩ := am_chk_some h
  obtain ⟨hd1, rfl⟩ := am_d1_ok hd
  have kk := hs _ _ _ h hn (am_vc (v := .inl (M q i)) (hM.1 q i) (am_vtl (am_vtl hv))) hM H locs L hL hP hS
  show W p l e R s m args below meth c H locs cells slots Q (F0 m bp L (.int (Int32.ofInt i) :: am_rv ad vF q :: st.map (am_enc ad vF)))
  have ei : ((Int32.ofInt i).toNatClampNeg : Int) = i := by rw [am_clamp vi]; omega
  rcases Bool.or_eq_true_iff.mp hc with hc | hc
  · have hc : am_cls q = 9 := Nat.eq_of_beq_eq_true hc
    have hq : q < 199 := am_own hc (by omega)
    rw [am_rv, if_neg (by omega)]
    have hln : am_len M q = am_ln q := am_len_own hq M
    refine va_iald hx hb hK hP q 0 (am_ws_r hq hc (Or.inl rfl)) rfl (am_vin vi ⟨hi0, by rw [← hln]; exact hi1⟩) hd1 ?_
    rw [show am_row M q (Int32.ofInt i).toNatClampNeg = Int32.ofInt (M q i) from by rw [am_row, ei]]
    exact kk
  · have hc : am_cls q = 12 := Nat.eq_of_beq_eq_true hc
    obtain ⟨hq1, hq2⟩ := am_stt hc
    obtain ⟨hT, hpos⟩ := hSt.2.1 q hq1 hq2
    rw [am_rv, if_neg (by omega)]
    have hMC : M q = C q := hM.2 q (by omega)
    have hlen : am_len M q = am_len C q := am_len_C hM q
    refine va_ti hx hb hT hS (am_vin vi ⟨hi0, by rw [hlen] at hi1; omega⟩) (v := .int (Int32.ofInt (M q i))) ?_ hd1 kk
    rw [ei, hMC]

theorem am_s_caload (X : am_Cx p R s m args c cells slots D ad cA vF C own nL cc) {a b : Nat} : am_SS p l e R s m args below meth c cells slots Q D ad cA vF C own rt nL cc ps call res (.caload, a, b) := by
  intro bp nx hd ls st M ks kj h hs hj hn hv hM H locs L hL hP hS
  obtain ⟨hx, hb, hml, hown, hts, hK, hSt, hinj, hvF, hRf, hRl, hRl2, hcs⟩ := id X
  rcases st with _ | ⟨i | i, _ | ⟨q | q, st⟩⟩ <;> try (exact (am_no h).elim)
  have vi : am_in i := hv _ List.mem_cons_self
  obtain ⟨hc, h⟩ := am_cond_some h
  obtain ⟨⟨hi0, hi1⟩, h⟩ := am_chk_some h
  obtain ⟨hd1, rfl⟩ := am_d1_ok hd
  have kk := hs _ _ _ h hn (am_vc (v := .inl (M q i)) (hM.1 q i) (am_vtl (am_vtl hv))) hM H locs L hL hP hS
  show W p l e R s m args below meth c H locs cells slots Q (F0 m bp L (.int (Int32.ofInt i) :: am_rv ad vF q :: st.map (am_enc ad vF)))
  have ei : ((Int32.ofInt i).toNatClampNeg : Int) = i := by rw [am_clamp vi]; omega
  have hc : am_cls q = 10 := Nat.eq_of_beq_eq_true hc
  have hq : q < 199 := am_own hc (by omega)
  rw [am_rv, if_neg (by omega)]
  have hln : am_len M q = am_ln q := am_len_own hq M
  refine va_cald hx hb hK hP q 1 (am_ws_r hq hc (Or.inr rfl)) rfl (am_vin vi ⟨hi0, by rw [← hln]; exact hi1⟩) hd1 ?_
  rw [show am_row M q (Int32.ofInt i).toNatClampNeg = Int32.ofInt (M q i) from by rw [am_row, ei]]
  exact kk

theorem am_s_baload (X : am_Cx p R s m args c cells slots D ad cA vF C own nL cc) {a b : Nat} : am_SS p l e R s m args below meth c cells slots Q D ad cA vF C own rt nL cc ps call res (.baload, a, b) := by
  intro bp nx hd ls st M ks kj h hs hj hn hv hM H locs L hL hP hS
  obtain ⟨hx, hb, hml, hown, hts, hK, hSt, hinj, hvF, hRf, hRl, hRl2, hcs⟩ := id X
  rcases st with _ | ⟨i | i, _ | ⟨q | q, st⟩⟩ <;> try (exact (am_no h).elim)
  have vi : am_in i := hv _ List.mem_cons_self
  obtain ⟨hc, h⟩ := am_cond_some h
  obtain ⟨⟨hi0, hi1⟩, h⟩ := am_chk_some h
  obtain ⟨hd1, rfl⟩ := am_d1_ok hd
  have kk := hs _ _ _ h hn (am_vc (v := .inl (M q i)) (hM.1 q i) (am_vtl (am_vtl hv))) hM H locs L hL hP hS
  show W p l e R s m args below meth c H locs cells slots Q (F0 m bp L (.int (Int32.ofInt i) :: am_rv ad vF q :: st.map (am_enc ad vF)))
  have ei : ((Int32.ofInt i).toNatClampNeg : Int) = i := by rw [am_clamp vi]; omega
  have hc : am_cls q = 13 := Nat.eq_of_beq_eq_true hc
  obtain ⟨j, hj, rfl⟩ := am_byt hc
  obtain ⟨g1, g2, g3, g4, g5⟩ := hSt.2.2.2.2.1 j hj
  rw [am_rv, if_neg (by omega)]
  have hMC : M (400 + j) = C (400 + j) := hM.2 _ (by omega)
  have hlen : am_len M (400 + j) = am_len C (400 + j) := am_len_C hM _
  have hpos := am_len_pos C (400 + j) (by omega)
  refine va_tb hx hb g4 hS (am_vin vi ⟨hi0, by rw [hlen] at hi1; omega⟩) (v := .int (Int32.ofInt (M (400 + j) i))) ?_ hd1 kk
  rw [ei, hMC]

theorem am_s_aaload (X : am_Cx p R s m args c cells slots D ad cA vF C own nL cc) {a b : Nat} : am_SS p l e R s m args below meth c cells slots Q D ad cA vF C own rt nL cc ps call res (.aaload, a, b) := by
  intro bp nx hd ls st M ks kj h hs hj hn hv hM H locs L hL hP hS
  obtain ⟨hx, hb, hml, hown, hts, hK, hSt, hinj, hvF, hRf, hRl, hRl2, hcs⟩ := id X
  rcases st with _ | ⟨i | i, _ | ⟨q | q, st⟩⟩ <;> try (exact (am_no h).elim)
  have vi : am_in i := hv _ List.mem_cons_self
  obtain ⟨hc, h⟩ := am_cond_some h
  obtain ⟨⟨hi0, hi1⟩, h⟩ := am_chk_some h
  obtain ⟨hd1, rfl⟩ := am_d1_ok hd
  have kk := hs _ _ _ h hn (am_vc (v := .inr (am_rf q i)) trivial (am_vtl (am_vtl hv))) hM H locs L hL hP hS
  show W p l e R s m args below meth c H locs cells slots Q (F0 m bp L (.int (Int32.ofInt i) :: am_rv ad vF q :: st.map (am_enc ad vF)))
  have ei : ((Int32.ofInt i).toNatClampNeg : Int) = i := by rw [am_clamp vi]; omega
  have hc : am_cls q = 11 ∨ am_cls q = 14 := by
    rcases Bool.or_eq_true_iff.mp hc with hc | hc
    · exact Or.inl (Nat.eq_of_beq_eq_true hc)
    · exact Or.inr (Nat.eq_of_beq_eq_true hc)
  have hq : q < 199 := by
    rcases hc with hc | hc
    · exact am_own hc (by omega)
    · exact am_own hc (by omega)
  have hln : am_len M q = am_ln q := am_len_own hq M
  have hr : am_rf q i < 199 := by
    have := am_rf_row q hq hc i.toNat (by rw [hln] at hi1; omega)
    rwa [show ((i.toNat : Nat) : Int) = i from by omega] at this
  rw [am_rv, if_neg (by omega)]
  rw [List.map_cons, show am_enc ad vF (.inr (am_rf q i)) = .ref (ad (am_rf q i)) from by
    show am_rv ad vF (am_rf q i) = _
    rw [am_rv, if_neg (by omega)]] at kk
  have fin : am_rrow ad q (Int32.ofInt i).toNatClampNeg = some (ad (am_rf q i)) := by rw [am_rrow, ei]
  rcases hc with hc | hc
  · refine va_aldq hx hb hK hP q 2 (am_ws_q hq hc (Or.inl rfl)) rfl (am_vin vi ⟨hi0, by rw [← hln]; exact hi1⟩) hd1 ?_
    rw [fin]
    exact kk
  · refine va_aldq hx hb hK hP q 3 (am_ws_q hq hc (Or.inr rfl)) rfl (am_vin vi ⟨hi0, by rw [← hln]; exact hi1⟩) hd1 ?_
    rw [fin]
    exact kk

theorem am_s_iastore (X : am_Cx p R s m args c cells slots D ad cA vF C own nL cc) {a b : Nat} : am_SS p l e R s m args below meth c cells slots Q D ad cA vF C own rt nL cc ps call res (.iastore, a, b) := by
  intro bp nx hd ls st M ks kj h hs hj hn hv hM H locs L hL hP hS
  obtain ⟨hx, hb, hml, hown, hts, hK, hSt, hinj, hvF, hRf, hRl, hRl2, hcs⟩ := id X
  rcases st with _ | ⟨x | x, _ | ⟨i | i, _ | ⟨q | q, st⟩⟩⟩ <;> try (exact (am_no h).elim)
  have vx : am_in x := hv _ List.mem_cons_self
  have vi : am_in i := hv _ (List.mem_cons_of_mem _ List.mem_cons_self)
  obtain ⟨hc, h⟩ := am_cond_some h
  obtain ⟨⟨hi0, hi1⟩, h⟩ := am_chk_some h
  obtain ⟨hd1, rfl⟩ := am_d1_ok hd
  have hc : am_cls q = 9 := Nat.eq_of_beq_eq_true hc
  have hq : q < 199 := am_own hc (by omega)
  show W p l e R s m args below meth c H locs cells slots Q (F0 m bp L (.int (Int32.ofInt x) :: .int (Int32.ofInt i) :: am_rv ad vF q :: st.map (am_enc ad vF)))
  rw [am_rv, if_neg (by omega)]
  have hln : am_len M q = am_ln q := am_len_own hq M
  refine va_iast hx hb hK hP (am_ws_D hinj M) hS q 0 (am_ws_r hq hc (by omega)) rfl (am_vin vi ⟨hi0, by rw [← hln]; exact hi1⟩) hd1 (fun H1 locs1 hP1 _ hS1 => ?_)
  rw [am_clamp vi, am_set_r ad cA hc (by omega) hi0] at hP1
  exact hs _ _ _ h hn (am_vtl (am_vtl (am_vtl hv))) (am_mok_upd hM (by omega) vx) H1 locs1 L hL hP1 hS1

theorem am_s_castore (X : am_Cx p R s m args c cells slots D ad cA vF C own nL cc) {a b : Nat} : am_SS p l e R s m args below meth c cells slots Q D ad cA vF C own rt nL cc ps call res (.castore, a, b) := by
  intro bp nx hd ls st M ks kj h hs hj hn hv hM H locs L hL hP hS
  obtain ⟨hx, hb, hml, hown, hts, hK, hSt, hinj, hvF, hRf, hRl, hRl2, hcs⟩ := id X
  rcases st with _ | ⟨x | x, _ | ⟨i | i, _ | ⟨q | q, st⟩⟩⟩ <;> try (exact (am_no h).elim)
  have vx : am_in x := hv _ List.mem_cons_self
  have vi : am_in i := hv _ (List.mem_cons_of_mem _ List.mem_cons_self)
  obtain ⟨hc, h⟩ := am_cond_some h
  obtain ⟨⟨hi0, hi1⟩, h⟩ := am_chk_some h
  obtain ⟨hd1, rfl⟩ := am_d1_ok hd
  have hc : am_cls q = 10 := Nat.eq_of_beq_eq_true hc
  have hq : q < 199 := am_own hc (by omega)
  show W p l e R s m args below meth c H locs cells slots Q (F0 m bp L (.int (Int32.ofInt x) :: .int (Int32.ofInt i) :: am_rv ad vF q :: st.map (am_enc ad vF)))
  rw [am_rv, if_neg (by omega)]
  have hln : am_len M q = am_ln q := am_len_own hq M
  refine va_cast hx hb hK hP (am_ws_D hinj M) hS q 1 (am_ws_r hq hc (by omega)) rfl (am_vin vi ⟨hi0, by rw [← hln]; exact hi1⟩) hd1 (fun H1 locs1 hP1 _ hS1 => ?_)
  rw [am_clamp vi, am_narc, am_set_r ad cA hc (by omega) hi0] at hP1
  exact hs _ _ _ h hn (am_vtl (am_vtl (am_vtl hv))) (am_mok_upd hM (by omega) (am_in_chr _)) H1 locs1 L hL hP1 hS1

theorem am_s_arraylength (X : am_Cx p R s m args c cells slots D ad cA vF C own nL cc) {a b : Nat} : am_SS p l e R s m args below meth c cells slots Q D ad cA vF C own rt nL cc ps call res (.arraylength, a, b) := by
  intro bp nx hd ls st M ks kj h hs hj hn hv hM H locs L hL hP hS
  obtain ⟨hx, hb, hml, hown, hts, hK, hSt, hinj, hvF, hRf, hRl, hRl2, hcs⟩ := id X
  rcases st with _ | ⟨q | q, st⟩ <;> try (exact (am_no h).elim)
  obtain ⟨hc, h⟩ := am_cond_some h
  obtain ⟨hc1, hc2⟩ := am_and hc
  have hc1 := Nat.le_of_ble_eq_true hc1
  have hc2 : am_cls q < 15 := Nat.le_of_ble_eq_true hc2
  obtain ⟨hd1, rfl⟩ := am_d1_ok hd
  have kk := hs _ _ _ h hn (am_vc (v := .inl (am_len M q)) (am_len_in hM q) (am_vtl hv)) hM H locs L hL hP hS
  show W p l e R s m args below meth c H locs cells slots Q (F0 m bp L (am_rv ad vF q :: st.map (am_enc ad vF)))
  have own : q < 199 → W p l e R s m args below meth c H locs cells slots Q (F0 m bp L (am_rv ad vF q :: st.map (am_enc ad vF))) := by
    intro hq
    rw [am_rv, if_neg (by omega)]
    have hln : am_len M q = am_ln q := am_len_own hq M
    have e9 : Int32.ofNat (am_ln q) = Int32.ofInt (am_len M q) := by
      rw [hln]; exact am_ofNat _
    rcases (show am_cls q = 9 ∨ am_cls q = 10 ∨ am_cls q = 11 ∨ am_cls q = 14 from by
      have := am_own_k q hq; omega) with k | k | k | k
    · exact va_alen hx hb hK hP q 0 (am_ws_r hq k (Or.inl rfl)) rfl e9 hd1 kk
    · exact va_alen hx hb hK hP q 1 (am_ws_r hq k (Or.inr rfl)) rfl e9 hd1 kk
    · exact va_alen hx hb hK hP q 2 (am_ws_q hq k (Or.inl rfl)) rfl e9 hd1 kk
    · exact va_alen hx hb hK hP q 3 (am_ws_q hq k (Or.inr rfl)) rfl e9 hd1 kk
  rcases (show am_cls q = 12 ∨ am_cls q = 13 ∨ (am_cls q = 9 ∨ am_cls q = 10 ∨ am_cls q = 11 ∨ am_cls q = 14) from by omega) with k | k | k
  · obtain ⟨hq1, hq2⟩ := am_stt k
    obtain ⟨hT, hpos⟩ := hSt.2.1 q hq1 hq2
    rw [am_rv, if_neg (by omega)]
    refine va_tlen hx hb hT hS ?_ hd1 kk
    rw [am_ofNat, am_len_C hM q]
    congr 1
    omega
  · obtain ⟨j, hj, rfl⟩ := am_byt k
    obtain ⟨g1, g2, g3, g4, g5⟩ := hSt.2.2.2.2.1 j hj
    rw [am_rv, if_neg (by omega)]
    have hpos := am_len_pos C (400 + j) (by omega)
    refine va_tlen hx hb g4 hS ?_ hd1 kk
    rw [am_ofNat, am_len_C hM (400 + j)]
    congr 1
    omega
  · refine own ?_
    rcases k with k | k | k | k
    · exact am_own k (by omega)
    · exact am_own k (by omega)
    · exact am_own k (by omega)
    · exact am_own k (by omega)

theorem am_s_lcmp (X : am_Cx p R s m args c cells slots D ad cA vF C own nL cc) {a b : Nat} : am_SS p l e R s m args below meth c cells slots Q D ad cA vF C own rt nL cc ps call res (.lcmp, a, b) := by
  intro bp nx hd ls st M ks kj h hs hj hn hv hM H locs L hL hP hS
  obtain ⟨hx, hb, hml, hown, hts, hK, hSt, hinj, hvF, hRf, hRl, hRl2, hcs⟩ := id X
  rcases st with _ | ⟨n | n, _ | ⟨j | j, _ | ⟨w | w, _ | ⟨i | i, _ | ⟨q | q, st⟩⟩⟩⟩⟩ <;> try (exact (am_no h).elim)
  have vn : am_in n := hv _ List.mem_cons_self
  have vj : am_in j := hv _ (List.mem_cons_of_mem _ List.mem_cons_self)
  have vi : am_in i := am_vtl (am_vtl (am_vtl hv)) _ List.mem_cons_self
  obtain ⟨hc, h⟩ := am_cond_some h
  obtain ⟨hcq, hcw⟩ := am_and hc
  obtain ⟨⟨hi0, hj0, hn0, hi1, hj1⟩, h⟩ := am_chk_some h
  obtain ⟨hd, h3⟩ := am_and hd
  obtain ⟨hd1, rfl⟩ := am_d1_ok hd
  obtain rfl : st = [] := by
    cases st with
    | nil => rfl
    | cons v st => exact (am_no h).elim
  have hcq : am_cls q = 9 := Nat.eq_of_beq_eq_true hcq
  have hcw : am_cls w = 9 := Nat.eq_of_beq_eq_true hcw
  have hq : q < 199 := am_own hcq (by omega)
  have hw : w < 199 := am_own hcw (by omega)
  have hlq : am_len M q = am_ln q := am_len_own hq M
  have hlw : am_len M w = am_ln w := am_len_own hw M
  rw [hlq] at hi1
  rw [hlw] at hj1
  show W p l e R s m args below meth c H locs cells slots Q (F0 m bp L [.int (Int32.ofInt n), .int (Int32.ofInt j), am_rv ad vF w, .int (Int32.ofInt i), am_rv ad vF q])
  rw [am_rv, if_neg (by omega), am_rv, if_neg (by omega)]
  refine va_copyi (q0 := q) (q1 := w) (t0 := 0) (t1 := 0) hx hb (by rw [hml, hL.1, hn]) hown (hts _ (lw_g (am_ac_all _ (am_mem h3)) rfl)) (hts _ (lw_g am_l_nat rfl)) (hts _ (lw_g am_l_stat rfl)) (hts _ (lw_g am_l_sys rfl)) hK hP (am_ws_D hinj M) hS (am_ws_r hq hcq (Or.inl rfl)) (am_ws_r hw hcw (Or.inl rfl)) rfl rfl rfl ?_ ?_ ?_ ?_ ?_ (fun _ _ => rfl) hRf (by simpa using hRl) hd1 (fun H1 locs1 hP1 _ hS1 => ?_)
  · rw [am_lt0 vi]; omega
  · rw [am_lt0 vj]; omega
  · rw [am_lt0 vn]; omega
  · rw [am_clamp vi, am_clamp vn]; omega
  · rw [am_clamp vj, am_clamp vn]; omega
  · rw [am_clamp vi, am_clamp vj, am_clamp vn, am_set_c ad cA hcw hi0 hj0 hn0] at hP1
    exact hs _ _ _ h hn (fun _ h => absurd h List.not_mem_nil) (am_mok_cpy hM (by omega)) H1 locs1 L hL hP1 hS1

end SND
