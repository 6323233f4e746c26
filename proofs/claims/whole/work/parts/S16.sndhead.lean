/-! SOUND: each instruction of the abstract machine is one of the real machine -/
def am_rv (ad : Nat → Nat) (vF : Value) (a : Nat) : Value := if a = 204 then vF else .ref (ad a)
def am_enc (ad : Nat → Nat) (vF : Value) (v : am_V) : Value := match v with
  | .inl x => .int (Int32.ofInt x)
  | .inr a => am_rv ad vF a
def am_vok (v : am_V) : Prop := match v with
  | .inl x => am_in x
  | .inr _ => True
def am_mok (C M : am_M) : Prop := (∀ a i, am_in (M a i)) ∧ ∀ a, 199 ≤ a → M a = C a
def am_tys (cA : Nat → ClassId) : List (ClassId × FieldType) := [(cA 9, .int), (cA 10, .char), (cA 11, .object "LentHands$World"), (cA 14, .object "LentHands$Law")]
def am_lok (ad : Nat → Nat) (vF : Value) (ls : List (Option am_V)) (L : Array Slot) : Prop := L.size = ls.length ∧ lv_wf L ∧ ∀ (k : Nat) (v : am_V), ls[k]? = some (some v) → L[k]? = some (.val (am_enc ad vF v)) ∧ am_vok v
def am_St (ad : Nat → Nat) (vF : Value) (C : am_M) (U : State) (H : Heap) : Prop :=
  (∀ i, 200 ≤ i → i < 203 → va_Z "LentHands" (am_GN i) "[I" (.ref (ad i)) (am_A ad) U H) ∧
  (∀ i, 200 ≤ i → i < 204 → va_T .int (ad i) (am_len C i).toNat (fun j => .int (Int32.ofInt (C i j))) (am_A ad) U H ∧ 0 ≤ am_len C i) ∧
  va_Z "java/lang/String" "COMPACT_STRINGS" "Z" (.int 1) (am_A ad) U H ∧
  va_Z "jdk/internal/util/Preconditions" "SIOOBE_FORMATTER" "Ljava/util/function/BiFunction;" vF (am_A ad) U H ∧
  (∀ i, i < 36 → va_O "java/lang/String" (ad (300 + i)) (am_A ad) U H ∧ va_OF "java/lang/String" "coder" "B" (.int 0) (ad (300 + i)) (am_A ad) U H ∧ va_OF "java/lang/String" "value" "[B" (.ref (ad (400 + i))) (ad (300 + i)) (am_A ad) U H ∧ va_T .byte (ad (400 + i)) (am_len C (400 + i)).toNat (fun j => .int (Int32.ofInt (C (400 + i) j))) (am_A ad) U H ∧ C (300 + i) 0 = 0) ∧
  (∀ q ∈ am_sl, ∃ tx : String, vk_R (am_cn q.1) q.2.1 tx (ad q.2.2) U ∧ ¬ q.2.2 = 204) ∧
  (∀ q ∈ am_gl, va_Nw (.fieldLinkNest (am_cn q.1) q.2.1 "LentHands" (am_GN q.2.2) "[I" "LentHands") U)
def am_Cx (p : Program) (R : Room) (s : State) (m : MethodId) (args : Array Value) (c : Code) (cells slots : Nat) (D : va_G) (ad : Nat → Nat) (cA : Nat → ClassId) (vF : Value) (C : am_M) (own nL : Nat) (cc : ByteArray) : Prop :=
  p.tables.exec = Jvm.exec ∧ c.code = cc ∧ c.maxLocals = nL ∧ s.vm.findClass (am_cn own) = some m.cls ∧ (∀ w ∈ lw_gd, w.before args s = true) ∧ va_K D vwCl (am_tys cA) s ∧ am_St ad vF C s s.heap ∧ (∀ i j, i < 199 → j < 199 → ad i = ad j → i = j) ∧ (vF = .null ∨ ∃ x, vF = .ref x) ∧ 1 ≤ R.frames ∧ nativeFrameWords "java/lang/System" "arraycopy" 5 + 11 ≤ R.locals ∧ 21 ≤ R.locals ∧ cells ≤ R.cells ∧ slots ≤ R.slots
def am_Go (p : Program) (l : Launch) (e : Env) (R : Room) (s : State) (m : MethodId) (args : Array Value) (below : List Frame) (meth : Method) (c : Code) (cells slots : Nat) (Q : State → Prop) (D : va_G) (ad : Nat → Nat) (cA : Nat → ClassId) (vF : Value) (C : am_M) (nL : Nat) (bp : Nat) (ls : List (Option am_V)) (st : List am_V) (M : am_M) : Prop :=
  ls.length = nL → (∀ v ∈ st, am_vok v) → am_mok C M → ∀ (H : Heap) (locs : List Loc) (L : Array Slot), am_lok ad vF ls L → va_P D vwCl (am_ws ad cA M) H → va_S (am_A ad) s.heap H locs → W p l e R s m args below meth c H locs cells slots Q (F0 m bp L (st.map (am_enc ad vF)))
def am_SS (p : Program) (l : Launch) (e : Env) (R : Room) (s : State) (m : MethodId) (args : Array Value) (below : List Frame) (meth : Method) (c : Code) (cells slots : Nat) (Q : State → Prop) (D : va_G) (ad : Nat → Nat) (cA : Nat → ClassId) (vF : Value) (C : am_M) (own rt nL : Nat) (cc : ByteArray) (ps : List Nat) (call : Nat → List am_V → am_M → am_R) (res : Int × am_M) (ai : am_I) : Prop :=
  ∀ bp nx, am_dec own rt cc ps bp nx ai = true → ∀ ls st M ks kj, am_stp am_cls am_rf am_len call ai ls st M ks kj = some res → (∀ l' s' m', ks l' s' m' = some res → am_Go p l e R s m args below meth c cells slots Q D ad cA vF C nL nx l' s' m') → (∀ t l' s' m', kj t l' s' m' = some res → am_Go p l e R s m args below meth c cells slots Q D ad cA vF C nL (ps.getD t 0) l' s' m') → am_Go p l e R s m args below meth c cells slots Q D ad cA vF C nL bp ls st M
theorem am_no {res : Int × am_M} (h : (none : am_R) = some res) : False := by cases h
theorem am_vtl {v : am_V} {st : List am_V} (h : ∀ w ∈ v :: st, am_vok w) : ∀ w ∈ st, am_vok w := fun w hw => h w (List.mem_cons_of_mem _ hw)
theorem am_vc {v : am_V} {st : List am_V} (h : am_vok v) (hs : ∀ w ∈ st, am_vok w) : ∀ w ∈ v :: st, am_vok w := fun w hw => (List.mem_cons.mp hw).elim (fun e => e ▸ h) (hs w)
theorem am_and {a b : Bool} (h : (a && b) = true) : a = true ∧ b = true := by simpa using h
theorem am_d1_ok {cc : ByteArray} {bp nx n : Nat} {ins : Jvm.ClassFile.Instr} (h : am_d1 cc bp nx ins n = true) : decode cc bp = .ok (ins, n) ∧ nx = bp + n := by
  obtain ⟨h1, h2⟩ := am_and h
  exact ⟨of_decide_eq_true h1, Nat.eq_of_beq_eq_true h2⟩
theorem am_mem {α : Type} [BEq α] [LawfulBEq α] {a : α} {l : List α} (h : l.contains a = true) : a ∈ l := List.contains_iff_mem.mp h
theorem am_chk_some {c : Prop} [Decidable c] {x : am_R} {res : Int × am_M} (h : am_chk c x = some res) : c ∧ x = some res := by
  unfold am_chk at h
  split at h
  · rename_i q; exact ⟨q, h⟩
  · cases h
theorem am_cond_some {b : Bool} {x : am_R} {res : Int × am_M} (h : cond b x none = some res) : b = true ∧ x = some res := by
  cases b with
  | true => exact ⟨rfl, h⟩
  | false => cases h
theorem am_lo_some {o : Option (Option am_V)} {f : am_V → am_R} {res : Int × am_M} (h : am_lo o f = some res) : ∃ v, o = some (some v) ∧ f v = some res := by
  match o, h with
  | some (some v), h => exact ⟨v, rfl, h⟩
theorem am_vi_some {v : am_V} {f : Int → am_R} {res : Int × am_M} (h : am_vi v f = some res) : ∃ x, v = .inl x ∧ f x = some res := by
  match v, h with
  | .inl x, h => exact ⟨x, rfl, h⟩
theorem am_put_some {b : Nat} {x : Int} {o : am_R} {res : Int × am_M} (h : am_ret (b % 2) x o = some res) : (Nat.beq (b % 2) 1 = true → x = 0 ∨ x = 1) ∧ o = some res := by
  rcases Nat.mod_two_eq_zero_or_one b with e | e
  · rw [e] at h ⊢
    exact ⟨fun q => (by cases q), h⟩
  · rw [e] at h ⊢
    obtain ⟨h1, h2⟩ := am_chk_some h
    exact ⟨fun _ => h1, h2⟩
theorem am_topI {p : Program} {l : Launch} {e : Env} {R : Room} {s : State} {m : MethodId} {args : Array Value} {below : List Frame} {meth : Method} {c : Code} {H : Heap} {locs : List Loc} {cells slots : Nat} {Q : State → Prop} {pc : Nat} {ls : Array Slot} {rest : List Value} {x y : Int32} (h : x = y) (k : W p l e R s m args below meth c H locs cells slots Q (F0 m pc ls (.int x :: rest))) : W p l e R s m args below meth c H locs cells slots Q (F0 m pc ls (.int y :: rest)) := h ▸ k
theorem am_rv_or {ad : Nat → Nat} {vF : Value} (h : vF = .null ∨ ∃ x, vF = .ref x) (a : Nat) : am_rv ad vF a = .null ∨ ∃ y, am_rv ad vF a = .ref y := by
  unfold am_rv
  split
  · exact h
  · exact Or.inr ⟨_, rfl⟩
theorem am_enc_cat {ad : Nat → Nat} {vF : Value} (h : vF = .null ∨ ∃ x, vF = .ref x) (v : am_V) : (am_enc ad vF v).category = 1 := by
  cases v with
  | inl x => rfl
  | inr a =>
    show (am_rv ad vF a).category = 1
    rcases am_rv_or (ad := ad) h a with e | ⟨y, e⟩ <;> rw [e] <;> rfl
theorem am_f4 {n : Nat} (h : decide (n < 4) = true) : ((Fin.ofNat 4 n : Fin 4) : Nat) = n := Nat.mod_eq_of_lt (of_decide_eq_true h)
/-- the locals that are known, as the kit's list -/
def am_lv (ad : Nat → Nat) (vF : Value) (ls : List (Option am_V)) : List (Nat × Value) := (List.range ls.length).filterMap (fun k => match ls[k]? with
  | some (some v) => some (k, am_enc ad vF v)
  | _ => none)
theorem am_lv_mem {ad : Nat → Nat} {vF : Value} {ls : List (Option am_V)} {q : Nat × Value} : q ∈ am_lv ad vF ls ↔ ∃ v, ls[q.1]? = some (some v) ∧ q.2 = am_enc ad vF v := by
  unfold am_lv
  rw [List.mem_filterMap]
  constructor
  · rintro ⟨k, -, h⟩
    split at h
    · rename_i v hv
      cases h
      exact ⟨v, hv, rfl⟩
    · cases h
  · rintro ⟨v, h1, h2⟩
    refine ⟨q.1, List.mem_range.mpr (List.getElem?_eq_some_iff.mp h1).1, ?_⟩
    rw [h1]
    exact congrArg some (Prod.ext rfl h2.symm)
theorem am_lv_at {ad : Nat → Nat} {vF : Value} {ls : List (Option am_V)} {n : Nat} {v : am_V} (h : ls[n]? = some (some v)) : ∃ i : Nat, (am_lv ad vF ls)[i]? = some (n, am_enc ad vF v) := List.mem_iff_getElem?.mp (am_lv_mem.mpr ⟨v, h, rfl⟩)
theorem am_lok_has {ad : Nat → Nat} {vF : Value} {ls : List (Option am_V)} {L : Array Slot} (_ : vF = .null ∨ ∃ x, vF = .ref x) (h : am_lok ad vF ls L) : lv_has L ls.length (am_lv ad vF ls) := by
  refine ⟨h.1, h.2.1, fun q hq => ?_⟩
  obtain ⟨v, h1, h2⟩ := am_lv_mem.mp hq
  rw [h2]
  exact (h.2.2 _ _ h1).1
theorem am_lok_set {ad : Nat → Nat} {vF : Value} {ls : List (Option am_V)} {L L' : Array Slot} {n : Nat} {v : am_V} (hF : vF = .null ∨ ∃ x, vF = .ref x) (h : am_lok ad vF ls L) (hn : n < ls.length) (hv : am_vok v) (h' : lv_has L' ls.length ((n, am_enc ad vF v) :: (am_lv ad vF ls).filter (fun q => !(q.1 == n) && !(q.1 + 1 == n && q.2.category == 2)))) : am_lok ad vF (ls.set n (some v)) L' := by
  refine ⟨by rw [List.length_set]; exact h'.1, h'.2.1, fun k w hk => ?_⟩
  rw [List.getElem?_set] at hk
  by_cases e : n = k
  · subst e
    rw [if_pos rfl, if_pos hn] at hk
    cases hk
    exact ⟨h'.2.2 (n, am_enc ad vF v) List.mem_cons_self, hv⟩
  · rw [if_neg e] at hk
    refine ⟨h'.2.2 (k, am_enc ad vF w) (List.mem_cons_of_mem _ (List.mem_filter.mpr ⟨am_lv_mem.mpr ⟨w, hk, rfl⟩, ?_⟩)), (h.2.2 _ _ hk).2⟩
    have h1 : (k == n) = false := by simpa using fun q => e q.symm
    have h2 : ((am_enc ad vF w).category == 2) = false := by rw [am_enc_cat hF w]; rfl
    simp [h1, h2]
theorem am_off_ok (ps : List Nat) (bp : Nat) (t : Int) : (bp : Int) + am_off ps bp t = ((ps.getD t.toNat 0 : Nat) : Int) := by
  unfold am_off
  omega
theorem am_sw_cases {x d : Int} (kj : Nat → am_R) : ∀ (ts : List Int) (lo : Int), ((x < lo ∨ lo + ts.length ≤ x) ∧ am_sw x d kj lo ts = kj d.toNat) ∨ ∃ (i : Nat) (t : Int), x = lo + i ∧ ts[i]? = some t ∧ am_sw x d kj lo ts = kj t.toNat := by
  intro ts
  induction ts with
  | nil => intro lo; exact Or.inl ⟨by simp; omega, rfl⟩
  | cons t ts ih =>
    intro lo
    by_cases h : x = lo
    · exact Or.inr ⟨0, t, by omega, rfl, by simp [am_sw, h]⟩
    · rcases ih (lo + 1) with ⟨g1, g2⟩ | ⟨i, u, g1, g2, g3⟩
      · refine Or.inl ⟨?_, by simp [am_sw, h, g2]⟩
        simp only [List.length_cons]
        omega
      · exact Or.inr ⟨i + 1, u, by omega, by simpa using g2, by simp [am_sw, h, g3]⟩
theorem am_swl_cases (f : Int → Int) (x d : Int) (kj : Nat → am_R) : ∀ ts : List (Int × Int), ∃ t : Int, Op.lookupswitch.offset (ts.map (fun q => (q.1, f q.2))) (f d) x = f t ∧ am_swl x d kj ts = kj t.toNat := by
  intro ts
  induction ts with
  | nil => exact ⟨d, rfl, rfl⟩
  | cons q ts ih =>
    obtain ⟨v, t⟩ := q
    by_cases h : x = v
    · exact ⟨t, by simp [Op.lookupswitch.offset, h], by simp [am_swl, h]⟩
    · obtain ⟨u, g1, g2⟩ := ih
      refine ⟨u, ?_, by simp [am_swl, h, g2]⟩
      rw [← g1]
      simp only [Op.lookupswitch.offset, List.map_cons]
      exact if_neg (fun q => h q.symm)
theorem am_sorted (f : Int → Int) : ∀ ts : List (Int × Int), (ts.zip (ts.drop 1)).all (fun (a, next) => a.1 < next.1) = true → ((ts.map (fun q => (q.1, f q.2))).zip ((ts.map (fun q => (q.1, f q.2))).drop 1)).all (fun (a, next) => a.1 < next.1) = true := by
  intro ts h
  rw [← List.map_drop, List.zip_map]
  rw [List.all_map]
  exact h
theorem am_cls_big {a : Nat} (h : 436 ≤ a) : am_cls a = 15 := by
  have f : ∀ n, n < 436 → Nat.ble a n = false := by
    intro n hn
    rw [← Bool.not_eq_true]; intro q; have := Nat.le_of_ble_eq_true q; omega
  unfold am_cls
  rw [f 255 (by omega), f 299 (by omega), f 335 (by omega), f 399 (by omega), f 435 (by omega)]
  rfl
theorem am_str {a : Nat} (h : am_cls a = 8) : ∃ i, i < 36 ∧ a = 300 + i := by
  rcases Nat.lt_or_ge a 436 with h1 | h1
  · have key : ∀ b, b < 436 → am_cls b = 8 → 300 ≤ b ∧ b < 336 := by decide +kernel
    have := key a h1 h
    exact ⟨a - 300, by omega, by omega⟩
  · exact absurd h (by rw [am_cls_big h1]; decide)
theorem am_byt {a : Nat} (h : am_cls a = 13) : ∃ i, i < 36 ∧ a = 400 + i := by
  rcases Nat.lt_or_ge a 436 with h1 | h1
  · have key : ∀ b, b < 436 → am_cls b = 13 → 400 ≤ b ∧ b < 436 := by decide +kernel
    have := key a h1 h
    exact ⟨a - 400, by omega, by omega⟩
  · exact absurd h (by rw [am_cls_big h1]; decide)
theorem am_stt {a : Nat} (h : am_cls a = 12) : 200 ≤ a ∧ a < 204 := by
  rcases Nat.lt_or_ge a 436 with h1 | h1
  · have key : ∀ b, b < 436 → am_cls b = 12 → 200 ≤ b ∧ b < 204 := by decide +kernel
    exact key a h1 h
  · exact absurd h (by rw [am_cls_big h1]; decide)
theorem am_own_k : ∀ a, a < 199 → am_cls a < 12 ∨ am_cls a = 14 := by decide +kernel
theorem am_nf_ok {ci : Nat} {Cn : String} {T : u_T} {N : Nat} (h : vwCl[ci]? = some (Cn, T, N)) : N = am_nf ci := by
  match ci, h with
  | 0, h => cases h; rfl
  | 1, h => cases h; rfl
  | 2, h => cases h; rfl
  | 3, h => cases h; rfl
  | 4, h => cases h; rfl
  | 5, h => cases h; rfl
  | 6, h => cases h; rfl
  | 7, h => cases h; rfl
  | k + 8, h => simp [vwCl] at h
theorem am_fs_get {ad : Nat → Nat} {M : am_M} {q ci k : Nat} (h : k < am_nf ci) : (am_fs ad M q ci)[k]? = some (am_fld ad M q ci k) := by
  rw [am_fs, List.getElem?_map, List.getElem?_range h]
  rfl
theorem am_ws_o {ad : Nat → Nat} {cA : Nat → ClassId} {M : am_M} {q ci : Nat} (hq : q < 199) (hc : am_cls q = ci) (h8 : ci < 8) : (am_ws ad cA M)[q]? = some (ad q, .inr (ci, am_fs ad M q ci)) := by
  rw [am_ws_get ad cA M hq, am_cell, if_neg (by omega), if_neg (by omega), hc]
theorem am_ws_r {ad : Nat → Nat} {cA : Nat → ClassId} {M : am_M} {q k : Nat} (hq : q < 199) (hc : am_cls q = k) (hk : k = 9 ∨ k = 10) : (am_ws ad cA M)[q]? = some (ad q, .inl (cA k, am_ln q, .inl (am_row M q))) := by
  rw [am_ws_get ad cA M hq, am_cell, if_pos (by omega), hc]
theorem am_ws_q {ad : Nat → Nat} {cA : Nat → ClassId} {M : am_M} {q k : Nat} (hq : q < 199) (hc : am_cls q = k) (hk : k = 11 ∨ k = 14) : (am_ws ad cA M)[q]? = some (ad q, .inl (cA k, am_ln q, .inr (.inr (.inr (.inr (am_rrow ad q)))))) := by
  rw [am_ws_get ad cA M hq, am_cell, if_neg (by omega), if_pos (by omega), hc]
theorem am_ws_D {ad : Nat → Nat} {cA : Nat → ClassId} (h : ∀ i j, i < 199 → j < 199 → ad i = ad j → i = j) (M : am_M) : va_D (am_A ad) (am_ws ad cA M) := by
  have key : ∀ (i : Nat) (q : Nat × va_E), (am_ws ad cA M)[i]? = some q → i < 199 ∧ q.1 = ad i := by
    intro i q hq
    have hi : i < 199 := by
      have := (List.getElem?_eq_some_iff.mp hq).1
      rwa [am_ws_len] at this
    rw [am_ws_get ad cA M hi] at hq
    cases hq
    exact ⟨hi, rfl⟩
  refine ⟨fun i j p q hi hj e => ?_, fun k q hk => ?_⟩
  · obtain ⟨a1, a2⟩ := key i p hi
    obtain ⟨b1, b2⟩ := key j q hj
    exact h i j a1 b1 (by rw [← a2, ← b2]; exact e)
  · obtain ⟨a1, a2⟩ := key k q hk
    exact ⟨k, a1, a2⟩
theorem am_rf_own : ∀ a, a < 199 → ∀ k : Nat, am_isr (am_cls a) k = true → am_rf a k < 199 := by
  have key : ∀ a, a < 199 → ∀ k, k < 36 → am_isr (am_cls a) k = true → am_rf a ((k : Nat) : Int) < 199 := by decide +kernel
  intro a ha k hk
  rcases Nat.lt_or_ge k 36 with h | h
  · exact key a ha k h hk
  · exfalso
    have big : ∀ c, c < 16 → ∀ k, 36 ≤ k → am_isr c k = false := by
      intro c hc k hk
      unfold am_isr
      rw [List.getD_eq_getElem?_getD, List.getElem?_eq_none]
      · rfl
      · have w : ∀ c, c < 16 → (am_isrl.getD c []).length ≤ 36 := by decide +kernel
        exact Nat.le_trans (w c hc) hk
    have hc : am_cls a < 16 := by have := am_own_k a ha; omega
    rw [big _ hc k h] at hk
    cases hk
theorem am_rf_row : ∀ a, a < 199 → (am_cls a = 11 ∨ am_cls a = 14) → ∀ i : Nat, i < am_ln a → am_rf a i < 199 := by
  have key : ∀ a, a < 199 → (am_cls a = 11 ∨ am_cls a = 14) → am_ln a ≤ 6 ∧ ∀ i, i < 6 → i < am_ln a → am_rf a ((i : Nat) : Int) < 199 := by decide +kernel
  intro a ha hc i hi
  obtain ⟨h1, h2⟩ := key a ha hc
  exact h2 i (by omega) hi
theorem am_len_own {a : Nat} (h : a < 199) (M : am_M) : am_len M a = am_ln a := by
  have h1 : Nat.beq a 203 = false := by
    rw [← Bool.not_eq_true]; intro q; have := Nat.eq_of_beq_eq_true q; omega
  have h2 : Nat.ble a 255 = true := Nat.ble_eq_true_of_le (by omega)
  unfold am_ln am_len
  rw [h1, h2]
  simp only [cond]
  exact (Int.toNat_of_nonneg (Int.natCast_nonneg _)).symm
theorem am_len_C {C M : am_M} (h : am_mok C M) (a : Nat) : am_len M a = am_len C a := by
  unfold am_len
  rw [h.2 203 (by omega)]
theorem am_len_pos (M : am_M) (a : Nat) (h : a ≠ 203) : 0 ≤ am_len M a := by
  have h1 : Nat.beq a 203 = false := by
    rw [← Bool.not_eq_true]; intro q; have := Nat.eq_of_beq_eq_true q; omega
  unfold am_len
  rw [h1]
  cases Nat.ble a 255 <;> exact Int.natCast_nonneg _
theorem am_len_in {C M : am_M} (h : am_mok C M) (a : Nat) : am_in (am_len M a) := by
  unfold am_len
  cases Nat.beq a 203 with
  | true => exact h.1 _ _
  | false =>
    have key : ∀ n : Nat, am_in (Int.ofNat (n % 65536)) := by
      intro n
      have : n % 65536 < 65536 := Nat.mod_lt _ (by omega)
      constructor
      · show (-2147483648 : Int) ≤ ((n % 65536 : Nat) : Int); omega
      · show ((n % 65536 : Nat) : Int) < 2147483648; omega
    cases Nat.ble a 255 <;> exact key _
theorem am_ofNat (n : Nat) : Int32.ofNat n = Int32.ofInt (n : Int) := by
  rw [← Int32.toInt_inj, Int32.toInt_ofInt, Int32.toInt_ofNat']
theorem am_narc (x : Int) : vp_nar .char (Int32.ofInt x) = Int32.ofInt (am_chr x) := by
  rw [vp_nar_char, am_e_chr, UInt32.toUInt32_toUInt16]
theorem am_mok_upd {C M : am_M} (h : am_mok C M) {a : Nat} {i v : Int} (ha : a < 199) (hv : am_in v) : am_mok C (am_upd M a i v) := by
  refine ⟨fun b j => ?_, fun b hb => ?_⟩
  · unfold am_upd
    split
    · exact hv
    · exact h.1 b j
  · rw [← h.2 b hb]
    exact am_upd_other M a i v b (by omega)
theorem am_mok_cpy {C M : am_M} (h : am_mok C M) {a b : Nat} {i j n : Int} (hb : b < 199) : am_mok C (am_cpy M a i b j n) := by
  refine ⟨fun c k => ?_, fun c hc => ?_⟩
  · unfold am_cpy
    split
    · exact h.1 _ _
    · exact h.1 c k
  · rw [← h.2 c hc]
    exact am_cpy_other M a i b j n c (by omega)
theorem am_in_max {x y : Int} (hx : am_in x) (hy : am_in y) : am_in (max x y) := by
  obtain ⟨a, b⟩ := hx
  obtain ⟨c, d⟩ := hy
  constructor <;> omega
theorem am_in_min {x y : Int} (hx : am_in x) (hy : am_in y) : am_in (min x y) := by
  obtain ⟨a, b⟩ := hx
  obtain ⟨c, d⟩ := hy
  constructor <;> omega
theorem am_e_max {x y : Int} (hx : am_in x) (hy : am_in y) : Int32.ofInt (max x y) = if Int32.ofInt x < Int32.ofInt y then Int32.ofInt y else Int32.ofInt x := by
  by_cases h : x < y
  · rw [if_pos ((am_lt hx hy).mpr h), show max x y = y from by omega]
  · rw [if_neg (fun q => h ((am_lt hx hy).mp q)), show max x y = x from by omega]
theorem am_e_min {x y : Int} (hx : am_in x) (hy : am_in y) : Int32.ofInt (min x y) = if Int32.ofInt y < Int32.ofInt x then Int32.ofInt y else Int32.ofInt x := by
  by_cases h : y < x
  · rw [if_pos ((am_lt hy hx).mpr h), show min x y = y from by omega]
  · rw [if_neg (fun q => h ((am_lt hy hx).mp q)), show min x y = x from by omega]
theorem am_cats {ad : Nat → Nat} {vF : Value} (hF : vF = .null ∨ ∃ x, vF = .ref x) : ∀ {st : List am_V} {n : Nat}, st.length ≤ n → ((st.map (am_enc ad vF)).map fun v => v.category).sum ≤ n := by
  intro st
  induction st with
  | nil => intro n _; exact Nat.zero_le _
  | cons v st ih =>
    intro n h
    obtain ⟨n, rfl⟩ : ∃ k, n = k + 1 := ⟨n - 1, by simp at h; omega⟩
    have := ih (n := n) (by simpa using h)
    simp only [List.map_cons, List.sum_cons, am_enc_cat hF v]
    omega
