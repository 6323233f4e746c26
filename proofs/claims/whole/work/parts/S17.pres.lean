/-! every number of the abstract machine stays an int; what is constant stays -/
def am_lsok (ls : List (Option am_V)) : Prop := ∀ (k : Nat) (v : am_V), ls[k]? = some (some v) → am_vok v
def am_stok (st : List am_V) : Prop := ∀ v ∈ st, am_vok v
def am_rsok (C : am_M) (o : am_R) : Prop := ∀ r M', o = some (r, M') → am_in r ∧ am_mok C M'
def am_P3 (C : am_M) (F : am_KS → am_KJ → am_R) : Prop := (∃ o : am_R, am_rsok C o ∧ ∀ ks kj, F ks kj = o) ∨ (∃ l s m, (am_lsok l ∧ am_stok s ∧ am_mok C m) ∧ ∀ ks kj, F ks kj = ks l s m) ∨ (∃ t l s m, (am_lsok l ∧ am_stok s ∧ am_mok C m) ∧ ∀ ks kj, F ks kj = kj t l s m)
section PR
variable {C : am_M}
theorem am_p_n : am_P3 C (fun _ _ => none) := Or.inl ⟨none, fun _ _ h => (by cases h), fun _ _ => rfl⟩
theorem am_p_r {r : Int} {M : am_M} (h1 : am_in r) (h2 : am_mok C M) : am_P3 C (fun _ _ => some (r, M)) := Or.inl ⟨_, fun _ _ h => (by cases h; exact ⟨h1, h2⟩), fun _ _ => rfl⟩
theorem am_p_s {l : List (Option am_V)} {s : List am_V} {m : am_M} (h1 : am_lsok l) (h2 : am_stok s) (h3 : am_mok C m) : am_P3 C (fun ks _ => ks l s m) := Or.inr (Or.inl ⟨l, s, m, ⟨h1, h2, h3⟩, fun _ _ => rfl⟩)
theorem am_p_j {t : Nat} {l : List (Option am_V)} {s : List am_V} {m : am_M} (h1 : am_lsok l) (h2 : am_stok s) (h3 : am_mok C m) : am_P3 C (fun _ kj => kj t l s m) := Or.inr (Or.inr ⟨t, l, s, m, ⟨h1, h2, h3⟩, fun _ _ => rfl⟩)
theorem am_p_pv {st : List am_V} {F : am_V → List am_V → am_KS → am_KJ → am_R} (hst : am_stok st) (h : ∀ v st, am_vok v → am_stok st → am_P3 C (F v st)) : am_P3 C (fun ks kj => am_pv st fun v st => F v st ks kj) := by
  cases st with
  | nil => exact am_p_n
  | cons v st => exact h v st (hst _ List.mem_cons_self) (am_vtl hst)
theorem am_p_pi {st : List am_V} {F : Int → List am_V → am_KS → am_KJ → am_R} (hst : am_stok st) (h : ∀ v st, am_in v → am_stok st → am_P3 C (F v st)) : am_P3 C (fun ks kj => am_pi st fun v st => F v st ks kj) := by
  cases st with
  | nil => exact am_p_n
  | cons v st => cases v with
    | inl x => exact h x st (hst _ List.mem_cons_self) (am_vtl hst)
    | inr x => exact am_p_n
theorem am_p_pr {st : List am_V} {F : Nat → List am_V → am_KS → am_KJ → am_R} (hst : am_stok st) (h : ∀ v st, am_stok st → am_P3 C (F v st)) : am_P3 C (fun ks kj => am_pr st fun v st => F v st ks kj) := by
  cases st with
  | nil => exact am_p_n
  | cons v st => cases v with
    | inl x => exact am_p_n
    | inr x => exact h x st (am_vtl hst)
theorem am_p_lo {o : Option (Option am_V)} {F : am_V → am_KS → am_KJ → am_R} (h : ∀ v, o = some (some v) → am_P3 C (F v)) : am_P3 C (fun ks kj => am_lo o fun v => F v ks kj) := by
  cases o with
  | none => exact am_p_n
  | some o => cases o with
    | none => exact am_p_n
    | some v => exact h v rfl
theorem am_p_vi {v : am_V} {F : Int → am_KS → am_KJ → am_R} (h : ∀ x, am_P3 C (F x)) : am_P3 C (fun ks kj => am_vi v fun v => F v ks kj) := by
  cases v with
  | inl x => exact h x
  | inr x => exact am_p_n
theorem am_p_cond {b : Bool} {F : am_KS → am_KJ → am_R} (h : b = true → am_P3 C F) : am_P3 C (fun ks kj => cond b (F ks kj) none) := by
  cases b with
  | true => exact h rfl
  | false => exact am_p_n
theorem am_p_chk {c : Prop} [hc : Decidable c] {F : am_KS → am_KJ → am_R} (h : c → am_P3 C F) : am_P3 C (fun ks kj => am_chk c (F ks kj)) := by
  cases hc with
  | isTrue q => simpa [am_chk, q] using h q
  | isFalse q => simpa [am_chk, q] using am_p_n
theorem am_p_nil {st : List am_V} {F : am_KS → am_KJ → am_R} (h : am_P3 C F) : am_P3 C (fun ks kj => am_nil st (F ks kj)) := by
  cases st with
  | nil => exact h
  | cons _ _ => exact am_p_n
theorem am_p_ret {t : Nat} {x : Int} {F : am_KS → am_KJ → am_R} (h : am_P3 C F) : am_P3 C (fun ks kj => am_ret t x (F ks kj)) := by
  unfold am_ret
  split
  · exact h
  · exact am_p_chk fun _ => h
  · exact am_p_chk fun _ => h
  · exact am_p_chk fun _ => h
theorem am_p_bnd {x : am_R} {F : Int → am_M → am_KS → am_KJ → am_R} (hx : am_rsok C x) (h : ∀ v M, am_in v → am_mok C M → am_P3 C (F v M)) : am_P3 C (fun ks kj => am_bnd x fun v M => F v M ks kj) := by
  cases x with
  | none => exact am_p_n
  | some p => exact h p.1 p.2 (hx _ _ rfl).1 (hx _ _ rfl).2
theorem am_p_br {c : Jvm.ClassFile.Cond} {x y : Int} {F G : am_KS → am_KJ → am_R} (h : am_P3 C F) (g : am_P3 C G) : am_P3 C (fun ks kj => am_br c x y (F ks kj) (G ks kj)) := by
  rcases am_br_tri c x y with q | q
  · simpa only [q] using h
  · simpa only [q] using g
theorem am_p_sw {x d : Int} {F : Nat → am_KS → am_KJ → am_R} (h : ∀ t, am_P3 C (F t)) : ∀ (ts : List Int) (lo : Int), am_P3 C (fun ks kj => am_sw x d (fun t => F t ks kj) lo ts) := by
  intro ts
  induction ts with
  | nil => intro lo; exact h _
  | cons t ts ih =>
    intro lo
    by_cases q : x = lo
    · simpa [am_sw, q] using h t.toNat
    · simpa [am_sw, q] using ih (lo + 1)
theorem am_p_swl {x d : Int} {F : Nat → am_KS → am_KJ → am_R} (h : ∀ t, am_P3 C (F t)) : ∀ (ts : List (Int × Int)), am_P3 C (fun ks kj => am_swl x d (fun t => F t ks kj) ts) := by
  intro ts
  induction ts with
  | nil => exact h _
  | cons t ts ih =>
    obtain ⟨v, t⟩ := t
    by_cases q : x = v
    · simpa [am_swl, q] using h t.toNat
    · simpa [am_swl, q] using ih
theorem am_lsok_set {ls : List (Option am_V)} {n : Nat} {v : am_V} (h : am_lsok ls) (hv : am_vok v) : am_lsok (ls.set n (some v)) := by
  intro k w hk
  rw [List.getElem?_set] at hk
  split at hk
  · split at hk
    · cases hk; exact hv
    · cases hk
  · exact h k w hk
theorem am_cls_own {a c : Nat} (h : Nat.beq (am_cls a) c = true) (hc : c < 8 ∨ c = 9 ∨ c = 10 ∨ c = 11 ∨ c = 14) : a < 199 := am_own (Nat.eq_of_beq_eq_true h) hc
theorem am_pres {own rt bp nx : Nat} {cc : ByteArray} {ps : List Nat} {call : Nat → List am_V → am_M → am_R} {ls : List (Option am_V)} {st : List am_V} {M : am_M} (i : am_I) (hd : am_dec own rt cc ps bp nx i = true) (hl : am_lsok ls) (hs : am_stok st) (hM : am_mok C M) (hcall : ∀ j args, (∀ v ∈ args, am_vok v) → j < 264 → am_rsok C (call j args M)) : am_P3 C (am_stp am_cls am_rf am_len call i ls st M) := by
  obtain ⟨i, a, b⟩ := i
  cases i with
  | bipush v => exact am_p_s hl (am_vc (v := .inl v) (show am_in v from of_decide_eq_true (am_and hd).1) hs) hM
  | aload n => exact am_p_s hl (am_vc (v := .inr n) trivial hs) hM
  | iload n => exact am_p_lo fun v h => am_p_cond fun _ => am_p_s hl (am_vc (hl _ _ h) hs) hM
  | istore n => exact am_p_pv hs fun v st hv hs => am_p_cond fun _ => am_p_s (am_lsok_set hl hv) hs hM
  | iinc n c => exact am_p_lo fun v _ => am_p_vi fun x => am_p_s (am_lsok_set (v := .inl _) hl (am_in_wrap _)) hs hM
  | iadd => exact am_p_pi hs fun y st _ hs => am_p_pi hs fun x st _ hs => am_p_s hl (am_vc (v := .inl _) (am_in_wrap _) hs) hM
  | isub => exact am_p_pi hs fun y st _ hs => am_p_pi hs fun x st _ hs => am_p_s hl (am_vc (v := .inl _) (am_in_wrap _) hs) hM
  | imul => exact am_p_pi hs fun y st _ hs => am_p_pi hs fun x st _ hs => am_p_s hl (am_vc (v := .inl _) (am_in_wrap _) hs) hM
  | idiv => exact am_p_pi hs fun y st _ hs => am_p_pi hs fun x st _ hs => am_p_chk fun _ => am_p_s hl (am_vc (v := .inl _) (am_in_toInt _) hs) hM
  | irem => exact am_p_pi hs fun y st _ hs => am_p_pi hs fun x st _ hs => am_p_chk fun _ => am_p_s hl (am_vc (v := .inl _) (am_in_toInt _) hs) hM
  | ineg => exact am_p_pi hs fun x st _ hs => am_p_s hl (am_vc (v := .inl _) (am_in_wrap _) hs) hM
  | iand => exact am_p_pi hs fun y st _ hs => am_p_pi hs fun x st _ hs => am_p_s hl (am_vc (v := .inl _) (am_in_toInt _) hs) hM
  | ior => exact am_p_pi hs fun y st _ hs => am_p_pi hs fun x st _ hs => am_p_s hl (am_vc (v := .inl _) (am_in_toInt _) hs) hM
  | ixor => exact am_p_pi hs fun y st _ hs => am_p_pi hs fun x st _ hs => am_p_s hl (am_vc (v := .inl _) (am_in_toInt _) hs) hM
  | ishl => exact am_p_pi hs fun y st _ hs => am_p_pi hs fun x st _ hs => am_p_s hl (am_vc (v := .inl _) (am_in_toInt _) hs) hM
  | ishr => exact am_p_pi hs fun y st _ hs => am_p_pi hs fun x st _ hs => am_p_s hl (am_vc (v := .inl _) (am_in_toInt _) hs) hM
  | iushr => exact am_p_pi hs fun y st _ hs => am_p_pi hs fun x st _ hs => am_p_s hl (am_vc (v := .inl _) (am_in_toInt _) hs) hM
  | ladd => exact am_p_pi hs fun y st hy hs => am_p_pi hs fun x st hx hs => am_p_cond fun _ => am_p_s hl (am_vc (v := .inl _) (am_in_max hx hy) hs) hM
  | lsub => exact am_p_pi hs fun y st hy hs => am_p_pi hs fun x st hx hs => am_p_cond fun _ => am_p_s hl (am_vc (v := .inl _) (am_in_min hx hy) hs) hM
  | i2c => exact am_p_pi hs fun x st _ hs => am_p_s hl (am_vc (v := .inl _) (am_in_chr _) hs) hM
  | dup => exact am_p_pv hs fun v st hv hs => am_p_s hl (am_vc hv (am_vc hv hs)) hM
  | dup2 => exact am_p_pv hs fun v st hv hs => am_p_pv hs fun w st hw hs => am_p_s hl (am_vc hv (am_vc hw (am_vc hv (am_vc hw hs)))) hM
  | pop => exact am_p_pv hs fun v st hv hs => am_p_s hl hs hM
  | ifCond c t => exact am_p_pi hs fun x st _ hs => am_p_br (am_p_j hl hs hM) (am_p_s hl hs hM)
  | if_icmp c t => exact am_p_pi hs fun y st _ hs => am_p_pi hs fun x st _ hs => am_p_br (am_p_j hl hs hM) (am_p_s hl hs hM)
  | goto t => exact am_p_j hl hs hM
  | tableswitch d lo h ts => exact am_p_pi hs fun x st _ hs => am_p_sw (fun _ => am_p_j hl hs hM) _ _
  | lookupswitch d ts => exact am_p_pi hs fun x st _ hs => am_p_swl (fun _ => am_p_j hl hs hM) _
  | getfield k => exact am_p_pr hs fun q st hs => am_p_cond fun _ => am_p_s hl (am_vc (v := .inl _) (hM.1 _ _) hs) hM
  | checkcast k => exact am_p_pr hs fun q st hs => am_p_cond fun _ => am_p_s hl (am_vc (v := .inr _) trivial hs) hM
  | putfield k =>
    obtain ⟨-, h3⟩ := am_and hd
    obtain ⟨_, _, _, _, _, _, _, _, f6, _⟩ := am_fp_all _ (am_mem h3)
    exact am_p_pi hs fun x st hx hs => am_p_pr hs fun q st hs => am_p_cond fun hc => am_p_ret (am_p_s hl hs (am_mok_upd hM (am_cls_own hc (Or.inl f6)) hx))
  | iaload => exact am_p_pi hs fun i st _ hs => am_p_pr hs fun q st hs => am_p_cond fun _ => am_p_chk fun _ => am_p_s hl (am_vc (v := .inl _) (hM.1 _ _) hs) hM
  | caload => exact am_p_pi hs fun i st _ hs => am_p_pr hs fun q st hs => am_p_cond fun _ => am_p_chk fun _ => am_p_s hl (am_vc (v := .inl _) (hM.1 _ _) hs) hM
  | baload => exact am_p_pi hs fun i st _ hs => am_p_pr hs fun q st hs => am_p_cond fun _ => am_p_chk fun _ => am_p_s hl (am_vc (v := .inl _) (hM.1 _ _) hs) hM
  | aaload => exact am_p_pi hs fun i st _ hs => am_p_pr hs fun q st hs => am_p_cond fun _ => am_p_chk fun _ => am_p_s hl (am_vc (v := .inr _) trivial hs) hM
  | iastore => exact am_p_pi hs fun x st hx hs => am_p_pi hs fun i st _ hs => am_p_pr hs fun q st hs => am_p_cond fun hc => am_p_chk fun _ => am_p_s hl hs (am_mok_upd hM (am_cls_own hc (by omega)) hx)
  | castore => exact am_p_pi hs fun x st hx hs => am_p_pi hs fun i st _ hs => am_p_pr hs fun q st hs => am_p_cond fun hc => am_p_chk fun _ => am_p_s hl hs (am_mok_upd hM (am_cls_own hc (by omega)) (am_in_chr _))
  | arraylength => exact am_p_pr hs fun q st hs => am_p_cond fun _ => am_p_s hl (am_vc (v := .inl _) (am_len_in hM q) hs) hM
  | lcmp => exact am_p_pi hs fun n st _ hs => am_p_pi hs fun j st _ hs => am_p_pr hs fun w st hs => am_p_pi hs fun i st _ hs => am_p_pr hs fun q st hs => am_p_cond fun hc => am_p_chk fun _ => am_p_nil (am_p_s hl (fun _ h => absurd h List.not_mem_nil) (am_mok_cpy hM (am_cls_own (am_and hc).2 (by omega))))
  | invokevirtual j =>
    have hj : j < 264 := (am_mk_all _ (am_mem (am_and (am_and (am_and hd).1).1).2)).2
    exact am_p_cond fun _ => am_p_bnd (hcall j _ (fun v hv => hs v (List.mem_of_mem_take (List.mem_reverse.mp hv))) hj) fun v M' h1 h2 => am_p_s hl (by
      intro w hw
      revert hw
      cases Nat.beq (b % 2) 1 with
      | true => exact fun hw => (List.mem_cons.mp hw).elim (fun e => e ▸ h1) (fun h => hs w (List.mem_of_mem_drop h))
      | false => exact fun hw => hs w (List.mem_of_mem_drop hw)) h2
  | ireturn => exact am_p_pi hs fun x st hx hs => am_p_nil (am_p_ret (am_p_r hx hM))
  | return_ => exact am_p_nil (am_p_r (by constructor <;> decide) hM)
  | _ => exact am_p_n
/-- a place of the code: what the bytes there hold -/
theorem am_decs_at {own rt : Nat} {cc : ByteArray} {ps : List Nat} : ∀ (qs : List Nat) (code : List am_I), am_decs own rt cc ps qs code = true → ∀ (pc : Nat) (ai : am_I), code[pc]? = some ai → am_dec own rt cc ps (qs.getD pc 0) (qs.getD (pc + 1) 0) ai = true := by
  intro qs code
  induction code generalizing qs with
  | nil => intro _ pc ai h; simp at h
  | cons a code ih =>
    intro h pc ai hpc
    match qs, h with
    | bp :: nx :: r, h =>
      obtain ⟨h1, h2⟩ := am_and h
      cases pc with
      | zero => cases hpc; exact h1
      | succ pc => exact ih (nx :: r) h2 pc ai (by simpa using hpc)
/-- where every instruction of the code is checked -/
def am_DK (own rt : Nat) (cc : ByteArray) (ps : List Nat) (code : List am_I) : Prop := ∀ (pc : Nat) (ai : am_I), code[pc]? = some ai → am_dec own rt cc ps (ps.getD pc 0) (ps.getD (pc + 1) 0) ai = true
theorem am_ex_ok {own rt : Nat} {cc : ByteArray} {ps : List Nat} {code : List am_I} {call : Nat → List am_V → am_M → am_R} (hD : am_DK own rt cc ps code) (hcall : ∀ M, am_mok C M → ∀ j args, (∀ v ∈ args, am_vok v) → j < 264 → am_rsok C (call j args M)) : ∀ (n pc : Nat) (ls : List (Option am_V)) (st : List am_V) (M : am_M), am_lsok ls → am_stok st → am_mok C M → am_rsok C (am_ex am_cls am_rf am_len call code n pc ls st M) := by
  intro n
  induction n with
  | zero => intro pc ls st M _ _ _ r M' h; cases h
  | succ n ih =>
    intro pc ls st M hl hs hM
    rw [am_ex_succ]
    cases hi : code[pc]? with
    | none => intro r M' h; cases h
    | some ai =>
      rcases am_pres (call := call) ai (hD pc ai hi) hl hs hM (hcall M hM) with ⟨o, h1, h2⟩ | ⟨l, s, m, ⟨h1, h2, h3⟩, h4⟩ | ⟨t, l, s, m, ⟨h1, h2, h3⟩, h4⟩
      · show am_rsok C (am_stp _ _ _ _ _ _ _ _ _ _); rw [h2]; exact h1
      · show am_rsok C (am_stp _ _ _ _ _ _ _ _ _ _); rw [h4]; exact ih _ _ _ _ h1 h2 h3
      · show am_rsok C (am_stp _ _ _ _ _ _ _ _ _ _); rw [h4]; exact ih _ _ _ _ h1 h2 h3
theorem am_lim_ok {own rt : Nat} {cc : ByteArray} {ps : List Nat} {code : List am_I} {call : Nat → List am_V → am_M → am_R} (hD : am_DK own rt cc ps code) (hcall : ∀ M, am_mok C M → ∀ j args, (∀ v ∈ args, am_vok v) → j < 264 → am_rsok C (call j args M)) {pc : Nat} {ls : List (Option am_V)} {st : List am_V} {M : am_M} (hl : am_lsok ls) (hs : am_stok st) (hM : am_mok C M) : am_rsok C (am_lim am_cls am_rf am_len call code pc ls st M) := by
  intro r M' h
  obtain ⟨n, hn⟩ := am_lim_ex code h
  exact am_ex_ok hD hcall n pc ls st M hl hs hM r M' hn
theorem am_ini_ok {n : Nat} {args : List am_V} (h : ∀ v ∈ args, am_vok v) : am_lsok (am_ini n args) := by
  intro k v hk
  have hm : some v ∈ am_ini n args := List.mem_of_getElem? hk
  rcases List.mem_append.mp hm with h1 | h1
  · obtain ⟨w, hw, e⟩ := List.mem_map.mp h1
    injection e with e
    exact e ▸ h w hw
  · obtain ⟨-, h2⟩ := List.mem_replicate.mp h1
    cases h2
/-- a run of a method: its answer is an int, its memory one of ints, the constants as they were -/
theorem am_run_ok (hD : ∀ j, j < 264 → am_DK (am_ow j) (am_rt j) (am_b j) (am_pp j) (am_code j)) : ∀ (d : Nat) (M : am_M), am_mok C M → ∀ j args, (∀ v ∈ args, am_vok v) → j < 264 → am_rsok C (am_run d j args M) := by
  intro d
  induction d with
  | zero => intro M _ j args _ _ r M' h; cases h
  | succ d ih =>
    intro M hM j args hv hj r M' h
    have h : cond (am_rcv j args) (am_lim am_cls am_rf am_len (am_run d) (am_code j) 0 (am_ini (am_ml j) args) [] M) none = some (r, M') := h
    obtain ⟨-, h⟩ := am_cond_some h
    exact am_lim_ok (hD j hj) ih (am_ini_ok hv) (fun _ h => absurd h List.not_mem_nil) hM r M' h
end PR
