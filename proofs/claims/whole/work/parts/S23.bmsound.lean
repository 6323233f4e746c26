/-! START: calls of constructors; a run of the building machine is a contract of the real constructor -/
def bm_w (ci : Nat) : List Cond := Cond.code (bm_y ci) (bm_b ci) (bm_ml ci) none :: lw_gd
def bm_rm (d c z : Nat) : Room := { frames := d, cells := c, slots := z, locals := 40 * d }
def bm_Pc (D : va_G) (ad : Nat → Nat) (cA : Nat → ClassId) (b0 : Nat) (av : List Value) (M : am_M) (n : Nat) : Array Value → State → Prop := va_Pc av (fun U => bm_Wd D ad cA b0 M n U.heap ∧ va_K D vwCl (am_tys cA) U ∧ bm_St U)
def bm_Qv (D : va_G) (ad : Nat → Nat) (cA : Nat → ClassId) (b0 : Nat) (M : am_M) (n : Nat) : Array Value → State → Outcome → State → Prop := va_Qv (fun (_ : Unit) => True) (fun _ t => bm_Wd D ad cA b0 M n t.heap) (bm_A b0)
def bm_Cl (l : Launch) (D : va_G) (ad : Nat → Nat) (cA : Nat → ClassId) (b0 : Nat) (d : Nat) (call : Nat → List am_V → Nat → Nat → am_M → bm_R) : Prop := ∀ ci args n z M n1 z1 M1, call ci args n z M = some (n1, z1, M1) → ci < 8 → ∃ a, args = [.inr a] ∧ am_cls a = ci ∧ a < n ∧ (n ≤ n1 ∧ z ≤ z1) ∧ Met l (bm_y ci) (bm_w ci) (bm_rm d (n1 - n) (z1 - z)) (bm_Pc D ad cA b0 [.ref (ad a)] M n) (bm_Qv D ad cA b0 M1 n1) (n1 - n) (z1 - z) (bm_A b0)
theorem bm_St_moved {s U : State} (h : bm_St s) (ha : s.vm.Alike U.vm) (hn : ∀ a i x g, va_Nw (.methodLinkNest a i x g) s → va_Nw (.methodLinkNest a i x g) U) : bm_St U := ⟨fun q hq h1 => hn _ _ _ _ (h.1 q hq h1), va_AO.moved ha h.2.1, va_AO.moved ha h.2.2⟩
theorem bm_blind (D : va_G) (ad : Nat → Nat) (cA : Nat → ClassId) (b0 : Nat) (av : List Value) (M : am_M) (n : Nat) : FrameBlind (bm_Pc D ad cA b0 av M n) := fun a U g mk h => ⟨h.1, h.2.1, va_K.moved (u := U) (U := U.calling g mk a) (Vm.Alike.refl U.vm) h.2.2.1, bm_St_moved (s := U) h.2.2.2 (Vm.Alike.refl U.vm) (fun _ _ _ _ q => va_Nw.same rfl rfl q)⟩
theorem bm_good {w : Cond} (h : w ∈ lw_gd) : w ∈ lw_gd ∧ ((w.onTables && w.keeps) = true ∨ ∃ ty, w = .arrayClass ty) := ⟨h, lw_gd_good w h⟩
theorem bm_declall : ∀ q ∈ bm_fp, am_cn q.2.2.1 = am_cn q.1 := by decide +kernel
theorem bm_own8 : ∀ q ∈ bm_fp, q.1 ≠ 8 := by decide +kernel
theorem bm_ml15 : ∀ ci, ci < 8 → bm_ml ci ≤ 15 := by decide +kernel
section BSN
variable {p : Program} {l : Launch} {e : Env} {R : Room} {s : State} {m : MethodId} {args : Array Value} {below : List Frame} {meth : Method} {c : Code} {Q : State → Prop} {D : va_G} {ad : Nat → Nat} {cA : Nat → ClassId} {C : am_M} {b0 own nL n0 z0 : Nat} {cc : ByteArray} {ps : List Nat} {call : Nat → List am_V → Nat → Nat → am_M → bm_R} {res : Nat × Nat × am_M} {d : Nat}
theorem bm_s_call (X : bm_Cx p R s m args c D ad cA b0 n0 own nL cc) (hRc : res.1 - n0 ≤ R.cells) (hRs : res.2.1 - z0 ≤ R.slots) {ci b t : Nat} (hcl : bm_Cl l D ad cA b0 d call) (hr1 : d + 1 ≤ R.frames) (hr2 : 40 * d + 40 ≤ R.locals) : bm_SS p l e R s m args below meth c Q D ad cA C b0 own nL n0 z0 cc ps call res (.invokespecial ci, b, t) := by
  intro bp nx hd ls st n z M ks kj h hs hj
  obtain ⟨hx, hb, hml, hown, hts, hK, hSt, had, hRf, hRl, hsz0⟩ := id X
  have hvF : (Value.null = .null ∨ ∃ x, Value.null = .ref x) := Or.inl rfl
  rcases st with _ | ⟨x | q, st⟩ <;> try (exact (bm_no h).elim)
  obtain ⟨hc, h⟩ := bm_cond h
  obtain ⟨hc, hlen⟩ := am_and hc
  obtain ⟨hc, hq⟩ := am_and hc
  have hlen := Nat.le_of_ble_eq_true hlen
  have hq : q < n := Nat.le_of_ble_eq_true hq
  obtain ⟨hd, h3⟩ := am_and hd
  obtain ⟨hd1, rfl⟩ := am_d1_ok hd
  obtain ⟨hlk, hci⟩ := bm_iv_all _ (am_mem h3)
  dsimp only at hlk hci
  cases hcall : call ci [.inr q] n z M with
  | none => rw [hcall] at h; exact (bm_no h).elim
  | some rr =>
  obtain ⟨n1, z1, M1⟩ := rr
  rw [hcall] at h
  obtain ⟨a, ha1, ha2, ha3, ⟨ha4, ha5⟩, hMet⟩ := hcl ci _ n z M n1 z1 M1 hcall hci
  injection ha1 with ha1
  injection ha1 with ha1
  subst ha1
  obtain ⟨g1, g2⟩ := hs _ _ _ _ _ h
  refine ⟨by omega, fun hn hv H locs L hL hW hS h0 h1 => ?_⟩
  have hq199 : q < 199 := Nat.lt_of_lt_of_le hq hW.2.2.1
  show W p l e R s m args below meth c H locs (n - n0) (z - z0) Q (F0 m bp L (am_rv ad .null q :: st.map (am_enc ad .null)))
  rw [bm_ad had hq199]
  obtain ⟨mf1, mf2, mf3, mf4, mf5⟩ := bm_mf_all ci hci
  have hcw : Cond.code (bm_y ci) (bm_b ci) (bm_ml ci) none ∈ lw_gd := lw_g mf2 rfl
  have hml15 : bm_ml ci ≤ 15 := bm_ml15 ci hci
  have hroom : (bm_rm d (n1 - n) (z1 - z)).frames + 1 ≤ R.frames ∧ 8 + (bm_ml ci + 11) + (bm_rm d (n1 - n) (z1 - z)).locals ≤ R.locals := ⟨hr1, by show 8 + (bm_ml ci + 11) + 40 * d ≤ R.locals; omega⟩
  have hgood : GoodIn lw_gd (bm_w ci) := fun w hw => bm_good ((List.mem_cons.mp hw).elim (fun q => q ▸ hcw) id)
  have hpre : PreS s H (bm_Pc D ad cA b0 [.ref (ad q)] M n) [.ref (ad q)] := ⟨bm_blind _ _ _ _ _ _ _, fun U hU hWm => ⟨rfl, by rw [hU]; exact hW, va_K.moved hWm.alike hK, bm_St_moved hSt hWm.alike (fun _ _ _ _ q => va_Nw.warmM hWm q)⟩⟩
  have hrest : 2 * (F0 m bp L (Value.ref (ad q) :: st.map (am_enc ad .null))).monitorRoom + ((st.map (am_enc ad .null)).map fun v => v.category).sum ≤ 8 := lv_room (am_cats hvF hlen)
  have fin : ∀ (u : Unit) (t : State) (H1 : Heap) (locs1 : List Loc), t.heap = H1 → s.vm.Alike t.vm → True → bm_Wd D ad cA b0 M1 n1 t.heap → H.size ≤ H1.size → (∀ q : Nat, q < H.size → ¬ bm_A b0 q → H1[q]? = H[q]?) → va_S (bm_A b0) s.heap H1 locs1 → W p l e R s m args below meth c H1 locs1 (n - n0 + (n1 - n)) (z - z0 + (z1 - z)) Q (F0 m (bp + 3) L (st.map (am_enc ad .null))) := by
    intro u t H1 locs1 ht _ _ hW1 _ _ hS1
    have k := g2 hn (am_vtl hv) H1 locs1 L hL (ht ▸ hW1) hS1 (by omega) (by omega)
    rw [show n - n0 + (n1 - n) = n1 - n0 from by omega, show z - z0 + (z1 - z) = z1 - z0 from by omega]
    exact k
  revert hlk
  cases ht : Nat.beq t 1 with
  | true =>
    intro hlk
    have ht1 : t = 1 := Nat.eq_of_beq_eq_true ht
    have hnw := hSt.1 _ (am_mem h3) ht1
    have cw := va_cnB (R := R) (s := s) (args := args) (mc := n1 - n) (ms := z1 - z) 0 hts hgood (ws' := lw_gd) rfl (rm := bm_rm d (n1 - n) (z1 - z)) rfl rfl hnw (hts _ (lw_g mf5 rfl)) mf3 hroom
    exact va_callv (va_runIN (As := []) (rest := st.map (am_enc ad .null)) ⟨hx, hb, hml, hown, hts⟩ hMet ⟨cw, rfl, hts _ (lw_g mf4 rfl)⟩ hpre rfl rfl (hL.1.trans hn) rfl hrest hd1 ⟨by omega, by omega⟩) hS (fun q _ z => z) (fun q z => z) fin
  | false =>
    intro hlk
    have cw := cwI (R := R) (s := s) (args := args) (mc := n1 - n) (ms := z1 - z) 0 hts hgood (ws' := lw_gd) rfl (rm := bm_rm d (n1 - n) (z1 - z)) rfl rfl (hts _ (lw_g mf5 rfl)) (hts _ (lw_g hlk rfl)) (hts _ (lw_g mf4 rfl)) rfl mf3 hroom
    exact va_callv (va_runI (As := []) (rest := st.map (am_enc ad .null)) ⟨hx, hb, hml, hown, hts⟩ hMet cw hpre rfl rfl (hL.1.trans hn) rfl hrest hd1 ⟨by omega, by omega⟩) hS (fun q _ z => z) (fun q z => z) fin
def bm_Re (p : Program) (l : Launch) (e : Env) (R : Room) (s : State) (m : MethodId) (args : Array Value) (below : List Frame) (meth : Method) (c : Code) (Q : State → Prop) (D : va_G) (ad : Nat → Nat) (cA : Nat → ClassId) (b0 n0 z0 : Nat) (cc : ByteArray) (res : Nat × Nat × am_M) : Prop :=
  ∀ (bp : Nat) (H : Heap) (locs : List Loc) (L : Array Slot), bm_Wd D ad cA b0 res.2.2 res.1 H → va_S (bm_A b0) s.heap H locs → decode cc bp = .ok (.return_, 1) → W p l e R s m args below meth c H locs (res.1 - n0) (res.2.1 - z0) Q (F0 m bp L [])
theorem bm_s_ret (hre : bm_Re p l e R s m args below meth c Q D ad cA b0 n0 z0 cc res) {a b : Nat} : bm_SS p l e R s m args below meth c Q D ad cA C b0 own nL n0 z0 cc ps call res (.return_, a, b) := by
  intro bp nx hd ls st n z M ks kj h hs hj
  obtain rfl : st = [] := by
    cases st with
    | nil => rfl
    | cons v st => exact (bm_no h).elim
  have h : some (n, z, M) = some res := h
  cases h
  exact ⟨⟨Nat.le_refl _, Nat.le_refl _⟩, fun hn hv H locs L hL hW hS h0 h1 => hre bp H locs L hW hS (of_decide_eq_true hd)⟩
def bm_Rn (p : Program) (l : Launch) (e : Env) (R : Room) (s : State) (m : MethodId) (args : Array Value) (below : List Frame) (meth : Method) (c : Code) (Q : State → Prop) (D : va_G) (ad : Nat → Nat) (cA : Nat → ClassId) (b0 own n0 z0 : Nat) (ps : List Nat) (res : Nat × Nat × am_M) : Prop :=
  own = 8 → ∀ (H : Heap) (locs : List Loc) (L : Array Slot), bm_Wd D ad cA b0 res.2.2 res.1 H → va_S (bm_A b0) s.heap H locs → am_lok ad .null bm_end L → W p l e R s m args below meth c H locs (res.1 - n0) (res.2.1 - z0) Q (F0 m 16 L [])
theorem bm_s_nop (hrn : bm_Rn p l e R s m args below meth c Q D ad cA b0 own n0 z0 ps res) {a b : Nat} : ∀ nx, bm_dec own cc ps 16 nx (.nop, a, b) = true → ∀ ls st n z M ks kj, bm_stp call (.nop, a, b) ls st n z M ks kj = some res → (n ≤ res.1 ∧ z ≤ res.2.1) ∧ bm_Go p l e R s m args below meth c Q D ad cA C b0 nL n0 z0 16 ls st n z M := by
  intro nx hd ls st n z M ks kj h
  obtain rfl : st = [] := by
    cases st with
    | nil => rfl
    | cons v st => exact (bm_no h).elim
  have h : cond (decide (ls = bm_end)) (some (n, z, M)) none = some res := h
  obtain ⟨h1, h⟩ := bm_cond h
  have h1 : ls = bm_end := of_decide_eq_true h1
  cases h
  subst h1
  exact ⟨⟨Nat.le_refl _, Nat.le_refl _⟩, fun hn hv H locs L hL hW hS h0 h1 => hrn (of_decide_eq_true hd) H locs L hW hS hL⟩
def bm_DK (own : Nat) (cc : ByteArray) (ps : List Nat) (code : List am_I) : Prop := ∀ (pc : Nat) (ai : am_I), code[pc]? = some ai → bm_dec own cc ps (ps.getD pc 0) (ps.getD (pc + 1) 0) ai = true
theorem bm_decs_at {own : Nat} {cc : ByteArray} {ps : List Nat} : ∀ (qs : List Nat) (code : List am_I), bm_decs own cc ps qs code = true → ∀ (pc : Nat) (ai : am_I), code[pc]? = some ai → bm_dec own cc ps (qs.getD pc 0) (qs.getD (pc + 1) 0) ai = true := by
  intro qs code
  induction code generalizing qs with
  | nil => intro _ pc ai h; simp at h
  | cons a code ih =>
    intro h pc ai hpc
    match qs, h with
    | bp :: nx :: r, h =>
      obtain ⟨h1, h2⟩ := am_and h
      cases pc with
      | zero => cases hpc; exact h1
      | succ pc => exact ih (nx :: r) h2 pc ai (by simpa using hpc)
theorem bm_step (X : bm_Cx p R s m args c D ad cA b0 n0 own nL cc) (hRc : res.1 - n0 ≤ R.cells) (hRs : res.2.1 - z0 ≤ R.slots) (hin : own ≠ 8 → meth.name = "<init>") (hcl : bm_Cl l D ad cA b0 d call) (hr1 : d + 1 ≤ R.frames) (hr2 : 40 * d + 40 ≤ R.locals) (i : am_I) (hre : i.1 = .return_ → bm_Re p l e R s m args below meth c Q D ad cA b0 n0 z0 cc res) (hnop : i.1 ≠ .nop) : bm_SS p l e R s m args below meth c Q D ad cA C b0 own nL n0 z0 cc ps call res i := by
  have bad : ∀ (i : Jvm.ClassFile.Instr) (a b : Nat), (∀ bp nx, bm_dec own cc ps bp nx (i, a, b) = false) → bm_SS p l e R s m args below meth c Q D ad cA C b0 own nL n0 z0 cc ps call res (i, a, b) := by
    intro i a b h bp nx hd
    rw [h bp nx] at hd
    cases hd
  obtain ⟨i, a, b⟩ := i
  cases i with
  | nop => exact absurd rfl hnop
  | iload k => exact bm_s_iload X hRc hRs
  | istore k => exact bm_s_istore X hRc hRs
  | bipush v => exact bm_s_bipush X hRc hRs
  | dup => exact bm_s_dup X hRc hRs
  | if_icmp cd t =>
    cases cd with
    | ge => exact bm_s_icmp X hRc hRs
    | _ => exact bad _ _ _ (fun _ _ => rfl)
  | goto t => exact bm_s_goto X hRc hRs
  | iinc k w => exact bm_s_iinc X hRc hRs
  | checkcast k => exact bm_s_checkcast X hRc hRs
  | putfield k =>
    by_cases h8 : own = 8
    · intro bp nx hd
      have := bm_own8 _ (am_mem (am_and hd).2)
      exact absurd h8 this
    exact bm_s_putfield X hRc hRs (hin h8) (fun ci Cn T N b h1 h2 => by
      obtain ⟨q, hq1, hq2⟩ : ∃ q : vw_C, vwCl[ci]? = some q ∧ q.1 = am_cn ci := am_vw ci (by
        obtain ⟨_, _, _, _, _, _, _, _, f6, _⟩ := bm_fp_all _ (am_mem h2)
        exact f6)
      have e1 : (Cn, T, N) = q := Option.some.inj (h1.symm.trans hq1)
      rw [← e1] at hq2
      have hq2 : Cn = am_cn ci := hq2
      rw [hq2, bm_declall _ (am_mem h2)])
  | new ci => exact bm_s_new X hRc hRs
  | newarray t => exact bm_s_newarray X hRc hRs
  | anewarray k => exact bm_s_anewarray X hRc hRs
  | aastore => exact bm_s_aastore X hRc hRs
  | areturn => exact bm_s_obj X hRc hRs
  | invokespecial ci => exact bm_s_call X hRc hRs hcl hr1 hr2
  | return_ => exact bm_s_ret (hre rfl)
  | _ => exact bad _ _ _ (fun _ _ => rfl)
theorem bm_exec (X : bm_Cx p R s m args c D ad cA b0 n0 own nL cc) (hRc : res.1 - n0 ≤ R.cells) (hRs : res.2.1 - z0 ≤ R.slots) (hin : own ≠ 8 → meth.name = "<init>") {code : List am_I} (hD : bm_DK own cc ps code) (hcl : bm_Cl l D ad cA b0 d call) (hr1 : d + 1 ≤ R.frames) (hr2 : 40 * d + 40 ≤ R.locals) (hre : (∃ q ∈ code, q.1 = .return_) → bm_Re p l e R s m args below meth c Q D ad cA b0 n0 z0 cc res) (hrn : bm_Rn p l e R s m args below meth c Q D ad cA b0 own n0 z0 ps res) (hnp : ∀ (pc : Nat) (a b : Nat), code[pc]? = some (.nop, a, b) → ps.getD pc 0 = 16) : ∀ (f pc : Nat) (ls : List (Option am_V)) (st : List am_V) (n z : Nat) (M : am_M), bm_ex call code f pc ls st n z M = some res → (n ≤ res.1 ∧ z ≤ res.2.1) ∧ bm_Go p l e R s m args below meth c Q D ad cA C b0 nL n0 z0 (ps.getD pc 0) ls st n z M := by
  intro f
  induction f with
  | zero => intro pc ls st n z M h; exact (bm_no h).elim
  | succ f ih =>
    intro pc ls st n z M h
    have h : (match code[pc]? with
      | some i => bm_stp call i ls st n z M (bm_ex call code f (pc + 1)) (bm_ex call code f)
      | none => none) = some res := h
    cases hi : code[pc]? with
    | none => rw [hi] at h; exact (bm_no h).elim
    | some ai =>
      rw [hi] at h
      by_cases hnop : ai.1 = .nop
      · obtain ⟨i, a, b⟩ := ai
        have hnop : i = .nop := hnop
        subst hnop
        have e := hnp pc a b hi
        rw [e]
        have hd := hD pc _ hi
        rw [e] at hd
        exact bm_s_nop hrn _ hd _ _ _ _ _ _ _ h
      exact bm_step X hRc hRs hin hcl hr1 hr2 ai (fun q => hre ⟨ai, List.mem_of_getElem? hi, q⟩) hnop (ps.getD pc 0) (ps.getD (pc + 1) 0) (hD pc ai hi) ls st n z M _ _ h (fun l s n z m h => ih (pc + 1) l s n z m h) (fun t l s n z m h => ih t l s n z m h)
end BSN
