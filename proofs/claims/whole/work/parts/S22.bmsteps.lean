theorem bm_lnb : ∀ n, n < 199 → am_ln n ≤ 65535 := by decide +kernel
theorem bm_ank {own b k : Nat} (h : (own, b, k) ∈ bm_an) : k = 11 ∨ k = 14 := by
  have key : ∀ q ∈ bm_an, q.2.2 = 11 ∨ q.2.2 = 14 := by decide +kernel
  exact key _ h
section BSN
variable {p : Program} {l : Launch} {e : Env} {R : Room} {s : State} {m : MethodId} {args : Array Value} {below : List Frame} {meth : Method} {c : Code} {Q : State → Prop} {D : va_G} {ad : Nat → Nat} {cA : Nat → ClassId} {C : am_M} {b0 own nL n0 z0 : Nat} {cc : ByteArray} {ps : List Nat} {call : Nat → List am_V → Nat → Nat → am_M → bm_R} {res : Nat × Nat × am_M}

theorem bm_s_iload (X : bm_Cx p R s m args c D ad cA b0 n0 own nL cc) (hRc : res.1 - n0 ≤ R.cells) (hRs : res.2.1 - z0 ≤ R.slots) {k kd b : Nat} : bm_SS p l e R s m args below meth c Q D ad cA C b0 own nL n0 z0 cc ps call res (.iload k, kd, b) := by
  intro bp nx hd ls st n z M ks kj h hs hj
  obtain ⟨hx, hb, hml, hown, hts, hK, hSt, had, hRf, hRl, hsz0⟩ := id X
  have hvF : (Value.null = .null ∨ ∃ x, Value.null = .ref x) := Or.inl rfl
  cases hlv : ls[k]? with
  | none => simp only [bm_stp, hlv] at h; exact (bm_no h).elim
  | some ov =>
  cases ov with
  | none => simp only [bm_stp, hlv] at h; exact (bm_no h).elim
  | some v =>
  simp only [bm_stp, hlv] at h
  obtain ⟨hkd, h⟩ := bm_cond h
  obtain ⟨g1, g2⟩ := hs _ _ _ _ _ h
  refine ⟨g1, fun hn hv H locs L hL hW hS h0 h1 => ?_⟩
  obtain ⟨hLv, hok⟩ := hL.2.2 k v hlv
  have kk := fun (q : Nat) (hq : nx = q) => (hq ▸ g2 hn (am_vc hok hv) H locs L hL hW hS h0 h1 : W p l e R s m args below meth c H locs (n - n0) (z - z0) Q (F0 m q L (am_enc ad .null v :: st.map (am_enc ad .null))))
  revert hd hkd
  match v with
  | .inl x =>
    match kd with
    | 0 => intro hd _; obtain ⟨hd, h3⟩ := am_and hd; obtain ⟨hd1, h2⟩ := am_d1_ok hd; exact lv_iload_n hx hb hd1 (am_f4 h3) hLv (kk _ h2)
    | kd + 1 => intro _ hkd; cases hkd
  | .inr x =>
    match kd with
    | 0 => intro _ hkd; cases hkd
    | kd + 1 =>
      intro hd _
      obtain ⟨hd, h3⟩ := am_and hd
      obtain ⟨hd1, h2⟩ := am_d1_ok hd
      have k := kk _ h2
      have hr : am_rv ad .null x = .null ∨ ∃ y, am_rv ad .null x = .ref y := am_rv_or hvF x
      simp only [am_enc] at hLv k
      rcases hr with hr | ⟨y, hr⟩
      · rw [hr] at hLv k; exact lv_aload_nN hx hb hd1 (am_f4 h3) hLv k
      · rw [hr] at hLv k; exact lv_aload_n hx hb hd1 (am_f4 h3) hLv k

theorem bm_s_istore (X : bm_Cx p R s m args c D ad cA b0 n0 own nL cc) (hRc : res.1 - n0 ≤ R.cells) (hRs : res.2.1 - z0 ≤ R.slots) {k kd b : Nat} : bm_SS p l e R s m args below meth c Q D ad cA C b0 own nL n0 z0 cc ps call res (.istore k, kd, b) := by
  intro bp nx hd ls st n z M ks kj h hs hj
  obtain ⟨hx, hb, hml, hown, hts, hK, hSt, had, hRf, hRl, hsz0⟩ := id X
  have hvF : (Value.null = .null ∨ ∃ x, Value.null = .ref x) := Or.inl rfl
  rcases st with _ | ⟨v, st⟩
  · exact (bm_no h).elim
  obtain ⟨hkd, h⟩ := bm_cond h
  obtain ⟨hkd, hlt⟩ := am_and hkd
  have hlt : k < ls.length := Nat.le_of_ble_eq_true hlt
  obtain ⟨g1, g2⟩ := hs _ _ _ _ _ h
  refine ⟨g1, fun hn hv H locs L hL hW hS h0 h1 => ?_⟩
  have hok := hv _ List.mem_cons_self
  have hlh := am_lok_has hvF hL
  have k := fun (q : Nat) (hq : nx = q) (L' : Array Slot) (h' : lv_has L' ls.length ((k, am_enc ad .null v) :: (am_lv ad .null ls).filter (fun q => !(q.1 == k) && !(q.1 + 1 == k && q.2.category == 2)))) => (hq ▸ g2 (by rw [List.length_set]; exact hn) (am_vtl hv) H locs L' (am_lok_set hvF hL hlt hok h') hW hS h0 h1 : W p l e R s m args below meth c H locs (n - n0) (z - z0) Q (F0 m q L' (st.map (am_enc ad .null))))
  revert hd hkd
  match v with
  | .inl x =>
    match kd with
    | 0 => intro hd _; obtain ⟨hd, h3⟩ := am_and hd; obtain ⟨hd1, h2⟩ := am_d1_ok hd; exact lv_istore_n hx hb hd1 (am_f4 h3) hlh hlt rfl (k _ h2)
    | kd + 1 => intro _ hkd; cases hkd
  | .inr x =>
    match kd with
    | 0 => intro _ hkd; cases hkd
    | kd + 1 =>
      intro hd _
      obtain ⟨hd, h3⟩ := am_and hd
      obtain ⟨hd1, h2⟩ := am_d1_ok hd
      have k := k _ h2
      have hr : am_rv ad .null x = .null ∨ ∃ y, am_rv ad .null x = .ref y := am_rv_or hvF x
      show W p l e R s m args below meth c H locs (n - n0) (z - z0) Q (F0 m bp L (am_rv ad .null x :: st.map (am_enc ad .null)))
      simp only [am_enc] at k
      rcases hr with hr | ⟨y, hr⟩
      · rw [hr] at k ⊢; exact lv_astore_nN hx hb hd1 (am_f4 h3) hlh hlt rfl k
      · rw [hr] at k ⊢; exact lv_astore_n hx hb hd1 (am_f4 h3) hlh hlt rfl k

theorem bm_s_bipush (X : bm_Cx p R s m args c D ad cA b0 n0 own nL cc) (hRc : res.1 - n0 ≤ R.cells) (hRs : res.2.1 - z0 ≤ R.slots) {v : Int} {a b : Nat} : bm_SS p l e R s m args below meth c Q D ad cA C b0 own nL n0 z0 cc ps call res (.bipush v, a, b) := by
  intro bp nx hd ls st n z M ks kj h hs hj
  obtain ⟨hx, hb, hml, hown, hts, hK, hSt, had, hRf, hRl, hsz0⟩ := id X
  have hvF : (Value.null = .null ∨ ∃ x, Value.null = .ref x) := Or.inl rfl
  obtain ⟨g1, g2⟩ := hs _ _ _ _ _ h
  refine ⟨g1, fun hn hv H locs L hL hW hS h0 h1 => ?_⟩
  obtain ⟨hin, hd⟩ := am_and hd
  have hin : am_in v := of_decide_eq_true hin
  have k := fun (q : Nat) (hq : nx = q) => (hq ▸ g2 hn (am_vc (v := .inl v) hin hv) H locs L hL hW hS h0 h1 : W p l e R s m args below meth c H locs (n - n0) (z - z0) Q (F0 m q L (.int (Int32.ofInt v) :: st.map (am_enc ad .null))))
  revert hd
  match a with
  | 0 => intro hd; obtain ⟨hd1, h2⟩ := am_d1_ok hd; exact lv_iconst hx hb hd1 rfl (k _ h2)
  | 1 => intro hd; obtain ⟨hd, h3⟩ := am_and hd; obtain ⟨hd1, h2⟩ := am_d1_ok hd; exact lv_bipush hx hb hd1 (of_decide_eq_true h3) (k _ h2)
  | a + 2 => intro hd; obtain ⟨hd, h3⟩ := am_and hd; obtain ⟨hd1, h2⟩ := am_d1_ok hd; exact lv_sipush hx hb hd1 (of_decide_eq_true h3) (k _ h2)

theorem bm_s_dup (X : bm_Cx p R s m args c D ad cA b0 n0 own nL cc) (hRc : res.1 - n0 ≤ R.cells) (hRs : res.2.1 - z0 ≤ R.slots) {a b : Nat} : bm_SS p l e R s m args below meth c Q D ad cA C b0 own nL n0 z0 cc ps call res (.dup, a, b) := by
  intro bp nx hd ls st n z M ks kj h hs hj
  obtain ⟨hx, hb, hml, hown, hts, hK, hSt, had, hRf, hRl, hsz0⟩ := id X
  have hvF : (Value.null = .null ∨ ∃ x, Value.null = .ref x) := Or.inl rfl
  rcases st with _ | ⟨v, st⟩
  · exact (bm_no h).elim
  obtain ⟨g1, g2⟩ := hs _ _ _ _ _ h
  refine ⟨g1, fun hn hv H locs L hL hW hS h0 h1 => ?_⟩
  obtain ⟨hd1, rfl⟩ := am_d1_ok hd
  exact lv_dup hx hb hd1 (am_enc_cat hvF v) (g2 hn (am_vc (hv _ List.mem_cons_self) hv) H locs L hL hW hS h0 h1)

theorem bm_s_icmp (X : bm_Cx p R s m args c D ad cA b0 n0 own nL cc) (hRc : res.1 - n0 ≤ R.cells) (hRs : res.2.1 - z0 ≤ R.slots) {t : Int} {a b : Nat} : bm_SS p l e R s m args below meth c Q D ad cA C b0 own nL n0 z0 cc ps call res (.if_icmp .ge t, a, b) := by
  intro bp nx hd ls st n z M ks kj h hs hj
  obtain ⟨hx, hb, hml, hown, hts, hK, hSt, had, hRf, hRl, hsz0⟩ := id X
  have hvF : (Value.null = .null ∨ ∃ x, Value.null = .ref x) := Or.inl rfl
  rcases st with _ | ⟨y | y, _ | ⟨x | x, st⟩⟩ <;> try (exact (bm_no h).elim)
  have h : cond (decide (x < y)) (ks ls st n z M) (kj t.toNat ls st n z M) = some res := h
  obtain ⟨hd1, rfl⟩ := am_d1_ok hd
  by_cases q : x < y
  · rw [decide_eq_true q] at h
    obtain ⟨g1, g2⟩ := hs _ _ _ _ _ h
    refine ⟨g1, fun hn hv H locs L hL hW hS h0 h1 => ?_⟩
    have vy : am_in y := hv _ List.mem_cons_self
    have vx : am_in x := hv _ (List.mem_cons_of_mem _ List.mem_cons_self)
    exact lv_icmp_ge (tgt := ps.getD t.toNat 0) hx hb hd1 (am_off_ok _ _ _) (fun w => absurd ((am_le vy vx).mp w) (by omega)) (fun _ => g2 hn (am_vtl (am_vtl hv)) H locs L hL hW hS h0 h1)
  · rw [decide_eq_false q] at h
    obtain ⟨g1, g2⟩ := hj _ _ _ _ _ _ h
    refine ⟨g1, fun hn hv H locs L hL hW hS h0 h1 => ?_⟩
    have vy : am_in y := hv _ List.mem_cons_self
    have vx : am_in x := hv _ (List.mem_cons_of_mem _ List.mem_cons_self)
    exact lv_icmp_ge (tgt := ps.getD t.toNat 0) hx hb hd1 (am_off_ok _ _ _) (fun _ => g2 hn (am_vtl (am_vtl hv)) H locs L hL hW hS h0 h1) (fun w => absurd ((am_le vy vx).mpr (by omega)) w)

theorem bm_s_goto (X : bm_Cx p R s m args c D ad cA b0 n0 own nL cc) (hRc : res.1 - n0 ≤ R.cells) (hRs : res.2.1 - z0 ≤ R.slots) {t : Int} {a b : Nat} : bm_SS p l e R s m args below meth c Q D ad cA C b0 own nL n0 z0 cc ps call res (.goto t, a, b) := by
  intro bp nx hd ls st n z M ks kj h hs hj
  obtain ⟨hx, hb, hml, hown, hts, hK, hSt, had, hRf, hRl, hsz0⟩ := id X
  have hvF : (Value.null = .null ∨ ∃ x, Value.null = .ref x) := Or.inl rfl
  obtain ⟨g1, g2⟩ := hj _ _ _ _ _ _ h
  exact ⟨g1, fun hn hv H locs L hL hW hS h0 h1 => lv_goto (tgt := ps.getD t.toNat 0) hx hb (of_decide_eq_true hd) (am_off_ok _ _ _) (g2 hn hv H locs L hL hW hS h0 h1)⟩

theorem bm_s_iinc (X : bm_Cx p R s m args c D ad cA b0 n0 own nL cc) (hRc : res.1 - n0 ≤ R.cells) (hRs : res.2.1 - z0 ≤ R.slots) {k a b : Nat} {w : Int} : bm_SS p l e R s m args below meth c Q D ad cA C b0 own nL n0 z0 cc ps call res (.iinc k w, a, b) := by
  intro bp nx hd ls st n z M ks kj h hs hj
  obtain ⟨hx, hb, hml, hown, hts, hK, hSt, had, hRf, hRl, hsz0⟩ := id X
  have hvF : (Value.null = .null ∨ ∃ x, Value.null = .ref x) := Or.inl rfl
  cases hlv : ls[k]? with
  | none => simp only [bm_stp, hlv] at h; exact (bm_no h).elim
  | some ov =>
  cases ov with
  | none => simp only [bm_stp, hlv] at h; exact (bm_no h).elim
  | some v =>
  cases v with
  | inr x => simp only [bm_stp, hlv] at h; exact (bm_no h).elim
  | inl x =>
  simp only [bm_stp, hlv] at h
  obtain ⟨g1, g2⟩ := hs _ _ _ _ _ h
  refine ⟨g1, fun hn hv H locs L hL hW hS h0 h1 => ?_⟩
  obtain ⟨hd1, rfl⟩ := am_d1_ok hd
  have hlt : k < ls.length := (List.getElem?_eq_some_iff.mp hlv).1
  have hlh := am_lok_has hvF hL
  obtain ⟨i, hi⟩ := am_lv_at (ad := ad) (vF := .null) hlv
  exact lv_iinc (k := i) hx hb hd1 hlh hi (am_e_add x w).symm hlt rfl (fun L' h' => g2 (by rw [List.length_set]; exact hn) hv H locs L' (am_lok_set (v := .inl (am_wrap (x + w))) hvF hL hlt (am_in_wrap _) h') hW hS h0 h1)

theorem bm_s_checkcast (X : bm_Cx p R s m args c D ad cA b0 n0 own nL cc) (hRc : res.1 - n0 ≤ R.cells) (hRs : res.2.1 - z0 ≤ R.slots) {k ci b : Nat} : bm_SS p l e R s m args below meth c Q D ad cA C b0 own nL n0 z0 cc ps call res (.checkcast k, ci, b) := by
  intro bp nx hd ls st n z M ks kj h hs hj
  obtain ⟨hx, hb, hml, hown, hts, hK, hSt, had, hRf, hRl, hsz0⟩ := id X
  have hvF : (Value.null = .null ∨ ∃ x, Value.null = .ref x) := Or.inl rfl
  rcases st with _ | ⟨x | q, st⟩ <;> try (exact (bm_no h).elim)
  obtain ⟨hc, h⟩ := bm_cond h
  obtain ⟨hc, hset⟩ := am_and hc
  obtain ⟨hc, hq⟩ := am_and hc
  have hset : M q k = 1 := of_decide_eq_true hset
  have hc : am_cls q = ci := Nat.eq_of_beq_eq_true hc
  have hq : q < n := Nat.le_of_ble_eq_true hq
  obtain ⟨g1, g2⟩ := hs _ _ _ _ _ h
  refine ⟨g1, fun hn hv H locs L hL hW hS h0 h1 => ?_⟩
  obtain ⟨hd, h3⟩ := am_and hd
  obtain ⟨hd1, rfl⟩ := am_d1_ok hd
  obtain ⟨Cn, T, N, f1, f2, f3, f4, f5, f6⟩ := bm_fl_all _ (am_mem h3)
  dsimp only at f1 f2 f3 f4 f5 f6
  have hq199 : q < 199 := am_own hc (Or.inl f6)
  have hr : am_rf q k < 199 := am_rf_own q hq199 k (by rw [hc]; exact f5)
  have kk := g2 hn (am_vc (v := .inr (am_rf q k)) trivial (am_vtl hv)) H locs L hL hW hS h0 h1
  rw [List.map_cons, show am_enc ad .null (.inr (am_rf q k)) = .ref (ad (am_rf q k)) from bm_ad had hr] at kk
  show W p l e R s m args below meth c H locs (n - n0) (z - z0) Q (F0 m bp L (am_rv ad .null q :: st.map (am_enc ad .null)))
  rw [bm_ad had hq199]
  refine va_get (v := .ref (ad (am_rf q k))) hx hb hts (am_cf_all ci _ f1).2.2 hown hK hW.1 q (bm_ws_o ad cA hq hc f6) f1 k f2 (hts _ (lw_g f4 rfl)) (f3 ▸ fun _ h9 => h9) ?_ hd1 kk
  rw [bm_fs_get ad (am_nf_ok f1 ▸ f2)]
  simp [bm_fld, f5, hset]

theorem bm_s_putfield (X : bm_Cx p R s m args c D ad cA b0 n0 own nL cc) (hRc : res.1 - n0 ≤ R.cells) (hRs : res.2.1 - z0 ≤ R.slots) (hin : meth.name = "<init>") {k ci b : Nat} (hdecl : ∀ (ci : Nat) (Cn : String) (T : u_T) (N b : Nat), vwCl[ci]? = some (Cn, T, N) → bm_fp.contains (own, b, ci, k) = true → Cn = am_cn own) : bm_SS p l e R s m args below meth c Q D ad cA C b0 own nL n0 z0 cc ps call res (.putfield k, ci, b) := by
  intro bp nx hd ls st n z M ks kj h hs hj
  obtain ⟨hx, hb, hml, hown, hts, hK, hSt, had, hRf, hRl, hsz0⟩ := id X
  have hvF : (Value.null = .null ∨ ∃ x, Value.null = .ref x) := Or.inl rfl
  rcases st with _ | ⟨x | v, _ | ⟨q | q, st⟩⟩ <;> try (exact (bm_no h).elim)
  · obtain ⟨hc, h⟩ := bm_cond h
    obtain ⟨hc, hb2⟩ := am_and hc
    obtain ⟨hc, hq⟩ := am_and hc
    have hc : am_cls q = ci := Nat.eq_of_beq_eq_true hc
    have hq : q < n := Nat.le_of_ble_eq_true hq
    have hb2 := Nat.eq_of_beq_eq_true hb2
    obtain ⟨g1, g2⟩ := hs _ _ _ _ _ h
    refine ⟨g1, fun hn hv H locs L hL hW hS h0 h1 => ?_⟩
    have vx : am_in x := hv _ List.mem_cons_self
    obtain ⟨hd, h3⟩ := am_and hd
    obtain ⟨hd1, rfl⟩ := am_d1_ok hd
    obtain ⟨Cn, T, N, f1, f2, f3, f4, f5, f6, f7, ty, f8, f9⟩ := bm_fp_all _ (am_mem h3)
    dsimp only at f1 f2 f3 f4 f5 f6 f7 f8 f9
    rw [hb2] at f5 f7 f9
    have f9 : ty = .int := f9
    subst f9
    have hq199 : q < 199 := am_own hc (Or.inl f6)
    obtain ⟨⟨ty0, hty⟩, hnm, hws⟩ := am_cf_all ci _ f1
    show W p l e R s m args below meth c H locs (n - n0) (z - z0) Q (F0 m bp L (.int (Int32.ofInt x) :: am_rv ad .null q :: st.map (am_enc ad .null)))
    rw [bm_ad had hq199]
    refine va_put (v := .int (Int32.ofInt x)) hx hb hts hws ty0 hty hnm hown hK hW.1 (bm_D had M hW.2.2.1) (va_S_hh hS) q (bm_ws_o ad cA hq hc f6) f1 k f2 (hts _ (lw_g f4 rfl)) (f3 ▸ fun _ h9 => h9) f7 f8 rfl rfl ?_ hd1 (fun H1 locs1 hP1 _ hS1 => bm_sz fun hsz1 => ?_)
    · rw [bm_fs, List.length_map, List.length_range]; exact am_nf_ok f1 ▸ f2
    · rw [bm_set_f ad cA (x := x) hc f6 hq (by simp [bm_fld, f5, am_upd])] at hP1
      exact g2 hn (am_vtl (am_vtl hv)) H1 locs1 L hL (bm_W_row hW hq hP1 hS1.1 (by omega)) (va_S_tr hS hS1) h0 h1
  · obtain ⟨hc, h⟩ := bm_cond h
    obtain ⟨hc, hb2⟩ := am_and hc
    obtain ⟨hc, hrf⟩ := am_and hc
    obtain ⟨hc, hq⟩ := am_and hc
    have hc : am_cls q = ci := Nat.eq_of_beq_eq_true hc
    have hrf : am_rf q k = v := Nat.eq_of_beq_eq_true hrf
    have hq : q < n := Nat.le_of_ble_eq_true hq
    have hb2 := Nat.eq_of_beq_eq_true hb2
    obtain ⟨g1, g2⟩ := hs _ _ _ _ _ h
    refine ⟨g1, fun hn hv H locs L hL hW hS h0 h1 => ?_⟩
    obtain ⟨hd, h3⟩ := am_and hd
    obtain ⟨hd1, rfl⟩ := am_d1_ok hd
    obtain ⟨Cn, T, N, f1, f2, f3, f4, f5, f6, f7, ty, f8, f9⟩ := bm_fp_all _ (am_mem h3)
    dsimp only at f1 f2 f3 f4 f5 f6 f7 f8 f9
    rw [hb2] at f5 f7 f9
    have f9 : ∀ a : Nat, narrow ty (.ref a) = .ref a ∧ fits ty (.ref a) = true := f9
    have hq199 : q < 199 := am_own hc (Or.inl f6)
    have hr : am_rf q k < 199 := am_rf_own q hq199 k (by rw [hc]; exact f5)
    rw [hrf] at hr
    obtain ⟨⟨ty0, hty⟩, hnm, hws⟩ := am_cf_all ci _ f1
    show W p l e R s m args below meth c H locs (n - n0) (z - z0) Q (F0 m bp L (am_rv ad .null v :: am_rv ad .null q :: st.map (am_enc ad .null)))
    rw [bm_ad had hq199, bm_ad had hr]
    refine va_putF (v := .ref (ad v)) hx hb hts hws ty0 hty hnm hown hK hW.1 (bm_D had M hW.2.2.1) (va_S_hh hS) q (bm_ws_o ad cA hq hc f6) f1 k f2 (hts _ (lw_g f4 rfl)) (f3 ▸ fun _ h9 => h9) f7 hin (f3.trans (hdecl ci Cn T N b f1 h3)) f8 (f9 _).1 (f9 _).2 ?_ hd1 (fun H1 locs1 hP1 _ hS1 => bm_sz fun hsz1 => ?_)
    · rw [bm_fs, List.length_map, List.length_range]; exact am_nf_ok f1 ▸ f2
    · rw [bm_set_f ad cA (x := 1) hc f6 hq (by simp [bm_fld, f5, am_upd, hrf])] at hP1
      exact g2 hn (am_vtl (am_vtl hv)) H1 locs1 L hL (bm_W_row hW hq hP1 hS1.1 (by omega)) (va_S_tr hS hS1) h0 h1

theorem bm_s_new (X : bm_Cx p R s m args c D ad cA b0 n0 own nL cc) (hRc : res.1 - n0 ≤ R.cells) (hRs : res.2.1 - z0 ≤ R.slots) {ci b t : Nat} : bm_SS p l e R s m args below meth c Q D ad cA C b0 own nL n0 z0 cc ps call res (.new ci, b, t) := by
  intro bp nx hd ls st n z M ks kj h hs hj
  obtain ⟨hx, hb, hml, hown, hts, hK, hSt, had, hRf, hRl, hsz0⟩ := id X
  have hvF : (Value.null = .null ∨ ∃ x, Value.null = .ref x) := Or.inl rfl
  have h : cond (Nat.beq (am_cls n) ci && Nat.blt n 199) (ks ls (.inr n :: st) (n + 1) (z + am_nf ci) M) none = some res := h
  obtain ⟨hc, h⟩ := bm_cond h
  obtain ⟨hc, hn199⟩ := am_and hc
  have hc : am_cls n = ci := Nat.eq_of_beq_eq_true hc
  have hn199 : n < 199 := Nat.le_of_ble_eq_true hn199
  obtain ⟨g1, g2⟩ := hs _ _ _ _ _ h
  refine ⟨by omega, fun hn hv H locs L hL hW hS h0 h1 => ?_⟩
  obtain ⟨hd, h3⟩ := am_and hd
  obtain ⟨hd1, rfl⟩ := am_d1_ok hd
  obtain ⟨f1, f2, f3, f4⟩ := bm_nw_all _ (am_mem h3)
  dsimp only at f1 f2 f3 f4
  obtain ⟨⟨Cn, T, N⟩, hq1, hq2⟩ := am_vw ci f4
  have hq2 : Cn = am_cn ci := hq2
  subst hq2
  obtain ⟨ty, hty, hdef⟩ := bm_cd_all ci _ hq1
  have hN : N = am_nf ci := am_nf_ok hq1
  subst hN
  refine va_new (C := am_cn ci) (T := T) (N := am_nf ci) (fs := bm_fs ad M n ci) hx hb hts (am_cf_all ci _ hq1).2.2 ty hty hown (hts _ (lw_g f1 rfl)) (hts _ (lw_g f2 rfl)) (hts _ (lw_g f3 rfl)) hK hW.1 (bm_D had M hW.2.2.1) (va_S_hh hS) (fun q hq => by show b0 ≤ q; rw [hW.2.1] at hq; omega) hq1 ?_ (by omega) (by omega) hd1 (fun q H1 hP1 hD1 hS1 => bm_sz fun hsz1 => ?_)
  · intro j hj
    rw [hdef j hj, vp_V, List.getD_eq_getElem?_getD, bm_fs_get ad hj]
    have := hW.2.2.2 n (Nat.le_refl _) hn199 j
    simp only [bm_fld, this, Option.getD_some]
    cases am_isr ci j <;> simp
  · obtain ⟨e1, hW1⟩ := bm_push had hW hn199 hP1 hD1 (by omega) (fun H2 q => by
      rw [bm_cell, if_neg (by omega), if_neg (by omega), hc]
      exact q)
    have kk := g2 hn (am_vc (v := .inr n) trivial hv) H1 locs L hL hW1 (va_S_tr hS hS1) (by omega) (by omega)
    rw [List.map_cons, show am_enc ad .null (.inr n) = .ref (ad n) from bm_ad had hn199, ← e1] at kk
    rw [show n - n0 + 1 = n + 1 - n0 from by omega, show z - z0 + am_nf ci = z + am_nf ci - z0 from by omega]
    exact kk

theorem bm_s_newarray (X : bm_Cx p R s m args c D ad cA b0 n0 own nL cc) (hRc : res.1 - n0 ≤ R.cells) (hRs : res.2.1 - z0 ≤ R.slots) {t : ArrayType} {a b : Nat} : bm_SS p l e R s m args below meth c Q D ad cA C b0 own nL n0 z0 cc ps call res (.newarray t, a, b) := by
  intro bp nx hd ls st n z M ks kj h hs hj
  obtain ⟨hx, hb, hml, hown, hts, hK, hSt, had, hRf, hRl, hsz0⟩ := id X
  have hvF : (Value.null = .null ∨ ∃ x, Value.null = .ref x) := Or.inl rfl
  rcases st with _ | ⟨x | x, st⟩ <;> try (exact (bm_no h).elim)
  obtain ⟨hc, h⟩ := bm_cond h
  obtain ⟨hc, hlen⟩ := am_and hc
  have hlen : x = (am_ln n : Int) := of_decide_eq_true hlen
  obtain ⟨hc, hn199⟩ := am_and hc
  have hc := Nat.eq_of_beq_eq_true hc
  have hn199 : n < 199 := Nat.le_of_ble_eq_true hn199
  obtain ⟨g1, g2⟩ := hs _ _ _ _ _ h
  refine ⟨by omega, fun hn hv H locs L hL hW hS h0 h1 => ?_⟩
  have vx : am_in x := hv _ List.mem_cons_self
  obtain ⟨hd1, rfl⟩ := am_d1_ok hd
  have hbig := bm_lnb n hn199
  have hz : ∀ j, M n j = 0 := fun j => hW.2.2.2 n (Nat.le_refl _) hn199 j
  have hrow : am_row M n = fun _ => 0 := by funext j; rw [am_row, hz]; rfl
  have main : ∀ (ty : FieldType) (kd tk : Nat) (hty : newarray.typeOf t = ty) (harr : Cond.arrayClass ty ∈ lw_tbl) (htk : (am_tys cA)[tk]? = some (cA kd, ty)) (hkd : kd = 9 ∨ kd = 10) (hcl : am_cls n = kd) (hdv : defaultValue ty = .int 0) (hcb : componentBytes ty ≤ 4) (hra : ∀ (cB : ClassId), va_RA s cB ty → s.vm.findClass ("[" ++ ty.toString) = some cB), W p l e R s m args below meth c H locs (n - n0) (z - z0) Q (F0 m bp L (.int (Int32.ofInt x) :: st.map (am_enc ad .null))) := by
    intro ty kd tk hty harr htk hkd hcl hdv hcb hra
    subst hty
    refine va_newa (a0 := (am_ln n, .inl (am_row M n))) (N' := am_ln n) hx hb (hts _ (lw_g harr rfl)) rfl hK hW.1 (bm_D had M hW.2.2.1) (va_S_hh hS) (fun q hq => by show b0 ≤ q; rw [hW.2.1] at hq; omega) ?_ ?_ ?_ ?_ (by omega) (by omega) hd1 (fun q cB H1 hK1 hP1 hD1 hS1 => bm_sz fun hsz1 => ?_)
    · intro cB
      rw [vp_cell_i, hrow, hdv]
    · rw [am_lt0 vx]; omega
    · rw [am_clamp vx]; omega
    · have : am_ln n * componentBytes (newarray.typeOf t) ≤ am_ln n * 4 := Nat.mul_le_mul_left _ hcb
      omega
    · have e9 : cB = cA kd := by
        have a1 := (hK1.2 4 (cB, newarray.typeOf t) rfl).2
        have a2 := (hK.2 tk _ htk).2
        exact Option.some.inj ((hra cB a1).symm.trans (hra (cA kd) a2))
      obtain ⟨e1, hW1⟩ := bm_push had hW hn199 hP1 hD1 (by omega) (fun H2 q => by
        rw [bm_cell, if_pos (by omega), hcl, ← e9]
        exact q)
      have kk := g2 hn (am_vc (v := .inr n) trivial (am_vtl hv)) H1 locs L hL hW1 (va_S_tr hS hS1) (by omega) (by omega)
      rw [List.map_cons, show am_enc ad .null (.inr n) = .ref (ad n) from bm_ad had hn199, ← e1] at kk
      rw [show n - n0 + 1 = n + 1 - n0 from by omega, show z - z0 + am_ln n = z + am_ln n - z0 from by omega]
      exact kk
  cases t with
  | int => exact main .int 9 0 rfl bm_l_int rfl (Or.inl rfl) hc rfl (by decide) (fun _ q => q)
  | char => exact main .char 10 1 rfl bm_l_char rfl (Or.inr rfl) hc rfl (by decide) (fun _ q => q)
  | _ => exact absurd hc (by have := am_own_k n hn199; show ¬ am_cls n = 99; omega)

theorem bm_s_anewarray (X : bm_Cx p R s m args c D ad cA b0 n0 own nL cc) (hRc : res.1 - n0 ≤ R.cells) (hRs : res.2.1 - z0 ≤ R.slots) {k b t : Nat} : bm_SS p l e R s m args below meth c Q D ad cA C b0 own nL n0 z0 cc ps call res (.anewarray k, b, t) := by
  intro bp nx hd ls st n z M ks kj h hs hj
  obtain ⟨hx, hb, hml, hown, hts, hK, hSt, had, hRf, hRl, hsz0⟩ := id X
  have hvF : (Value.null = .null ∨ ∃ x, Value.null = .ref x) := Or.inl rfl
  rcases st with _ | ⟨x | x, st⟩ <;> try (exact (bm_no h).elim)
  obtain ⟨hc, h⟩ := bm_cond h
  obtain ⟨hc, hlen⟩ := am_and hc
  have hlen : x = (am_ln n : Int) := of_decide_eq_true hlen
  obtain ⟨hc, hn199⟩ := am_and hc
  have hc : am_cls n = k := Nat.eq_of_beq_eq_true hc
  have hn199 : n < 199 := Nat.le_of_ble_eq_true hn199
  obtain ⟨g1, g2⟩ := hs _ _ _ _ _ h
  refine ⟨by omega, fun hn hv H locs L hL hW hS h0 h1 => ?_⟩
  have vx : am_in x := hv _ List.mem_cons_self
  obtain ⟨hd, h3⟩ := am_and hd
  obtain ⟨hd1, rfl⟩ := am_d1_ok hd
  have f1 := bm_an_all _ (am_mem h3)
  have hk : k = 11 ∨ k = 14 := bm_ank (am_mem h3)
  have hbig := bm_lnb n hn199
  have hz : ∀ j, M n j = 0 := fun j => hW.2.2.2 n (Nat.le_refl _) hn199 j
  have hrow : bm_rrow ad M n = fun _ => none := by funext j; rw [bm_rrow, hz]; rfl
  have main : ∀ (Cn : String) (tk : Nat) (hcl : Cond.classLink (am_cn own) b Cn ∈ lw_tbl) (hao : va_AO Cn s) (htk : (am_tys cA)[tk]? = some (cA k, .object Cn)), W p l e R s m args below meth c H locs (n - n0) (z - z0) Q (F0 m bp L (.int (Int32.ofInt x) :: st.map (am_enc ad .null))) := by
    intro Cn tk hcl hao htk
    refine va_newq (N' := am_ln n) hx hb hown (hts _ (lw_g hcl rfl)) hao hK hW.1 (bm_D had M hW.2.2.1) (va_S_hh hS) (fun q hq => by show b0 ≤ q; rw [hW.2.1] at hq; omega) ?_ ?_ ?_ (by omega) (by omega) hd1 (fun q cB H1 hK1 hP1 hD1 hS1 => bm_sz fun hsz1 => ?_)
    · rw [am_lt0 vx]; omega
    · rw [am_clamp vx]; omega
    · omega
    · have e9 : cB = cA k := by
        obtain ⟨_, _, _, _, _, a1⟩ := (hK1.2 4 (cB, .object Cn) rfl).2
        obtain ⟨_, _, _, _, _, a2⟩ := (hK.2 tk _ htk).2
        exact Option.some.inj (a1.symm.trans a2)
      obtain ⟨e1, hW1⟩ := bm_push had hW hn199 hP1 hD1 (by omega) (fun H2 q => by
        rw [bm_cell, if_neg (by omega), if_pos (by omega), hrow, hc, ← e9]
        exact q)
      have kk := g2 hn (am_vc (v := .inr n) trivial (am_vtl hv)) H1 locs L hL hW1 (va_S_tr hS hS1) (by omega) (by omega)
      rw [List.map_cons, show am_enc ad .null (.inr n) = .ref (ad n) from bm_ad had hn199, ← e1] at kk
      rw [show n - n0 + 1 = n + 1 - n0 from by omega, show z - z0 + am_ln n = z + am_ln n - z0 from by omega]
      exact kk
  rcases hk with rfl | rfl
  · exact main "LentHands$World" 2 f1 hSt.2.1 rfl
  · exact main "LentHands$Law" 3 f1 hSt.2.2 rfl

theorem bm_s_aastore (X : bm_Cx p R s m args c D ad cA b0 n0 own nL cc) (hRc : res.1 - n0 ≤ R.cells) (hRs : res.2.1 - z0 ≤ R.slots) {a b : Nat} : bm_SS p l e R s m args below meth c Q D ad cA C b0 own nL n0 z0 cc ps call res (.aastore, a, b) := by
  intro bp nx hd ls st n z M ks kj h hs hj
  obtain ⟨hx, hb, hml, hown, hts, hK, hSt, had, hRf, hRl, hsz0⟩ := id X
  have hvF : (Value.null = .null ∨ ∃ x, Value.null = .ref x) := Or.inl rfl
  rcases st with _ | ⟨x | v, _ | ⟨i | i, _ | ⟨q | q, st⟩⟩⟩ <;> try (exact (bm_no h).elim)
  obtain ⟨hc, h⟩ := bm_cond h
  obtain ⟨hc, hcl⟩ := am_and hc
  obtain ⟨hc, hi⟩ := am_and hc
  obtain ⟨hc, hrf⟩ := am_and hc
  obtain ⟨hq, hvn⟩ := am_and hc
  have hq : q < n := Nat.le_of_ble_eq_true hq
  have hvn : v < n := Nat.le_of_ble_eq_true hvn
  have hrf : am_rf q i = v := Nat.eq_of_beq_eq_true hrf
  have hi : 0 ≤ i ∧ i < (am_ln q : Int) := of_decide_eq_true hi
  obtain ⟨g1, g2⟩ := hs _ _ _ _ _ h
  refine ⟨g1, fun hn hv H locs L hL hW hS h0 h1 => ?_⟩
  have vi : am_in i := hv _ (List.mem_cons_of_mem _ List.mem_cons_self)
  obtain ⟨hd1, rfl⟩ := am_d1_ok hd
  have hn199 := hW.2.2.1
  show W p l e R s m args below meth c H locs (n - n0) (z - z0) Q (F0 m bp L (am_rv ad .null v :: .int (Int32.ofInt i) :: am_rv ad .null q :: st.map (am_enc ad .null)))
  rw [bm_ad had (by omega), bm_ad had (by omega)]
  have main : ∀ (k ci tk : Nat) (r : vw_C) (hk : k = 11 ∨ k = 14) (hck : am_cls q = k) (hcv : am_cls v = ci) (h8 : ci < 8) (hr : vwCl[ci]? = some r) (htk : (am_tys cA)[tk]? = some (cA k, .object r.1)), W p l e R s m args below meth c H locs (n - n0) (z - z0) Q (F0 m bp L (.ref (ad v) :: .int (Int32.ofInt i) :: .ref (ad q) :: st.map (am_enc ad .null))) := by
    intro k ci tk r hk hck hcv h8 hr htk
    refine va_astq hx hb hK hW.1 (bm_D had M hW.2.2.1) (va_S_hh hS) q tk v ci (bm_ws_q ad cA hq hck hk) htk (bm_ws_o ad cA hvn hcv h8) hr (am_vin vi hi) hd1 (fun H1 locs1 hP1 _ hS1 => bm_sz fun hsz1 => ?_)
    rw [am_clamp vi, ← hrf, bm_set_q ad cA hck hk hq hi.1] at hP1
    exact g2 hn (am_vtl (am_vtl (am_vtl hv))) H1 locs1 L hL (bm_W_row hW hq hP1 hS1.1 (by omega)) (va_S_tr hS hS1) h0 h1
  rcases Bool.or_eq_true_iff.mp hcl with hcl | hcl
  · obtain ⟨c1, c2⟩ := am_and hcl
    exact main 11 5 2 _ (Or.inl rfl) (Nat.eq_of_beq_eq_true c1) (Nat.eq_of_beq_eq_true c2) (by omega) rfl rfl
  · obtain ⟨c1, c2⟩ := am_and hcl
    exact main 14 1 3 _ (Or.inr rfl) (Nat.eq_of_beq_eq_true c1) (Nat.eq_of_beq_eq_true c2) (by omega) rfl rfl

theorem bm_s_obj (X : bm_Cx p R s m args c D ad cA b0 n0 own nL cc) (hRc : res.1 - n0 ≤ R.cells) (hRs : res.2.1 - z0 ≤ R.slots) {b t : Nat} : bm_SS p l e R s m args below meth c Q D ad cA C b0 own nL n0 z0 cc ps call res (.areturn, b, t) := by
  intro bp nx hd ls st n z M ks kj h hs hj
  obtain ⟨hx, hb, hml, hown, hts, hK, hSt, had, hRf, hRl, hsz0⟩ := id X
  have hvF : (Value.null = .null ∨ ∃ x, Value.null = .ref x) := Or.inl rfl
  rcases st with _ | ⟨x | q, st⟩ <;> try (exact (bm_no h).elim)
  obtain ⟨hc, h⟩ := bm_cond h
  obtain ⟨hq, hlen⟩ := am_and hc
  have hq : q < n := Nat.le_of_ble_eq_true hq
  have hlen := Nat.le_of_ble_eq_true hlen
  obtain ⟨g1, g2⟩ := hs _ _ _ _ _ h
  refine ⟨g1, fun hn hv H locs L hL hW hS h0 h1 => ?_⟩
  obtain ⟨hd, h3⟩ := am_and hd
  obtain ⟨hd1, rfl⟩ := am_d1_ok hd
  have f1 := bm_oi_all _ (am_mem h3)
  have hn199 := hW.2.2.1
  have hcat := am_cats (ad := ad) hvF hlen
  show W p l e R s m args below meth c H locs (n - n0) (z - z0) Q (F0 m bp L (am_rv ad .null q :: st.map (am_enc ad .null)))
  rw [bm_ad had (by omega)]
  refine W.objInit hx hb hown (hts _ (lw_g f1 rfl)) (hts _ (lw_g bm_l_obj1 rfl)) (hts _ (lw_g bm_l_obj2 rfl)) rfl (by rw [hml]; exact hL.1.trans hn) rfl hd1 hRf (by show 2 * 0 + _ + 12 ≤ _; omega) ?_
  exact W.eq (g2 := F0 m (bp + 3) L (st.map (am_enc ad .null))) rfl (g2 hn (am_vtl hv) H locs L hL hW hS h0 h1)

end BSN
