section SND
variable {p : Program} {l : Launch} {e : Env} {R : Room} {s : State} {m : MethodId} {args : Array Value} {below : List Frame} {meth : Method} {c : Code} {cells slots : Nat} {Q : State → Prop} {D : va_G} {ad : Nat → Nat} {cA : Nat → ClassId} {vF : Value} {C : am_M} {own rt nL : Nat} {cc : ByteArray} {ps : List Nat} {call : Nat → List am_V → am_M → am_R} {res : Int × am_M}

theorem am_s_iadd (X : am_Cx p R s m args c cells slots D ad cA vF C own nL cc) {a b : Nat} : am_SS p l e R s m args below meth c cells slots Q D ad cA vF C own rt nL cc ps call res (.iadd, a, b) := by
  intro bp nx hd ls st M ks kj h hs hj hn hv hM H locs L hL hP hS
  obtain ⟨hx, hb, hml, hown, hts, hK, hSt, hinj, hvF, hRf, hRl, hRl2, hcs⟩ := id X
  rcases st with _ | ⟨y | y, _ | ⟨x | x, st⟩⟩ <;> try (exact (am_no h).elim)
  have vy : am_in y := hv _ List.mem_cons_self
  have vx : am_in x := hv _ (List.mem_cons_of_mem _ List.mem_cons_self)
  have vs := am_vtl (am_vtl hv)
  obtain ⟨hd1, rfl⟩ := am_d1_ok hd
  exact lv_iadd hx hb hd1 (by rw [← am_e_add]; exact hs _ _ _ h hn (am_vc (v := .inl _) (am_in_wrap _) vs) hM H locs L hL hP hS)

theorem am_s_isub (X : am_Cx p R s m args c cells slots D ad cA vF C own nL cc) {a b : Nat} : am_SS p l e R s m args below meth c cells slots Q D ad cA vF C own rt nL cc ps call res (.isub, a, b) := by
  intro bp nx hd ls st M ks kj h hs hj hn hv hM H locs L hL hP hS
  obtain ⟨hx, hb, hml, hown, hts, hK, hSt, hinj, hvF, hRf, hRl, hRl2, hcs⟩ := id X
  rcases st with _ | ⟨y | y, _ | ⟨x | x, st⟩⟩ <;> try (exact (am_no h).elim)
  have vy : am_in y := hv _ List.mem_cons_self
  have vx : am_in x := hv _ (List.mem_cons_of_mem _ List.mem_cons_self)
  have vs := am_vtl (am_vtl hv)
  obtain ⟨hd1, rfl⟩ := am_d1_ok hd
  exact lv_isub hx hb hd1 (by rw [← am_e_sub]; exact hs _ _ _ h hn (am_vc (v := .inl _) (am_in_wrap _) vs) hM H locs L hL hP hS)

theorem am_s_imul (X : am_Cx p R s m args c cells slots D ad cA vF C own nL cc) {a b : Nat} : am_SS p l e R s m args below meth c cells slots Q D ad cA vF C own rt nL cc ps call res (.imul, a, b) := by
  intro bp nx hd ls st M ks kj h hs hj hn hv hM H locs L hL hP hS
  obtain ⟨hx, hb, hml, hown, hts, hK, hSt, hinj, hvF, hRf, hRl, hRl2, hcs⟩ := id X
  rcases st with _ | ⟨y | y, _ | ⟨x | x, st⟩⟩ <;> try (exact (am_no h).elim)
  have vy : am_in y := hv _ List.mem_cons_self
  have vx : am_in x := hv _ (List.mem_cons_of_mem _ List.mem_cons_self)
  have vs := am_vtl (am_vtl hv)
  obtain ⟨hd1, rfl⟩ := am_d1_ok hd
  exact lv_imul hx hb hd1 (by rw [← am_e_mul]; exact hs _ _ _ h hn (am_vc (v := .inl _) (am_in_wrap _) vs) hM H locs L hL hP hS)

theorem am_s_iand (X : am_Cx p R s m args c cells slots D ad cA vF C own nL cc) {a b : Nat} : am_SS p l e R s m args below meth c cells slots Q D ad cA vF C own rt nL cc ps call res (.iand, a, b) := by
  intro bp nx hd ls st M ks kj h hs hj hn hv hM H locs L hL hP hS
  obtain ⟨hx, hb, hml, hown, hts, hK, hSt, hinj, hvF, hRf, hRl, hRl2, hcs⟩ := id X
  rcases st with _ | ⟨y | y, _ | ⟨x | x, st⟩⟩ <;> try (exact (am_no h).elim)
  have vy : am_in y := hv _ List.mem_cons_self
  have vx : am_in x := hv _ (List.mem_cons_of_mem _ List.mem_cons_self)
  have vs := am_vtl (am_vtl hv)
  obtain ⟨hd1, rfl⟩ := am_d1_ok hd
  exact lv_iand hx hb hd1 (am_topI (am_int _) (hs _ _ _ h hn (am_vc (v := .inl _) (am_in_toInt _) vs) hM H locs L hL hP hS))

theorem am_s_ior (X : am_Cx p R s m args c cells slots D ad cA vF C own nL cc) {a b : Nat} : am_SS p l e R s m args below meth c cells slots Q D ad cA vF C own rt nL cc ps call res (.ior, a, b) := by
  intro bp nx hd ls st M ks kj h hs hj hn hv hM H locs L hL hP hS
  obtain ⟨hx, hb, hml, hown, hts, hK, hSt, hinj, hvF, hRf, hRl, hRl2, hcs⟩ := id X
  rcases st with _ | ⟨y | y, _ | ⟨x | x, st⟩⟩ <;> try (exact (am_no h).elim)
  have vy : am_in y := hv _ List.mem_cons_self
  have vx : am_in x := hv _ (List.mem_cons_of_mem _ List.mem_cons_self)
  have vs := am_vtl (am_vtl hv)
  obtain ⟨hd1, rfl⟩ := am_d1_ok hd
  exact lv_ior hx hb hd1 (am_topI (am_int _) (hs _ _ _ h hn (am_vc (v := .inl _) (am_in_toInt _) vs) hM H locs L hL hP hS))

theorem am_s_ixor (X : am_Cx p R s m args c cells slots D ad cA vF C own nL cc) {a b : Nat} : am_SS p l e R s m args below meth c cells slots Q D ad cA vF C own rt nL cc ps call res (.ixor, a, b) := by
  intro bp nx hd ls st M ks kj h hs hj hn hv hM H locs L hL hP hS
  obtain ⟨hx, hb, hml, hown, hts, hK, hSt, hinj, hvF, hRf, hRl, hRl2, hcs⟩ := id X
  rcases st with _ | ⟨y | y, _ | ⟨x | x, st⟩⟩ <;> try (exact (am_no h).elim)
  have vy : am_in y := hv _ List.mem_cons_self
  have vx : am_in x := hv _ (List.mem_cons_of_mem _ List.mem_cons_self)
  have vs := am_vtl (am_vtl hv)
  obtain ⟨hd1, rfl⟩ := am_d1_ok hd
  exact lv_ixor hx hb hd1 (am_topI (am_int _) (hs _ _ _ h hn (am_vc (v := .inl _) (am_in_toInt _) vs) hM H locs L hL hP hS))

theorem am_s_ishl (X : am_Cx p R s m args c cells slots D ad cA vF C own nL cc) {a b : Nat} : am_SS p l e R s m args below meth c cells slots Q D ad cA vF C own rt nL cc ps call res (.ishl, a, b) := by
  intro bp nx hd ls st M ks kj h hs hj hn hv hM H locs L hL hP hS
  obtain ⟨hx, hb, hml, hown, hts, hK, hSt, hinj, hvF, hRf, hRl, hRl2, hcs⟩ := id X
  rcases st with _ | ⟨y | y, _ | ⟨x | x, st⟩⟩ <;> try (exact (am_no h).elim)
  have vy : am_in y := hv _ List.mem_cons_self
  have vx : am_in x := hv _ (List.mem_cons_of_mem _ List.mem_cons_self)
  have vs := am_vtl (am_vtl hv)
  obtain ⟨hd1, rfl⟩ := am_d1_ok hd
  exact lv_ishl hx hb hd1 (am_topI (am_int _) (hs _ _ _ h hn (am_vc (v := .inl _) (am_in_toInt _) vs) hM H locs L hL hP hS))

theorem am_s_ishr (X : am_Cx p R s m args c cells slots D ad cA vF C own nL cc) {a b : Nat} : am_SS p l e R s m args below meth c cells slots Q D ad cA vF C own rt nL cc ps call res (.ishr, a, b) := by
  intro bp nx hd ls st M ks kj h hs hj hn hv hM H locs L hL hP hS
  obtain ⟨hx, hb, hml, hown, hts, hK, hSt, hinj, hvF, hRf, hRl, hRl2, hcs⟩ := id X
  rcases st with _ | ⟨y | y, _ | ⟨x | x, st⟩⟩ <;> try (exact (am_no h).elim)
  have vy : am_in y := hv _ List.mem_cons_self
  have vx : am_in x := hv _ (List.mem_cons_of_mem _ List.mem_cons_self)
  have vs := am_vtl (am_vtl hv)
  obtain ⟨hd1, rfl⟩ := am_d1_ok hd
  exact lv_ishr hx hb hd1 (am_topI (am_int _) (hs _ _ _ h hn (am_vc (v := .inl _) (am_in_toInt _) vs) hM H locs L hL hP hS))

theorem am_s_iushr (X : am_Cx p R s m args c cells slots D ad cA vF C own nL cc) {a b : Nat} : am_SS p l e R s m args below meth c cells slots Q D ad cA vF C own rt nL cc ps call res (.iushr, a, b) := by
  intro bp nx hd ls st M ks kj h hs hj hn hv hM H locs L hL hP hS
  obtain ⟨hx, hb, hml, hown, hts, hK, hSt, hinj, hvF, hRf, hRl, hRl2, hcs⟩ := id X
  rcases st with _ | ⟨y | y, _ | ⟨x | x, st⟩⟩ <;> try (exact (am_no h).elim)
  have vy : am_in y := hv _ List.mem_cons_self
  have vx : am_in x := hv _ (List.mem_cons_of_mem _ List.mem_cons_self)
  have vs := am_vtl (am_vtl hv)
  obtain ⟨hd1, rfl⟩ := am_d1_ok hd
  exact lv_iushr hx hb hd1 rfl (am_topI (am_int _) (hs _ _ _ h hn (am_vc (v := .inl _) (am_in_toInt _) vs) hM H locs L hL hP hS))

theorem am_s_idiv (X : am_Cx p R s m args c cells slots D ad cA vF C own nL cc) {a b : Nat} : am_SS p l e R s m args below meth c cells slots Q D ad cA vF C own rt nL cc ps call res (.idiv, a, b) := by
  intro bp nx hd ls st M ks kj h hs hj hn hv hM H locs L hL hP hS
  obtain ⟨hx, hb, hml, hown, hts, hK, hSt, hinj, hvF, hRf, hRl, hRl2, hcs⟩ := id X
  rcases st with _ | ⟨y | y, _ | ⟨x | x, st⟩⟩ <;> try (exact (am_no h).elim)
  have vy : am_in y := hv _ List.mem_cons_self
  have vx : am_in x := hv _ (List.mem_cons_of_mem _ List.mem_cons_self)
  have vs := am_vtl (am_vtl hv)
  obtain ⟨hd1, rfl⟩ := am_d1_ok hd
  obtain ⟨hne, h⟩ := am_chk_some h
  exact lv_idiv hx hb hd1 (fun q => hne ((am_eq0 vy).mp q)) (am_topI (am_int _) (hs _ _ _ h hn (am_vc (v := .inl _) (am_in_toInt _) vs) hM H locs L hL hP hS))

theorem am_s_irem (X : am_Cx p R s m args c cells slots D ad cA vF C own nL cc) {a b : Nat} : am_SS p l e R s m args below meth c cells slots Q D ad cA vF C own rt nL cc ps call res (.irem, a, b) := by
  intro bp nx hd ls st M ks kj h hs hj hn hv hM H locs L hL hP hS
  obtain ⟨hx, hb, hml, hown, hts, hK, hSt, hinj, hvF, hRf, hRl, hRl2, hcs⟩ := id X
  rcases st with _ | ⟨y | y, _ | ⟨x | x, st⟩⟩ <;> try (exact (am_no h).elim)
  have vy : am_in y := hv _ List.mem_cons_self
  have vx : am_in x := hv _ (List.mem_cons_of_mem _ List.mem_cons_self)
  have vs := am_vtl (am_vtl hv)
  obtain ⟨hd1, rfl⟩ := am_d1_ok hd
  obtain ⟨hne, h⟩ := am_chk_some h
  exact lv_irem hx hb hd1 (fun q => hne ((am_eq0 vy).mp q)) (am_topI (am_int _) (hs _ _ _ h hn (am_vc (v := .inl _) (am_in_toInt _) vs) hM H locs L hL hP hS))

theorem am_s_ladd (X : am_Cx p R s m args c cells slots D ad cA vF C own nL cc) {a b : Nat} : am_SS p l e R s m args below meth c cells slots Q D ad cA vF C own rt nL cc ps call res (.ladd, a, b) := by
  intro bp nx hd ls st M ks kj h hs hj hn hv hM H locs L hL hP hS
  obtain ⟨hx, hb, hml, hown, hts, hK, hSt, hinj, hvF, hRf, hRl, hRl2, hcs⟩ := id X
  rcases st with _ | ⟨y | y, _ | ⟨x | x, st⟩⟩ <;> try (exact (am_no h).elim)
  have vy : am_in y := hv _ List.mem_cons_self
  have vx : am_in x := hv _ (List.mem_cons_of_mem _ List.mem_cons_self)
  have vs := am_vtl (am_vtl hv)
  obtain ⟨hd, h3⟩ := am_and hd
  obtain ⟨hd1, rfl⟩ := am_d1_ok hd
  obtain ⟨hlen, h⟩ := am_cond_some h
  have hlen := am_cats (ad := ad) hvF (Nat.le_of_ble_eq_true hlen)
  exact va_mmax hx hb (by rw [hml, hL.1, hn]) hown (hts _ (lw_g (am_xl_all _ (am_mem h3)) rfl)) (hts _ (lw_g am_l_max1 rfl)) (hts _ (lw_g am_l_math rfl)) (hts _ (lw_g am_l_max2 rfl)) hRf (by omega) hcs.1 hcs.2 hd1 (am_topI (am_e_max vx vy) (hs _ _ _ h hn (am_vc (v := .inl (max x y)) (am_in_max vx vy) vs) hM H locs L hL hP hS))

theorem am_s_lsub (X : am_Cx p R s m args c cells slots D ad cA vF C own nL cc) {a b : Nat} : am_SS p l e R s m args below meth c cells slots Q D ad cA vF C own rt nL cc ps call res (.lsub, a, b) := by
  intro bp nx hd ls st M ks kj h hs hj hn hv hM H locs L hL hP hS
  obtain ⟨hx, hb, hml, hown, hts, hK, hSt, hinj, hvF, hRf, hRl, hRl2, hcs⟩ := id X
  rcases st with _ | ⟨y | y, _ | ⟨x | x, st⟩⟩ <;> try (exact (am_no h).elim)
  have vy : am_in y := hv _ List.mem_cons_self
  have vx : am_in x := hv _ (List.mem_cons_of_mem _ List.mem_cons_self)
  have vs := am_vtl (am_vtl hv)
  obtain ⟨hd, h3⟩ := am_and hd
  obtain ⟨hd1, rfl⟩ := am_d1_ok hd
  obtain ⟨hlen, h⟩ := am_cond_some h
  have hlen := am_cats (ad := ad) hvF (Nat.le_of_ble_eq_true hlen)
  exact va_mmin hx hb (by rw [hml, hL.1, hn]) hown (hts _ (lw_g (am_nl_all _ (am_mem h3)) rfl)) (hts _ (lw_g am_l_min1 rfl)) (hts _ (lw_g am_l_math rfl)) (hts _ (lw_g am_l_min2 rfl)) hRf (by omega) hcs.1 hcs.2 hd1 (am_topI (am_e_min vx vy) (hs _ _ _ h hn (am_vc (v := .inl (min x y)) (am_in_min vx vy) vs) hM H locs L hL hP hS))

theorem am_s_ineg (X : am_Cx p R s m args c cells slots D ad cA vF C own nL cc) {a b : Nat} : am_SS p l e R s m args below meth c cells slots Q D ad cA vF C own rt nL cc ps call res (.ineg, a, b) := by
  intro bp nx hd ls st M ks kj h hs hj hn hv hM H locs L hL hP hS
  obtain ⟨hx, hb, hml, hown, hts, hK, hSt, hinj, hvF, hRf, hRl, hRl2, hcs⟩ := id X
  rcases st with _ | ⟨x | x, st⟩ <;> try (exact (am_no h).elim)
  have vx : am_in x := hv _ List.mem_cons_self
  have vs := am_vtl hv
  obtain ⟨hd1, rfl⟩ := am_d1_ok hd
  exact lv_ineg hx hb hd1 (by rw [← am_e_neg]; exact hs _ _ _ h hn (am_vc (v := .inl _) (am_in_wrap _) vs) hM H locs L hL hP hS)

theorem am_s_i2c (X : am_Cx p R s m args c cells slots D ad cA vF C own nL cc) {a b : Nat} : am_SS p l e R s m args below meth c cells slots Q D ad cA vF C own rt nL cc ps call res (.i2c, a, b) := by
  intro bp nx hd ls st M ks kj h hs hj hn hv hM H locs L hL hP hS
  obtain ⟨hx, hb, hml, hown, hts, hK, hSt, hinj, hvF, hRf, hRl, hRl2, hcs⟩ := id X
  rcases st with _ | ⟨x | x, st⟩ <;> try (exact (am_no h).elim)
  have vx : am_in x := hv _ List.mem_cons_self
  have vs := am_vtl hv
  obtain ⟨hd1, rfl⟩ := am_d1_ok hd
  exact lv_i2c hx hb hd1 (am_e_chr x).symm (hs _ _ _ h hn (am_vc (v := .inl _) (am_in_chr _) vs) hM H locs L hL hP hS)

theorem am_s_dup (X : am_Cx p R s m args c cells slots D ad cA vF C own nL cc) {a b : Nat} : am_SS p l e R s m args below meth c cells slots Q D ad cA vF C own rt nL cc ps call res (.dup, a, b) := by
  intro bp nx hd ls st M ks kj h hs hj hn hv hM H locs L hL hP hS
  obtain ⟨hx, hb, hml, hown, hts, hK, hSt, hinj, hvF, hRf, hRl, hRl2, hcs⟩ := id X
  rcases st with _ | ⟨v, st⟩
  · cases h
  obtain ⟨hd1, rfl⟩ := am_d1_ok hd
  exact lv_dup hx hb hd1 (am_enc_cat hvF v) (hs _ _ _ h hn (am_vc (hv _ List.mem_cons_self) hv) hM H locs L hL hP hS)

theorem am_s_dup2 (X : am_Cx p R s m args c cells slots D ad cA vF C own nL cc) {a b : Nat} : am_SS p l e R s m args below meth c cells slots Q D ad cA vF C own rt nL cc ps call res (.dup2, a, b) := by
  intro bp nx hd ls st M ks kj h hs hj hn hv hM H locs L hL hP hS
  obtain ⟨hx, hb, hml, hown, hts, hK, hSt, hinj, hvF, hRf, hRl, hRl2, hcs⟩ := id X
  rcases st with _ | ⟨v, _ | ⟨w, st⟩⟩
  · cases h
  · cases h
  obtain ⟨hd1, rfl⟩ := am_d1_ok hd
  exact lv_dup2_11 hx hb hd1 (am_enc_cat hvF v) (am_enc_cat hvF w) (hs _ _ _ h hn (am_vc (hv _ List.mem_cons_self) (am_vc (hv _ (List.mem_cons_of_mem _ List.mem_cons_self)) hv)) hM H locs L hL hP hS)

theorem am_s_pop (X : am_Cx p R s m args c cells slots D ad cA vF C own nL cc) {a b : Nat} : am_SS p l e R s m args below meth c cells slots Q D ad cA vF C own rt nL cc ps call res (.pop, a, b) := by
  intro bp nx hd ls st M ks kj h hs hj hn hv hM H locs L hL hP hS
  obtain ⟨hx, hb, hml, hown, hts, hK, hSt, hinj, hvF, hRf, hRl, hRl2, hcs⟩ := id X
  rcases st with _ | ⟨v, st⟩
  · cases h
  obtain ⟨hd1, rfl⟩ := am_d1_ok hd
  exact lv_pop hx hb hd1 (am_enc_cat hvF v) (hs _ _ _ h hn (am_vtl hv) hM H locs L hL hP hS)

theorem am_s_bipush (X : am_Cx p R s m args c cells slots D ad cA vF C own nL cc) {v : Int} {a b : Nat} : am_SS p l e R s m args below meth c cells slots Q D ad cA vF C own rt nL cc ps call res (.bipush v, a, b) := by
  intro bp nx hd ls st M ks kj h hs hj hn hv hM H locs L hL hP hS
  obtain ⟨hx, hb, hml, hown, hts, hK, hSt, hinj, hvF, hRf, hRl, hRl2, hcs⟩ := id X
  obtain ⟨hin, hd⟩ := am_and hd
  have hin : am_in v := of_decide_eq_true hin
  have k := fun (q : Nat) (hq : nx = q) => (hq ▸ hs _ _ _ h hn (am_vc (v := .inl v) hin hv) hM H locs L hL hP hS : W p l e R s m args below meth c H locs cells slots Q (F0 m q L (.int (Int32.ofInt v) :: st.map (am_enc ad vF))))
  revert hd
  match a with
  | 0 => intro hd; obtain ⟨hd1, h2⟩ := am_d1_ok hd; exact lv_iconst hx hb hd1 rfl (k _ h2)
  | 1 => intro hd; obtain ⟨hd, h3⟩ := am_and hd; obtain ⟨hd1, h2⟩ := am_d1_ok hd; exact lv_bipush hx hb hd1 (of_decide_eq_true h3) (k _ h2)
  | 2 => intro hd; obtain ⟨hd, h3⟩ := am_and hd; obtain ⟨hd1, h2⟩ := am_d1_ok hd; exact lv_sipush hx hb hd1 (of_decide_eq_true h3) (k _ h2)
  | 3 => intro hd; obtain ⟨hd, h3⟩ := am_and hd; obtain ⟨hd1, h2⟩ := am_d1_ok hd; exact lv_ldc hx hb hown (hts _ (lw_g (am_kl_all _ (am_mem h3)) rfl)) hd1 (k _ h2)
  | 4 => intro hd; obtain ⟨hd, h3⟩ := am_and hd; obtain ⟨hd1, h2⟩ := am_d1_ok hd; exact lv_ldcw hx hb hown (hts _ (lw_g (am_kl_all _ (am_mem h3)) rfl)) hd1 (k _ h2)
  | a + 5 =>
    intro hd
    obtain ⟨hd, h3⟩ := am_and hd
    obtain ⟨hd1, h2⟩ := am_d1_ok hd
    obtain ⟨rfl, rfl, rfl⟩ := of_decide_eq_true h3
    exact va_gets hx hb hSt.2.2.1 hS hown (hts _ (lw_g am_l_compact rfl)) (fun _ h9 => h9) hd1 (k _ h2)

theorem am_s_aload (X : am_Cx p R s m args c cells slots D ad cA vF C own nL cc) {n a b : Nat} : am_SS p l e R s m args below meth c cells slots Q D ad cA vF C own rt nL cc ps call res (.aload n, a, b) := by
  intro bp nx hd ls st M ks kj h hs hj hn hv hM H locs L hL hP hS
  obtain ⟨hx, hb, hml, hown, hts, hK, hSt, hinj, hvF, hRf, hRl, hRl2, hcs⟩ := id X
  have k := fun (q : Nat) (hq : nx = q) => (hq ▸ hs _ _ _ h hn (am_vc (v := .inr n) trivial hv) hM H locs L hL hP hS : W p l e R s m args below meth c H locs cells slots Q (F0 m q L (am_rv ad vF n :: st.map (am_enc ad vF))))
  revert hd
  match a with
  | 0 =>
    intro hd
    obtain ⟨hd, h3⟩ := am_and hd
    obtain ⟨hd1, h2⟩ := am_d1_ok hd
    obtain ⟨tx, hR, hne⟩ := hSt.2.2.2.2.2.1 _ (am_mem h3)
    have k := k _ h2
    rw [am_rv, if_neg hne] at k
    exact va_ldcS hx hb hown hR hd1 k
  | 1 =>
    intro hd
    obtain ⟨hd, h3⟩ := am_and hd
    obtain ⟨hd1, h2⟩ := am_d1_ok hd
    obtain ⟨g1, g2, g3⟩ := am_gl_all _ (am_mem h3)
    have k := k _ h2
    dsimp only at g1 g2 g3
    rw [am_rv, if_neg (by omega)] at k
    exact va_getsN hx hb (hSt.1 n g2 g3) hS hown (va_Nw.use rfl (hSt.2.2.2.2.2.2 _ (am_mem h3))) (fun _ h9 => h9) hd1 k
  | a + 2 =>
    intro hd
    obtain ⟨hd, h3⟩ := am_and hd
    obtain ⟨hd1, h2⟩ := am_d1_ok hd
    obtain ⟨rfl, rfl, rfl⟩ := of_decide_eq_true h3
    have k := k _ h2
    rw [am_rv, if_pos rfl] at k
    exact va_gets hx hb hSt.2.2.2.1 hS hown (hts _ (lw_g am_l_sioobe rfl)) (fun _ h9 => h9) hd1 k

theorem am_s_iload (X : am_Cx p R s m args c cells slots D ad cA vF C own nL cc) {n kd b : Nat} : am_SS p l e R s m args below meth c cells slots Q D ad cA vF C own rt nL cc ps call res (.iload n, kd, b) := by
  intro bp nx hd ls st M ks kj h hs hj hn hv hM H locs L hL hP hS
  obtain ⟨hx, hb, hml, hown, hts, hK, hSt, hinj, hvF, hRf, hRl, hRl2, hcs⟩ := id X
  obtain ⟨v, hlv, h⟩ := am_lo_some h
  obtain ⟨hkd, h⟩ := am_cond_some h
  obtain ⟨hLv, hok⟩ := hL.2.2 n v hlv
  have k := fun (q : Nat) (hq : nx = q) => (hq ▸ hs _ _ _ h hn (am_vc hok hv) hM H locs L hL hP hS : W p l e R s m args below meth c H locs cells slots Q (F0 m q L (am_enc ad vF v :: st.map (am_enc ad vF))))
  revert hd hkd
  match v with
  | .inl x =>
    match kd, b with
    | 0, 0 => intro hd _; obtain ⟨hd, h3⟩ := am_and hd; obtain ⟨hd1, h2⟩ := am_d1_ok hd; exact lv_iload_n hx hb hd1 (am_f4 h3) hLv (k _ h2)
    | 0, b + 1 => intro hd _; obtain ⟨hd1, h2⟩ := am_d1_ok hd; exact lv_iload hx hb hd1 hLv (k _ h2)
    | kd + 1, b => intro _ hkd; cases hkd
  | .inr x =>
    have hr : am_rv ad vF x = .null ∨ ∃ y, am_rv ad vF x = .ref y := am_rv_or hvF x
    match kd, b with
    | 0, b => intro _ hkd; cases hkd
    | kd + 1, 0 =>
      intro hd _
      obtain ⟨hd, h3⟩ := am_and hd
      obtain ⟨hd1, h2⟩ := am_d1_ok hd
      have k := k _ h2
      simp only [am_enc] at hLv k
      rcases hr with hr | ⟨y, hr⟩
      · rw [hr] at hLv k; exact lv_aload_nN hx hb hd1 (am_f4 h3) hLv k
      · rw [hr] at hLv k; exact lv_aload_n hx hb hd1 (am_f4 h3) hLv k
    | kd + 1, b + 1 =>
      intro hd _
      obtain ⟨hd1, h2⟩ := am_d1_ok hd
      have k := k _ h2
      simp only [am_enc] at hLv k
      rcases hr with hr | ⟨y, hr⟩
      · rw [hr] at hLv k; exact lv_aloadN hx hb hd1 hLv k
      · rw [hr] at hLv k; exact lv_aload hx hb hd1 hLv k

theorem am_s_istore (X : am_Cx p R s m args c cells slots D ad cA vF C own nL cc) {n kd b : Nat} : am_SS p l e R s m args below meth c cells slots Q D ad cA vF C own rt nL cc ps call res (.istore n, kd, b) := by
  intro bp nx hd ls st M ks kj h hs hj hn hv hM H locs L hL hP hS
  obtain ⟨hx, hb, hml, hown, hts, hK, hSt, hinj, hvF, hRf, hRl, hRl2, hcs⟩ := id X
  rcases st with _ | ⟨v, st⟩
  · cases h
  obtain ⟨hkd, h⟩ := am_cond_some h
  obtain ⟨hkd, hlt⟩ := am_and hkd
  have hlt : n < ls.length := Nat.le_of_ble_eq_true hlt
  have hok := hv _ List.mem_cons_self
  have hlh := am_lok_has hvF hL
  have k := fun (q : Nat) (hq : nx = q) (L' : Array Slot) (h' : lv_has L' ls.length ((n, am_enc ad vF v) :: (am_lv ad vF ls).filter (fun q => !(q.1 == n) && !(q.1 + 1 == n && q.2.category == 2)))) => (hq ▸ hs _ _ _ h (by rw [List.length_set]; exact hn) (am_vtl hv) hM H locs L' (am_lok_set hvF hL hlt hok h') hP hS : W p l e R s m args below meth c H locs cells slots Q (F0 m q L' (st.map (am_enc ad vF))))
  revert hd hkd
  match v with
  | .inl x =>
    match kd, b with
    | 0, 0 => intro hd _; obtain ⟨hd, h3⟩ := am_and hd; obtain ⟨hd1, h2⟩ := am_d1_ok hd; exact lv_istore_n hx hb hd1 (am_f4 h3) hlh hlt rfl (k _ h2)
    | 0, b + 1 => intro hd _; obtain ⟨hd1, h2⟩ := am_d1_ok hd; exact lv_istore hx hb hd1 hlh hlt rfl (k _ h2)
    | kd + 1, b => intro _ hkd; cases hkd
  | .inr x =>
    have hr : am_rv ad vF x = .null ∨ ∃ y, am_rv ad vF x = .ref y := am_rv_or hvF x
    match kd, b with
    | 0, b => intro _ hkd; cases hkd
    | kd + 1, 0 =>
      intro hd _
      obtain ⟨hd, h3⟩ := am_and hd
      obtain ⟨hd1, h2⟩ := am_d1_ok hd
      have k := k _ h2
      show W p l e R s m args below meth c H locs cells slots Q (F0 m bp L (am_rv ad vF x :: st.map (am_enc ad vF)))
      simp only [am_enc] at k
      rcases hr with hr | ⟨y, hr⟩
      · rw [hr] at k ⊢; exact lv_astore_nN hx hb hd1 (am_f4 h3) hlh hlt rfl k
      · rw [hr] at k ⊢; exact lv_astore_n hx hb hd1 (am_f4 h3) hlh hlt rfl k
    | kd + 1, b + 1 =>
      intro hd _
      obtain ⟨hd1, h2⟩ := am_d1_ok hd
      have k := k _ h2
      show W p l e R s m args below meth c H locs cells slots Q (F0 m bp L (am_rv ad vF x :: st.map (am_enc ad vF)))
      simp only [am_enc] at k
      rcases hr with hr | ⟨y, hr⟩
      · rw [hr] at k ⊢; exact lv_astoreN hx hb hd1 hlh hlt rfl k
      · rw [hr] at k ⊢; exact lv_astore hx hb hd1 hlh hlt rfl k

theorem am_s_iinc (X : am_Cx p R s m args c cells slots D ad cA vF C own nL cc) {n a b : Nat} {z : Int} : am_SS p l e R s m args below meth c cells slots Q D ad cA vF C own rt nL cc ps call res (.iinc n z, a, b) := by
  intro bp nx hd ls st M ks kj h hs hj hn hv hM H locs L hL hP hS
  obtain ⟨hx, hb, hml, hown, hts, hK, hSt, hinj, hvF, hRf, hRl, hRl2, hcs⟩ := id X
  obtain ⟨v, hlv, h⟩ := am_lo_some h
  obtain ⟨x, rfl, h⟩ := am_vi_some h
  obtain ⟨hd1, rfl⟩ := am_d1_ok hd
  have hlt : n < ls.length := (List.getElem?_eq_some_iff.mp hlv).1
  have hlh := am_lok_has hvF hL
  obtain ⟨i, hi⟩ := am_lv_at (ad := ad) (vF := vF) hlv
  exact lv_iinc (k := i) hx hb hd1 hlh hi (am_e_add x z).symm hlt rfl (fun L' h' => hs _ _ _ h (by rw [List.length_set]; exact hn) hv hM H locs L' (am_lok_set (v := .inl (am_wrap (x + z))) hvF hL hlt (am_in_wrap _) h') hP hS)

theorem am_s_ifCond (X : am_Cx p R s m args c cells slots D ad cA vF C own nL cc) {cd : Jvm.ClassFile.Cond} {t : Int} {a b : Nat} : am_SS p l e R s m args below meth c cells slots Q D ad cA vF C own rt nL cc ps call res (.ifCond cd t, a, b) := by
  intro bp nx hd ls st M ks kj h hs hj hn hv hM H locs L hL hP hS
  obtain ⟨hx, hb, hml, hown, hts, hK, hSt, hinj, hvF, hRf, hRl, hRl2, hcs⟩ := id X
  rcases st with _ | ⟨x | x, st⟩ <;> try (exact (am_no h).elim)
  have vx : am_in x := hv _ List.mem_cons_self
  have vs := am_vtl hv
  obtain ⟨hd1, rfl⟩ := am_d1_ok hd
  revert h hd1
  cases cd
  · intro h hd1
    exact lv_if_eq (tgt := ps.getD t.toNat 0) hx hb hd1 (am_off_ok _ _ _) (fun q => (hj _ _ _ _ ((if_pos ((am_eq0 vx).mp q)).symm.trans h) hn vs hM H locs L hL hP hS)) (fun q => (hs _ _ _ ((if_neg (fun z => q ((am_eq0 vx).mpr z))).symm.trans h) hn vs hM H locs L hL hP hS))
  · intro h hd1
    exact lv_if_ne (tgt := ps.getD t.toNat 0) hx hb hd1 (am_off_ok _ _ _) (fun q => (hj _ _ _ _ ((if_neg (fun z => q ((am_eq0 vx).mpr z))).symm.trans h) hn vs hM H locs L hL hP hS)) (fun q => (hs _ _ _ ((if_pos ((am_eq0 vx).mp q)).symm.trans h) hn vs hM H locs L hL hP hS))
  · intro h hd1
    exact lv_if_lt (tgt := ps.getD t.toNat 0) hx hb hd1 (am_off_ok _ _ _) (fun q => (hj _ _ _ _ ((if_pos ((am_lt0 vx).mp q)).symm.trans h) hn vs hM H locs L hL hP hS)) (fun q => (hs _ _ _ ((if_neg (fun z => q ((am_lt0 vx).mpr z))).symm.trans h) hn vs hM H locs L hL hP hS))
  · intro h hd1
    exact lv_if_ge (tgt := ps.getD t.toNat 0) hx hb hd1 (am_off_ok _ _ _) (fun q => (hj _ _ _ _ ((if_neg (fun z => absurd ((am_le (x := 0) (by constructor <;> decide) vx).mp q) (by omega))).symm.trans h) hn vs hM H locs L hL hP hS)) (fun q => (hs _ _ _ ((if_pos (Int.not_le.mp (fun z => q ((am_le (x := 0) (by constructor <;> decide) vx).mpr z)))).symm.trans h) hn vs hM H locs L hL hP hS))
  · intro h hd1
    exact lv_if_gt (tgt := ps.getD t.toNat 0) hx hb hd1 (am_off_ok _ _ _) (fun q => (hj _ _ _ _ ((if_pos ((am_0lt vx).mp q)).symm.trans h) hn vs hM H locs L hL hP hS)) (fun q => (hs _ _ _ ((if_neg (fun z => q ((am_0lt vx).mpr z))).symm.trans h) hn vs hM H locs L hL hP hS))
  · intro h hd1
    exact lv_if_le (tgt := ps.getD t.toNat 0) hx hb hd1 (am_off_ok _ _ _) (fun q => (hj _ _ _ _ ((if_neg (fun z => absurd ((am_le (y := 0) vx (by constructor <;> decide)).mp q) (by omega))).symm.trans h) hn vs hM H locs L hL hP hS)) (fun q => (hs _ _ _ ((if_pos (Int.not_le.mp (fun z => q ((am_le (y := 0) vx (by constructor <;> decide)).mpr z)))).symm.trans h) hn vs hM H locs L hL hP hS))

theorem am_s_if_icmp (X : am_Cx p R s m args c cells slots D ad cA vF C own nL cc) {cd : Jvm.ClassFile.Cond} {t : Int} {a b : Nat} : am_SS p l e R s m args below meth c cells slots Q D ad cA vF C own rt nL cc ps call res (.if_icmp cd t, a, b) := by
  intro bp nx hd ls st M ks kj h hs hj hn hv hM H locs L hL hP hS
  obtain ⟨hx, hb, hml, hown, hts, hK, hSt, hinj, hvF, hRf, hRl, hRl2, hcs⟩ := id X
  rcases st with _ | ⟨y | y, _ | ⟨x | x, st⟩⟩ <;> try (exact (am_no h).elim)
  have vy : am_in y := hv _ List.mem_cons_self
  have vx : am_in x := hv _ (List.mem_cons_of_mem _ List.mem_cons_self)
  have vs := am_vtl (am_vtl hv)
  obtain ⟨hd1, rfl⟩ := am_d1_ok hd
  revert h hd1
  cases cd
  · intro h hd1
    exact lv_icmp_eq (tgt := ps.getD t.toNat 0) hx hb hd1 (am_off_ok _ _ _) (fun q => (hj _ _ _ _ ((if_pos ((am_eq vx vy).mp q)).symm.trans h) hn vs hM H locs L hL hP hS)) (fun q => (hs _ _ _ ((if_neg (fun z => q ((am_eq vx vy).mpr z))).symm.trans h) hn vs hM H locs L hL hP hS))
  · intro h hd1
    exact lv_icmp_ne (tgt := ps.getD t.toNat 0) hx hb hd1 (am_off_ok _ _ _) (fun q => (hj _ _ _ _ ((if_neg (fun z => q ((am_eq vx vy).mpr z))).symm.trans h) hn vs hM H locs L hL hP hS)) (fun q => (hs _ _ _ ((if_pos ((am_eq vx vy).mp q)).symm.trans h) hn vs hM H locs L hL hP hS))
  · intro h hd1
    exact lv_icmp_lt (tgt := ps.getD t.toNat 0) hx hb hd1 (am_off_ok _ _ _) (fun q => (hj _ _ _ _ ((if_pos ((am_lt vx vy).mp q)).symm.trans h) hn vs hM H locs L hL hP hS)) (fun q => (hs _ _ _ ((if_neg (fun z => q ((am_lt vx vy).mpr z))).symm.trans h) hn vs hM H locs L hL hP hS))
  · intro h hd1
    exact lv_icmp_ge (tgt := ps.getD t.toNat 0) hx hb hd1 (am_off_ok _ _ _) (fun q => (hj _ _ _ _ ((if_neg (fun z => absurd ((am_le vy vx).mp q) (by omega))).symm.trans h) hn vs hM H locs L hL hP hS)) (fun q => (hs _ _ _ ((if_pos (Int.not_le.mp (fun z => q ((am_le vy vx).mpr z)))).symm.trans h) hn vs hM H locs L hL hP hS))
  · intro h hd1
    exact lv_icmp_gt (tgt := ps.getD t.toNat 0) hx hb hd1 (am_off_ok _ _ _) (fun q => (hj _ _ _ _ ((if_pos ((am_lt vy vx).mp q)).symm.trans h) hn vs hM H locs L hL hP hS)) (fun q => (hs _ _ _ ((if_neg (fun z => q ((am_lt vy vx).mpr z))).symm.trans h) hn vs hM H locs L hL hP hS))
  · intro h hd1
    exact lv_icmp_le (tgt := ps.getD t.toNat 0) hx hb hd1 (am_off_ok _ _ _) (fun q => (hj _ _ _ _ ((if_neg (fun z => absurd ((am_le vx vy).mp q) (by omega))).symm.trans h) hn vs hM H locs L hL hP hS)) (fun q => (hs _ _ _ ((if_pos (Int.not_le.mp (fun z => q ((am_le vx vy).mpr z)))).symm.trans h) hn vs hM H locs L hL hP hS))

theorem am_s_goto (X : am_Cx p R s m args c cells slots D ad cA vF C own nL cc) {t : Int} {a b : Nat} : am_SS p l e R s m args below meth c cells slots Q D ad cA vF C own rt nL cc ps call res (.goto t, a, b) := by
  intro bp nx hd ls st M ks kj h hs hj hn hv hM H locs L hL hP hS
  obtain ⟨hx, hb, hml, hown, hts, hK, hSt, hinj, hvF, hRf, hRl, hRl2, hcs⟩ := id X
  exact lv_goto (tgt := ps.getD t.toNat 0) hx hb (of_decide_eq_true hd) (am_off_ok _ _ _) (hj _ _ _ _ h hn hv hM H locs L hL hP hS)

theorem am_s_tableswitch (X : am_Cx p R s m args c cells slots D ad cA vF C own nL cc) {d lo hi : Int} {ts : Array Int} {a b : Nat} : am_SS p l e R s m args below meth c cells slots Q D ad cA vF C own rt nL cc ps call res (.tableswitch d lo hi ts, a, b) := by
  intro bp nx hd ls st M ks kj h hs hj hn hv hM H locs L hL hP hS
  obtain ⟨hx, hb, hml, hown, hts, hK, hSt, hinj, hvF, hRf, hRl, hRl2, hcs⟩ := id X
  rcases st with _ | ⟨x | x, st⟩ <;> try (exact (am_no h).elim)
  have vx : am_in x := hv _ List.mem_cons_self
  have vs := am_vtl hv
  obtain ⟨hd1, h2⟩ := am_and hd
  have hd1 := of_decide_eq_true hd1
  have h2 : hi = lo + (ts.size : Int) - 1 := of_decide_eq_true h2
  have h : am_sw x d (fun t => kj t ls st M) lo ts.toList = some res := h
  rcases am_sw_cases (fun t => kj t ls st M) ts.toList lo with ⟨g1, g2⟩ | ⟨i, t, g1, g2, g3⟩
  · rw [g2] at h
    refine lv_tableOut (tgt := ps.getD d.toNat 0) hx hb hd1 ?_ (am_off_ok _ _ _) (hj _ _ _ _ h hn vs hM H locs L hL hP hS)
    rw [am_toInt vx, h2]
    have : ts.toList.length = ts.size := by simp
    omega
  · rw [g3] at h
    have hlt : i < ts.size := by
      have := (List.getElem?_eq_some_iff.mp g2).1
      simpa using this
    refine lv_tableIn (tgt := ps.getD t.toNat 0) (off := am_off ps bp t) hx hb hd1 ?_ ?_ ?_ (am_off_ok _ _ _) (hj _ _ _ _ h hn vs hM H locs L hL hP hS)
    · rw [am_toInt vx]; omega
    · rw [am_toInt vx]; omega
    · rw [am_toInt vx, show (x - lo).toNat = i from by omega, Array.getElem?_map, ← Array.getElem?_toList, g2]
      rfl

theorem am_s_lookupswitch (X : am_Cx p R s m args c cells slots D ad cA vF C own nL cc) {d : Int} {ts : Array (Int × Int)} {a b : Nat} : am_SS p l e R s m args below meth c cells slots Q D ad cA vF C own rt nL cc ps call res (.lookupswitch d ts, a, b) := by
  intro bp nx hd ls st M ks kj h hs hj hn hv hM H locs L hL hP hS
  obtain ⟨hx, hb, hml, hown, hts, hK, hSt, hinj, hvF, hRf, hRl, hRl2, hcs⟩ := id X
  rcases st with _ | ⟨x | x, st⟩ <;> try (exact (am_no h).elim)
  have vx : am_in x := hv _ List.mem_cons_self
  have vs := am_vtl hv
  obtain ⟨hd1, h2⟩ := am_and hd
  have hd1 := of_decide_eq_true hd1
  have h : am_swl x d (fun t => kj t ls st M) ts.toList = some res := h
  obtain ⟨t, g1, g2⟩ := am_swl_cases (am_off ps bp) x d (fun t => kj t ls st M) ts.toList
  rw [g2] at h
  refine lv_lookup (tgt := ps.getD t.toNat 0) (off := am_off ps bp t) hx hb hd1 ?_ ?_ (am_off_ok _ _ _) (hj _ _ _ _ h hn vs hM H locs L hL hP hS)
  · rw [Array.toList_map]
    exact am_sorted _ _ h2
  · rw [am_toInt vx, Array.toList_map]
    exact g1

theorem am_s_getfield (X : am_Cx p R s m args c cells slots D ad cA vF C own nL cc) {k ci b : Nat} : am_SS p l e R s m args below meth c cells slots Q D ad cA vF C own rt nL cc ps call res (.getfield k, ci, b) := by
  intro bp nx hd ls st M ks kj h hs hj hn hv hM H locs L hL hP hS
  obtain ⟨hx, hb, hml, hown, hts, hK, hSt, hinj, hvF, hRf, hRl, hRl2, hcs⟩ := id X
  rcases st with _ | ⟨x | q, st⟩ <;> try (exact (am_no h).elim)
  obtain ⟨hc, h⟩ := am_cond_some h
  have hc : am_cls q = ci := Nat.eq_of_beq_eq_true hc
  obtain ⟨hd, h3⟩ := am_and hd
  obtain ⟨hd1, rfl⟩ := am_d1_ok hd
  have kk := hs _ _ _ h hn (am_vc (v := .inl (M q k)) (hM.1 q k) (am_vtl hv)) hM H locs L hL hP hS
  revert h3
  cases h8 : Nat.beq ci 8 with
  | true =>
    intro h3
    obtain ⟨rfl, rfl, rfl⟩ := of_decide_eq_true h3
    have h8 := Nat.eq_of_beq_eq_true h8
    obtain ⟨i, hi, rfl⟩ := am_str (hc.trans h8)
    obtain ⟨g1, g2, g3, g4, g5⟩ := hSt.2.2.2.2.1 i hi
    have e9 : M (300 + i) ((0 : Nat) : Int) = 0 := by rw [hM.2 _ (by omega)]; exact g5
    rw [List.map_cons, show am_enc ad vF (.inl (M (300 + i) ((0 : Nat) : Int))) = .int 0 from by rw [e9]; rfl] at kk
    show W p l e R s m args below meth c H locs cells slots Q (F0 m bp L (am_rv ad vF (300 + i) :: st.map (am_enc ad vF)))
    rw [am_rv, if_neg (by omega)]
    exact vk_getf hx hb g2 hS hown (hts _ (lw_g am_l_coder rfl)) (fun _ h9 => h9) hd1 kk
  | false =>
    intro h3
    obtain ⟨Cn, T, N, f1, f2, f3, f4, f5, f6⟩ := am_fl_all _ (am_mem h3)
    dsimp only at f1 f2 f3 f4 f5 f6
    have hq : q < 199 := am_own hc (Or.inl f6)
    show W p l e R s m args below meth c H locs cells slots Q (F0 m bp L (am_rv ad vF q :: st.map (am_enc ad vF)))
    rw [am_rv, if_neg (by omega)]
    refine va_get (v := .int (Int32.ofInt (M q k))) hx hb hts (am_cf_all ci _ f1).2.2 hown hK hP q (am_ws_o hq hc f6) f1 k f2 (hts _ (lw_g f4 rfl)) (f3 ▸ fun _ h9 => h9) ?_ hd1 kk
    rw [am_fs_get (am_nf_ok f1 ▸ f2)]
    simp [am_fld, f5]

theorem am_s_checkcast (X : am_Cx p R s m args c cells slots D ad cA vF C own nL cc) {k ci b : Nat} : am_SS p l e R s m args below meth c cells slots Q D ad cA vF C own rt nL cc ps call res (.checkcast k, ci, b) := by
  intro bp nx hd ls st M ks kj h hs hj hn hv hM H locs L hL hP hS
  obtain ⟨hx, hb, hml, hown, hts, hK, hSt, hinj, hvF, hRf, hRl, hRl2, hcs⟩ := id X
  rcases st with _ | ⟨x | q, st⟩ <;> try (exact (am_no h).elim)
  obtain ⟨hc, h⟩ := am_cond_some h
  have hc : am_cls q = ci := Nat.eq_of_beq_eq_true hc
  obtain ⟨hd, h3⟩ := am_and hd
  obtain ⟨hd1, rfl⟩ := am_d1_ok hd
  have kk := hs _ _ _ h hn (am_vc (v := .inr (am_rf q k)) trivial (am_vtl hv)) hM H locs L hL hP hS
  revert h3
  cases h8 : Nat.beq ci 8 with
  | true =>
    intro h3
    obtain ⟨rfl, rfl, rfl⟩ := of_decide_eq_true h3
    have h8 := Nat.eq_of_beq_eq_true h8
    obtain ⟨i, hi, rfl⟩ := am_str (hc.trans h8)
    obtain ⟨g1, g2, g3, g4, g5⟩ := hSt.2.2.2.2.1 i hi
    have e9 : am_rf (300 + i) 0 = 400 + i := by
      unfold am_rf
      rw [hc, h8]
      show 300 + i + 100 = 400 + i
      omega
    rw [List.map_cons, show am_enc ad vF (.inr (am_rf (300 + i) ((0 : Nat) : Int))) = .ref (ad (400 + i)) from by
      show am_rv ad vF (am_rf (300 + i) 0) = _
      rw [e9, am_rv, if_neg (by omega)]] at kk
    show W p l e R s m args below meth c H locs cells slots Q (F0 m bp L (am_rv ad vF (300 + i) :: st.map (am_enc ad vF)))
    rw [am_rv, if_neg (by omega)]
    exact vk_getf hx hb g3 hS hown (hts _ (lw_g am_l_value rfl)) (fun _ h9 => h9) hd1 kk
  | false =>
    intro h3
    obtain ⟨Cn, T, N, f1, f2, f3, f4, f5, f6⟩ := am_fl_all _ (am_mem h3)
    dsimp only at f1 f2 f3 f4 f5 f6
    have hq : q < 199 := am_own hc (Or.inl f6)
    show W p l e R s m args below meth c H locs cells slots Q (F0 m bp L (am_rv ad vF q :: st.map (am_enc ad vF)))
    have hr : am_rf q k < 199 := am_rf_own q hq k (by rw [hc]; exact f5)
    rw [List.map_cons, show am_enc ad vF (.inr (am_rf q k)) = .ref (ad (am_rf q k)) from by
      show am_rv ad vF (am_rf q k) = _
      rw [am_rv, if_neg (by omega)]] at kk
    rw [am_rv, if_neg (by omega)]
    refine va_get (v := .ref (ad (am_rf q k))) hx hb hts (am_cf_all ci _ f1).2.2 hown hK hP q (am_ws_o hq hc f6) f1 k f2 (hts _ (lw_g f4 rfl)) (f3 ▸ fun _ h9 => h9) ?_ hd1 kk
    rw [am_fs_get (am_nf_ok f1 ▸ f2)]
    simp [am_fld, f5]

theorem am_s_putfield (X : am_Cx p R s m args c cells slots D ad cA vF C own nL cc) {k ci b : Nat} : am_SS p l e R s m args below meth c cells slots Q D ad cA vF C own rt nL cc ps call res (.putfield k, ci, b) := by
  intro bp nx hd ls st M ks kj h hs hj hn hv hM H locs L hL hP hS
  obtain ⟨hx, hb, hml, hown, hts, hK, hSt, hinj, hvF, hRf, hRl, hRl2, hcs⟩ := id X
  rcases st with _ | ⟨x | x, _ | ⟨q | q, st⟩⟩ <;> try (exact (am_no h).elim)
  have vx : am_in x := hv _ List.mem_cons_self
  obtain ⟨hc, h⟩ := am_cond_some h
  have hc : am_cls q = ci := Nat.eq_of_beq_eq_true hc
  obtain ⟨hd, h3⟩ := am_and hd
  obtain ⟨hd1, rfl⟩ := am_d1_ok hd
  obtain ⟨Cn, T, N, f1, f2, f3, f4, f5, f6, f7, f8⟩ := am_fp_all _ (am_mem h3)
  dsimp only at f1 f2 f3 f4 f5 f6 f7 f8
  obtain ⟨hz, h⟩ := am_put_some h
  have hq : q < 199 := am_own hc (Or.inl f6)
  obtain ⟨⟨ty0, hty⟩, hnm, hws⟩ := am_cf_all ci _ f1
  show W p l e R s m args below meth c H locs cells slots Q (F0 m bp L (.int (Int32.ofInt x) :: am_rv ad vF q :: st.map (am_enc ad vF)))
  rw [am_rv, if_neg (by omega)]
  refine va_put (v := .int (Int32.ofInt x)) hx hb hts hws ty0 hty hnm hown hK hP (am_ws_D hinj M) hS q (am_ws_o hq hc f6) f1 k f2 (hts _ (lw_g f4 rfl)) (f3 ▸ fun _ h9 => h9) f7 f8 ?_ ?_ ?_ hd1 (fun H1 locs1 hP1 _ hS1 => ?_)
  · cases hb2 : Nat.beq (b % 2) 1 with
    | true => rcases hz hb2 with rfl | rfl <;> rfl
    | false => rfl
  · cases hb2 : Nat.beq (b % 2) 1 with
    | true => rcases hz hb2 with rfl | rfl <;> rfl
    | false => rfl
  · rw [am_fs, List.length_map, List.length_range]; exact am_nf_ok f1 ▸ f2
  · rw [am_set_f ad cA hc f6 f5] at hP1
    exact hs _ _ _ h hn (am_vtl (am_vtl hv)) (am_mok_upd hM (by omega) vx) H1 locs1 L hL hP1 hS1

theorem am_s_iaload (X : am_Cx p R s m args c cells slots D ad cA vF C own nL cc) {a b : Nat} : am_SS p l e R s m args below meth c cells slots Q D ad cA vF C own rt nL cc ps call res (.iaload, a, b) := by
  intro bp nx hd ls st M ks kj h hs hj hn hv hM H locs L hL hP hS
  obtain ⟨hx, hb, hml, hown, hts, hK, hSt, hinj, hvF, hRf, hRl, hRl2, hcs⟩ := id X
  rcases st with _ | ⟨i | i, _ | ⟨q | q, st⟩⟩ <;> try (exact (am_no h).elim)
  have vi : am_in i := hv _ List.mem_cons_self
  obtain ⟨hc, h⟩ := am_cond_some h
  obtain ⟨⟨hi0, hi1⟩, h⟩ := am_chk_some h
  obtain ⟨hd1, rfl⟩ := am_d1_ok hd
  have kk := hs _ _ _ h hn (am_vc (v := .inl (M q i)) (hM.1 q i) (am_vtl (am_vtl hv))) hM H locs L hL hP hS
  show W p l e R s m args below meth c H locs cells slots Q (F0 m bp L (.int (Int32.ofInt i) :: am_rv ad vF q :: st.map (am_enc ad vF)))
  have ei : ((Int32.ofInt i).toNatClampNeg : Int) = i := by rw [am_clamp vi]; omega
  rcases Bool.or_eq_true_iff.mp hc with hc | hc
  · have hc : am_cls q = 9 := Nat.eq_of_beq_eq_true hc
    have hq : q < 199 := am_own hc (by omega)
    rw [am_rv, if_neg (by omega)]
    have hln : am_len M q = am_ln q := am_len_own hq M
    refine va_iald hx hb hK hP q 0 (am_ws_r hq hc (Or.inl rfl)) rfl (am_vin vi ⟨hi0, by rw [← hln]; exact hi1⟩) hd1 ?_
    rw [show am_row M q (Int32.ofInt i).toNatClampNeg = Int32.ofInt (M q i) from by rw [am_row, ei]]
    exact kk
  · have hc : am_cls q = 12 := Nat.eq_of_beq_eq_true hc
    obtain ⟨hq1, hq2⟩ := am_stt hc
    obtain ⟨hT, hpos⟩ := hSt.2.1 q hq1 hq2
    rw [am_rv, if_neg (by omega)]
    have hMC : M q = C q := hM.2 q (by omega)
    have hlen : am_len M q = am_len C q := am_len_C hM q
    refine va_ti hx hb hT hS (am_vin vi ⟨hi0, by rw [hlen] at hi1; omega⟩) (v := .int (Int32.ofInt (M q i))) ?_ hd1 kk
    rw [ei, hMC]

theorem am_s_caload (X : am_Cx p R s m args c cells slots D ad cA vF C own nL cc) {a b : Nat} : am_SS p l e R s m args below meth c cells slots Q D ad cA vF C own rt nL cc ps call res (.caload, a, b) := by
  intro bp nx hd ls st M ks kj h hs hj hn hv hM H locs L hL hP hS
  obtain ⟨hx, hb, hml, hown, hts, hK, hSt, hinj, hvF, hRf, hRl, hRl2, hcs⟩ := id X
  rcases st with _ | ⟨i | i, _ | ⟨q | q, st⟩⟩ <;> try (exact (am_no h).elim)
  have vi : am_in i := hv _ List.mem_cons_self
  obtain ⟨hc, h⟩ := am_cond_some h
  obtain ⟨⟨hi0, hi1⟩, h⟩ := am_chk_some h
  obtain ⟨hd1, rfl⟩ := am_d1_ok hd
  have kk := hs _ _ _ h hn (am_vc (v := .inl (M q i)) (hM.1 q i) (am_vtl (am_vtl hv))) hM H locs L hL hP hS
  show W p l e R s m args below meth c H locs cells slots Q (F0 m bp L (.int (Int32.ofInt i) :: am_rv ad vF q :: st.map (am_enc ad vF)))
  have ei : ((Int32.ofInt i).toNatClampNeg : Int) = i := by rw [am_clamp vi]; omega
  have hc : am_cls q = 10 := Nat.eq_of_beq_eq_true hc
  have hq : q < 199 := am_own hc (by omega)
  rw [am_rv, if_neg (by omega)]
  have hln : am_len M q = am_ln q := am_len_own hq M
  refine va_cald hx hb hK hP q 1 (am_ws_r hq hc (Or.inr rfl)) rfl (am_vin vi ⟨hi0, by rw [← hln]; exact hi1⟩) hd1 ?_
  rw [show am_row M q (Int32.ofInt i).toNatClampNeg = Int32.ofInt (M q i) from by rw [am_row, ei]]
  exact kk

theorem am_s_baload (X : am_Cx p R s m args c cells slots D ad cA vF C own nL cc) {a b : Nat} : am_SS p l e R s m args below meth c cells slots Q D ad cA vF C own rt nL cc ps call res (.baload, a, b) := by
  intro bp nx hd ls st M ks kj h hs hj hn hv hM H locs L hL hP hS
  obtain ⟨hx, hb, hml, hown, hts, hK, hSt, hinj, hvF, hRf, hRl, hRl2, hcs⟩ := id X
  rcases st with _ | ⟨i | i, _ | ⟨q | q, st⟩⟩ <;> try (exact (am_no h).elim)
  have vi : am_in i := hv _ List.mem_cons_self
  obtain ⟨hc, h⟩ := am_cond_some h
  obtain ⟨⟨hi0, hi1⟩, h⟩ := am_chk_some h
  obtain ⟨hd1, rfl⟩ := am_d1_ok hd
  have kk := hs _ _ _ h hn (am_vc (v := .inl (M q i)) (hM.1 q i) (am_vtl (am_vtl hv))) hM H locs L hL hP hS
  show W p l e R s m args below meth c H locs cells slots Q (F0 m bp L (.int (Int32.ofInt i) :: am_rv ad vF q :: st.map (am_enc ad vF)))
  have ei : ((Int32.ofInt i).toNatClampNeg : Int) = i := by rw [am_clamp vi]; omega
  have hc : am_cls q = 13 := Nat.eq_of_beq_eq_true hc
  obtain ⟨j, hj, rfl⟩ := am_byt hc
  obtain ⟨g1, g2, g3, g4, g5⟩ := hSt.2.2.2.2.1 j hj
  rw [am_rv, if_neg (by omega)]
  have hMC : M (400 + j) = C (400 + j) := hM.2 _ (by omega)
  have hlen : am_len M (400 + j) = am_len C (400 + j) := am_len_C hM _
  have hpos := am_len_pos C (400 + j) (by omega)
  refine va_tb hx hb g4 hS (am_vin vi ⟨hi0, by rw [hlen] at hi1; omega⟩) (v := .int (Int32.ofInt (M (400 + j) i))) ?_ hd1 kk
  rw [ei, hMC]

theorem am_s_aaload (X : am_Cx p R s m args c cells slots D ad cA vF C own nL cc) {a b : Nat} : am_SS p l e R s m args below meth c cells slots Q D ad cA vF C own rt nL cc ps call res (.aaload, a, b) := by
  intro bp nx hd ls st M ks kj h hs hj hn hv hM H locs L hL hP hS
  obtain ⟨hx, hb, hml, hown, hts, hK, hSt, hinj, hvF, hRf, hRl, hRl2, hcs⟩ := id X
  rcases st with _ | ⟨i | i, _ | ⟨q | q, st⟩⟩ <;> try (exact (am_no h).elim)
  have vi : am_in i := hv _ List.mem_cons_self
  obtain ⟨hc, h⟩ := am_cond_some h
  obtain ⟨⟨hi0, hi1⟩, h⟩ := am_chk_some h
  obtain ⟨hd1, rfl⟩ := am_d1_ok hd
  have kk := hs _ _ _ h hn (am_vc (v := .inr (am_rf q i)) trivial (am_vtl (am_vtl hv))) hM H locs L hL hP hS
  show W p l e R s m args below meth c H locs cells slots Q (F0 m bp L (.int (Int32.ofInt i) :: am_rv ad vF q :: st.map (am_enc ad vF)))
  have ei : ((Int32.ofInt i).toNatClampNeg : Int) = i := by rw [am_clamp vi]; omega
  have hc : am_cls q = 11 ∨ am_cls q = 14 := by
    rcases Bool.or_eq_true_iff.mp hc with hc | hc
    · exact Or.inl (Nat.eq_of_beq_eq_true hc)
    · exact Or.inr (Nat.eq_of_beq_eq_true hc)
  have hq : q < 199 := by
    rcases hc with hc | hc
    · exact am_own hc (by omega)
    · exact am_own hc (by omega)
  have hln : am_len M q = am_ln q := am_len_own hq M
  have hr : am_rf q i < 199 := by
    have := am_rf_row q hq hc i.toNat (by rw [hln] at hi1; omega)
    rwa [show ((i.toNat : Nat) : Int) = i from by omega] at this
  rw [am_rv, if_neg (by omega)]
  rw [List.map_cons, show am_enc ad vF (.inr (am_rf q i)) = .ref (ad (am_rf q i)) from by
    show am_rv ad vF (am_rf q i) = _
    rw [am_rv, if_neg (by omega)]] at kk
  have fin : am_rrow ad q (Int32.ofInt i).toNatClampNeg = some (ad (am_rf q i)) := by rw [am_rrow, ei]
  rcases hc with hc | hc
  · refine va_aldq hx hb hK hP q 2 (am_ws_q hq hc (Or.inl rfl)) rfl (am_vin vi ⟨hi0, by rw [← hln]; exact hi1⟩) hd1 ?_
    rw [fin]
    exact kk
  · refine va_aldq hx hb hK hP q 3 (am_ws_q hq hc (Or.inr rfl)) rfl (am_vin vi ⟨hi0, by rw [← hln]; exact hi1⟩) hd1 ?_
    rw [fin]
    exact kk

theorem am_s_iastore (X : am_Cx p R s m args c cells slots D ad cA vF C own nL cc) {a b : Nat} : am_SS p l e R s m args below meth c cells slots Q D ad cA vF C own rt nL cc ps call res (.iastore, a, b) := by
  intro bp nx hd ls st M ks kj h hs hj hn hv hM H locs L hL hP hS
  obtain ⟨hx, hb, hml, hown, hts, hK, hSt, hinj, hvF, hRf, hRl, hRl2, hcs⟩ := id X
  rcases st with _ | ⟨x | x, _ | ⟨i | i, _ | ⟨q | q, st⟩⟩⟩ <;> try (exact (am_no h).elim)
  have vx : am_in x := hv _ List.mem_cons_self
  have vi : am_in i := hv _ (List.mem_cons_of_mem _ List.mem_cons_self)
  obtain ⟨hc, h⟩ := am_cond_some h
  obtain ⟨⟨hi0, hi1⟩, h⟩ := am_chk_some h
  obtain ⟨hd1, rfl⟩ := am_d1_ok hd
  have hc : am_cls q = 9 := Nat.eq_of_beq_eq_true hc
  have hq : q < 199 := am_own hc (by omega)
  show W p l e R s m args below meth c H locs cells slots Q (F0 m bp L (.int (Int32.ofInt x) :: .int (Int32.ofInt i) :: am_rv ad vF q :: st.map (am_enc ad vF)))
  rw [am_rv, if_neg (by omega)]
  have hln : am_len M q = am_ln q := am_len_own hq M
  refine va_iast hx hb hK hP (am_ws_D hinj M) hS q 0 (am_ws_r hq hc (by omega)) rfl (am_vin vi ⟨hi0, by rw [← hln]; exact hi1⟩) hd1 (fun H1 locs1 hP1 _ hS1 => ?_)
  rw [am_clamp vi, am_set_r ad cA hc (by omega) hi0] at hP1
  exact hs _ _ _ h hn (am_vtl (am_vtl (am_vtl hv))) (am_mok_upd hM (by omega) vx) H1 locs1 L hL hP1 hS1

theorem am_s_castore (X : am_Cx p R s m args c cells slots D ad cA vF C own nL cc) {a b : Nat} : am_SS p l e R s m args below meth c cells slots Q D ad cA vF C own rt nL cc ps call res (.castore, a, b) := by
  intro bp nx hd ls st M ks kj h hs hj hn hv hM H locs L hL hP hS
  obtain ⟨hx, hb, hml, hown, hts, hK, hSt, hinj, hvF, hRf, hRl, hRl2, hcs⟩ := id X
  rcases st with _ | ⟨x | x, _ | ⟨i | i, _ | ⟨q | q, st⟩⟩⟩ <;> try (exact (am_no h).elim)
  have vx : am_in x := hv _ List.mem_cons_self
  have vi : am_in i := hv _ (List.mem_cons_of_mem _ List.mem_cons_self)
  obtain ⟨hc, h⟩ := am_cond_some h
  obtain ⟨⟨hi0, hi1⟩, h⟩ := am_chk_some h
  obtain ⟨hd1, rfl⟩ := am_d1_ok hd
  have hc : am_cls q = 10 := Nat.eq_of_beq_eq_true hc
  have hq : q < 199 := am_own hc (by omega)
  show W p l e R s m args below meth c H locs cells slots Q (F0 m bp L (.int (Int32.ofInt x) :: .int (Int32.ofInt i) :: am_rv ad vF q :: st.map (am_enc ad vF)))
  rw [am_rv, if_neg (by omega)]
  have hln : am_len M q = am_ln q := am_len_own hq M
  refine va_cast hx hb hK hP (am_ws_D hinj M) hS q 1 (am_ws_r hq hc (by omega)) rfl (am_vin vi ⟨hi0, by rw [← hln]; exact hi1⟩) hd1 (fun H1 locs1 hP1 _ hS1 => ?_)
  rw [am_clamp vi, am_narc, am_set_r ad cA hc (by omega) hi0] at hP1
  exact hs _ _ _ h hn (am_vtl (am_vtl (am_vtl hv))) (am_mok_upd hM (by omega) (am_in_chr _)) H1 locs1 L hL hP1 hS1

theorem am_s_arraylength (X : am_Cx p R s m args c cells slots D ad cA vF C own nL cc) {a b : Nat} : am_SS p l e R s m args below meth c cells slots Q D ad cA vF C own rt nL cc ps call res (.arraylength, a, b) := by
  intro bp nx hd ls st M ks kj h hs hj hn hv hM H locs L hL hP hS
  obtain ⟨hx, hb, hml, hown, hts, hK, hSt, hinj, hvF, hRf, hRl, hRl2, hcs⟩ := id X
  rcases st with _ | ⟨q | q, st⟩ <;> try (exact (am_no h).elim)
  obtain ⟨hc, h⟩ := am_cond_some h
  obtain ⟨hc1, hc2⟩ := am_and hc
  have hc1 := Nat.le_of_ble_eq_true hc1
  have hc2 : am_cls q < 15 := Nat.le_of_ble_eq_true hc2
  obtain ⟨hd1, rfl⟩ := am_d1_ok hd
  have kk := hs _ _ _ h hn (am_vc (v := .inl (am_len M q)) (am_len_in hM q) (am_vtl hv)) hM H locs L hL hP hS
  show W p l e R s m args below meth c H locs cells slots Q (F0 m bp L (am_rv ad vF q :: st.map (am_enc ad vF)))
  have own : q < 199 → W p l e R s m args below meth c H locs cells slots Q (F0 m bp L (am_rv ad vF q :: st.map (am_enc ad vF))) := by
    intro hq
    rw [am_rv, if_neg (by omega)]
    have hln : am_len M q = am_ln q := am_len_own hq M
    have e9 : Int32.ofNat (am_ln q) = Int32.ofInt (am_len M q) := by
      rw [hln]; exact am_ofNat _
    rcases (show am_cls q = 9 ∨ am_cls q = 10 ∨ am_cls q = 11 ∨ am_cls q = 14 from by
      have := am_own_k q hq; omega) with k | k | k | k
    · exact va_alen hx hb hK hP q 0 (am_ws_r hq k (Or.inl rfl)) rfl e9 hd1 kk
    · exact va_alen hx hb hK hP q 1 (am_ws_r hq k (Or.inr rfl)) rfl e9 hd1 kk
    · exact va_alen hx hb hK hP q 2 (am_ws_q hq k (Or.inl rfl)) rfl e9 hd1 kk
    · exact va_alen hx hb hK hP q 3 (am_ws_q hq k (Or.inr rfl)) rfl e9 hd1 kk
  rcases (show am_cls q = 12 ∨ am_cls q = 13 ∨ (am_cls q = 9 ∨ am_cls q = 10 ∨ am_cls q = 11 ∨ am_cls q = 14) from by omega) with k | k | k
  · obtain ⟨hq1, hq2⟩ := am_stt k
    obtain ⟨hT, hpos⟩ := hSt.2.1 q hq1 hq2
    rw [am_rv, if_neg (by omega)]
    refine va_tlen hx hb hT hS ?_ hd1 kk
    rw [am_ofNat, am_len_C hM q]
    congr 1
    omega
  · obtain ⟨j, hj, rfl⟩ := am_byt k
    obtain ⟨g1, g2, g3, g4, g5⟩ := hSt.2.2.2.2.1 j hj
    rw [am_rv, if_neg (by omega)]
    have hpos := am_len_pos C (400 + j) (by omega)
    refine va_tlen hx hb g4 hS ?_ hd1 kk
    rw [am_ofNat, am_len_C hM (400 + j)]
    congr 1
    omega
  · refine own ?_
    rcases k with k | k | k | k
    · exact am_own k (by omega)
    · exact am_own k (by omega)
    · exact am_own k (by omega)
    · exact am_own k (by omega)

theorem am_s_lcmp (X : am_Cx p R s m args c cells slots D ad cA vF C own nL cc) {a b : Nat} : am_SS p l e R s m args below meth c cells slots Q D ad cA vF C own rt nL cc ps call res (.lcmp, a, b) := by
  intro bp nx hd ls st M ks kj h hs hj hn hv hM H locs L hL hP hS
  obtain ⟨hx, hb, hml, hown, hts, hK, hSt, hinj, hvF, hRf, hRl, hRl2, hcs⟩ := id X
  rcases st with _ | ⟨n | n, _ | ⟨j | j, _ | ⟨w | w, _ | ⟨i | i, _ | ⟨q | q, st⟩⟩⟩⟩⟩ <;> try (exact (am_no h).elim)
  have vn : am_in n := hv _ List.mem_cons_self
  have vj : am_in j := hv _ (List.mem_cons_of_mem _ List.mem_cons_self)
  have vi : am_in i := am_vtl (am_vtl (am_vtl hv)) _ List.mem_cons_self
  obtain ⟨hc, h⟩ := am_cond_some h
  obtain ⟨hcq, hcw⟩ := am_and hc
  obtain ⟨⟨hi0, hj0, hn0, hi1, hj1⟩, h⟩ := am_chk_some h
  obtain ⟨hd, h3⟩ := am_and hd
  obtain ⟨hd1, rfl⟩ := am_d1_ok hd
  obtain rfl : st = [] := by
    cases st with
    | nil => rfl
    | cons v st => exact (am_no h).elim
  have hcq : am_cls q = 9 := Nat.eq_of_beq_eq_true hcq
  have hcw : am_cls w = 9 := Nat.eq_of_beq_eq_true hcw
  have hq : q < 199 := am_own hcq (by omega)
  have hw : w < 199 := am_own hcw (by omega)
  have hlq : am_len M q = am_ln q := am_len_own hq M
  have hlw : am_len M w = am_ln w := am_len_own hw M
  rw [hlq] at hi1
  rw [hlw] at hj1
  show W p l e R s m args below meth c H locs cells slots Q (F0 m bp L [.int (Int32.ofInt n), .int (Int32.ofInt j), am_rv ad vF w, .int (Int32.ofInt i), am_rv ad vF q])
  rw [am_rv, if_neg (by omega), am_rv, if_neg (by omega)]
  refine va_copyi (q0 := q) (q1 := w) (t0 := 0) (t1 := 0) hx hb (by rw [hml, hL.1, hn]) hown (hts _ (lw_g (am_ac_all _ (am_mem h3)) rfl)) (hts _ (lw_g am_l_nat rfl)) (hts _ (lw_g am_l_stat rfl)) (hts _ (lw_g am_l_sys rfl)) hK hP (am_ws_D hinj M) hS (am_ws_r hq hcq (Or.inl rfl)) (am_ws_r hw hcw (Or.inl rfl)) rfl rfl rfl ?_ ?_ ?_ ?_ ?_ (fun _ _ => rfl) hRf (by simpa using hRl) hd1 (fun H1 locs1 hP1 _ hS1 => ?_)
  · rw [am_lt0 vi]; omega
  · rw [am_lt0 vj]; omega
  · rw [am_lt0 vn]; omega
  · rw [am_clamp vi, am_clamp vn]; omega
  · rw [am_clamp vj, am_clamp vn]; omega
  · rw [am_clamp vi, am_clamp vj, am_clamp vn, am_set_c ad cA hcw hi0 hj0 hn0] at hP1
    exact hs _ _ _ h hn (fun _ h => absurd h List.not_mem_nil) (am_mok_cpy hM (by omega)) H1 locs1 L hL hP1 hS1

end SND
