/-! SOUND: calls, returns; a run of the abstract machine is a contract of the real method -/
def am_wj (j : Nat) : List Cond := Cond.code (am_y j) (am_b j) (am_ml j) (am_rty (am_rt j)) :: lw_gd
def am_rm (d : Nat) : Room := { frames := d, cells := 0, slots := 0, locals := 40 * d }
def am_Pc (D : va_G) (ad : Nat → Nat) (cA : Nat → ClassId) (vF : Value) (C : am_M) (av : List Value) (M : am_M) : Array Value → State → Prop := va_Pc av (fun U => va_P D vwCl (am_ws ad cA M) U.heap ∧ va_K D vwCl (am_tys cA) U ∧ am_St ad vF C U U.heap)
def am_nrw (rt : Nat) (x : Int) : Prop := match rt with
  | 0 => True
  | 1 => x = 0 ∨ x = 1
  | 2 => 0 ≤ x ∧ x < 65536
  | _ => -128 ≤ x ∧ x < 128
def am_Qi (D : va_G) (ad : Nat → Nat) (cA : Nat → ClassId) (r : Int) (M' : am_M) : Array Value → State → Outcome → State → Prop := va_Qi (fun (r' : Int32) (_ : Unit) => r' = Int32.ofInt r) (fun _ t => va_P D vwCl (am_ws ad cA M') t.heap) (am_A ad)
def am_Qv (D : va_G) (ad : Nat → Nat) (cA : Nat → ClassId) (M' : am_M) : Array Value → State → Outcome → State → Prop := va_Qv (fun (_ : Unit) => True) (fun _ t => va_P D vwCl (am_ws ad cA M') t.heap) (am_A ad)
def am_Met (l : Launch) (D : va_G) (ad : Nat → Nat) (cA : Nat → ClassId) (vF : Value) (C : am_M) (d j : Nat) (args : List am_V) (M : am_M) (r : Int) (M' : am_M) : Prop :=
  (am_rt j = 9 → Met l (am_y j) (am_wj j) (am_rm d) (am_Pc D ad cA vF C (args.map (am_enc ad vF)) M) (am_Qv D ad cA M') 0 0 (am_A ad)) ∧
  (am_rt j ≠ 9 → Met l (am_y j) (am_wj j) (am_rm d) (am_Pc D ad cA vF C (args.map (am_enc ad vF)) M) (am_Qi D ad cA r M') 0 0 (am_A ad))
theorem am_good {w : Cond} (h : w ∈ lw_gd) : w ∈ lw_gd ∧ ((w.onTables && w.keeps) = true ∨ ∃ ty, w = .arrayClass ty) := ⟨h, lw_gd_good w h⟩
theorem am_St_move {ad : Nat → Nat} {vF : Value} {C : am_M} {s U : State} {H : Heap} (h : am_St ad vF C s H) (ha : s.vm.Alike U.vm) (hk : ∀ own k tx a, vk_R own k tx a s → vk_R own k tx a U) (hn : ∀ a i b n d g, va_Nw (.fieldLinkNest a i b n d g) s → va_Nw (.fieldLinkNest a i b n d g) U) : am_St ad vF C U H := by
  obtain ⟨h1, h2, h3, h4, h5, h6, h7⟩ := h
  refine ⟨fun i a b => va_Z.moved ha (h1 i a b), fun i a b => ⟨va_T.moved ha (h2 i a b).1, (h2 i a b).2⟩, va_Z.moved ha h3, va_Z.moved ha h4, fun i hi => ?_, fun q hq => ?_, fun q hq => hn _ _ _ _ _ _ (h7 q hq)⟩
  · obtain ⟨g1, g2, g3, g4, g5⟩ := h5 i hi
    exact ⟨va_O.moved ha g1, va_OF.moved ha g2, va_OF.moved ha g3, va_T.moved ha g4, g5⟩
  · obtain ⟨tx, g1, g2⟩ := h6 q hq
    exact ⟨tx, hk _ _ _ _ g1, g2⟩
theorem am_St_kept {ad : Nat → Nat} {vF : Value} {C : am_M} {s : State} {H H1 : Heap} (h : am_St ad vF C s H) (hq : ∀ a : Nat, a < H.size → ¬ am_A ad a → H1[a]? = H[a]?) : am_St ad vF C s H1 := by
  obtain ⟨h1, h2, h3, h4, h5, h6, h7⟩ := h
  refine ⟨fun i a b => (h1 i a b).kept hq, fun i a b => ⟨(h2 i a b).1.kept hq, (h2 i a b).2⟩, h3.kept hq, h4.kept hq, fun i hi => ?_, h6, h7⟩
  obtain ⟨g1, g2, g3, g4, g5⟩ := h5 i hi
  exact ⟨g1.kept hq, g2.kept hq, g3.kept hq, g4.kept hq, g5⟩
theorem am_St_call {ad : Nat → Nat} {vF : Value} {C : am_M} {s U : State} {H : Heap} {locs : List Loc} (h : am_St ad vF C s s.heap) (hS : va_S (am_A ad) s.heap H locs) (hU : U.heap = H) (hW : s.WarmedH U.vm) : am_St ad vF C U U.heap := by
  rw [hU]
  exact am_St_move (am_St_kept h hS.2.1) hW.alike (fun _ _ _ _ q => vk_R.warm hW q) (fun _ _ _ _ _ _ q => va_Nw.warmF hW q)
theorem am_St_same {ad : Nat → Nat} {vF : Value} {C : am_M} {u U : State} {H : Heap} (h : am_St ad vF C u H) (hv : u.vm = U.vm) : am_St ad vF C U H := am_St_move h (hv ▸ Vm.Alike.refl _) (fun _ _ _ _ q => vk_R.same hv.symm q) (fun _ _ _ _ _ _ q => va_Nw.same rfl hv q)
theorem am_blind (D : va_G) (ad : Nat → Nat) (cA : Nat → ClassId) (vF : Value) (C : am_M) (av : List Value) (M : am_M) : FrameBlind (am_Pc D ad cA vF C av M) := fun a U g mk h => ⟨h.1, h.2.1, va_K.moved (u := U) (U := U.calling g mk a) (Vm.Alike.refl U.vm) h.2.2.1, am_St_same h.2.2.2 rfl⟩
theorem am_split (st : List am_V) (n : Nat) (ad : Nat → Nat) (vF : Value) : st.map (am_enc ad vF) = (((st.take n).reverse).map (am_enc ad vF)).reverse ++ (st.drop n).map (am_enc ad vF) := by
  rw [← List.map_reverse, List.reverse_reverse, ← List.map_append, List.take_append_drop]

section SND
variable {p : Program} {l : Launch} {e : Env} {R : Room} {s : State} {m : MethodId} {args : Array Value} {below : List Frame} {meth : Method} {c : Code} {cells slots : Nat} {Q : State → Prop} {D : va_G} {ad : Nat → Nat} {cA : Nat → ClassId} {vF : Value} {C : am_M} {own rt nL : Nat} {cc : ByteArray} {ps : List Nat} {call : Nat → List am_V → am_M → am_R} {res : Int × am_M}
variable {d : Nat}

/-- what the callees keep -/
def am_Cl (l : Launch) (D : va_G) (ad : Nat → Nat) (cA : Nat → ClassId) (vF : Value) (C : am_M) (d : Nat) (call : Nat → List am_V → am_M → am_R) : Prop := ∀ j args M r M', call j args M = some (r, M') → j < 264 → args.length = am_na j → (∀ v ∈ args, am_vok v) → am_mok C M → am_Met l D ad cA vF C d j args M r M' ∧ am_mok C M' ∧ am_in r ∧ am_rcv j args = true
theorem am_s_invoke (X : am_Cx p R s m args c cells slots D ad cA vF C own nL cc) {j n b : Nat} (hcl : am_Cl l D ad cA vF C d call) (hr1 : d + 1 ≤ R.frames) (hr2 : 40 * d + 40 ≤ R.locals) : am_SS p l e R s m args below meth c cells slots Q D ad cA vF C own rt nL cc ps call res (.invokevirtual j, n, b) := by
  intro bp nx hd ls st M ks kj h hs hj hn hv hM H locs L hL hP hS
  obtain ⟨hx, hb, hml, hown, hts, hK, hSt, hinj, hvF, hRf, hRl, hRl2, hcs⟩ := id X
  obtain ⟨hlen, h⟩ := am_cond_some h
  obtain ⟨hlen, hlen2⟩ := am_and hlen
  have hlen := Nat.le_of_ble_eq_true hlen
  have hlen2 := Nat.le_of_ble_eq_true hlen2
  obtain ⟨hd, hb2⟩ := am_and hd
  obtain ⟨hd, hna⟩ := am_and hd
  obtain ⟨hd, hmk⟩ := am_and hd
  have hna : n = am_na j := Nat.eq_of_beq_eq_true hna
  have hb2 := Nat.eq_of_beq_eq_true hb2
  obtain ⟨hlk, hj264⟩ := am_mk_all _ (am_mem hmk)
  have hvr : ∀ v ∈ (st.take n).reverse, am_vok v := fun v q => hv v (List.mem_of_mem_take (List.mem_reverse.mp q))
  cases hc : call j (st.take n).reverse M with
  | none => rw [hc] at h; cases h
  | some rr =>
  obtain ⟨r, M'⟩ := rr
  rw [hc] at h
  have h : ks ls (cond (Nat.beq (b % 2) 1) (.inl r :: st.drop n) (st.drop n)) M' = some res := h
  obtain ⟨hMet, hM', hr', hrcv⟩ := hcl j _ M r M' hc hj264 (by rw [List.length_reverse, List.length_take]; omega) hvr hM
  obtain ⟨mf1, mf2, mf3, mf4, mf5, mf6, mf7, mf8⟩ := am_mfa264 j hj264
  have hrest : 2 * (F0 m bp L (st.map (am_enc ad vF))).monitorRoom + (((st.drop n).map (am_enc ad vF)).map fun v => v.category).sum ≤ 8 := lv_room (am_cats hvF hlen)
  have hst : st.map (am_enc ad vF) = (((st.take n).reverse).map (am_enc ad vF)).reverse ++ (st.drop n).map (am_enc ad vF) := am_split st n ad vF
  have hcw : Cond.code (am_y j) (am_b j) (am_ml j) (am_rty (am_rt j)) ∈ lw_gd := lw_g mf2 rfl
  have hroom : (am_rm d).frames + 1 ≤ R.frames ∧ 8 + (am_ml j + 11) + (am_rm d).locals ≤ R.locals := ⟨hr1, by show 8 + (am_ml j + 11) + 40 * d ≤ R.locals; omega⟩
  have goodall : ∀ w ∈ am_wj j, w ∈ lw_gd ∧ ((w.onTables && w.keeps) = true ∨ ∃ ty, w = .arrayClass ty) := fun w hw => am_good ((List.mem_cons.mp hw).elim (fun q => q ▸ hcw) id)
  have hpre : ∀ U : State, U.heap = H → s.WarmedH U.vm → am_Pc D ad cA vF C (((st.take n).reverse).map (am_enc ad vF)) M (((st.take n).reverse).map (am_enc ad vF)).toArray U := fun U hU hW => ⟨rfl, by rw [hU]; exact hP, va_K.moved hW.alike hK, am_St_call hSt hS hU hW⟩
  have hsq : ∀ w ∈ st.drop n, am_vok w := fun w q => hv w (List.mem_of_mem_drop q)
  -- behind the call
  have fini : am_rt j ≠ 9 → nx = bp + 3 → ∀ (r' : Int32) (u : Unit) (t : State) (H1 : Heap) (locs1 : List Loc), t.heap = H1 → s.vm.Alike t.vm → r' = Int32.ofInt r → va_P D vwCl (am_ws ad cA M') t.heap → H.size ≤ H1.size → (∀ q : Nat, q < H.size → ¬ am_A ad q → H1[q]? = H[q]?) → va_S (am_A ad) s.heap H1 locs1 → W p l e R s m args below meth c H1 locs1 (cells + 0) (slots + 0) Q (F0 m (bp + 3) L (.int r' :: (st.drop n).map (am_enc ad vF))) := by
    intro h9 hnx r' u t H1 locs1 ht _ hr9 hP1 _ _ hS1
    rw [hr9]
    rw [show Nat.beq (am_rt j) 9 = false from by rw [← Bool.not_eq_true]; exact fun q => h9 (Nat.eq_of_beq_eq_true q)] at hb2
    rw [hb2] at h
    have k := hs _ _ _ h hn (am_vc (v := .inl r) hr' hsq) hM' H1 locs1 L hL (ht ▸ hP1) hS1
    rw [hnx] at k
    exact k
  have finv : am_rt j = 9 → nx = bp + 3 → ∀ (u : Unit) (t : State) (H1 : Heap) (locs1 : List Loc), t.heap = H1 → s.vm.Alike t.vm → True → va_P D vwCl (am_ws ad cA M') t.heap → H.size ≤ H1.size → (∀ q : Nat, q < H.size → ¬ am_A ad q → H1[q]? = H[q]?) → va_S (am_A ad) s.heap H1 locs1 → W p l e R s m args below meth c H1 locs1 (cells + 0) (slots + 0) Q (F0 m (bp + 3) L ((st.drop n).map (am_enc ad vF))) := by
    intro h9 hnx u t H1 locs1 ht _ _ hP1 _ _ hS1
    rw [h9] at hb2
    rw [hb2] at h
    have k := hs _ _ _ h hn hsq hM' H1 locs1 L hL (ht ▸ hP1) hS1
    rw [hnx] at k
    exact k
  cases hmc : Nat.beq (am_mc j) 15 with
  | true =>
    rw [hmc] at hd mf3 mf4
    obtain ⟨hd1, hnx⟩ := am_d1_ok hd
    have hT : GoodIn lw_gd (va_wsS (am_cn own) (b / 2) (am_y j) (am_wj j)) := by
      intro w hw
      rcases List.mem_append.mp hw with q | q
      · refine am_good ?_
        rcases List.mem_cons.mp q with q | q
        · exact q ▸ lw_g hlk rfl
        · rcases List.mem_cons.mp q with q | q
          · exact q ▸ lw_g mf4 rfl
          · exact List.mem_singleton.mp q ▸ lw_g mf5 rfl
      · exact goodall w q
    have cw := va_cwS (R := R) (s := s) (args := args) (mc := 0) (ms := 0) (am_na j) hts hT (ws' := lw_gd) rfl (rm := am_rm d) rfl rfl mf3 hroom
    have hlenA : (((st.take n).reverse).map (am_enc ad vF)).length = am_na j := by rw [List.length_map, List.length_reverse, List.length_take]; omega
    rw [hst]
    by_cases h9 : am_rt j = 9
    · exact va_callv (va_runS (As := ((st.take n).reverse).map (am_enc ad vF)) (rest := (st.drop n).map (am_enc ad vF)) ⟨hx, hb, hml, hown, hts⟩ (hMet.1 h9) cw ⟨am_blind _ _ _ _ _ _ _, hpre⟩ rfl hlenA (hL.1.trans hn) rfl hrest hd1 ⟨hcs.1, hcs.2⟩) hS (fun q _ z => z) (fun q z => z) (finv h9 hnx)
    · exact va_calli (va_runS (As := ((st.take n).reverse).map (am_enc ad vF)) (rest := (st.drop n).map (am_enc ad vF)) ⟨hx, hb, hml, hown, hts⟩ (hMet.2 h9) cw ⟨am_blind _ _ _ _ _ _ _, hpre⟩ rfl hlenA (hL.1.trans hn) rfl hrest hd1 ⟨hcs.1, hcs.2⟩) hS (fun q _ z => z) (fun q z => z) (fini h9 hnx)
  | false =>
    rw [hmc] at hd mf3 mf4
    obtain ⟨hd1, hnx⟩ := am_d1_ok hd
    obtain ⟨mf41, mf42, mf43, mf44, mf45⟩ := mf4
    have hrcv : (match (st.take n).reverse with
      | .inr a :: _ => Nat.beq (am_cls a) (am_mc j)
      | _ => false) = true := by
      unfold am_rcv at hrcv
      rw [hmc] at hrcv
      exact hrcv
    obtain ⟨a, As, hAs, hcl9⟩ : ∃ a As, (st.take n).reverse = .inr a :: As ∧ am_cls a = am_mc j := by
      revert hrcv
      match (st.take n).reverse with
      | [] => intro q; cases q
      | .inl _ :: _ => intro q; cases q
      | .inr a :: As => intro q; exact ⟨a, As, rfl, Nat.eq_of_beq_eq_true q⟩
    have hT : GoodIn lw_gd (wsV (am_cn own) (b / 2) (am_y j).cls (am_y j) (am_wj j)) := by
      intro w hw
      rcases List.mem_append.mp hw with q | q
      · refine am_good ?_
        rcases List.mem_cons.mp q with q | q
        · exact q ▸ lw_g hlk rfl
        · rcases List.mem_cons.mp q with q | q
          · exact q ▸ lw_g mf41 rfl
          · rcases List.mem_cons.mp q with q | q
            · exact q ▸ lw_g mf42 rfl
            · exact List.mem_singleton.mp q ▸ lw_g mf5 rfl
      · exact goodall w q
    have cw := cwV (R := R) (s := s) (args := args) (mc := 0) (ms := 0) (am_na j - 1) hts hT (ws' := lw_gd) rfl (rm := am_rm d) rfl rfl ⟨rfl, mf3⟩ hroom
    have hlen3 : As.length + 1 = am_na j := by
      have := congrArg List.length hAs
      rw [List.length_reverse, List.length_take, List.length_cons] at this
      omega
    have hlenA : (As.map (am_enc ad vF)).length = am_na j - 1 := by rw [List.length_map]; omega
    have ha204 : ¬ a = 204 := by
      intro q
      rw [q] at hcl9
      rw [← hcl9] at mf44
      exact absurd mf44 (by decide +kernel)
    have hrv : am_rv ad vF a = .ref (ad a) := if_neg ha204
    have hmap : ((st.take n).reverse).map (am_enc ad vF) = .ref (ad a) :: As.map (am_enc ad vF) := by
      rw [hAs, List.map_cons]
      show am_rv ad vF a :: _ = _
      rw [hrv]
    have hrec : ∃ cell : Cell, H[ad a]? = some cell ∧ cell.vm.isStatics = false ∧ s.vm.findClass (am_y j).cls = some cell.cls := by
      by_cases h8 : am_mc j = 8
      · rw [h8] at hcl9 mf45
        obtain ⟨i, hi, rfl⟩ := am_str hcl9
        rw [← mf45]
        obtain ⟨cell, g1, g2, g3, -⟩ := ((hSt.2.2.2.2.1 i hi).1).kept hS.2.1
        exact ⟨cell, g1, g2, g3⟩
      · have hlt : am_mc j < 8 := by omega
        have ha : a < 199 := am_own hcl9 (Or.inl hlt)
        rw [show Nat.beq (am_mc j) 8 = false from by rw [← Bool.not_eq_true]; exact fun q => h8 (Nat.eq_of_beq_eq_true q)] at mf45
        obtain ⟨q, hq1, hq2⟩ : ∃ q : vw_C, vwCl[am_mc j]? = some q ∧ q.1 = am_cn (am_mc j) := am_vw (am_mc j) hlt
        rw [← show am_cn (am_mc j) = (am_y j).cls from mf45, ← hq2]
        exact va_recv hK hP hq1 (am_ws_o ha hcl9 hlt)
    unfold am_Met at hMet
    rw [hmap] at hst hMet hpre
    rw [List.reverse_cons, List.append_assoc] at hst
    rw [hst]
    by_cases h9 : am_rt j = 9
    · exact va_callv (va_runV (As := As.map (am_enc ad vF)) (rest := (st.drop n).map (am_enc ad vF)) ⟨hx, hb, hml, hown, hts⟩ (hMet.1 h9) cw ⟨am_blind _ _ _ _ _ _ _, hrec, hpre⟩ rfl hlenA (hL.1.trans hn) rfl hrest hd1 ⟨hcs.1, hcs.2⟩) hS (fun q _ z => z) (fun q z => z) (finv h9 hnx)
    · exact va_calli (va_runV (As := As.map (am_enc ad vF)) (rest := (st.drop n).map (am_enc ad vF)) ⟨hx, hb, hml, hown, hts⟩ (hMet.2 h9) cw ⟨am_blind _ _ _ _ _ _ _, hrec, hpre⟩ rfl hlenA (hL.1.trans hn) rfl hrest hd1 ⟨hcs.1, hcs.2⟩) hS (fun q _ z => z) (fun q z => z) (fini h9 hnx)
/-- what the end is owed -/
def am_Re (p : Program) (l : Launch) (e : Env) (R : Room) (s : State) (m : MethodId) (args : Array Value) (below : List Frame) (meth : Method) (c : Code) (cells slots : Nat) (Q : State → Prop) (D : va_G) (ad : Nat → Nat) (cA : Nat → ClassId) (C : am_M) (rt : Nat) (cc : ByteArray) (res : Int × am_M) : Prop :=
  ∀ (bp : Nat) (H : Heap) (locs : List Loc) (L : Array Slot), va_P D vwCl (am_ws ad cA res.2) H → va_S (am_A ad) s.heap H locs → am_mok C res.2 → (rt ≤ 3 → decode cc bp = .ok (.ireturn, 1) → am_nrw rt res.1 → W p l e R s m args below meth c H locs cells slots Q (F0 m bp L [.int (Int32.ofInt res.1)])) ∧ (rt = 9 → decode cc bp = .ok (.return_, 1) → W p l e R s m args below meth c H locs cells slots Q (F0 m bp L []))
theorem am_s_ireturn (X : am_Cx p R s m args c cells slots D ad cA vF C own nL cc) {t b : Nat} (hre : am_Re p l e R s m args below meth c cells slots Q D ad cA C rt cc res) : am_SS p l e R s m args below meth c cells slots Q D ad cA vF C own rt nL cc ps call res (.ireturn, t, b) := by
  intro bp nx hd ls st M ks kj h hs hj hn hv hM H locs L hL hP hS
  rcases st with _ | ⟨x | x, _ | ⟨y, st⟩⟩ <;> try (exact (am_no h).elim)
  obtain ⟨hda, hrt⟩ := am_and hd
  obtain ⟨hdb, ht⟩ := am_and hda
  have ht : t = rt := Nat.eq_of_beq_eq_true ht
  have hrt := Nat.le_of_ble_eq_true hrt
  subst ht
  have h : am_ret t x (some (x, M)) = some res := h
  have key : am_nrw t x ∧ (x, M) = res := by
    match t, hrt, h with
    | 0, _, h => exact ⟨trivial, Option.some.inj h⟩
    | 1, _, h => obtain ⟨h1, h2⟩ := am_chk_some h; exact ⟨h1, Option.some.inj h2⟩
    | 2, _, h => obtain ⟨h1, h2⟩ := am_chk_some h; exact ⟨h1, Option.some.inj h2⟩
    | 3, _, h => obtain ⟨h1, h2⟩ := am_chk_some h; exact ⟨h1, Option.some.inj h2⟩
  obtain ⟨h1, rfl⟩ := key
  exact (hre bp H locs L hP hS hM).1 hrt (of_decide_eq_true hdb) h1
theorem am_s_return (X : am_Cx p R s m args c cells slots D ad cA vF C own nL cc) {a b : Nat} (hre : am_Re p l e R s m args below meth c cells slots Q D ad cA C rt cc res) : am_SS p l e R s m args below meth c cells slots Q D ad cA vF C own rt nL cc ps call res (.return_, a, b) := by
  intro bp nx hd ls st M ks kj h hs hj hn hv hM H locs L hL hP hS
  obtain rfl : st = [] := by
    cases st with
    | nil => rfl
    | cons v st => exact (am_no h).elim
  obtain ⟨hd, ht⟩ := am_and hd
  have h : some ((0 : Int), M) = some res := h
  cases h
  exact (hre bp H locs L hP hS hM).2 (Nat.eq_of_beq_eq_true ht) (of_decide_eq_true hd)
theorem am_step (X : am_Cx p R s m args c cells slots D ad cA vF C own nL cc) (hcl : am_Cl l D ad cA vF C d call) (hr1 : d + 1 ≤ R.frames) (hr2 : 40 * d + 40 ≤ R.locals) (hre : am_Re p l e R s m args below meth c cells slots Q D ad cA C rt cc res) (i : am_I) : am_SS p l e R s m args below meth c cells slots Q D ad cA vF C own rt nL cc ps call res i := by
  obtain ⟨i, a, b⟩ := i
  cases i with

  | iadd => exact am_s_iadd X
  | isub => exact am_s_isub X
  | imul => exact am_s_imul X
  | idiv => exact am_s_idiv X
  | irem => exact am_s_irem X
  | ineg => exact am_s_ineg X
  | iand => exact am_s_iand X
  | ior => exact am_s_ior X
  | ixor => exact am_s_ixor X
  | ishl => exact am_s_ishl X
  | ishr => exact am_s_ishr X
  | iushr => exact am_s_iushr X
  | i2c => exact am_s_i2c X
  | dup => exact am_s_dup X
  | dup2 => exact am_s_dup2 X
  | pop => exact am_s_pop X
  | ladd => exact am_s_ladd X
  | lsub => exact am_s_lsub X
  | iaload => exact am_s_iaload X
  | caload => exact am_s_caload X
  | baload => exact am_s_baload X
  | aaload => exact am_s_aaload X
  | iastore => exact am_s_iastore X
  | castore => exact am_s_castore X
  | arraylength => exact am_s_arraylength X
  | lcmp => exact am_s_lcmp X
  | bipush v => exact am_s_bipush X
  | aload n => exact am_s_aload X
  | iload n => exact am_s_iload X
  | istore n => exact am_s_istore X
  | iinc n z => exact am_s_iinc X
  | ifCond cd t => exact am_s_ifCond X
  | if_icmp cd t => exact am_s_if_icmp X
  | goto t => exact am_s_goto X
  | tableswitch d lo hi ts => exact am_s_tableswitch X
  | lookupswitch d ts => exact am_s_lookupswitch X
  | getfield k => exact am_s_getfield X
  | checkcast k => exact am_s_checkcast X
  | putfield k => exact am_s_putfield X
  | invokevirtual j => exact am_s_invoke X hcl hr1 hr2
  | ireturn => exact am_s_ireturn X hre
  | return_ => exact am_s_return X hre
  | _ => intro bp nx hd ls st M ks kj h; exact (am_no h).elim
theorem am_exec (X : am_Cx p R s m args c cells slots D ad cA vF C own nL cc) {code : List am_I} (hD : am_DK own rt cc ps code) (hcl : am_Cl l D ad cA vF C d call) (hr1 : d + 1 ≤ R.frames) (hr2 : 40 * d + 40 ≤ R.locals) (hre : am_Re p l e R s m args below meth c cells slots Q D ad cA C rt cc res) : ∀ (n pc : Nat) (ls : List (Option am_V)) (st : List am_V) (M : am_M), am_ex am_cls am_rf am_len call code n pc ls st M = some res → am_Go p l e R s m args below meth c cells slots Q D ad cA vF C nL (ps.getD pc 0) ls st M := by
  intro n
  induction n with
  | zero => intro pc ls st M h; cases h
  | succ n ih =>
    intro pc ls st M h
    rw [am_ex_succ] at h
    cases hi : code[pc]? with
    | none => rw [hi] at h; cases h
    | some ai =>
      rw [hi] at h
      exact am_step X hcl hr1 hr2 hre ai (ps.getD pc 0) (ps.getD (pc + 1) 0) (hD pc ai hi) ls st M _ _ h (fun l s m h => ih (pc + 1) l s m h) (fun t l s m h => ih t l s m h)
end SND
