-- needs: 01 02 03 04 04b 09 09b 10 11 12 13 14 15 15b 16 16a 16b 17 18 19 20 21 22 23 24 25 25b 26 27 29
/-! START: the law's entry, its prologue, its loop; what remains is PURE -/
def am_PURE : Prop := ∀ (L : Nat) (xs : Nat → Int32), L ≤ 3072 → ∃ M', am_L 1000 264 8 [some (.inr 203), some (.inr 0), some (.inr 186), none] [] (am_M0 L xs) = some (1, M')
theorem bm_noret : ∀ q ∈ bm_cL, q.1 ≠ .return_ := by decide +kernel
theorem bm_nop16 : ∀ pc, pc < 9 → ∀ q, bm_cL[pc]? = some q → q.1 = .nop → bm_pL.getD pc 0 = 16 := by
  intro pc h q hq hn
  match pc, h with
  | 0, _ => cases hq; cases hn
  | 1, _ => cases hq; cases hn
  | 2, _ => cases hq; cases hn
  | 3, _ => cases hq; cases hn
  | 4, _ => cases hq; cases hn
  | 5, _ => cases hq; cases hn
  | 6, _ => cases hq; cases hn
  | 7, _ => cases hq; cases hn
  | 8, _ => rfl
theorem am_e264 : am_code 264 = am_c264 := by rfl
theorem am_pat8 : am_p264.getD 8 0 = 16 := by rfl
theorem whole_open (hPURE : am_PURE) {p : Program} {e : Env} {s : State} {m : MethodId} {below : List Frame} {meth : Method} {c : Code} (l : Launch) {b L : Nat} {xs : Nat → Int32} (hL : L ≤ 3072) (C0 : lw_At p s m meth c b L xs) : W p l e room_1 s m #[Value.ref b] below meth c s.heap [] 0 0 (lw_Z below #[Value.ref b] s) (entryFrame m ([Value.ref b] : List Value).toArray 4) := by
  obtain ⟨hx, hb, hr, hml, hown, hts, hX, hbl, hlocks, hgv⟩ := C0
  obtain ⟨D, ad, cA, vF, ad1, ad2, hF, hK, hBS, hSt⟩ := am_setup hL hts hX hbl hgv
  have hgd : ∀ w ∈ lw_gd, w.before #[Value.ref b] s = true := fun w hw => hts w (List.mem_filter.mp hw).1
  have hown8 : s.vm.findClass (am_cn 8) = some m.cls := hown
  have hinj : ∀ i j, i < 199 → j < 199 → ad i = ad j → i = j := fun i j hi hj h => by rw [ad1 i hi, ad1 j hj] at h; omega
  have XB : bm_Cx p room_1 s m #[Value.ref b] c D ad cA s.heap.size 0 8 4 code := ⟨hx, hb, hml, hown8, hgd, hK, hBS, ad1, by decide, by decide, rfl⟩
  have XA : am_Cx p room_1 s m #[Value.ref b] c 199 24098 D ad cA vF (am_C L xs) 8 4 code := ⟨hx, hb, hml, hown8, hgd, hK, hSt, hinj, hF, by decide, by decide +kernel, by decide, by decide, by decide⟩
  have had203 : am_enc ad .null (.inr 203) = .ref b := by
    show am_rv ad .null 203 = _
    rw [am_rv, if_neg (by decide), ad2]
  have hW0 : bm_Wd D ad cA s.heap.size (fun _ _ => 0) 0 s.heap := ⟨fun k q h => by simp [bm_ws] at h, rfl, by decide, fun _ _ _ _ => rfl⟩
  obtain ⟨M', hM'⟩ := hPURE L xs hL
  have hrn : bm_Rn p l e room_1 s m #[Value.ref b] below meth c (lw_Z below #[Value.ref b] s) D ad cA s.heap.size 8 0 0 bm_pL (199, 24098, bm_M) := by
    intro _ H locs Lc hW hS hlok
    have hW : bm_Wd D ad cA s.heap.size bm_M 199 H := hW
    have hP : va_P D vwCl (am_ws ad cA (am_M0 L xs)) H := am_toP hW.1
    have hold : ∀ q ∈ locs, s.heap.size ≤ q.base := fun q hq => hS.2.2 q hq
    refine va_forget hold ?_
    have hl2 : am_lok ad vF [some (.inr 203), some (.inr 0), some (.inr 186), none] Lc := by
      refine ⟨hlok.1, hlok.2.1, fun k v hk => ⟨?_, ?_⟩⟩
      · have h1 := (hlok.2.2 k v hk).1
        have e : ∀ a, a ≠ 204 → am_rv ad .null a = am_rv ad vF a := fun a ha => by rw [am_rv, am_rv, if_neg ha, if_neg ha]
        match k, hk with
        | 0, hk => cases hk; rw [h1]; exact congrArg (fun v => some (Slot.val v)) (e 203 (by decide))
        | 1, hk => cases hk; rw [h1]; exact congrArg (fun v => some (Slot.val v)) (e 0 (by decide))
        | 2, hk => cases hk; rw [h1]; exact congrArg (fun v => some (Slot.val v)) (e 186 (by decide))
        | 3, hk => cases hk
        | k + 4, hk => simp at hk
      · exact (hlok.2.2 k v hk).2
    have hS2 : va_S (am_A ad) s.heap H [] := by
      refine ⟨hS.1, fun q hq hn => hS.2.1 q hq (fun h => ?_), fun q hq => absurd hq List.not_mem_nil⟩
      have h : s.heap.size ≤ q := h
      omega
    obtain ⟨n, hn⟩ := am_lim_ex _ hM'
    have hre : am_Re p l e room_1 s m #[Value.ref b] below meth c 199 24098 (lw_Z below #[Value.ref b] s) D ad cA (am_C L xs) 1 code (1, M') := by
      intro bp H1 locs1 L1 hP1 hS1 hM1
      refine ⟨fun _ hdg _ => ?_, fun h => absurd h (by decide)⟩
      have hold1 : ∀ q ∈ locs1, s.heap.size ≤ q.base := fun q hq => by
        obtain ⟨k, h1, h2⟩ := hS1.2.2 q hq
        rw [h2, ad1 k h1]
        exact Nat.le_add_right _ _
      refine va_forget hold1 ?_
      exact W.widen (by decide) (by decide) (lw_ret hx hb hr hlocks hdg)
    have k := am_exec XA am_dkL (am_sound hinj hF am_dka264 1000) (by decide) (by decide) hre n 8 _ _ _ hn rfl (fun _ q => absurd q List.not_mem_nil) (am_M0_ok L xs hL) H [] Lc hl2 hP hS2
    rw [am_pat8] at k
    exact k
  have k := (bm_exec XB (C := fun _ _ => 0) (call := bm_run 6) (d := 6) (res := (199, 24098, bm_M)) (by decide) (by decide) (fun h => absurd rfl h) (bm_decs_at _ _ bm_okL) (bm_sound ad1 6) (by decide) (by decide) (fun h => by obtain ⟨q, hq, h2⟩ := h; exact absurd h2 (bm_noret q hq)) hrn (fun pc x y hq => bm_nop16 pc (List.getElem?_eq_some_iff.mp hq).1 _ hq rfl) 20 0 _ _ 0 0 _ bm_runL).2 rfl (fun _ q => absurd q List.not_mem_nil)
  have hent := am_entry (ad := ad) (vF := .null) (n := 4) (args := [.inr 203]) (Or.inl rfl) (by decide) (fun v hv => by rw [List.mem_singleton.mp hv]; trivial)
  have emap : ([.inr 203] : List am_V).map (am_enc ad .null) = [.ref b] := by
    show [am_enc ad .null (.inr 203)] = _
    rw [had203]
  rw [emap] at hent
  have k := k s.heap [] _ hent hW0 va_S.rf (Nat.le_refl _) (Nat.le_refl _)
  rw [lg_entry_eq]
  exact k
