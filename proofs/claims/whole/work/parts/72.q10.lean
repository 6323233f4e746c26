/-! PURE: what a hand learns, how likely it is scarred -/
/-- an hour of a task in thought, and the chance so far -/
def pUn1 (p h kind : Int) (v : Int → Int) : Int → Int := p_up (p_up (pToil v p h kind) (36 + 10 * h + 7) (am_wrap (ph (pToil v p h kind) h 7 + 1))) 0 (pToil v p h kind 0 + 1)
def pUs1 (p h kind : Int) (s : (Int → Int) × Int) : (Int → Int) × Int := (pUn1 p h kind s.1, am_idiv (am_wrap (s.2 * am_wrap (1000 - pAm s.1 (pTkF s.1 p h kind) 28 1000))) 1000)
def pUs (w : Int → Int) (p h kind n : Int) : (Int → Int) × Int := pF (fun _ s => pUs1 p h kind s) n.toNat (w, 1000000)
theorem pUs_next (w : Int → Int) (p h kind : Int) {i : Int} (hi : 0 ≤ i) : pUs w p h kind (i + 1) = pUs1 p h kind (pUs w p h kind i) := (pF_next (fun _ s => pUs1 p h kind s) (w, 1000000) hi).symm
theorem pToil_off {v : Int → Int} {p h kind k : Int} (hk : 0 ≤ kind ∧ kind ≤ 3) (h1 : k ≠ 4 + 4 * p + 0) (h2 : k < 36 + 10 * h ∨ 36 + 10 * h + 4 < k) : pToil v p h kind k = v k := by
  unfold pToil pEarns pWk2 pTk1
  rw [p_off (by omega), p_off (by omega), p_off (by omega)]
theorem pUn1_off {v : Int → Int} {p h kind k : Int} (hk : 0 ≤ kind ∧ kind ≤ 3) (h0 : k ≠ 0) (h1 : k ≠ 4 + 4 * p + 0) (h2 : k < 36 + 10 * h ∨ 36 + 10 * h + 7 < k ∨ k = 36 + 10 * h + 5 ∨ k = 36 + 10 * h + 6) : pUn1 p h kind v k = v k := by
  unfold pUn1
  rw [p_off (by omega), p_off (by omega), pToil_off hk h1 (by omega)]
theorem pUn1_all {v : Int → Int} {p h kind : Int} (hw : WF v) (hh : 0 ≤ h ∧ h < 2 * v 276) (hp : 0 ≤ p ∧ p < v 276) (hk : 0 ≤ kind ∧ kind ≤ 3) : WF (pUn1 p h kind v) ∧ pTX v (pUn1 p h kind v) ∧ pUn1 p h kind v 276 = v 276 ∧ pUn1 p h kind v 0 = v 0 + 1 ∧ ph (pUn1 p h kind v) h 7 = am_wrap (ph v h 7 + 1) ∧ ph (pUn1 p h kind v) h 5 = ph v h 5 ∧ ph (pUn1 p h kind v) h kind = min 99 (am_wrap (ph v h kind + pAm v (pTkF v p h kind) 26 9)) ∧ ph (pUn1 p h kind v) h 4 = min 99 (am_wrap (ph v h 4 + pAm v (pTkF v p h kind) 27 9)) ∧ ph (pUn1 p h kind v) h 8 = ph v h 8 := by
  have n2 := hw.1.2.1
  have off : ∀ k, k ≠ 0 → k ≠ 4 + 4 * p + 0 → (k < 36 + 10 * h ∨ 36 + 10 * h + 7 < k ∨ k = 36 + 10 * h + 5 ∨ k = 36 + 10 * h + 6) → pUn1 p h kind v k = v k := fun k => pUn1_off hk
  have hc := (hw.2.1 p hp.1 (by omega)).1
  have ra := pAm_range (w := v) (F := pTkF v p h kind) (word := 29) (high := 99) (by omega)
  have t0 : pToil v p h kind 0 = v 0 := pToil_off hk (by omega) (by omega)
  have t7 : ph (pToil v p h kind) h 7 = ph v h 7 := pToil_off hk (by omega) (by omega)
  have ec : pp (pUn1 p h kind v) p 0 = min 9999 (pp v p 0 + pAm v (pTkF v p h kind) 29 99) := by
    unfold pUn1
    rw [pp_off (by omega), pp_off (by omega)]
    unfold pToil pEarns
    rw [pp_up _ _ _ _ _ _ (by omega) (by omega), if_pos ⟨rfl, rfl⟩]
    unfold pWk2 pTk1
    rw [pp_off (by omega), pp_off (by omega)]
  have e7 : ph (pUn1 p h kind v) h 7 = am_wrap (ph v h 7 + 1) := by
    unfold pUn1
    rw [ph_off (by omega), ph_up _ _ _ _ _ _ (by omega) (by omega), if_pos ⟨rfl, rfl⟩, t7]
  refine ⟨?_, fun k hk2 => off k (by omega) (by omega) (by omega), off 276 (by omega) (by omega) (by omega), ?_, e7, off _ (by omega) (by omega) (by omega), ?_, ?_, off _ (by omega) (by omega) (by omega)⟩
  · refine WF_same hw ⟨off 1 (by omega) (by omega) (by omega), off 2 (by omega) (by omega) (by omega), off 276 (by omega) (by omega) (by omega)⟩ ?_ ?_ ?_ ?_ ?_
    · intro q k0 k1
      have hq := hw.2.1 q k0 k1
      refine ⟨?_, by unfold pp; rw [off _ (by omega) (by omega) (by omega)]; exact hq.2⟩
      by_cases e : q = p
      · rw [e, ec]; omega
      · unfold pp; rw [off _ (by omega) (by omega) (by omega)]; exact hq.1
    · refine WFh_same hw.2.2.1 (off 276 (by omega) (by omega) (by omega)) ?_ ?_
      · intro g k0 k1
        exact off _ (by omega) (by omega) (by omega)
      · intro g k0 k1
        by_cases e : g = h
        · rw [e, e7]; exact p_w_in _
        · unfold ph
          rw [off _ (by omega) (by omega) (by omega)]
          exact hw.2.2.1.2.1 g k0 k1
    · intro i f k0 k1 k2 k3
      exact off _ (by omega) (by omega) (by omega)
    · intro q k0 k1
      exact ⟨fun f k2 k3 => off _ (by omega) (by omega) (by omega), off _ (by omega) (by omega) (by omega)⟩
    · intro g k0 k1 f k2 k3
      exact off _ (by omega) (by omega) (by omega)
  · unfold pUn1
    rw [p_up1, t0]
  · unfold pUn1
    rw [ph_off (by omega), ph_up _ _ _ _ _ _ (by omega) (by omega), if_neg (by omega)]
    unfold pToil pEarns
    rw [ph_off (by omega)]
    unfold pWk2
    rw [ph_up _ _ _ _ _ _ (by omega) (by omega), if_neg (by omega)]
    unfold pTk1
    rw [ph_up _ _ _ _ _ _ (by omega) (by omega), if_pos ⟨rfl, rfl⟩]
  · unfold pUn1
    rw [ph_off (by omega), ph_up _ _ _ _ _ _ (by omega) (by omega), if_neg (by omega)]
    unfold pToil pEarns
    rw [ph_off (by omega)]
    unfold pWk2
    rw [ph_up _ _ _ _ _ _ (by omega) (by omega), if_pos ⟨rfl, rfl⟩]
    unfold pTk1
    rw [ph_off (by omega)]
theorem pUs_all {w : Int → Int} {p h kind : Int} (hw : WF w) (hh : 0 ≤ h ∧ h < 2 * w 276) (hp : 0 ≤ p ∧ p < w 276) (hk : 0 ≤ kind ∧ kind ≤ 3) : ∀ n : Nat, WF (pUs w p h kind n).1 ∧ pTX w (pUs w p h kind n).1 ∧ (pUs w p h kind n).1 276 = w 276 ∧ (pUs w p h kind n).1 0 = w 0 + n ∧ ph (pUs w p h kind n).1 h 7 = am_wrap (ph w h 7 + n) ∧ ph (pUs w p h kind n).1 h 5 = ph w h 5 ∧ ph (pUs w p h kind n).1 h 8 = ph w h 8 := by
  intro n
  induction n with
  | zero =>
    have := hw.2.2.1.2.1 h hh.1 (by have := hw.1.2.1; omega)
    exact ⟨hw, pTX_refl w, rfl, by show w 0 = w 0 + ((0 : Nat) : Int); omega, by show ph w h 7 = am_wrap (ph w h 7 + ((0 : Nat) : Int)); rw [p_w (by omega) (by omega)]; omega, rfl, rfl⟩
  | succ n ih =>
    rw [show ((n + 1 : Nat) : Int) = (n : Int) + 1 from by omega, pUs_next w p h kind (by omega)]
    generalize pUs w p h kind n = s at ih ⊢
    obtain ⟨i1, i2, i3, i4, i5, i6, i7⟩ := ih
    obtain ⟨k1, k2, k3, k4, k5, k6, -, -, k9⟩ := pUn1_all i1 (by rw [i3]; exact hh) (by rw [i3]; exact hp) hk
    exact ⟨k1, pTX_trans i2 k2, k3.trans i3, by show pUn1 p h kind s.1 0 = _; rw [k4, i4]; omega, by show ph (pUn1 p h kind s.1) h 7 = _; rw [k5, i5, p_ww, show ph w h 7 + (n : Int) + 1 = ph w h 7 + ((n : Int) + 1) from by omega], k6.trans i6, k9.trans i7⟩
theorem pAm_TX {w w' : Int → Int} (h : pTX w w') (hL : pLaw w 1) (F : Int → Int) (word high : Int) : pAm w' F word high = pAmt w F word high (w 289).toNat 0 := by
  have n : 0 ≤ w 289 := hL.1.1
  unfold pAm
  rw [h 289 (by omega)]
  have : ∀ (k : Nat) (i : Int), 0 ≤ i → i + k = w 289 → pAmt w' F word high k i = pAmt w F word high k i := by
    intro k
    induction k with
    | zero => intro _ _ _; rfl
    | succ k ih =>
      intro i h0 hi
      obtain ⟨b1, -, -⟩ := hL.2 i h0 (by show i < w 289; omega)
      have e1 : pSay w' 1 i = pSay w 1 i := h _ (by omega)
      have e2 : pHolds w' F 1 i = pHolds w F 1 i := by
        unfold pHolds
        rw [pB_TX h (by omega) h0 (by omega), show pTo w' 1 i = pTo w 1 i from h _ (by omega), show pMid w' 1 i = pMid w 1 i from h _ (by omega)]
      rw [pAmt, pAmt, e1, e2, pE_TX h (by omega) h0 (by omega), ih (i + 1) (by omega) (by omega)]
  exact this _ 0 (Int.le_refl _) (by omega)
/-- the class's -/
theorem c246 (d : Nat) {C M M0 : am_M} (hI : Inv C M) (h0 : CQ M M0) {h kind n : Int} (hh : 0 ≤ h ∧ h < 2 * M 187 276) (ha : ph (M 187) h 8 ≠ -1) (hk : 0 ≤ kind ∧ kind ≤ 3) (hn : 0 ≤ n ∧ n ≤ 99) : pOk (am_run (d + 4) 246 [.inr 0, .inl h, .inl kind, .inl n] M0) (fun r M' => r = (pUs (M 187) (ph (M 187) h 8) h kind n).2 ∧ WR M' 14 (pUs (M 187) (ph (M 187) h 8) h kind n).1 ∧ CQ M M') := by
  have hI0 := Inv_CQ hI h0
  have e0 : M0 187 = M 187 := h0 187 (by omega) (by omega) (by omega) (by omega)
  have hw := hI.1.2.1
  have hW := hI.1.2.2.2.1
  have n2 := hw.1.2.1
  have hat := hw.2.2.1.1 h hh.1 hh.2
  have hX0 : ∀ M', CQ M M' → TxR M' 28 (M 187) := fun M' hC => TxR_fr hI.1.2.2.2.2.1 (fun b _ _ => hC b (by omega) (by omega) (by omega) (by omega))
  have hh9 := hI.1.2.2.1
  have lp : ∀ (k : Nat) (i : Int) (o7 : Option am_V) (M' : am_M), i = n - k → 0 ≤ i → WR M' 14 (pUs (M 187) (ph (M 187) h 8) h kind i).1 → CQ M M' → pOk (am_L (d + 3) 246 15 [some (.inr 0), some (.inl h), some (.inl kind), some (.inl n), some (.inl (ph (M 187) h 8)), some (.inl (pUs (M 187) (ph (M 187) h 8) h kind i).2), some (.inl i), o7] [] M') (fun r M' => r = (pUs (M 187) (ph (M 187) h 8) h kind n).2 ∧ WR M' 14 (pUs (M 187) (ph (M 187) h 8) h kind n).1 ∧ CQ M M') := by
    intro k
    induction k with
    | zero =>
      intro i o7 M' hi hi0 hR hC
      obtain rfl : i = n := by omega
      rw [e246_15, if_neg (by omega)]
      exact pOk_s ⟨rfl, hR, hC⟩
    | succ k ih =>
      intro i o7 M' hi hi0 hR hC
      obtain ⟨a1, a2, a3, a4, a5, a6, a7⟩ := pUs_all (kind := kind) hw hh (p := ph (M 187) h 8) (by omega) hk i.toNat
      rw [show ((i.toNat : Nat) : Int) = i from by omega] at a1 a2 a3 a4 a5 a6 a7
      have next := ih (i + 1)
      rw [pUs_next _ _ _ _ hi0] at next
      generalize pUs (M 187) (ph (M 187) h 8) h kind i = s at *
      rw [e246_15, if_pos (by omega), p_w (x := i + 1) (by omega) (by omega)]
      refine pOk_b (c236 d ho14 hR a1 (TxW_TX a2 hW) (TxR_TX a2 hW (hX0 M' hC)) (h := h) (p := ph (M 187) h 8) (kind := kind) (by omega) (by omega) (by omega)) (fun r M2 ⟨h1, h2, h3⟩ => ?_)
      have t276 : pToil s.1 (ph (M 187) h 8) h kind 276 = M 187 276 := by rw [pToil_off hk (by omega) (by omega), a3]
      have t0 : pToil s.1 (ph (M 187) h 8) h kind 0 = M 187 0 + i := by rw [pToil_off hk (by omega) (by omega), a4]
      have eh : M2 25 h = ph (pToil s.1 (ph (M 187) h 8) h kind) h 7 := R_held h2 hh.1 (by omega)
      have er : M2 14 1 = pToil s.1 (ph (M 187) h 8) h kind 0 := R_hr h2
      have U1 := U_held h2 (by omega) (h := h) (v := am_wrap (ph (pToil s.1 (ph (M 187) h 8) h kind) h 7 + 1)) (by omega)
      have U2 := U_hr U1 (by rw [p_off (by omega)]; omega) (v := pToil s.1 (ph (M 187) h 8) h kind 0 + 1)
      rw [p_st2 (show (14 : Nat) ≠ 14 + 11 by decide)] at U2
      refine pOk_c (by decide) (pOk_c (by omega) (pOk_c (by omega) ?_))
      simp only [p_upd, p_st2 (show (14 : Nat) ≠ 25 by decide), eh, er]
      rw [p_w (x := pToil s.1 (ph (M 187) h 8) h kind 0 + 1) (by omega) (by omega), h1]
      refine next _ _ (by omega) (by omega) U2 (fun b hb q5 q6 q7 => ?_)
      rw [p_st2 (by omega), p_st2 (by omega)]
      exact CQ_trans hC (CA_CQ h3) b hb q5 q6 q7
  rw [e246]
  refine pOk_b (c_think _ hI0) (fun _ M1 ⟨h1, h2⟩ => ?_)
  rw [e0] at h1
  have ea : M1 20 h = ph (M 187) h 8 := R_at h1 hh.1 (by omega)
  rw [p_c (by omega), ea]
  exact lp n.toNat 0 none M1 (by omega) (by omega) h1 (CQ_trans h0 h2)
/-- the model's -/
theorem m114 (d : Nat) {C M : am_M} (hI : Inv C M) (u pile f : Int → Int) {h kind n : Int} (hh : 0 ≤ h ∧ h < 2 * M 187 276) (ha : ph (M 187) h 8 ≠ -1) (hk : 0 ≤ kind ∧ kind ≤ 3) (hn : 0 ≤ n ∧ n ≤ 99) : ∃ pile' f', am_run (d + 6) 114 [.inr 186, .inl h, .inl kind, .inl n] (pS M u (M 187) pile f) = some (0, pS M (p_up (p_up u 32 (pUs (M 187) (ph (M 187) h 8) h kind n).2) 31 (ph (pUs (M 187) (ph (M 187) h 8) h kind n).1 h kind)) (M 187) pile' f') := by
  have hw := hI.1.2.1
  have hW := hI.1.2.2.2.1
  have hh9 := hI.1.2.2.1
  have n2 := hw.1.2.1
  have hat := hw.2.2.1.1 h hh.1 hh.2
  have n289 : 0 ≤ M 187 289 := hW.1.2.1.1.1
  have lp : ∀ (k : Nat) (i : Int) (o8 o9 : Option am_V) (pile f : Int → Int), i = n - k → 0 ≤ i → ∃ pile' f', am_L (d + 5) 114 22 [some (.inr 186), some (.inl h), some (.inl kind), some (.inl n), some (.inl (ph (M 187) h 8)), some (.inl (ph (pUs (M 187) (ph (M 187) h 8) h kind i).1 h kind)), some (.inl (ph (pUs (M 187) (ph (M 187) h 8) h kind i).1 h 4)), some (.inl i), o8, o9] [] (pS M (p_up u 32 (pUs (M 187) (ph (M 187) h 8) h kind i).2) (M 187) pile f) = some (0, pS M (p_up (p_up u 32 (pUs (M 187) (ph (M 187) h 8) h kind n).2) 31 (ph (pUs (M 187) (ph (M 187) h 8) h kind n).1 h kind)) (M 187) pile' f') := by
    intro k
    induction k with
    | zero =>
      intro i o8 o9 pile f hi hi0
      obtain rfl : i = n := by omega
      refine ⟨pile, f, ?_⟩
      rw [e114_22, if_neg (by omega), p_upd, pS_186, pS_st186]
    | succ k ih =>
      intro i o8 o9 pile f hi hi0
      obtain ⟨a1, a2, a3, a4, a5, a6, a7⟩ := pUs_all (kind := kind) hw hh (p := ph (M 187) h 8) (by omega) hk i.toNat
      rw [show ((i.toNat : Nat) : Int) = i from by omega] at a1 a2 a3 a4 a5 a6 a7
      have next := ih (i + 1)
      rw [pUs_next _ _ _ _ hi0] at next
      generalize pUs (M 187) (ph (M 187) h 8) h kind i = s at *
      obtain ⟨-, -, -, -, -, -, b7, b8, -⟩ := pUn1_all (p := ph (M 187) h 8) (h := h) (kind := kind) a1 (by omega) (by omega) hk
      generalize hF : p_up (p_up (p_up (pTaskF (M 187) h (ph (M 187) h 8) kind (ph s.1 h kind) f) 3 (ph s.1 h 4)) 12 (am_wrap (ph (M 187) h 7 + i))) 14 (am_wrap (M 187 0 + i)) = F
      have dep : ∀ x ∈ pA 1, F x = pTkF s.1 (ph (M 187) h 8) h kind x := by
        intro x hx
        have ew : am_wrap (M 187 0 + i) = s.1 0 := by rw [p_w (by omega) (by omega), a4]
        have e277 : s.1 (277 + ph (M 187) h 8) = M 187 (277 + ph (M 187) h 8) := a2 _ (by omega)
        rw [← hF]
        simp only [pA, if_true, if_false, List.mem_cons, List.not_mem_nil, or_false, show ¬ (1 : Int) = 0 by decide] at hx
        rcases hx with rfl | rfl | rfl | rfl | rfl | rfl | rfl | rfl | rfl <;> simp [pTkF, pTaskF, pHF, p_up, ew, a5, a6, e277]
      have am : ∀ (u' pile : Int → Int) (word high : Int), ∃ pile2, am_run (d + 5) 58 [.inr 186, .inl word, .inl high] (pS M u' (M 187) pile F) = some (pAm s.1 (pTkF s.1 (ph (M 187) h 8) h kind) word high, pS M u' (M 187) pile2 F) := by
        intro u' pile word high
        have hL := LawT_law hW.1.2.1
        obtain ⟨pile2, hp2⟩ := m58 (d + 1) word high (pS M u' (M 187) pile F) hL
        refine ⟨pile2, ?_⟩
        rw [pS_st195, pS_187, pS_196] at hp2
        rw [hp2, pAmt_dep hL dep _ 0 (Int.le_refl _) (by omega)]
        have : pAm s.1 (pTkF s.1 (ph (M 187) h 8) h kind) word high = pAmt (M 187) (pTkF s.1 (ph (M 187) h 8) h kind) word high (M 187 289).toNat 0 := pAm_TX a2 hL _ _ _
        rw [this]
      obtain ⟨p1, h1⟩ := am (p_up u 32 s.2) pile 26 9
      obtain ⟨p2, h2⟩ := am (p_up u 32 s.2) p1 27 9
      obtain ⟨p3, h3⟩ := am (p_up u 32 s.2) p2 28 1000
      rw [e114_22, if_pos (by omega), m81 _ _ _ _ _ _ (by omega) (by omega), p_b, p_c (by decide), pS_187, pS_196, pS_st196, p_upd, pS_196, pS_st196, m5 _ _ _ _ (by omega) (by omega), p_b, pS_187, p_c (by decide), p_c (by decide), p_c (by decide)]
      simp only [p_upd, pS_196, pS_st196, pS_187]
      rw [hF, h1, p_b, h2, p_b, h3, p_b, p_c (by decide)]
      simp only [pS_186, p_up1, pS_st186, p_up3]
      rw [m1, p_b, m1, p_b, p_w (x := i + 1) (by omega) (by omega), ← b7, ← b8]
      exact next _ _ _ _ (by omega) (by omega)
  rw [e114, m5 _ _ _ _ (by omega) (by omega), p_b, p_w (x := 0 + kind) (by omega) (by omega), Int.zero_add, m5 _ _ _ _ (by omega) (by omega), p_b, m5 _ _ _ _ (by omega) (by omega), p_b, pS_187, p_upd, pS_186, pS_st186]
  exact lp n.toNat 0 none none pile f (by omega) (by omega)
