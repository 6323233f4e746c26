/-! PURE: toil and an hour, in the class -/
def pTk1 (w : Int → Int) (h kind : Int) (F : Int → Int) : Int → Int := p_up w (36 + 10 * h + kind) (min 99 (am_wrap (ph w h kind + pAm w F 26 9)))
def pTkF (w : Int → Int) (p h kind : Int) : Int → Int := pTaskF w h p kind (ph w h kind) (fun _ => 0)
def pToil (w : Int → Int) (p h kind : Int) : Int → Int := pEarns (pWk2 (pTk1 w h kind (pTkF w p h kind)) h (pAm w (pTkF w p h kind) 27 9)) p (pAm w (pTkF w p h kind) 29 99)
theorem pWorks_toil (w : Int → Int) (p h t : Int) : pWorks w p h t = pWk4 (pToil w p h (pp w p 1)) h (if t = 0 then 0 else pAm w (pTkF w p h (pp w p 1)) 28 1000) := rfl
theorem pAskd_task (M : am_M) (w : Int → Int) (h p kind : Int) (g : Int → Int) (hM : M 105 = p_up (p_up (p_up (cHF w h p g) 10 (ph w h kind)) 12 kind) 13 (w 0)) : pAskd M 1 (pTkF w p h kind) := by
  intro s hs
  rw [hM]
  simp only [pA, if_true, if_false, List.mem_cons, List.not_mem_nil, or_false, show ¬ (1 : Int) = 0 by decide] at hs
  rcases hs with rfl | rfl | rfl | rfl | rfl | rfl | rfl | rfl | rfl <;> simp [pTkF, pTaskF, pHF, cHF, p_up]
theorem c236 (d : Nat) {o : Nat} (ho : IsW o) {M : am_M} {w : Int → Int} (hR : WR M o w) (hw : WF w) (hW : TxW w) (hX : TxR M 28 w) {p h kind : Int} (hh : 0 ≤ h ∧ h < 16) (hp : 0 ≤ p ∧ p < 8) (hk : 0 ≤ kind ∧ kind < 4) : pOk (am_run (d + 3) 236 [.inr 0, .inr o, .inl p, .inl h, .inl kind] M) (fun r M' => r = pAm w (pTkF w p h kind) 28 1000 ∧ WR M' o (pToil w p h kind) ∧ CA o M M') := by
  have far := w_far ho
  have n2 := hw.1.2.1
  have hc := (hw.2.1 p hp.1 hp.2).1
  have R : ∀ F stk, WR (cT M F stk) o w := fun F stk => WR_cT ho hR F stk
  have es := R_skill hR hh.1 hh.2 hk.1 hk.2
  have ehr := R_hr hR
  have ew := R_wear hR hh.1 hh.2
  have ec := R_coin hR hp.1 hp.2
  generalize hF : p_up (p_up (p_up (cHF w h p (M 105)) 10 (ph w h kind)) 12 kind) 13 (w 0) = F
  have am : ∀ (stk : Int → Int) (word : Int), 26 ≤ word ∧ word ≤ 29 → ∃ r stk2, am_run (d + 2) 155 [.inr 40, .inl (word - 6), .inr 104] (cT M F stk) = some (r, cT M F stk2) ∧ ∀ high, 0 ≤ high → max 0 (min high r) = pAm w (pTkF w p h kind) word high := by
    intro stk word hword
    obtain ⟨r, stk2, h1, h2⟩ := c155 d (a := 40) (by unfold IsL; omega) (M := cT M F stk) (w := w) (f := pTkF w p h kind) (word := word) hword hW.1.2.1 (LawR_fr hX.1.2.1 (fun b _ _ => cT_o (by omega))) (pAskd_task _ w h p kind (M 105) (by rw [cT_105, ← hF]))
    rw [cT_st106] at h1
    exact ⟨r, stk2, h1, h2⟩
  obtain ⟨r1, s1, a1, b1⟩ := am (M 106) 26 (by omega)
  obtain ⟨r2, s2, a2, b2⟩ := am s1 27 (by omega)
  obtain ⟨r3, s3, a3, b3⟩ := am s2 29 (by omega)
  obtain ⟨r4, s4, a4, b4⟩ := am s3 28 (by omega)
  have ra := pAm_range (w := w) (F := pTkF w p h kind) (word := 29) (high := 99) (by omega)
  have x0 : o ≠ 105 ∧ o ≠ 106 := by omega
  have x1 : o + 1 ≠ 105 ∧ o + 1 ≠ 106 := by omega
  have x7 : o + 7 ≠ 105 ∧ o + 7 ≠ 106 := by omega
  have x8 : o + 8 ≠ 105 ∧ o + 8 ≠ 106 := by omega
  have U1 := U_skill (R F s4) n2.2 (h := h) (k := kind) (v := min 99 (am_wrap (ph w h kind + pAm w (pTkF w p h kind) 26 9))) hh hk
  have U2 := U_wear U1 (by rw [p_off (by omega)]; exact n2.2) (h := h) (v := min 99 (am_wrap (ph w h 4 + pAm w (pTkF w p h kind) 27 9))) hh
  have U3 := U_coin U2 (by rw [p_off (by omega), p_off (by omega)]; exact n2.2) (p := p) (v := min 9999 (pp w p 0 + pAm w (pTkF w p h kind) 29 99)) hp
  have eW : p_up (p_up (p_up w (36 + 10 * h + kind) (min 99 (am_wrap (ph w h kind + pAm w (pTkF w p h kind) 26 9)))) (36 + 10 * h + 4) (min 99 (am_wrap (ph w h 4 + pAm w (pTkF w p h kind) 27 9)))) (4 + 4 * p + 0) (min 9999 (pp w p 0 + pAm w (pTkF w p h kind) 29 99)) = pToil w p h kind := by
    unfold pToil pEarns pWk2 pTk1
    rw [ph_off (by omega), pp_off (by omega), pp_off (by omega)]
  rw [eW] at U3
  simp (disch := omega) only [p_st1, p_st2, cT_o x1, cT_o x7, cT_o x8] at U3
  rw [e236]
  simp only [w_c ho, w_r5 ho, w_r6 ho, w_r7 ho, w_r8 ho, w_r9 ho, w_r10 ho, w_r11 ho, w_r12 ho, w_r13 ho, w_r14 ho, w_r15 ho, w_r16 ho, w_k1 ho, w_k2 ho, w_k3 ho, w_k4 ho, w_k5 ho, w_k6 ho, w_k7 ho, w_k8 ho, w_k9 ho, w_k10 ho, w_k11 ho, w_k12 ho, w_l1 ho, w_l2 ho, w_l3 ho, w_l4 ho, w_l5 ho, w_l6 ho, w_l7 ho, w_l8 ho, w_l9 ho, w_l10 ho, w_l11 ho, w_l12 ho, w_B5, w_B9, cond_true, Bool.true_or]
  rw [c251 _ ho hR hh hp, p_b, p_w (x := h * 4) (by omega) (by omega), p_w (x := h * 4 + kind) (by omega) (by omega), p_c (by omega), p_c (by decide), p_c (by decide), p_c (by decide), p_c (by decide)]
  simp only [p_upd, cT_105, cT_st105, cT_o x7, cT_o x0, es, ehr]
  rw [hF]
  have w6 : (26 : Int) - 6 = 20 := rfl
  have w7 : (27 : Int) - 6 = 21 := rfl
  have w8 : (28 : Int) - 6 = 22 := rfl
  have w9 : (29 : Int) - 6 = 23 := rfl
  rw [w6] at a1
  rw [w7] at a2
  rw [w8] at a4
  rw [w9] at a3
  rw [a1, p_b, c254, p_b, b1 9 (by omega), a2, p_b, c254, p_b, b2 9 (by omega), a3, p_b, c254, p_b, b3 99 (by omega), a4, p_b, c254, p_b, b4 1000 (by omega)]
  simp (disch := omega) only [p_st2, cT_o x1, cT_o x7, cT_o x8, es, ew, ec, p_w]
  simp only [Int.min_comm _ 99, Int.min_comm _ 9999]
  refine pOk_c (by omega) (pOk_c (by omega) (pOk_c (by omega) (pOk_c (by omega) (pOk_c (by omega) (pOk_c (by omega) (pOk_s ⟨rfl, U3, ?_⟩))))))
  intro b hb h5 h6
  rw [p_st2 (by omega), p_st2 (by omega), p_st2 (by omega), cT_o ⟨h5, h6⟩]
