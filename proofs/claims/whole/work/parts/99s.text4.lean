/-! PURE: text: every text, as a pair -/
theorem sSame_t {k x1 s base ci top a : Int} (hk : sTb k x1 s base ci top a) {w w' : Int → Int} (h : ∀ y, y ≠ ci → (y < base ∨ base + s * top ≤ y) → w' y = w y) {j : Int} (hj : 0 ≤ j ∧ j < 3) : sSame j w w' := by
  rcases hk with ⟨rfl, rfl, rfl, rfl, rfl, rfl, rfl⟩ | ⟨rfl, rfl, rfl, rfl, rfl, rfl, rfl⟩
  · exact ⟨h _ (by omega) (by omega), fun i i0 i1 => ⟨h _ (by omega) (by omega), h _ (by omega) (by omega), h _ (by omega) (by omega), h _ (by omega) (by omega)⟩, fun i i0 i1 => h _ (by omega) (by omega)⟩
  · exact ⟨h _ (by omega) (by omega), fun i i0 i1 => ⟨h _ (by omega) (by omega), h _ (by omega) (by omega), h _ (by omega) (by omega), h _ (by omega) (by omega)⟩, fun i i0 i1 => h _ (by omega) (by omega)⟩
theorem Tx_tab {k x1 s base ci top a : Int} (hk : sTb k x1 s base ci top a) {an : Nat} (ha : (an : Int) = a) {A M N : am_M} {w w' : Int → Int} (hp : sPutT k s base ci top A w w') (hW : TxW w) (hR : TxR M 28 w) (h0 : N an 0 = A 102 0) (hc : ∀ j, 0 ≤ j → j < 80 → N (an + 1) j = A 103 j) (hf : ∀ b, 28 ≤ b → b < 52 → b ≠ an → b ≠ an + 1 → N b = M b) : TxW w' ∧ TxR N 28 w' := by
  obtain ⟨⟨t0, t1, t2⟩, u1, u2, u3⟩ := hW
  obtain ⟨⟨r0, r1, r2⟩, ⟨v1, v2⟩, v3, v4⟩ := hR
  obtain ⟨⟨p0, p1, p2⟩, p3, p4, p5⟩ := hp
  have s0 := sSame_t hk p5 (j := 0) (by decide)
  have s1 := sSame_t hk p5 (j := 1) (by decide)
  have s2 := sSame_t hk p5 (j := 2) (by decide)
  have an3 : an = 30 ∨ an = 32 := by
    rcases hk with ⟨_, _, _, _, _, _, rfl⟩ | ⟨_, _, _, _, _, _, rfl⟩
    · exact Or.inl (by omega)
    · exact Or.inr (by omega)
  have l0 : LawR N 34 w' 0 := LawR_fr (LawR_S s0 t0 r0) (fun b b0 b1 => hf b (by omega) (by omega) (by omega) (by omega))
  have l1 : LawR N 40 w' 1 := LawR_fr (LawR_S s1 t1 r1) (fun b b0 b1 => hf b (by omega) (by omega) (by omega) (by omega))
  have l2 : LawR N 46 w' 2 := LawR_fr (LawR_S s2 t2 r2) (fun b b0 b1 => hf b (by omega) (by omega) (by omega) (by omega))
  rcases hk with ⟨rfl, rfl, rfl, rfl, rfl, rfl, rfl⟩ | ⟨rfl, rfl, rfl, rfl, rfl, rfl, rfl⟩
  · have e : an = 30 := by omega
    subst e
    have w87 : w' 287 = w 287 := p5 _ (by omega) (by omega)
    refine ⟨⟨⟨LawT_S s0 t0, LawT_S s1 t1, LawT_S s2 t2⟩, ⟨p0, p1⟩, by rw [w87]; exact u2, fun i i0 i1 => ?_⟩, ⟨l0, l1, l2⟩, ⟨?_, fun i j i0 i1 j0 j1 => ?_⟩, ?_, fun i j i0 i1 j0 j1 => ?_⟩
    · rw [w87] at i1
      rw [p5 _ (by omega) (by omega), p5 _ (by omega) (by omega)]
      exact u3 i i0 i1
    · exact h0.trans p2
    · have := hc (i * 5 + j) (by omega) (by omega)
      exact this.trans (p3 i j i0 i1 j0 j1)
    · rw [hf 32 (by decide) (by decide) (by decide) (by decide), w87]
      exact v3
    · rw [w87] at i1
      rw [hf 33 (by decide) (by decide) (by decide) (by decide), p5 _ (by omega) (by omega)]
      exact v4 i j i0 i1 j0 j1
  · have e : an = 32 := by omega
    subst e
    have w86 : w' 286 = w 286 := p5 _ (by omega) (by omega)
    refine ⟨⟨⟨LawT_S s0 t0, LawT_S s1 t1, LawT_S s2 t2⟩, by rw [w86]; exact u1, ⟨p0, p1⟩, p4 rfl⟩, ⟨l0, l1, l2⟩, ⟨?_, fun i j i0 i1 j0 j1 => ?_⟩, ?_, fun i j i0 i1 j0 j1 => ?_⟩
    · rw [hf 30 (by decide) (by decide) (by decide) (by decide), w86]
      exact v1
    · rw [w86] at i1
      rw [hf 31 (by decide) (by decide) (by decide) (by decide), p5 _ (by omega) (by omega)]
      exact v2 i j i0 i1 j0 j1
    · exact h0.trans p2
    · have := hc (i * 5 + j) (by omega) (by omega)
      exact this.trans (p3 i j i0 i1 j0 j1)
/-- the class puts its rows -/
theorem c158p (d : Nat) {x1 : Int} {an : Nat} (h : (x1 = 1 ∧ an = 30) ∨ (x1 = 0 ∧ an = 32)) (A2 : am_M) : ∃ Mf, (if (x1 : Int) = 0 then am_bnd (am_run (d + 1) 158 [.inr 32, .inr 102] A2) (fun _ M2 => some ((M2 102 0), M2)) else am_bnd (am_run (d + 1) 158 [.inr 30, .inr 102] A2) (fun _ M3 => am_bnd (am_run (d + 1) 197 [.inr 0] M3) (fun _ M4 => some ((M4 102 0), M4)))) = some (A2 102 0, Mf) ∧ Mf an 0 = A2 102 0 ∧ (∀ j, 0 ≤ j → j < 80 → Mf (an + 1) j = A2 103 j) ∧ (∀ b, b ≠ 0 → b ≠ an → b ≠ an + 1 → Mf b = A2 b) ∧ (x1 = 0 → Mf 0 = A2 0) ∧ (x1 = 1 → Mf 0 = p_up (A2 0) 3 0) := by
  rcases h with ⟨rfl, rfl⟩ | ⟨rfl, rfl⟩
  · rw [if_neg (by decide), c158t d (Or.inl rfl), p_b, c197, p_b, p_upd]
    refine ⟨p_st (am_cpy (p_st A2 30 (p_up (A2 30) 0 (A2 102 0))) (102 + 1) 0 (30 + 1) 0 80) 0 (p_up (am_cpy (p_st A2 30 (p_up (A2 30) 0 (A2 102 0))) (102 + 1) 0 (30 + 1) 0 80 0) 3 0), ?_, ?_, fun j j0 j1 => ?_, fun b b0 b1 b2 => ?_, fun z => absurd z (by decide), fun _ => ?_⟩
    · rw [p_st2 (a := 0) (b := 102) (by decide), p_cp1 (by decide), p_st2 (by decide)]
    · rw [p_st2 (by decide), p_cp1 (by decide), p_st1, p_up1]
    · rw [p_st2 (show (31 : Nat) ≠ 0 by decide), p_cp2 j0 j1, p_st2 (by decide)]
    · rw [p_st2 b0, p_cp1 b2, p_st2 b1]
    · rw [p_st1, p_cp1 (by decide), p_st2 (by decide)]
  · rw [if_pos rfl, c158t d (Or.inr rfl), p_b, p_upd]
    refine ⟨am_cpy (p_st A2 32 (p_up (A2 32) 0 (A2 102 0))) (102 + 1) 0 (32 + 1) 0 80, ?_, ?_, fun j j0 j1 => ?_, fun b b0 b1 b2 => ?_, fun _ => ?_, fun z => absurd z (by decide)⟩
    · rw [p_cp1 (by decide), p_st2 (by decide)]
    · rw [p_cp1 (by decide), p_st1, p_up1]
    · rw [p_cp2 j0 j1, p_st2 (by decide)]
    · rw [p_cp1 b2, p_st2 b1]
    · rw [p_cp1 (by decide), p_st2 (by decide)]
theorem a_textT {C M : am_M} (hI : Inv C M) (hK : pKons C) {k x1 s base ci top a : Int} (hk : sTb k x1 s base ci top a) : Pair C M 187 52 [.inl k] := by
  obtain ⟨r0, A1, e0, hQ, hWf, fA, _, _⟩ := t_begin hI hK
  have hI' := hI
  obtain ⟨⟨a1, a2, a3, a4, a5, a6⟩, ⟨b1, b2, b3, b4⟩, ⟨c1, c2, c3⟩, ⟨d1, d2, d3⟩, ⟨e1, e2⟩, g1, h1⟩ := hI'
  have hk34 : k = 3 ∨ k = 4 := hk.elim (fun z => Or.inl z.1) (fun z => Or.inr z.1)
  obtain ⟨an, han, hx⟩ : ∃ an : Nat, (an : Int) = a ∧ ((x1 = 1 ∧ an = 30) ∨ (x1 = 0 ∧ an = 32)) := by
    rcases hk with ⟨_, w, _, _, _, _, rfl⟩ | ⟨_, w, _, _, _, _, rfl⟩
    · exact ⟨30, rfl, Or.inl ⟨w, rfl⟩⟩
    · exact ⟨32, rfl, Or.inr ⟨w, rfl⟩⟩
  have zA : ∀ b, b ≠ 0 → (b < 92 ∨ 95 < b) → (p_st A1 0 (p_up (A1 0) 12 0)) b = M b := by
    intro b b0 b1
    rw [p_st2 b0, fA b (by omega) (by omega) (by omega) (by omega)]
  have zA0 : (p_st A1 0 (p_up (A1 0) 12 0)) 0 = p_up (M 0) 12 0 := by rw [p_st1, fA 0 (by decide) (by decide) (by decide) (by decide)]
  have begin_ : ∀ (f : Int → am_M → am_R), am_bnd (am_run 999 160 [.inr 92, .inr 91, .inl (M 0 12)] M) (fun _ M1 => am_bnd (am_run 999 253 [.inl k, .inl 0, .inl 4] (am_upd M1 0 12 0)) f) = f 1 (p_st A1 0 (p_up (A1 0) 12 0)) := by
    intro f
    rw [e0, p_b, p_upd, c253, p_b, if_pos (show 0 ≤ k ∧ k ≤ 4 by omega)]
  have hP8 : 0 ≤ M 187 276 ∧ M 187 276 ≤ 8 := a2.1.2.1
  have tab := fun (N : am_M) (h16 : N 186 16 = M 186 16) (h94 : N 194 = M 194) (hs : sStr N) (hP : N 187 276 = M 187 276) => t_tab hk hP8 hQ hWf h16 d2 (by rw [h94]; exact fun j j0 j1 => (d3 j j0 j1).2.1) hs hP (by rw [h94]) 995 985
  have zP : (p_st A1 0 (p_up (A1 0) 12 0)) 1 2 = M 187 276 := by rw [zA 1 (by decide) (by decide)]; exact R_n a1
  generalize p_st A1 0 (p_up (A1 0) 12 0) = A at *
  obtain ⟨x, A2, r1, B3, y1, y2, y3, y4, y5, y6, y7⟩ := tab M rfl rfl (sStr_C hI hK (fun b _ => rfl)) rfl
  have y1 : am_run 999 177 [.inr 92, .inl x1, .inl (M 187 276)] A = some (x, A2) := y1
  have zA2 : ∀ b, b ≠ 0 → (b < 92 ∨ (95 < b ∧ b < 102) ∨ 103 < b) → A2 b = M b := by
    intro b b0 b1
    rw [y3 b (by omega) (by omega) (by omega), zA b b0 (by omega)]
  have zA20 : A2 0 = p_up (M 0) 12 0 := by rw [y3 0 (by decide) (by decide) (by decide), zA0]
  have cls : am_run 1000 187 [.inr 0, .inl k] M = am_L 999 187 47 [some (.inr 0), some (.inl k), none] [.inl x1] A := by
    rw [e187, begin_, if_neg (by decide), if_neg (show ¬ k < 3 by omega)]
    rcases hk with ⟨rfl, rfl, _⟩ | ⟨rfl, rfl, _⟩
    · rw [if_pos rfl]
    · rw [if_neg (by decide)]
  unfold Pair
  rw [cls, e187_47, zP, y1, p_b]
  rcases y7 with ⟨rfl, _⟩ | ⟨rfl, _⟩
  · rw [if_pos rfl]
    refine pOk_s ?_
    obtain ⟨x', A2', r', B3', z1, z2, z3, z4, z5, z6, z7⟩ := tab A2 (by rw [zA2 186 (by decide) (by decide)]) (zA2 194 (by decide) (by decide)) (sStr_C hI hK (fun b hb => zA2 b (by omega) (by omega))) (by rw [zA2 187 (by decide) (by decide)])
    have z1 : am_run 999 177 [.inr 92, .inl x1, .inl (M 187 276)] A = some (x', A2') := z1
    rw [y1] at z1
    injection z1 with z1
    injection z1 with z1 z1'
    subst z1 z1'
    have z2 : am_run 1000 52 [.inr 186, .inl k] A2 = some (r', B3') := z2
    rw [z2]
    rcases z7 with ⟨_, q1, q2, q3⟩ | ⟨q0, _⟩
    · have n7 : B3' 187 = M 187 := q2.trans (zA2 187 (by decide) (by decide))
      have n0 : B3' 0 = p_up (M 0) 12 0 := (z4 0 (by decide) (by decide) (by decide)).trans zA20
      have n86 : A2 186 = M 186 := zA2 186 (by decide) (by decide)
      refine pOk_s ⟨q1, Inv_text hI (fun b t0 t1 t2 t3 t4 t5 => ?_) ⟨?_, ?_, ?_⟩ ⟨z5.1, ?_⟩ ⟨?_, Or.inl ?_⟩ ⟨?_, ?_⟩ (fun x _ => by rw [n7]) (by rw [n7]; exact a4) ?_⟩
      · rw [z4 b t3 t4 (by omega), zA2 b t0 (by omega)]
      · rw [n0, p_up1]
      · rw [n0, p_off (by omega)]
      · rw [n0, p_off (by omega)]
      · rw [z5.2, n86]
      · rw [q3, n86, n0, p_off (by omega)]
        exact b1
      · rw [q3, n86]
      · rw [z4 92 (by decide) (by decide) (by decide)]
        exact z6.1.symm
      · rw [z4 92 (by decide) (by decide) (by decide)]
        exact z6.2.symm
      · rw [n7]
        exact TxR_fr a5 (fun b t0 t1 => by rw [z4 b (by omega) (by omega) (by omega), zA2 b (by omega) (by omega)])
    · exact absurd q0 (by decide)
  · rw [if_neg (by decide)]
    obtain ⟨Mf, s1, s2, s3, s4, s5, s6⟩ := c158p 998 hx A2
    have s1 : (if (x1 : Int) = 0 then am_bnd (am_run 999 158 [.inr 32, .inr 102] A2) (fun _ M2 => some ((M2 102 0), M2)) else am_bnd (am_run 999 158 [.inr 30, .inr 102] A2) (fun _ M3 => am_bnd (am_run 999 197 [.inr 0] M3) (fun _ M4 => some ((M4 102 0), M4)))) = some (A2 102 0, Mf) := s1
    rw [s1]
    refine pOk_s ?_
    have zM4 : ∀ b, b ≠ 0 → (b < 28 ∨ 51 < b) → Mf b = A2 b := fun b b0 hb => s4 b b0 (by omega) (by omega)
    obtain ⟨x', A2', r', B3', z1, z2, z3, z4, z5, z6, z7⟩ := tab Mf (by rw [zM4 186 (by decide) (by decide), zA2 186 (by decide) (by decide)]) (by rw [zM4 194 (by decide) (by decide)]; exact zA2 194 (by decide) (by decide)) (sStr_C hI hK (fun b hb => (zM4 b (by omega) (by omega)).trans (zA2 b (by omega) (by omega)))) (by rw [zM4 187 (by decide) (by decide), zA2 187 (by decide) (by decide)])
    have z1 : am_run 999 177 [.inr 92, .inl x1, .inl (M 187 276)] A = some (x', A2') := z1
    rw [y1] at z1
    injection z1 with z1
    injection z1 with z1 z1'
    subst z1 z1'
    have z2 : am_run 1000 52 [.inr 186, .inl k] Mf = some (r', B3') := z2
    rw [z2]
    rcases z7 with ⟨q0, _⟩ | ⟨_, t1, t2, t3, t4⟩
    · exact absurd q0 (by decide)
    have n86 : Mf 186 = M 186 := (zM4 186 (by decide) (by decide)).trans (zA2 186 (by decide) (by decide))
    have n87 : Mf 187 = M 187 := (zM4 187 (by decide) (by decide)).trans (zA2 187 (by decide) (by decide))
    have n0 : ∀ f, f ≠ 3 → B3' 0 f = p_up (M 0) 12 0 f := by
      intro f hf
      rw [z4 0 (by decide) (by decide) (by decide)]
      rcases hx with ⟨w, _⟩ | ⟨w, _⟩
      · rw [s6 w, zA20, p_off (by omega)]
      · rw [s5 w, zA20]
    rw [n87] at t4
    have hnew := Tx_tab hk han (M := M) (N := B3') t4 a4 a5 (by rw [z4 an (by omega) (by omega) (by omega)]; exact s2) (fun j j0 j1 => by rw [z4 (an + 1) (by omega) (by omega) (by omega)]; exact s3 j j0 j1) (fun b b0 b1 b2 b3 => by rw [z4 b (by omega) (by omega) (by omega), s4 b (by omega) b2 b3, zA2 b (by omega) (by omega)])
    refine pOk_s ⟨by rw [t1], Inv_text hI (fun b u0 u1 u2 u3 u4 u5 => ?_) ⟨?_, ?_, ?_⟩ ⟨z5.1, ?_⟩ ?_ ⟨?_, ?_⟩ (fun y hy => ?_) hnew.1 hnew.2⟩
    · rw [z4 b u3 u4 (by omega), zM4 b u0 (by omega), zA2 b u0 (by omega)]
    · rw [n0 12 (by decide), p_up1]
    · rw [n0 10 (by decide), p_off (by omega)]
    · rw [n0 4 (by decide), p_off (by omega)]
    · rw [z5.2, n86]
    · rcases hx with ⟨w, _⟩ | ⟨w, _⟩
      · refine ⟨?_, Or.inr (t2 w)⟩
        rw [t2 w, z4 0 (by decide) (by decide) (by decide), s6 w, p_up1]
      · refine ⟨?_, Or.inl (by rw [t3 w, n86])⟩
        rw [t3 w, n86, z4 0 (by decide) (by decide) (by decide), s5 w, zA20, p_off (by omega)]
        exact b1
    · rw [z4 92 (by decide) (by decide) (by decide), zM4 92 (by decide) (by decide)]
      exact z6.1.symm
    · rw [z4 92 (by decide) (by decide) (by decide), zM4 92 (by decide) (by decide)]
      exact z6.2.symm
    · rcases hk with ⟨rfl, rfl, rfl, rfl, rfl, rfl, rfl⟩ | ⟨rfl, rfl, rfl, rfl, rfl, rfl, rfl⟩
      · exact t4.2.2.2 y (by omega) (by omega)
      · exact t4.2.2.2 y (by omega) (by omega)
theorem a_text {C M : am_M} (hI : Inv C M) (hK : pKons C) (hS : ∀ k, 0 ≤ k → k < 3 → C 200 k = sFst k ∧ C 201 k = sLst k ∧ C 202 k = sAsk k) (p : Int) : Pair C M 187 52 [.inl p] := by
  by_cases q : 0 ≤ p ∧ p < 3
  · exact a_textL hI hK hS q
  by_cases q3 : p = 3
  · rw [q3]
    exact a_textT hI hK (Or.inl ⟨rfl, rfl, rfl, rfl, rfl, rfl, rfl⟩)
  by_cases q4 : p = 4
  · rw [q4]
    exact a_textT hI hK (Or.inr ⟨rfl, rfl, rfl, rfl, rfl, rfl, rfl⟩)
  obtain ⟨r0, A1, e0, hQ, hWf, fA, f5, f6⟩ := t_begin hI hK
  have hI' := hI
  obtain ⟨⟨a1, a2, a3, a4, a5, a6⟩, ⟨b1, b2, b3, b4⟩, ⟨c1, c2, c3⟩, ⟨d1, d2, d3⟩, ⟨e1, e2⟩, g1, h1⟩ := hI'
  unfold Pair
  rw [e187, e0, p_b, p_upd, c253, p_b, if_neg (show ¬ (0 ≤ p ∧ p ≤ 4) by omega), if_pos rfl]
  refine pOk_s ?_
  rw [e52, m0, p_b, if_neg (show ¬ (0 ≤ p ∧ p ≤ 4) by omega), if_pos rfl]
  simp only [p_upd, p_st1, p_st3]
  have zA : ∀ b, b ≠ 0 → (b < 92 ∨ 95 < b) → (p_st A1 0 (p_up (A1 0) 12 0)) b = M b := by
    intro b b0 b1
    rw [p_st2 b0, fA b (by omega) (by omega) (by omega) (by omega)]
  have zA0 : (p_st A1 0 (p_up (A1 0) 12 0)) 0 = p_up (M 0) 12 0 := by rw [p_st1, fA 0 (by decide) (by decide) (by decide) (by decide)]
  have z5 : (p_st A1 0 (p_up (A1 0) 12 0)) 92 5 = 0 := by rw [p_st2 (by decide)]; exact f5
  have z6 : (p_st A1 0 (p_up (A1 0) 12 0)) 92 6 = -1 := by rw [p_st2 (by decide)]; exact f6
  generalize p_st A1 0 (p_up (A1 0) 12 0) = A at *
  have n86 : A 186 = M 186 := zA 186 (by decide) (by decide)
  have n87 : A 187 = M 187 := zA 187 (by decide) (by decide)
  refine pOk_s ⟨rfl, Inv_text hI (fun b u0 u1 u2 u3 u4 u5 => ?_) ⟨?_, ?_, ?_⟩ ⟨?_, ?_⟩ ⟨?_, Or.inl ?_⟩ ⟨?_, ?_⟩ (fun y _ => ?_) ?_ ?_⟩
  · rw [p_st2 u3, zA b u0 (by omega)]
  · rw [p_st2 (by decide), zA0, p_up1]
  · rw [p_st2 (by decide), zA0, p_off (by omega)]
  · rw [p_st2 (by decide), zA0, p_off (by omega)]
  · rw [p_st1, p_up1]
  · rw [p_st1, p_off (by omega), p_off (by omega), p_off (by omega), n86]
  · rw [p_st2 (by decide), zA0, p_off (by omega), p_st1, p_off (by omega), p_off (by omega), p_off (by omega), n86]
    exact b1
  · rw [p_st1, p_off (by omega), p_off (by omega), p_off (by omega), n86]
  · rw [p_st2 (by decide), z5, p_st1, p_off (by omega), p_off (by omega), p_up1]
  · rw [p_st2 (by decide), z6, p_st1, p_off (by omega), p_up1]
  · rw [p_st2 (by decide), n87]
  · rw [p_st2 (by decide), n87]; exact a4
  · rw [p_st2 (by decide), n87]
    exact TxR_fr a5 (fun b t0 t1 => by rw [p_st2 (by omega), zA b (by omega) (by omega)])
