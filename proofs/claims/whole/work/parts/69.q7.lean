/-! PURE: deeds in thought -/
def pPr (w : Int → Int) (h : Int) : Int := if pLatest w h = -1 then 0 else pl w (pLatest w h) 4
def pJF (w : Int → Int) (h p more : Int) (f : Int → Int) : Int → Int := p_up (p_up (pHF w h p f) 12 (am_wrap (ph w h 7 + more))) 6 (pPr w h)
def pJ (w : Int → Int) (h p more : Int) : Int := pSays w (pJF w h p more (fun _ => 0)) 2 23 (w 290).toNat 0
theorem pJF_dep (w : Int → Int) (h p more : Int) (f g : Int → Int) : ∀ s ∈ pA 2, pJF w h p more f s = pJF w h p more g s := by
  intro s hs
  simp only [pA, if_false, List.mem_cons, List.not_mem_nil, or_false, show ¬ (2 : Int) = 0 by decide, show ¬ (2 : Int) = 1 by decide] at hs
  rcases hs with rfl | rfl | rfl | rfl | rfl | rfl | rfl <;> simp [pJF, pHF, p_up]
theorem pSays_ok {w f : Int → Int} {k o : Int} (hL : LawT w k) (ho : pSayOk k o) : ∀ (n : Nat) (i : Int), 0 ≤ i → i + n = w (288 + k) → pSayOk k (pSays w f k o n i) := by
  intro n
  induction n with
  | zero => intro i _ _; exact ho
  | succ n ih =>
    intro i h0 hi
    rw [pSays]
    by_cases q : pHolds w f k i = true
    · rw [if_pos q]; exact (hL.2 i h0 (by omega)).2.2.2
    · rw [if_neg q]; exact ih (i + 1) (by omega) (by omega)
theorem pJ_range {w : Int → Int} (hL : LawT w 2) (h p more : Int) : 22 ≤ pJ w h p more ∧ pJ w h p more ≤ 25 := by
  have n : 0 ≤ w 290 := hL.1.1
  have := pSays_ok (f := pJF w h p more (fun _ => 0)) (o := 23) hL (by unfold pSayOk; omega) (w 290).toNat 0 (by omega) (by show (0 : Int) + _ = w 290; omega)
  exact this.2.2 rfl
theorem m78 (d : Nat) (p s more : Int) (M : am_M) (hw : WF (M 187)) (hW : TxW (M 187)) (hs : 0 ≤ s ∧ s ≤ 1) (hp : 0 ≤ p ∧ p < 8) (ho : pOn (M 187) p s ≠ -1) : ∃ pile f, am_run (d + 5) 78 [.inr 186, .inl p, .inl s, .inl more] M = some (pJ (M 187) (pOn (M 187) p s) p more - 22, pS M (M 186) (M 187) pile f) := by
  have n1 := hw.1.1
  have n2 := hw.1.2.1
  have n290 : 0 ≤ M 187 290 := hW.1.2.2.1.1
  have hr := pOn_range (w := M 187) (p := p) hs n2.1
  have hj := pJ_range hW.1.2.2 (pOn (M 187) p s) p more
  have hlr := pLatest_range (w := M 187) (h := pOn (M 187) p s) n1.1
  generalize hg : pOn (M 187) p s = h at *
  obtain ⟨pile, hp57⟩ := m57 d 2 23 (p_st M 196 (pJF (M 187) h p more (M 196))) (by omega) (by rw [p_st2 (by decide)]; exact LawT_law hW.1.2.2)
  rw [p_st1, p_st2 (by decide), show (288 : Int) + 2 = 290 from rfl, pSays_dep (LawT_law hW.1.2.2) (pJF_dep (M 187) h p more (M 196) (fun _ => 0)) _ 0 (Int.le_refl _) (by show (0 : Int) + _ = M 187 290; omega), p_st4 (by decide), pS_lw] at hp57
  have e12 : pHF (M 187) h p (M 196) 12 = ph (M 187) h 7 := by
    unfold pHF
    rw [p_off (by omega), p_off (by omega), p_up1]
  refine ⟨pile, pJF (M 187) h p more (M 196), ?_⟩
  rw [e78, m12 _ _ _ _ n2 hs, p_b, hg, m61 _ _ _ n1, p_b, m62 _ _ _ _ (by omega) hp, p_b, p_c (by decide), p_c (by decide)]
  simp only [p_upd, p_st1, p_st3, e12]
  have fin : am_bnd (am_run (d + 4) 57 [.inr 186, .inl 2, .inl 23] (p_st M 196 (pJF (M 187) h p more (M 196)))) (fun r6 M6 => some (am_wrap (r6 - 22), M6)) = some (pJ (M 187) h p more - 22, pS M (M 186) (M 187) pile (pJF (M 187) h p more (M 196))) := by
    rw [hp57, p_b]
    have : pSays (M 187) (pJF (M 187) h p more (fun _ => 0)) 2 23 (M 187 290).toNat 0 = pJ (M 187) h p more := rfl
    rw [this, p_w (by omega) (by omega)]
  unfold pJF pPr at fin ⊢
  rcases hlr with q | ⟨q1, q2, -⟩
  · rw [if_pos q] at fin ⊢
    rw [if_pos q, p_c (by decide)]
    exact fin
  · rw [if_neg (show ¬ pLatest (M 187) h = -1 by omega)] at fin ⊢
    rw [if_neg (show ¬ pLatest (M 187) h = -1 by omega), m7 _ _ _ _ (by omega) (by omega), p_b, p_c (by decide)]
    simp only [p_st1, p_st3, p_st2 (show (187 : Nat) ≠ 196 by decide)]
    exact fin
theorem c248 (d : Nat) {M : am_M} {w : Int → Int} (hR : WR M 1 w) (hw : WF w) (hW : TxW w) (hX : TxR M 28 w) {p h : Int} (more : Int) (hh : 0 ≤ h ∧ h < 16) (hp : 0 ≤ p ∧ p < 8) : ∃ F stk, am_run (d + 3) 248 [.inr 0, .inl p, .inl h, .inl more] M = some (pJ w h p more + 2, cT M F stk) := by
  have n1 := hw.1.1
  have hlr := pLatest_range (w := w) (h := h) n1.1
  have hj := pJ_range hW.1.2.2 h p more
  generalize hF : p_up (p_up (cHF w h p (M 105)) 11 (am_wrap (ph w h 7 + more))) 5 (pPr w h) = F
  have ask : pAskd (cT M F (M 106)) 2 (pJF w h p more (fun _ => 0)) := by
    intro s hs
    rw [cT_105, ← hF]
    simp only [pA, if_false, List.mem_cons, List.not_mem_nil, or_false, show ¬ (2 : Int) = 0 by decide, show ¬ (2 : Int) = 1 by decide] at hs
    rcases hs with rfl | rfl | rfl | rfl | rfl | rfl | rfl <;> simp [pJF, pHF, cHF, p_up]
  obtain ⟨r, stk, h1, h2⟩ := c154 d (a := 46) (by unfold IsL; omega) (M := cT M F (M 106)) (w := w) (f := pJF w h p more (fun _ => 0)) (k := 2) (by omega) hW.1.2.2 (LawR_fr hX.1.2.2 (fun b _ _ => cT_o (by omega))) ask
  rw [cT_st106] at h1
  have e11 : cHF w h p (M 105) 11 = ph w h 7 := by
    unfold cHF
    rw [p_off (by omega), p_off (by omega), p_up1]
  have er : (if r = -1 then (25 : Int) else r) = pJ w h p more + 2 := by
    rcases h2 with ⟨q1, q2⟩ | ⟨s, q1, q2, q3⟩
    · have e : pJ w h p more = 23 := q2 23
      rw [if_pos q1, e]; rfl
    · have e : pJ w h p more = s := q3 23
      have b := q1.2.2 rfl
      have ev : pVb s = s + 2 := by
        unfold pVb
        rw [if_neg (by omega), if_pos (by omega)]
      rw [q2, ev, if_neg (by omega), e]
  have fin : am_bnd (am_run (d + 2) 154 [.inr 46, .inr 104] (cT M F (M 106))) (fun r5 M5 => (if (r5 : Int) = (-1) then some (25, M5) else some (r5, M5))) = some (pJ w h p more + 2, cT M F stk) := by
    rw [h1, p_b, ← er]
    by_cases q : r = -1
    · rw [if_pos q, if_pos q]
    · rw [if_neg q, if_neg q]
  refine ⟨F, stk, ?_⟩
  rw [e248, c143 _ ho1 hR n1, p_b, c251 _ ho1 hR hh hp, p_b, p_c (by decide), p_c (by decide)]
  simp only [p_upd, cT_105, cT_st105, e11]
  clear h2 er
  rcases hlr with q | ⟨q1, q2, -⟩
  · have ep : pPr w h = 0 := if_pos q
    rw [ep] at hF
    rw [if_pos q, p_c (by decide), p_c (by decide), hF]
    exact fin
  · have ep : pPr w h = pl w (pLatest w h) 4 := if_neg (by omega)
    rw [ep] at hF
    rw [if_neg (by omega), c142 _ ho1 (WR_cT ho1 hR _ _) (by omega) (by omega), p_b, p_c (by decide), p_c (by decide)]
    simp only [cT_105, cT_st105]
    rw [hF]
    exact fin
theorem m77 (d : Nat) (p s : Int) (M : am_M) (hn : 0 ≤ M 187 276 ∧ M 187 276 ≤ 8) : am_run (d + 3) 77 [.inr 186, .inl p, .inl s] M = some (if ((0 ≤ p ∧ p ≤ M 187 276 - 1) ∧ 0 ≤ s ∧ s ≤ 1) ∧ pOn (M 187) p s ≠ -1 then 1 else 0, M) := by
  rw [e77, m8 _ _ _ hn, p_b, p_i0]
  by_cases h1 : 0 ≤ p ∧ p ≤ M 187 276 - 1
  · rw [if_pos h1, m11, p_b, p_i0]
    by_cases h2 : 0 ≤ s ∧ s ≤ 1
    · rw [if_pos h2, m12 _ _ _ _ hn h2, p_b]
      by_cases h3 : pOn (M 187) p s = -1
      · rw [if_pos h3, if_neg (fun q => q.2 h3)]
      · rw [if_neg h3, if_pos ⟨⟨h1, h2⟩, h3⟩]
    · rw [if_neg h2, if_neg (fun q => h2 q.1.2)]
  · rw [if_neg h1, if_neg (fun q => h1 q.1.1)]
/-- whose wrist it is, if any -/
def pWh (w : Int → Int) (p s : Int) : Int := if (0 ≤ p ∧ p ≤ w 276 - 1) ∧ 0 ≤ s ∧ s ≤ 1 then pOn w p s else -1
theorem pWh_cases {w : Int → Int} (hn : 0 ≤ w 276) (p s : Int) : pWh w p s = -1 ∨ (((0 ≤ p ∧ p ≤ w 276 - 1) ∧ 0 ≤ s ∧ s ≤ 1) ∧ pWh w p s = pOn w p s ∧ 0 ≤ pOn w p s ∧ pOn w p s < 2 * w 276) := by
  unfold pWh
  by_cases h : (0 ≤ p ∧ p ≤ w 276 - 1) ∧ 0 ≤ s ∧ s ≤ 1
  · rw [if_pos h]
    rcases pOn_range (w := w) (p := p) h.2 hn with q | ⟨q1, q2, -⟩
    · exact Or.inl q
    · exact Or.inr ⟨h, rfl, q1, q2⟩
  · rw [if_neg h]; exact Or.inl rfl
theorem m77w (d : Nat) (p s : Int) (M : am_M) (hn : 0 ≤ M 187 276 ∧ M 187 276 ≤ 8) : am_run (d + 3) 77 [.inr 186, .inl p, .inl s] M = some (if pWh (M 187) p s = -1 then 0 else 1, M) := by
  rw [m77 _ _ _ _ hn]
  unfold pWh
  by_cases h : (0 ≤ p ∧ p ≤ M 187 276 - 1) ∧ 0 ≤ s ∧ s ≤ 1
  · rw [if_pos h]
    by_cases h3 : pOn (M 187) p s = -1
    · rw [if_pos h3, if_neg (fun q => q.2 h3)]
    · rw [if_neg h3, if_pos ⟨h, h3⟩]
  · rw [if_neg h, if_neg (fun q => h q.1), if_pos rfl]
theorem q_judged {C M : am_M} (hI : Inv C M) (p s n : Int) : Pair C M 249 119 [.inl p, .inl s, .inl n] := by
  have hR := hI.1.1
  have hw := hI.1.2.1
  have hW := hI.1.2.2.2.1
  have hX := hI.1.2.2.2.2.1
  have n2 := hw.1.2.1
  have hc := pWh_cases (w := M 187) n2.1 p s
  refine Pair_q (v := if pWh (M 187) p s ≠ -1 ∧ 0 ≤ n ∧ n ≤ 99 then pJ (M 187) (pWh (M 187) p s) p n - 22 else -1) hI ?_ (fun M1 hI1 e1 => ?_)
  · rw [e249, c252 _ hR n2, p_b]
    show pOk (if pWh (M 187) p s = -1 then _ else _) _
    by_cases h1 : pWh (M 187) p s = -1
    · rw [if_pos h1, if_neg (fun q => q.1 h1)]; exact pOk_s ⟨rfl, CQ_refl _⟩
    · rw [if_neg h1, c253, p_b, p_i0]
      by_cases h2 : 0 ≤ n ∧ n ≤ 99
      · rcases hc with q | ⟨q1, q2, q3, q4⟩
        · exact absurd q h1
        obtain ⟨F, stk, hr⟩ := c248 996 hR hw hW hX n (p := p) (h := pWh (M 187) p s) (by omega) (by omega)
        have hj := pJ_range hW.1.2.2 (pWh (M 187) p s) p n
        rw [if_pos h2]
        show pOk (am_bnd (am_run 999 248 [.inr 0, .inl p, .inl (pWh (M 187) p s), .inl n] M) _) _
        rw [hr, p_b, p_w (by omega) (by omega)]
        exact pOk_s ⟨by rw [if_pos ⟨h1, h2⟩]; omega, cT_CQ _ _ _⟩
      · rw [if_neg h2, if_neg (fun q => h2 q.2)]; exact pOk_s ⟨rfl, CQ_refl _⟩
  · rw [← e1] at hW hw n2 hc ⊢
    rw [e119, m77w _ _ _ _ n2, p_b]
    by_cases h1 : pWh (M1 187) p s = -1
    · rw [if_pos h1, if_pos rfl, if_neg (fun q => q.1 h1)]; exact pOk_s ⟨rfl, pMQ_refl _⟩
    · rw [if_neg h1, if_neg (by decide), m0, p_b, p_i0]
      by_cases h2 : 0 ≤ n ∧ n ≤ 99
      · rcases hc with q | ⟨q1, q2, q3, q4⟩
        · exact absurd q h1
        obtain ⟨pile, f, hr⟩ := m78 994 p s n M1 hw hW q1.2 (by omega) (by omega)
        rw [if_pos h2, if_pos ⟨h1, h2⟩, hr, p_b, q2]
        exact pOk_s ⟨rfl, pS_pMQ0 _ _ _⟩
      · rw [if_neg h2, if_neg (fun q => h2 q.2)]; exact pOk_s ⟨rfl, pMQ_refl _⟩
theorem q_loophole {C M : am_M} (hI : Inv C M) (p s : Int) : Pair C M 250 120 [.inl p, .inl s] := by
  have hR := hI.1.1
  have hw := hI.1.2.1
  have hW := hI.1.2.2.2.1
  have hX := hI.1.2.2.2.2.1
  have n2 := hw.1.2.1
  have hc := pWh_cases (w := M 187) n2.1 p s
  refine Pair_q (v := if pWh (M 187) p s ≠ -1 then p_find (fun n => decide (pJ (M 187) (pWh (M 187) p s) p n ≠ pJ (M 187) (pWh (M 187) p s) p 0)) 1 99 1 else -1) hI ?_ (fun M1 hI1 e1 => ?_)
  · rw [e250, c252 _ hR n2, p_b]
    show pOk (if pWh (M 187) p s = -1 then _ else _) _
    by_cases h1 : pWh (M 187) p s = -1
    · rw [if_pos h1, if_neg (fun q => q h1)]; exact pOk_s ⟨rfl, CQ_refl _⟩
    · rcases hc with q | ⟨q1, q2, q3, q4⟩
      · exact absurd q h1
      rw [if_neg h1, if_pos h1]
      show pOk (am_bnd (am_run 999 248 [.inr 0, .inl p, .inl (pWh (M 187) p s), .inl 0] M) (fun r2 M2 => am_L 999 250 18 [some (.inr 0), some (.inl p), some (.inl s), some (.inl (pWh (M 187) p s)), some (.inl r2), some (.inl 1)] [] M2)) _
      generalize pWh (M 187) p s = h at *
      obtain ⟨F, stk, hr⟩ := c248 996 hR hw hW hX 0 (p := p) (h := h) (by omega) (by omega)
      have lp : ∀ (k : Nat) (i : Int) (F stk : Int → Int), i = 100 - k → 1 ≤ i → ∃ F' stk', am_L 999 250 18 [some (.inr 0), some (.inl p), some (.inl s), some (.inl h), some (.inl (pJ (M 187) h p 0 + 2)), some (.inl i)] [] (cT M F stk) = some (p_find (fun n => decide (pJ (M 187) h p n ≠ pJ (M 187) h p 0)) 1 k i, cT M F' stk') := by
        intro k
        induction k with
        | zero =>
          intro i F stk hi h0
          refine ⟨F, stk, ?_⟩
          rw [e250_18, if_pos (by omega)]
          rfl
        | succ k ih =>
          intro i F stk hi h0
          obtain ⟨F2, stk2, hr⟩ := c248 996 (WR_cT ho1 hR F stk) hw hW (TxR_CA ho1 hX (CA_cT 1 M F stk)) i (p := p) (h := h) (by omega) (by omega)
          rw [cT_cT] at hr
          rw [e250_18, if_neg (by omega), hr, p_b, p_find, p_w (by omega) (by omega)]
          by_cases q : pJ (M 187) h p i = pJ (M 187) h p 0
          · rw [if_pos (by omega), if_neg (by simp [q])]
            exact ih (i + 1) F2 stk2 (by omega) (by omega)
          · rw [if_neg (by omega), if_pos (by simp [q])]
            exact ⟨_, _, rfl⟩
      obtain ⟨F2, stk2, hr2⟩ := lp 99 1 F stk (by omega) (by omega)
      rw [hr, p_b, hr2]
      exact pOk_s ⟨rfl, cT_CQ _ _ _⟩
  · rw [← e1] at hW hw n2 hc ⊢
    rw [e120, m77w _ _ _ _ n2, p_b]
    by_cases h1 : pWh (M1 187) p s = -1
    · rw [if_pos h1, if_pos rfl, if_neg (fun q => q h1)]; exact pOk_s ⟨rfl, pMQ_refl _⟩
    · rcases hc with q | ⟨q1, q2, q3, q4⟩
      · exact absurd q h1
      rw [if_neg h1, if_neg (by decide), if_pos h1, q2]
      have lp : ∀ (k : Nat) (i : Int) (pile f : Int → Int), i = 100 - k → 1 ≤ i → ∃ pile' f', am_L 999 120 9 [some (.inr 186), some (.inl p), some (.inl s), some (.inl i)] [] (pS M1 (M1 186) (M1 187) pile f) = some (p_find (fun n => decide (pJ (M1 187) (pOn (M1 187) p s) p n ≠ pJ (M1 187) (pOn (M1 187) p s) p 0)) 1 k i, pS M1 (M1 186) (M1 187) pile' f') := by
        intro k
        induction k with
        | zero =>
          intro i pile f hi h0
          refine ⟨pile, f, ?_⟩
          rw [e120_9, if_pos (by omega)]
          rfl
        | succ k ih =>
          intro i pile f hi h0
          obtain ⟨p2, f2, hr⟩ := m78 994 p s i (pS M1 (M1 186) (M1 187) pile f) hw hW q1.2 (by omega) (by rw [pS_187]; omega)
          rw [pS_pS, pS_186, pS_187] at hr
          obtain ⟨p3, f3, hr3⟩ := m78 994 p s 0 (pS M1 (M1 186) (M1 187) p2 f2) hw hW q1.2 (by omega) (by rw [pS_187]; omega)
          rw [pS_pS, pS_186, pS_187] at hr3
          rw [e120_9, if_neg (by omega), hr, p_b, hr3, p_b, p_find, p_w (by omega) (by omega)]
          by_cases q : pJ (M1 187) (pOn (M1 187) p s) p i = pJ (M1 187) (pOn (M1 187) p s) p 0
          · rw [if_pos (by omega), if_neg (by simp [q])]
            exact ih (i + 1) p3 f3 (by omega) (by omega)
          · rw [if_neg (by omega), if_pos (by simp [q])]
            exact ⟨_, _, rfl⟩
      obtain ⟨p2, f2, hr2⟩ := lp 99 1 (M1 195) (M1 196) (by omega) (by omega)
      rw [pS_id] at hr2
      rw [hr2]
      exact pOk_s ⟨rfl, pS_pMQ0 _ _ _⟩
