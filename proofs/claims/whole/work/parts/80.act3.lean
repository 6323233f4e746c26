/-! PURE: acts: fetch, task, deed -/
/-- the model's keeping, from the world as it was -/
theorem m_keepN (d : Nat) {M M1 : am_M} (f1 : ∀ b, 186 ≤ b → M1 b = M b) (hc : 0 ≤ M 186 4 ∧ M 186 4 ≤ 6) : am_run (d + 1) 64 [.inr 186] M1 = some (0, p_st (p_st M1 186 (p_up (M 186) 4 (pKc (M 186 4) + 1))) 189 (pKept (M 189) (M 187) (M 186 4))) := by
  have e7 : M1 187 = M 187 := f1 187 (by omega)
  have e6 : M1 186 = M 186 := f1 186 (by omega)
  have e9 : M1 189 = M 189 := f1 189 (by omega)
  rw [m64 _ _ (by rw [e6]; exact hc), e7, e6, e9]
theorem a_fetch {C M : am_M} (hI : Inv C M) (p s : Int) : Pair C M 191 73 [.inl p, .inl s] := by
  have hR := hI.1.1
  have hw := hI.1.2.1
  have hh := hI.1.2.2.1
  have hB := hI.1.2.2.2.2.2
  have n2 := hw.1.2.1
  have hx := hI.2.1.2.2.1
  by_cases c1 : 0 ≤ p ∧ p ≤ M 187 276 - 1
  · by_cases c2 : 0 ≤ s ∧ s ≤ 1
    · have eon : M 6 (2 * p + s) = pOn (M 187) p s := R_on hR c1.1 (by omega) c2.1 c2.2
      have eat : M 7 (2 * p + s) = ph (M 187) (2 * p + s) 8 := R_at hR (by omega) (by omega)
      by_cases c3 : pOn (M 187) p s = -1 ∧ ph (M 187) (2 * p + s) 8 = -1
      · have hwg : WFh (pGoes (M 187) (2 * p + s) p) := WFh_goes hw.2.2.1 n2.2 (by omega) (by omega) (Or.inr (fun g k0 k1 k2 _ => (pOn_none c2 n2.1).mp c3.1 g k0 k1 (by omega)))
        refine Pair_keep (v := 1) (w' := pGoes (M 187) (2 * p + s) p) hI ?_ (fun M1 f1 => ?_) (WF_goes hw (by omega) hwg) (by rw [pG_off (by omega)]; exact hh) (fun k hk => pG_off (by omega)) (fun k k0 k1 => pG_off (by omega))
        · rw [e191, c134 _ ho1 hR, p_b, p_i0, if_pos c1, c253, p_b, p_i0, if_pos c2, p_w (x := 2 * p) (by omega) (by omega), p_w (x := 2 * p + s) (by omega) (by omega), p_c (by omega), p_c (by omega), eon, eat, if_pos c3.1, if_pos c3.2]
          refine c_keep hI (CQ_refl M) 997 (fun M1 k1 k2 k3 k4 k5 k6 => ?_) (fun _ _ => rfl)
          refine pOk_b (c146R 998 ho1 (h := 2 * p + s) (p := p) k5 n2 (by omega) hwg (by omega) c3.2) (fun r M2 ⟨q2, q3⟩ => pOk_s ⟨rfl, WR_fr k1 (fun b b1 b2 => q3 b (by omega)), ?_, ?_, ?_, q2, ?_, ?_⟩)
          · rw [q3 0 (by omega)]; exact k2
          · rw [q3 0 (by omega)]; exact k3
          · intro f g1 g2
            rw [q3 0 (by omega)]; exact k4 f g1 g2
          · intro b b0 b1 b2 b3 b4 b5 b6
            rw [q3 b (by omega)]
            exact k6 b b0 (by omega) b3 b4 b5 b6
          · exact pBook_w hB (by rw [q3 52 (by omega)]; exact k6 52 (by omega) (by omega) (by omega) (by omega) (by omega) (by omega)) (fun k k0 k1 => pG_off (by omega))
        · have e7 : M1 187 = M 187 := f1 187 (by omega)
          rw [e73, m8 _ _ _ (by rw [e7]; exact n2), p_b, p_i0, e7, if_pos c1, m11, p_b, p_i0, if_pos c2, m12 _ _ _ _ (by rw [e7]; exact n2) c2, p_b, e7, if_pos c3.1, p_w (x := 2 * p) (by omega) (by omega), p_w (x := 2 * p + s) (by omega) (by omega), m5 _ _ _ _ (by omega) (by omega), p_b, e7, if_pos c3.2, m_keepN _ f1 hI.2.1.2.1, p_b, m66 _ _ _ _ (by omega), p_b]
          have e7' : (p_st (p_st M1 186 (p_up (M 186) 4 (pKc (M 186 4) + 1))) 189 (pKept (M 189) (M 187) (M 186 4))) 187 = M 187 := by rw [p_st2 (by decide), p_st2 (by decide), e7]
          rw [e7']
          refine pOk_s ⟨rfl, p_st1 _ _ _, ?_, ?_, ?_, ?_⟩
          · rw [p_st2 (by decide), p_st1]
          · rw [p_st2 (by decide), p_st2 (by decide), p_st1, p_up1]
          · intro g g1 g2
            rw [p_st2 (by decide), p_st2 (by decide), p_st1, p_off (by omega)]
          · intro b b1 b2 b3 b4 b5
            rw [p_st2 b2, p_st2 b3, p_st2 b1]
      · refine Pair_e (v := 0) hI ?_ ?_
        · rw [e191, c134 _ ho1 hR, p_b, p_i0, if_pos c1, c253, p_b, p_i0, if_pos c2, p_w (x := 2 * p) (by omega) (by omega), p_w (x := 2 * p + s) (by omega) (by omega), p_c (by omega), p_c (by omega), eon, eat]
          by_cases q : pOn (M 187) p s = -1
          · rw [if_pos q, if_neg (fun z => c3 ⟨q, z⟩)]
          · rw [if_neg q]
        · rw [e73, m8 _ _ _ n2, p_b, p_i0, if_pos c1, m11, p_b, p_i0, if_pos c2, m12 _ _ _ _ n2 c2, p_b]
          by_cases q : pOn (M 187) p s = -1
          · rw [if_pos q, p_w (x := 2 * p) (by omega) (by omega), p_w (x := 2 * p + s) (by omega) (by omega), m5 _ _ _ _ (by omega) (by omega), p_b, if_neg (fun z => c3 ⟨q, z⟩)]
          · rw [if_neg q]
    · refine Pair_e (v := 0) hI ?_ ?_
      · rw [e191, c134 _ ho1 hR, p_b, p_i0, if_pos c1, c253, p_b, p_i0, if_neg c2]
      · rw [e73, m8 _ _ _ n2, p_b, p_i0, if_pos c1, m11, p_b, p_i0, if_neg c2]
  · refine Pair_e (v := 0) hI ?_ ?_
    · rw [e191, c134 _ ho1 hR, p_b, p_i0, if_neg c1]
    · rw [e73, m8 _ _ _ n2, p_b, p_i0, if_neg c1]
theorem WF_pp {w : Int → Int} (hw : WF w) {p f v : Int} (hp : 0 ≤ p ∧ p < w 276) (hf : 1 ≤ f ∧ f < 4) (hv : f = 1 → -1 ≤ v ∧ v ≤ 3) : WF (p_up w (4 + 4 * p + f) v) := by
  have n2 := hw.1.2.1
  refine WF_same hw ⟨p_off (by omega), p_off (by omega), p_off (by omega)⟩ ?_ (WFh_same hw.2.2.1 (p_off (by omega)) (fun g _ _ => ph_off (by omega)) (fun g k0 k1 => by rw [ph_off (by omega)]; exact hw.2.2.1.2.1 g k0 k1)) ?_ ?_ ?_
  · intro q k0 k1
    have := hw.2.1 q k0 k1
    rw [pp_up _ _ _ _ _ _ (by omega) (by omega), pp_up _ _ _ _ _ _ (by omega) (by omega), if_neg (by omega)]
    refine ⟨this.1, ?_⟩
    by_cases e : q = p ∧ (1 : Int) = f
    · rw [if_pos e]; exact hv e.2.symm
    · rw [if_neg e]; exact this.2
  · intro i g k0 k1 k2 k3
    exact pl_off (by omega)
  · intro q k0 k1
    exact ⟨fun g k2 k3 => pp_off (by omega), p_off (by omega)⟩
  · intro g k0 k1 x k2 k3
    exact ph_off (by omega)
theorem a_task {C M : am_M} (hI : Inv C M) (p kind : Int) : Pair C M 192 74 [.inl p, .inl kind] := by
  have hR := hI.1.1
  have hw := hI.1.2.1
  have hh := hI.1.2.2.1
  have hB := hI.1.2.2.2.2.2
  have n2 := hw.1.2.1
  have hx := hI.2.1.2.2.1
  by_cases c1 : 0 ≤ p ∧ p ≤ M 187 276 - 1
  · by_cases c2 : -1 ≤ kind ∧ kind ≤ 3
    · refine Pair_keep (v := 1) (w' := p_up (M 187) (4 + 4 * p + 1) kind) hI ?_ (fun M1 f1 => ?_) (WF_pp hw (by omega) (by omega) (fun _ => c2)) (by rw [p_off (by omega)]; exact hh) (fun k hk => p_off (by omega)) (fun k k0 k1 => p_off (by omega))
      · rw [e192, c134 _ ho1 hR, p_b, p_i0, if_pos c1, c253, p_b, p_i0, if_pos c2]
        refine c_keep hI (CQ_refl M) 997 (fun M1 k1 k2 k3 k4 k5 k6 => ?_) (fun _ _ => rfl)
        rw [p_c (by omega), p_upd]
        refine pOk_s ⟨rfl, WR_fr k1 (fun b b1 b2 => p_st2 (by omega)), ?_, ?_, ?_, U_task k5 n2.2 (by omega), ?_, ?_⟩
        · rw [p_st2 (by decide)]; exact k2
        · rw [p_st2 (by decide)]; exact k3
        · intro f g1 g2
          rw [p_st2 (by decide)]; exact k4 f g1 g2
        · intro b b0 b1 b2 b3 b4 b5 b6
          rw [p_st2 (by omega)]
          exact k6 b b0 (by omega) b3 b4 b5 b6
        · exact pBook_w hB (by rw [p_st2 (by decide)]; exact k6 52 (by omega) (by omega) (by omega) (by omega) (by omega) (by omega)) (fun k k0 k1 => p_off (by omega))
      · have e7 : M1 187 = M 187 := f1 187 (by omega)
        have go : pOk (am_bnd (am_run 999 64 [.inr 186] M1) (fun _ M5 => am_bnd (am_run 999 4 [.inr 186, .inl p, .inl 1, .inl kind] M5) (fun _ M6 => some (1, M6)))) (fun r N => r = 1 ∧ N 187 = p_up (M 187) (4 + 4 * p + 1) kind ∧ N 189 = pKept (M 189) (M 187) (M 186 4) ∧ N 186 4 = pKc (M 186 4) + 1 ∧ (∀ f, f < 27 → f ≠ 4 → N 186 f = M 186 f) ∧ ∀ b, b ≠ 186 → b ≠ 187 → b ≠ 189 → b ≠ 195 → b ≠ 196 → N b = M1 b) := by
          rw [m_keepN _ f1 hI.2.1.2.1, p_b, m4 _ _ _ _ _ (by omega) (by omega), p_b]
          have e7' : (p_st (p_st M1 186 (p_up (M 186) 4 (pKc (M 186 4) + 1))) 189 (pKept (M 189) (M 187) (M 186 4))) 187 = M 187 := by rw [p_st2 (by decide), p_st2 (by decide), e7]
          rw [e7']
          refine pOk_s ⟨rfl, p_st1 _ _ _, ?_, ?_, ?_, ?_⟩
          · rw [p_st2 (by decide), p_st1]
          · rw [p_st2 (by decide), p_st2 (by decide), p_st1, p_up1]
          · intro g g1 g2
            rw [p_st2 (by decide), p_st2 (by decide), p_st1, p_off (by omega)]
          · intro b b1 b2 b3 b4 b5
            rw [p_st2 b2, p_st2 b3, p_st2 b1]
        rw [e74, m8 _ _ _ (by rw [e7]; exact n2), p_b, p_i0, e7, if_pos c1]
        by_cases q : kind = -1
        · rw [if_pos q]
          exact go
        · rw [if_neg q, m10, p_b, p_i0, if_pos (by omega)]
          exact go
    · refine Pair_e (v := 0) hI ?_ ?_
      · rw [e192, c134 _ ho1 hR, p_b, p_i0, if_pos c1, c253, p_b, p_i0, if_neg c2]
      · rw [e74, m8 _ _ _ n2, p_b, p_i0, if_pos c1, if_neg (by omega), m10, p_b, p_i0, if_neg (by omega)]
  · refine Pair_e (v := 0) hI ?_ ?_
    · rw [e192, c134 _ ho1 hR, p_b, p_i0, if_neg c1]
    · rw [e74, m8 _ _ _ n2, p_b, p_i0, if_neg c1]
/-- guilt, and the line of the book -/
def pGu (w : Int → Int) (p : Int) : Int → Int := p_up w (4 + 4 * p + 2) (am_wrap (pp w p 2 + 1))
def pNo (w : Int → Int) (h p x : Int) : Int → Int := if w 2 = 100 then w else p_up (p_up (p_up (p_up (p_up w (404 + 4 * w 2) (w 0)) (404 + 4 * w 2 + 1) h) (404 + 4 * w 2 + 2) p) (404 + 4 * w 2 + 3) x) 2 (w 2 + 1)
def pDe1 (w : Int → Int) (h x : Int) : Int → Int := if x = 0 ∨ x = 2 then pGu w (h / 2) else w
def pDe2 (w : Int → Int) (p x : Int) : Int → Int := if x = 1 ∨ x = 2 then pGu w p else w
def pDe (w : Int → Int) (h p x : Int) : Int → Int := pNo (pDe2 (pDe1 w h x) p x) h p x
theorem pNo_WF {w : Int → Int} (hw : WF w) (h p x : Int) : WF (pNo w h p x) ∧ (pNo w h p x) 0 = w 0 ∧ pTw2 w (pNo w h p x) ∧ ∀ k, 276 ≤ k → k < 285 → (pNo w h p x) k = w k := by
  have n3 := hw.1.2.2
  unfold pNo
  by_cases q : w 2 = 100
  · rw [if_pos q]; exact ⟨hw, rfl, pTw2_refl _, fun _ _ _ => rfl⟩
  · rw [if_neg q]
    have off : ∀ k, k ≠ 2 → (k < 404 ∨ 804 ≤ k) → (p_up (p_up (p_up (p_up (p_up w (404 + 4 * w 2) (w 0)) (404 + 4 * w 2 + 1) h) (404 + 4 * w 2 + 2) p) (404 + 4 * w 2 + 3) x) 2 (w 2 + 1)) k = w k := by
      intro k h1 h2
      rw [p_off (by omega), p_off (by omega), p_off (by omega), p_off (by omega), p_off (by omega)]
    refine ⟨?_, off 0 (by omega) (by omega), fun k hk => off k (by omega) (by omega), fun k k0 k1 => off k (by omega) (by omega)⟩
    have hw' : WF (p_up w 2 (w 2 + 1)) := by
      have o2 : ∀ k, k ≠ 2 → p_up w 2 (w 2 + 1) k = w k := fun k hk => p_off (by omega)
      obtain ⟨⟨m1, m2, m3⟩, hp, hh, hl, hz⟩ := hw
      refine ⟨⟨by rw [o2 1 (by omega)]; exact m1, by rw [o2 276 (by omega)]; exact m2, by rw [p_up1]; omega⟩, ?_, ?_, ?_, ?_, ?_⟩
      · intro q k0 k1
        unfold pp
        rw [o2 _ (by omega), o2 _ (by omega)]
        exact hp q k0 k1
      · exact WFh_same hh (o2 _ (by omega)) (fun g _ _ => o2 _ (by omega)) (fun g k0 k1 => by unfold ph; rw [o2 _ (by omega)]; exact hh.2.1 g k0 k1)
      · intro i k0 k1
        rw [o2 1 (by omega)] at k1
        unfold pl
        rw [o2 _ (by omega), o2 _ (by omega), o2 _ (by omega), o2 _ (by omega)]
        exact hl i k0 k1
      · intro q k0 k1
        rw [o2 276 (by omega)] at k0
        exact ⟨fun f k2 k3 => by unfold pp; rw [o2 _ (by omega)]; exact (hz.1 q k0 k1).1 f k2 k3, by rw [o2 _ (by omega)]; exact (hz.1 q k0 k1).2⟩
      · intro g k0 k1 f k2 k3
        rw [o2 276 (by omega)] at k0
        unfold ph
        rw [o2 _ (by omega)]
        exact hz.2 g k0 k1 f k2 k3
    refine WF_cg (fun k k0 k1 => ?_) hw'
    by_cases e : k = 2
    · rw [e, p_up1, p_up1]
    · rw [off k e (by omega), p_off (by omega)]
theorem pGu_all {w : Int → Int} (hw : WF w) {p : Int} (hp : 0 ≤ p ∧ p < w 276) : WF (pGu w p) ∧ (pGu w p) 0 = w 0 ∧ (pGu w p) 2 = w 2 ∧ ∀ k, 36 ≤ k → (pGu w p) k = w k := by
  have n2 := hw.1.2.1
  exact ⟨WF_pp hw hp (by omega) (fun q => by omega), p_off (by omega), p_off (by omega), fun k hk => p_off (by omega)⟩
theorem pDe2_all {w : Int → Int} (hw : WF w) {h p x : Int} (hp : 0 ≤ p ∧ p < w 276) (hh : 0 ≤ h ∧ h < 2 * w 276) : WF (pDe2 (pDe1 w h x) p x) ∧ (pDe2 (pDe1 w h x) p x) 0 = w 0 ∧ (pDe2 (pDe1 w h x) p x) 2 = w 2 ∧ ∀ k, 36 ≤ k → (pDe2 (pDe1 w h x) p x) k = w k := by
  have g1 := pGu_all hw (p := h / 2) (by omega)
  have s1 : WF (pDe1 w h x) ∧ (pDe1 w h x) 0 = w 0 ∧ (pDe1 w h x) 2 = w 2 ∧ ∀ k, 36 ≤ k → (pDe1 w h x) k = w k := by
    unfold pDe1
    by_cases q : x = 0 ∨ x = 2
    · rw [if_pos q]; exact g1
    · rw [if_neg q]; exact ⟨hw, rfl, rfl, fun _ _ => rfl⟩
  obtain ⟨a1, a2, a3, a4⟩ := s1
  have g2 := pGu_all a1 (p := p) (by rw [a4 276 (by omega)]; exact hp)
  unfold pDe2
  by_cases q : x = 1 ∨ x = 2
  · rw [if_pos q]
    obtain ⟨b1, b2, b3, b4⟩ := g2
    exact ⟨b1, b2.trans a2, b3.trans a3, fun k hk => (b4 k hk).trans (a4 k hk)⟩
  · rw [if_neg q]; exact ⟨a1, a2, a3, a4⟩
theorem m75 (d : Nat) (h p x : Int) (M : am_M) (hn : 0 ≤ M 187 2 ∧ M 187 2 ≤ 100) : am_run (d + 1) 75 [.inr 186, .inl h, .inl p, .inl x] M = some (0, p_st M 187 (pNo (M 187) h p x)) := by
  unfold pNo
  rw [e75, p_c (by omega)]
  by_cases q : M 187 2 = 100
  · rw [if_pos q, if_pos q, p_st5]
  · rw [if_neg q, if_neg q]
    simp (disch := omega) only [p_w, p_c, p_upd, p_st1, p_st3, p_up2]
theorem m76p (d : Nat) (p : Int) (M : am_M) (hp : 0 ≤ p ∧ p < 8) : am_run (d + 2) 76 [.inr 186, .inl p] M = some (0, p_st M 187 (pGu (M 187) p)) := m76 d p M hp
/-- in the class -/
theorem c194 (d : Nat) {M : am_M} {w : Int → Int} (hR : WR M 1 w) (hn : 0 ≤ w 2 ∧ w 2 ≤ 100) (h8 : w 276 ≤ 8) (hB : pBook M 52 w) (h p x : Int) : pOk (am_run (d + 1) 194 [.inr 0, .inl h, .inl p, .inl x] M) (fun _ M' => WR M' 1 (pNo w h p x) ∧ pBook M' 52 (pNo w h p x) ∧ ∀ b, b ≠ 1 → b ≠ 52 → M' b = M b) := by
  have eb : M 1 4 = w 2 := R_bk hR
  have eh : M 1 1 = w 0 := R_hr hR
  unfold pNo
  rw [e194, eb]
  by_cases q : w 2 = 100
  · rw [if_neg (by omega), if_pos q]
    exact pOk_s ⟨hR, hB, fun _ _ _ => rfl⟩
  · rw [if_pos (by omega), if_neg q]
    simp (disch := omega) only [p_w, p_c, p_upd, p_st1, p_st2, p_st3, eb, eh]
    have U := U_bk (WR_fr (M' := p_st M 52 (p_up (p_up (p_up (p_up (M 52) (w 2 * 4) (w 0)) (w 2 * 4 + 1) h) (w 2 * 4 + 2) p) (w 2 * 4 + 3) x)) hR (fun b _ _ => p_st2 (by omega))) h8 (v := w 2 + 1)
    rw [p_st2 (show (1 : Nat) ≠ 52 by decide)] at U
    refine pOk_s ⟨WR_cg (by rw [p_off (by omega)]; exact h8) U (fun k k0 k1 => ?_), fun j j0 j1 => ?_, fun b b1 b2 => ?_⟩
    · by_cases e : k = 2
      · rw [e, p_up1, p_up1]
      · rw [p_off (by omega), p_off (by omega), p_off (by omega), p_off (by omega), p_off (by omega), p_off (by omega)]
    · have := hB j j0 j1
      rw [p_st2 (by decide), p_st1]
      unfold p_up
      rw [if_neg (show ¬ 404 + j = 2 by omega)]
      by_cases e3 : j = w 2 * 4 + 3
      · rw [if_pos e3, if_pos (show 404 + j = 404 + 4 * w 2 + 3 by omega)]
      · rw [if_neg e3, if_neg (show ¬ 404 + j = 404 + 4 * w 2 + 3 by omega)]
        by_cases e2 : j = w 2 * 4 + 2
        · rw [if_pos e2, if_pos (show 404 + j = 404 + 4 * w 2 + 2 by omega)]
        · rw [if_neg e2, if_neg (show ¬ 404 + j = 404 + 4 * w 2 + 2 by omega)]
          by_cases e1 : j = w 2 * 4 + 1
          · rw [if_pos e1, if_pos (show 404 + j = 404 + 4 * w 2 + 1 by omega)]
          · rw [if_neg e1, if_neg (show ¬ 404 + j = 404 + 4 * w 2 + 1 by omega)]
            by_cases e0 : j = w 2 * 4
            · rw [if_pos e0, if_pos (show 404 + j = 404 + 4 * w 2 by omega)]
            · rw [if_neg e0, if_neg (show ¬ 404 + j = 404 + 4 * w 2 by omega)]; exact this
    · rw [p_st2 b1, p_st2 b2]
theorem a_deed {C M : am_M} (hI : Inv C M) (p s : Int) : Pair C M 193 79 [.inl p, .inl s] := by
  have hR := hI.1.1
  have hw := hI.1.2.1
  have hh := hI.1.2.2.1
  have hW := hI.1.2.2.2.1
  have hX := hI.1.2.2.2.2.1
  have hB := hI.1.2.2.2.2.2
  have n2 := hw.1.2.1
  have n3 := hw.1.2.2
  have hx := hI.2.1.2.2.1
  have hc := pWh_cases (w := M 187) n2.1 p s
  by_cases c : pWh (M 187) p s = -1
  · refine Pair_e (v := -1) hI ?_ ?_
    · rw [e193, c252 _ hR n2, p_b]
      show (if pWh (M 187) p s = -1 then _ else _) = _
      rw [if_pos c]
    · rw [e79, m77w _ _ _ _ n2, p_b, if_pos c, if_pos rfl]
  · rcases hc with q | ⟨q1, q2, q3, q4⟩
    · exact absurd q c
    have hj := pJ_range hW.1.2.2 (pWh (M 187) p s) p 0
    obtain ⟨x, hxx⟩ : ∃ x, x = pJ (M 187) (pWh (M 187) p s) p 0 - 22 := ⟨_, rfl⟩
    obtain ⟨g, hg⟩ : ∃ g, g = pWh (M 187) p s := ⟨_, rfl⟩
    obtain ⟨a1, a2, a3, a4⟩ := pDe2_all (x := x) (h := g) (p := p) hw (by omega) (by omega)
    obtain ⟨b1, b2, b3, b4⟩ := pNo_WF a1 g p x
    have tx : pTw2 (M 187) (pDe (M 187) g p x) := pTw2_trans (fun k hk => a4 k (by omega)) b3
    have shr := p_shr1 (h := g) (by omega) (by omega)
    refine Pair_keep (v := x) (w' := pDe (M 187) g p x) hI ?_ (fun M1 f1 => ?_) b1 (by unfold pDe; rw [b2, a2]; exact hh) tx (fun k k0 k1 => by unfold pDe; rw [b4 k k0 k1, a4 k (by omega)])
    · have hwh : (if (0 ≤ p ∧ p ≤ M 187 276 - 1) ∧ 0 ≤ s ∧ s ≤ 1 then pOn (M 187) p s else -1) = pWh (M 187) p s := rfl
      rw [e193, c252 _ hR n2, p_b, hwh]
      obtain ⟨F, stk, hr⟩ := c248 996 hR hw hW hX 0 (p := p) (h := pWh (M 187) p s) (by omega) (by omega)
      rw [if_neg c, hr, p_b, ← hg]
      have er : pJ (M 187) g p 0 + 2 = x + 24 := by rw [hxx, ← hg]; omega
      rw [er]
      refine c_keep hI (cT_CQ M F stk) 997 (fun M1 k1 k2 k3 k4 k5 k6 => ?_) (fun _ _ => rfl)
      show pOk _ _
      -- guilt of the one who was born with it
      have B1 : pBook M1 52 (M 187) := by intro j j0 j1; rw [k6 52 (by omega) (by omega) (by omega) (by omega) (by omega) (by omega)]; exact hB j j0 j1
      have fin : ∀ M2, WR M2 1 (pDe1 (M 187) g x) → (∀ b, b ≠ 5 → M2 b = M1 b) → pOk (am_L 999 193 35 [some (.inr 0), some (.inl p), some (.inl s), some (.inl g), some (.inl (x + 24))] [] M2) (fun r M' => r = x ∧ WR M' (108 + 13 * (M 0 4).toNat) (M 187) ∧ M' 0 3 = min (M 0 3 + 1) 6 ∧ M' 0 4 = (M 0 4 + 1) % 6 ∧ (∀ f, f ≠ 3 → f ≠ 4 → M' 0 f = M 0 f) ∧ WR M' 1 (pDe (M 187) g p x) ∧ (∀ b, b ≠ 0 → b ≠ 52 → (b < 1 ∨ 26 < b) → b ≠ 105 → b ≠ 106 → b ≠ 107 → (b < 108 + 13 * (M 0 4).toNat ∨ 108 + 13 * (M 0 4).toNat + 12 < b) → M' b = M b) ∧ pBook M' 52 (pDe (M 187) g p x)) := by
        intro M2 R2 F2
        have d276 : pDe1 (M 187) g x 276 = M 187 276 := by
          unfold pDe1
          by_cases q : x = 0 ∨ x = 2
          · rw [if_pos q]; exact p_off (by omega)
          · rw [if_neg q]
        have fin2 : ∀ M3, WR M3 1 (pDe2 (pDe1 (M 187) g x) p x) → (∀ b, b ≠ 5 → M3 b = M1 b) → pOk (am_bnd (am_run 999 194 [.inr 0, .inl g, .inl p, .inl x] M3) (fun _ M1 => some (x, M1))) (fun r M' => r = x ∧ WR M' (108 + 13 * (M 0 4).toNat) (M 187) ∧ M' 0 3 = min (M 0 3 + 1) 6 ∧ M' 0 4 = (M 0 4 + 1) % 6 ∧ (∀ f, f ≠ 3 → f ≠ 4 → M' 0 f = M 0 f) ∧ WR M' 1 (pDe (M 187) g p x) ∧ (∀ b, b ≠ 0 → b ≠ 52 → (b < 1 ∨ 26 < b) → b ≠ 105 → b ≠ 106 → b ≠ 107 → (b < 108 + 13 * (M 0 4).toNat ∨ 108 + 13 * (M 0 4).toNat + 12 < b) → M' b = M b) ∧ pBook M' 52 (pDe (M 187) g p x)) := by
          intro M3 R3 F3
          have B3 : pBook M3 52 (pDe2 (pDe1 (M 187) g x) p x) := by
            intro j j0 j1
            rw [F3 52 (by decide), a4 _ (by omega)]
            exact B1 j j0 j1
          refine pOk_b (c194 998 R3 (by rw [a3]; exact n3) (by rw [a4 276 (by omega)]; exact n2.2) B3 g p x) (fun r M4 ⟨r1, r2, r3⟩ => pOk_s ⟨rfl, WR_fr k1 (fun b t1 t2 => by rw [r3 b (by omega) (by omega), F3 b (by omega)]), ?_, ?_, ?_, r1, ?_, r2⟩)
          · rw [r3 0 (by decide) (by decide), F3 0 (by decide)]; exact k2
          · rw [r3 0 (by decide) (by decide), F3 0 (by decide)]; exact k3
          · intro f t1 t2
            rw [r3 0 (by decide) (by decide), F3 0 (by decide)]; exact k4 f t1 t2
          · intro b t0 t1 t2 t3 t4 t5 t6
            rw [r3 b (by omega) t1, F3 b (by omega)]
            exact k6 b t0 (by omega) t3 t4 t5 t6
        have et : M2 5 p = pp (pDe1 (M 187) g x) p 2 := R_guilt R2 (by omega) (by omega)
        have take : (x = 1 ∨ x = 2) → pOk (am_bnd (am_run 999 194 [.inr 0, .inl g, .inl p, .inl x] (p_st M2 5 (p_up (M2 5) p (am_wrap (pp (pDe1 (M 187) g x) p 2 + 1))))) (fun _ M1 => some (x, M1))) _ := fun hq => fin2 _ (by
          unfold pDe2
          rw [if_pos hq]
          exact U_guilt R2 (by rw [d276]; exact n2.2) (by omega)) (fun b t => by rw [p_st2 t]; exact F2 b t)
        rw [e193_35, p_w (x := x + 24 - 24) (by omega) (by omega), show x + 24 - 24 = x from by omega]
        by_cases c1 : x = 1
        · rw [if_pos (by omega), p_c (by omega), p_c (by omega), et, p_upd]
          exact take (Or.inl c1)
        · rw [if_neg (by omega)]
          by_cases c2 : x = 2
          · rw [if_pos (by omega), p_c (by omega), p_c (by omega), et, p_upd]
            exact take (Or.inr c2)
          · rw [if_neg (by omega)]
            refine fin2 M2 ?_ F2
            unfold pDe2
            rw [if_neg (by omega)]
            exact R2
      have et : M1 5 (g / 2) = pp (M 187) (g / 2) 2 := R_guilt k5 (by omega) (by omega)
      have take : (x = 0 ∨ x = 2) → pOk (am_L 999 193 35 [some (.inr 0), some (.inl p), some (.inl s), some (.inl g), some (.inl (x + 24))] [] (p_st M1 5 (p_up (M1 5) (g / 2) (am_wrap (pp (M 187) (g / 2) 2 + 1))))) _ := fun hq => fin _ (by
        unfold pDe1
        rw [if_pos hq]
        exact U_guilt k5 n2.2 (by omega)) (fun b t => p_st2 t)
      rw [shr]
      by_cases c1 : x = 0
      · rw [if_pos (by omega), p_c (by omega), p_c (by omega), et, p_upd]
        exact take (Or.inl c1)
      · rw [if_neg (by omega)]
        by_cases c2 : x = 2
        · rw [if_pos (by omega), p_c (by omega), p_c (by omega), et, p_upd]
          exact take (Or.inr c2)
        · rw [if_neg (by omega)]
          refine fin M1 ?_ (fun _ _ => rfl)
          unfold pDe1
          rw [if_neg (by omega)]
          exact k5
    · have e7 : M1 187 = M 187 := f1 187 (by omega)
      have K := m_keepN 998 f1 hI.2.1.2.1
      obtain ⟨K0, hK0⟩ : ∃ K0, K0 = p_st (p_st M1 186 (p_up (M 186) 4 (pKc (M 186 4) + 1))) 189 (pKept (M 189) (M 187) (M 186 4)) := ⟨_, rfl⟩
      rw [← hK0] at K
      have k7 : K0 187 = M 187 := by rw [hK0, p_st2 (by decide), p_st2 (by decide), e7]
      obtain ⟨pile, f, hm⟩ := m78 994 p s 0 K0 (by rw [k7]; exact hw) (by rw [k7]; exact hW) q1.2 (by omega) (by rw [k7, ← q2]; exact c)
      rw [k7, ← q2, ← hxx] at hm
      have fin : ∀ v, pOk (am_bnd (am_run 999 75 [.inr 186, .inl g, .inl p, .inl x] (pS K0 (K0 186) v pile f)) (fun _ M1 => some (x, M1))) (fun r N => r = x ∧ N 187 = pNo v g p x ∧ N 189 = pKept (M 189) (M 187) (M 186 4) ∧ N 186 4 = pKc (M 186 4) + 1 ∧ (∀ f, f < 27 → f ≠ 4 → N 186 f = M 186 f) ∧ ∀ b, b ≠ 186 → b ≠ 187 → b ≠ 189 → b ≠ 195 → b ≠ 196 → N b = M1 b) ∨ ¬ (0 ≤ v 2 ∧ v 2 ≤ 100) := by
        intro v
        by_cases hv : 0 ≤ v 2 ∧ v 2 ≤ 100
        · refine Or.inl ?_
          rw [m75 _ _ _ _ _ (by rw [pS_187]; exact hv), p_b, pS_187, pS_st187]
          refine pOk_s ⟨rfl, pS_187 _ _ _ _ _, ?_, ?_, fun k t1 t2 => ?_, fun b t1 t2 t3 t4 t5 => ?_⟩
          · rw [pS_o (by omega), hK0, p_st1]
          · rw [pS_186, hK0, p_st2 (by decide), p_st1, p_up1]
          · rw [pS_186, hK0, p_st2 (by decide), p_st1, p_off (by omega)]
          · rw [pS_o ⟨t1, t2, t4, t5⟩, hK0, p_st2 t3, p_st2 t1]
        · exact Or.inr hv
      have stop := (fin (pDe2 (pDe1 (M 187) g x) p x)).resolve_right (fun z => z (by rw [a3]; exact n3))
      have mid : pOk (am_L 999 79 29 [some (.inr 186), some (.inl p), some (.inl s), some (.inl g), some (.inl x)] [] (pS K0 (K0 186) (pDe1 (M 187) g x) pile f)) (fun r N => r = x ∧ N 187 = pDe (M 187) g p x ∧ N 189 = pKept (M 189) (M 187) (M 186 4) ∧ N 186 4 = pKc (M 186 4) + 1 ∧ (∀ f, f < 27 → f ≠ 4 → N 186 f = M 186 f) ∧ ∀ b, b ≠ 186 → b ≠ 187 → b ≠ 189 → b ≠ 195 → b ≠ 196 → N b = M1 b) := by
        rw [e79_29]
        unfold pDe2 at stop
        by_cases c1 : x = 1
        · rw [if_pos c1, m76p _ _ _ (by omega), p_b, pS_187, pS_st187]
          rw [if_pos (Or.inl c1)] at stop
          unfold pDe pDe2
          rw [if_pos (Or.inl c1)]
          exact stop
        · rw [if_neg c1]
          by_cases c2 : x = 2
          · rw [if_pos c2, m76p _ _ _ (by omega), p_b, pS_187, pS_st187]
            rw [if_pos (Or.inr c2)] at stop
            unfold pDe pDe2
            rw [if_pos (Or.inr c2)]
            exact stop
          · rw [if_neg c2]
            rw [if_neg (by omega)] at stop
            unfold pDe pDe2
            rw [if_neg (show ¬ (x = 1 ∨ x = 2) by omega)]
            exact stop
      unfold pDe1 at mid
      rw [e79, m77w _ _ _ _ (by rw [e7]; exact n2), p_b, e7, if_neg c, if_neg (by decide), K, p_b, m12 _ _ _ _ (by rw [k7]; exact n2) q1.2, p_b, k7, ← q2, ← hg, hm, p_b]
      by_cases c1 : x = 0
      · rw [if_pos c1, m13 _ _ _ (by omega), p_b, m76p _ _ _ (by omega), p_b, pS_187, pS_st187]
        rw [if_pos (Or.inl c1)] at mid
        exact mid
      · rw [if_neg c1]
        by_cases c2 : x = 2
        · rw [if_pos c2, m13 _ _ _ (by omega), p_b, m76p _ _ _ (by omega), p_b, pS_187, pS_st187]
          rw [if_pos (Or.inr c2)] at mid
          exact mid
        · rw [if_neg c2]
          rw [if_neg (by omega)] at mid
          have e := pS_187 K0 (K0 186) (M 187) pile f
          rw [k7] at *
          exact mid
