/-! PURE: which hands would do, in the model's way and the class's -/
theorem pLends_on {w : Int → Int} {h to n price : Int} (hw : WF w) (hc : pLok w h to n price) : pOn (pLends w h to n price) to (h % 2) = h ∧ ∀ s, 0 ≤ s → s ≤ 1 → s ≠ h % 2 → pOn (pLends w h to n price) to s = pOn w to s := by
  have hw2 := pLends_WF hw hc
  have e276 := pLends_hi hw hc (k := 276) (by omega)
  have n2 := hw.1.2.1
  have hr := pOn_range (w := w) (p := to) (s := h % 2) (by omega) n2.1
  have c1 := hc.1.1
  have c2 := hc.1.2
  refine ⟨pOn_is hw2.2.2.1 (by omega) (by omega) (by omega) (by omega) rfl (by rw [pLends_ph hw hc (by omega) (by omega), if_pos rfl, if_pos rfl]), fun s s0 s1 hs => ?_⟩
  refine pOn_iff ⟨s0, s1⟩ e276 (fun g g0 g1 g2 => ?_)
  rw [pLends_ph hw hc (by omega) (by omega), if_pos rfl, if_neg (by intro q; rw [q] at g2; exact hs g2.symm), if_neg (by intro q; rcases hr with z | ⟨-, -, z, -⟩ <;> omega)]
theorem pDoH_lend {w : Int → Int} {h to n price : Int} (hw : WF w) (hW : TxW w) (hc : pLok w h to n price) {i : Int} (hi : 0 ≤ i ∧ i < w 287) (g : Int) : pDoH (pLends w h to n price) i g = pDoH w i g := by
  have tx := pLends_TX hw hc
  have n2 := hw.1.2.1
  have n3 := hW.2.2.1
  have k := (hW.2.2.2 i hi.1 hi.2).1
  have e276 := pLends_hi hw hc (k := 276) (by omega)
  unfold pDoH
  rw [e276, tx (372 + 4 * i) (by omega), tx (372 + 4 * i + 1) (by omega)]
  refine decide_eq_decide.mpr ⟨fun q => ?_, fun q => ?_⟩
  · refine ⟨q.1, ?_⟩
    have := q.2
    rwa [pLends_ph hw hc (by omega) (by omega), if_neg (by omega), if_neg (by omega)] at this
  · refine ⟨q.1, ?_⟩
    rw [pLends_ph hw hc (by omega) (by omega), if_neg (by omega), if_neg (by omega)]
    exact q.2
theorem pSuf_lend {w : Int → Int} {h to n price : Int} (hw : WF w) (hW : TxW w) (hc : pLok w h to n price) {i : Int} (hi : 0 ≤ i ∧ i < w 287) (a b : Int) : pSuf (pLends w h to n price) i a b = pSuf w i a b := by
  have tx := pLends_TX hw hc
  have n3 := hW.2.2.1
  unfold pSuf
  rw [pDoH_lend hw hW hc hi, pDoH_lend hw hW hc hi, tx (372 + 4 * i + 3) (by omega)]
theorem pSuf_comm (w : Int → Int) (i a b : Int) : pSuf w i a b = pSuf w i b a := by
  unfold pSuf
  rw [Bool.and_comm, Bool.or_comm]
/-- lent to p for an hour, or nothing -/
def pLt (w : Int → Int) (a p : Int) : Bool := if a = -1 then true else pCan w a p 1 0
def pLw (w : Int → Int) (a p : Int) : Int → Int := if a = -1 then w else pLends w a p 1 0
/-- whether by these two p can do work i -/
def pBy (w : Int → Int) (p i a b : Int) : Bool := pLt w a p && (pLt (pLw w a p) b p && pDo (pLw (pLw w a p) b p) p i)
theorem pLw_all {w : Int → Int} {a p : Int} (hw : WF w) (h : pLt w a p = true) : WF (pLw w a p) ∧ pTX w (pLw w a p) ∧ pLw w a p 0 = w 0 ∧ pLw w a p 276 = w 276 := by
  unfold pLt at h
  unfold pLw
  by_cases q : a = -1
  · rw [if_pos q]; exact ⟨hw, pTX_refl w, rfl, rfl⟩
  · rw [if_neg q] at h ⊢
    have ok := pCan_ok h
    exact ⟨pLends_WF hw ok, pLends_TX hw ok, pLends_hi hw ok (by omega), pLends_hi hw ok (by omega)⟩
theorem m123 (d : Nat) {N : am_M} (u w pile f : Int → Int) (hw : WF w) (hW : TxW w) (h0 : 0 ≤ w 0 ∧ w 0 ≤ 20000) (a p : Int) : ∃ pile' f', am_run (d + 7) 123 [.inr 186, .inl a, .inl p] (pS N u w pile f) = some (if pLt w a p = true then 1 else 0, pS N u (if pLt w a p = true then pLw w a p else w) pile' f') := by
  have n1 := hw.1.1
  have n2 := hw.1.2.1
  unfold pLt pLw
  rw [e123]
  by_cases q : a = -1
  · refine ⟨pile, f, ?_⟩
    simp only [q, if_true]
  · rw [if_neg q, if_neg q, if_neg q]
    obtain ⟨p2, f2, hr⟩ := m68 d a p 1 0 (pS N u w pile f) n1 n2 (by rw [pS_187]; omega) (LawT_law hW.1.1)
    rw [pS_187, pS_st195, pS_st196] at hr
    rw [hr, p_b, p_i0]
    by_cases c : pCan w a p 1 0 = true
    · rw [if_pos c, if_pos c, if_pos c, m70p (d + 3) _ _ _ _ _ hw (by rw [pS_187]; exact h0) (pCan_ok c), p_b, pS_187, pS_st187]
      exact ⟨_, _, rfl⟩
    · rw [if_neg c, if_neg c, if_neg c]
      exact ⟨_, _, rfl⟩
theorem m124 (d : Nat) {M : am_M} (hw : WF (M 187)) (hW : TxW (M 187)) (h0 : 0 ≤ M 187 0 ∧ M 187 0 ≤ 20000) (p : Int) {i : Int} (hi : 0 ≤ i ∧ i < M 187 287) (a b : Int) : ∃ M', am_run (d + 8) 124 [.inr 186, .inl p, .inl i, .inl a, .inl b] M = some (if pBy (M 187) p i a b = true then 1 else 0, M') ∧ pMQ M M' ∧ M' 186 = M 186 := by
  have fin : ∀ (v pile f : Int → Int), pTX (M 187) v → v 276 = M 187 276 → ∃ M', am_run (d + 7) 105 [.inr 186] (pS (p_st M 190 (pCp (M 190) (M 187) 0 276)) (M 186) v pile f) = some (0, M') ∧ pMQ M M' ∧ M' 186 = M 186 := by
    intro v pile f tx e
    refine ⟨pS (p_st M 190 (pCp (M 190) (M 187) 0 276)) (M 186) (M 187) pile f, ?_, ⟨fun b h1 h2 h3 => ?_, fun _ _ => rfl⟩, rfl⟩
    · rw [m105, pS_187, pS_o (by omega), p_st1, pRest (fun k hk => ?_), pS_st187]
      by_cases q : k = 276
      · rw [q, e]
      · exact tx k (by omega)
    · by_cases e : b = 187
      · rw [e]; rfl
      · rw [pS_o (by omega), p_st2 (by omega)]
  rw [e124, m104, p_b, m_asd]
  obtain ⟨p1, f1, r1⟩ := m123 d (N := p_st M 190 (pCp (M 190) (M 187) 0 276)) (M 186) (M 187) (M 195) (M 196) hw hW h0 a p
  rw [r1, p_b, p_i0]
  unfold pBy
  by_cases c1 : pLt (M 187) a p = true
  · obtain ⟨a1, a2, a3, a4⟩ := pLw_all hw c1
    obtain ⟨p2, f2, r2⟩ := m123 d (N := p_st M 190 (pCp (M 190) (M 187) 0 276)) (M 186) (pLw (M 187) a p) p1 f1 a1 (TxW_TX a2 hW) (by omega) b p
    rw [if_pos c1, if_pos c1, r2, p_b, p_i0]
    by_cases c2 : pLt (pLw (M 187) a p) b p = true
    · obtain ⟨b1, b2, b3, b4⟩ := pLw_all a1 c2
      have tx := pTX_trans a2 b2
      obtain ⟨M', m1, m2, m3⟩ := fin _ p2 f2 tx (b4.trans a4)
      rw [if_pos c2, if_pos c2, m99 _ _ _ _ b1 (TxW_TX tx hW) (by rw [pS_187, tx _ (by omega)]; exact hi), p_b, p_i0, pS_187, m1, p_b]
      refine ⟨M', ?_, m2, m3⟩
      rw [c1, c2]
      cases pDo (pLw (pLw (M 187) a p) b p) p i <;> rfl
    · obtain ⟨M', m1, m2, m3⟩ := fin _ p2 f2 a2 a4
      rw [if_neg c2, if_neg c2, m1, p_b]
      refine ⟨M', ?_, m2, m3⟩
      rw [if_neg (by simp [c2])]
  · obtain ⟨M', m1, m2, m3⟩ := fin _ p1 f1 (pTX_refl _) rfl
    rw [if_neg c1, if_neg c1, m1, p_b]
    refine ⟨M', ?_, m2, m3⟩
    rw [if_neg (by simp [c1])]
/-- one more pair is looked at -/
def pW1 (w : Int → Int) (p i a b : Int) (s : Int × Int × Int) : Int × Int × Int := if (s.1 = -1 ∨ (if a = -1 then (0 : Int) else 1) + (if b = -1 then 0 else 1) < s.1) ∧ pBy w p i a b = true then ((if a = -1 then (0 : Int) else 1) + (if b = -1 then 0 else 1), a, b) else s
/-- k right hands, from b on -/
def pW2 (w : Int → Int) (p i a : Int) : Nat → Int → Int × Int × Int → Int × Int × Int
  | 0, _, s => s
  | k + 1, b, s => pW2 w p i a k (b + 2) (pW1 w p i a b s)
/-- k left hands, from a on -/
def pW3 (w : Int → Int) (p i : Int) (m : Nat) : Nat → Int → Int × Int × Int → Int × Int × Int
  | 0, _, s => s
  | k + 1, a, s => pW3 w p i m k (a + 2) (pW2 w p i (if a < 0 then -1 else a) m (-1) s)
def pWst (M M' : am_M) (s : Int × Int × Int) : Prop := pMQ M M' ∧ M' 186 33 = s.1 ∧ (s.1 ≠ -1 → M' 186 34 = s.2.1 ∧ M' 186 35 = s.2.2)
theorem m125_41 (d : Nat) {M M' : am_M} (hw : WF (M 187)) (hW : TxW (M 187)) (h0 : 0 ≤ M 187 0 ∧ M 187 0 ≤ 20000) {p i x3 a b : Int} (hi : 0 ≤ i ∧ i < M 187 287) (hb : -1 ≤ b ∧ b ≤ 100) (o6 : Option am_V) {s : Int × Int × Int} (hs : pWst M M' s) : ∃ o6' M2, am_L (d + 8) 125 41 [some (.inr 186), some (.inl p), some (.inl i), some (.inl x3), some (.inl b), some (.inl a), o6] [.inl (if b = -1 then 0 else 1), .inl (if a = -1 then 0 else 1)] M' = am_L (d + 8) 125 15 [some (.inr 186), some (.inl p), some (.inl i), some (.inl x3), some (.inl (b + 2)), some (.inl a), o6'] [] M2 ∧ pWst M M2 (pW1 (M 187) p i a b s) := by
  obtain ⟨h1, h2, h3⟩ := hs
  have e7 : M' 187 = M 187 := h1.1 187 (by omega) (by omega) (by omega)
  obtain ⟨M2, r1, r2, r3⟩ := m124 d (M := M') (by rw [e7]; exact hw) (by rw [e7]; exact hW) (by rw [e7]; exact h0) p (i := i) (by rw [e7]; exact hi) a b
  rw [e7] at r1
  have ca : (if a = -1 then (0 : Int) else 1) = 0 ∨ (if a = -1 then (0 : Int) else 1) = 1 := by by_cases q : a = -1 <;> simp [q]
  have cb : (if b = -1 then (0 : Int) else 1) = 0 ∨ (if b = -1 then (0 : Int) else 1) = 1 := by by_cases q : b = -1 <;> simp [q]
  unfold pW1
  generalize (if a = -1 then (0 : Int) else 1) = ka at *
  generalize (if b = -1 then (0 : Int) else 1) = kb at *
  have keep : pWst M M2 s := ⟨pMQ_trans h1 r2, by rw [r3]; exact h2, by rw [r3]; exact h3⟩
  have take : pWst M (am_upd (am_upd (am_upd M2 186 33 (ka + kb)) 186 34 a) 186 35 b) (ka + kb, a, b) := by
    simp only [p_upd, p_st1, p_st3]
    refine ⟨⟨fun c c1 c2 c3 => ?_, fun f hf => ?_⟩, ?_, fun _ => ⟨?_, ?_⟩⟩
    · rw [p_st2 c1]; exact (pMQ_trans h1 r2).1 c c1 c2 c3
    · rw [p_st1, p_off (by omega), p_off (by omega), p_off (by omega)]; exact (pMQ_trans h1 r2).2 f hf
    · rw [p_st1, p_off (by omega), p_off (by omega), p_up1]
    · rw [p_st1, p_off (by omega), p_up1]
    · rw [p_st1, p_up1]
  have run : ∃ o6' M3, am_bnd (am_run (d + 8) 124 [.inr 186, .inl p, .inl i, .inl a, .inl b] M') (fun r1 M1 => (if (r1 : Int) = 0 then am_L (d + 8) 125 15 [some (.inr 186), some (.inl p), some (.inl i), some (.inl x3), some (.inl (b + 2)), some (.inl a), some (.inl (ka + kb))] [] M1 else am_L (d + 8) 125 15 [some (.inr 186), some (.inl p), some (.inl i), some (.inl x3), some (.inl (b + 2)), some (.inl a), some (.inl (ka + kb))] [] (am_upd (am_upd (am_upd M1 186 33 (ka + kb)) 186 34 a) 186 35 b))) = am_L (d + 8) 125 15 [some (.inr 186), some (.inl p), some (.inl i), some (.inl x3), some (.inl (b + 2)), some (.inl a), o6'] [] M3 ∧ pWst M M3 (if pBy (M 187) p i a b = true then (ka + kb, a, b) else s) := by
    rw [r1, p_b, p_i0]
    by_cases q : pBy (M 187) p i a b = true
    · rw [if_pos q, if_pos q]; exact ⟨_, _, rfl, take⟩
    · rw [if_neg q, if_neg q]; exact ⟨_, _, rfl, keep⟩
  have z0 : pWst M M' s := ⟨h1, h2, h3⟩
  rw [e125_41, h2, p_w (x := b + 2) (by omega) (by omega), p_w (x := ka + kb) (by omega) (by omega)]
  by_cases c1 : s.1 = -1
  · rw [if_pos c1]
    have : (if (s.1 = -1 ∨ ka + kb < s.1) ∧ pBy (M 187) p i a b = true then (ka + kb, a, b) else s) = (if pBy (M 187) p i a b = true then (ka + kb, a, b) else s) := by simp [c1]
    rw [this]
    exact run
  · rw [if_neg c1]
    by_cases c2 : ka + kb < s.1
    · rw [if_pos c2]
      have : (if (s.1 = -1 ∨ ka + kb < s.1) ∧ pBy (M 187) p i a b = true then (ka + kb, a, b) else s) = (if pBy (M 187) p i a b = true then (ka + kb, a, b) else s) := by simp [c2]
      rw [this]
      exact run
    · rw [if_neg c2, if_neg (fun q => q.1.elim c1 c2)]
      exact ⟨_, _, rfl, z0⟩
theorem m125_15 (d : Nat) {M : am_M} (hw : WF (M 187)) (hW : TxW (M 187)) (h0 : 0 ≤ M 187 0 ∧ M 187 0 ≤ 20000) {p i x3 : Int} (hi : 0 ≤ i ∧ i < M 187 287) (hx : x3 = -2 ∨ (0 ≤ x3 ∧ x3 ≤ 100)) : ∀ (k : Nat) (b : Int) (o5 o6 : Option am_V) (M' : am_M) (s : Int × Int × Int), b = 2 * M 187 276 + 1 - 2 * k → -1 ≤ b → b % 2 = 1 → pWst M M' s → ∃ o4 o5' o6' M2, am_L (d + 8) 125 15 [some (.inr 186), some (.inl p), some (.inl i), some (.inl x3), some (.inl b), o5, o6] [] M' = am_L (d + 8) 125 5 [some (.inr 186), some (.inl p), some (.inl i), some (.inl (x3 + 2)), o4, o5', o6'] [] M2 ∧ pWst M M2 (pW2 (M 187) p i (if x3 < 0 then -1 else x3) k b s) := by
  have n2 := hw.1.2.1
  intro k
  induction k with
  | zero =>
    intro b o5 o6 M' s hb h1 h2 hs
    have e7 : M' 187 = M 187 := hs.1.1 187 (by omega) (by omega) (by omega)
    rw [e125_15, p_c (by omega), e7, p_w (x := 2 * M 187 276) (by omega) (by omega), if_neg (by omega), p_w (x := x3 + 2) (by omega) (by omega)]
    exact ⟨_, _, _, _, rfl, hs⟩
  | succ k ih =>
    intro b o5 o6 M' s hb h1 h2 hs
    have e7 : M' 187 = M 187 := hs.1.1 187 (by omega) (by omega) (by omega)
    have key : ∃ q5 q6 M2, am_L (d + 8) 125 15 [some (.inr 186), some (.inl p), some (.inl i), some (.inl x3), some (.inl b), o5, o6] [] M' = am_L (d + 8) 125 15 [some (.inr 186), some (.inl p), some (.inl i), some (.inl x3), some (.inl (b + 2)), q5, q6] [] M2 ∧ pWst M M2 (pW1 (M 187) p i (if x3 < 0 then -1 else x3) b s) := by
      rw [e125_15, p_c (by omega), e7, p_w (x := 2 * M 187 276) (by omega) (by omega), if_pos (by omega)]
      by_cases c : x3 < 0
      · obtain ⟨q6, M2, r1, r2⟩ := m125_41 d (M' := M') hw hW h0 (p := p) (i := i) (x3 := x3) (a := -1) (b := b) hi (by omega) o6 hs
        rw [if_pos (show (-1 : Int) = -1 from rfl)] at r1
        rw [if_pos c, if_pos c, if_pos (show (-1 : Int) = -1 from rfl)]
        by_cases q : b = -1
        · rw [if_pos q] at r1 ⊢
          exact ⟨_, _, _, r1, r2⟩
        · rw [if_neg q] at r1 ⊢
          exact ⟨_, _, _, r1, r2⟩
      · obtain ⟨q6, M2, r1, r2⟩ := m125_41 d (M' := M') hw hW h0 (p := p) (i := i) (x3 := x3) (a := x3) (b := b) hi (by omega) o6 hs
        rw [if_neg (show ¬ x3 = -1 by omega)] at r1
        rw [if_neg c, if_neg c, if_neg (show ¬ x3 = -1 by omega)]
        by_cases q : b = -1
        · rw [if_pos q] at r1 ⊢
          exact ⟨_, _, _, r1, r2⟩
        · rw [if_neg q] at r1 ⊢
          exact ⟨_, _, _, r1, r2⟩
    obtain ⟨p5, p6, M2, r1, r2⟩ := key
    rw [r1]
    exact ih (b + 2) p5 p6 M2 _ (by omega) (by omega) (by omega) r2
theorem m125 (d : Nat) {M : am_M} (hw : WF (M 187)) (hW : TxW (M 187)) (h0 : 0 ≤ M 187 0 ∧ M 187 0 ≤ 20000) {p i : Int} (hi : 0 ≤ i ∧ i < M 187 287) : ∃ M', am_run (d + 9) 125 [.inr 186, .inl p, .inl i] M = some (0, M') ∧ pWst M M' (pW3 (M 187) p i ((M 187 276).toNat + 1) ((M 187 276).toNat + 1) (-2) (-1, 0, 0)) := by
  have n2 := hw.1.2.1
  have lp : ∀ (k : Nat) (a : Int) (o4 o5 o6 : Option am_V) (M' : am_M) (s : Int × Int × Int), a = 2 * M 187 276 - 2 * k → -2 ≤ a → a % 2 = 0 → pWst M M' s → ∃ M2, am_L (d + 8) 125 5 [some (.inr 186), some (.inl p), some (.inl i), some (.inl a), o4, o5, o6] [] M' = some (0, M2) ∧ pWst M M2 (pW3 (M 187) p i ((M 187 276).toNat + 1) k a s) := by
    intro k
    induction k with
    | zero =>
      intro a o4 o5 o6 M' s ha h1 h2 hs
      have e7 : M' 187 = M 187 := hs.1.1 187 (by omega) (by omega) (by omega)
      rw [e125_5, p_c (by omega), e7, p_w (by omega) (by omega), if_neg (by omega)]
      exact ⟨_, rfl, hs⟩
    | succ k ih =>
      intro a o4 o5 o6 M' s ha h1 h2 hs
      have e7 : M' 187 = M 187 := hs.1.1 187 (by omega) (by omega) (by omega)
      obtain ⟨p4, p5, p6, M2, r1, r2⟩ := m125_15 d hw hW h0 hi (x3 := a) (by omega) ((M 187 276).toNat + 1) (-1) o5 o6 M' s (by omega) (by omega) (by omega) hs
      rw [e125_5, p_c (by omega), e7, p_w (x := 2 * M 187 276) (by omega) (by omega), if_pos (by omega), r1]
      exact ih (a + 2) p4 p5 p6 M2 _ (by omega) (by omega) (by omega) r2
  rw [e125]
  refine lp ((M 187 276).toNat + 1) (-2) none none none _ (-1, 0, 0) (by omega) (by omega) (by omega) ?_
  simp only [p_upd]
  refine ⟨⟨fun b c1 c2 c3 => p_st2 c1, fun f hf => ?_⟩, ?_, fun q => absurd rfl q⟩
  · rw [p_st1, p_off (by omega)]
  · rw [p_st1, p_up1]
/-! the class's way -/
abbrev pO1 (w : Int → Int) (p i s h : Int) : Bool := pSuf w i h (pOn w p (1 - s)) && pCan w h p 1 0
abbrev pT2 (w : Int → Int) (p i a b : Int) : Bool := pSuf w i a b && pCan (pLends w a p 1 0) b p 1 0
def pTwo (w : Int → Int) (p i a : Int) : Int := if pCan w a p 1 0 = true then p_find (pT2 w p i a) 2 (w 276).toNat 1 else -1
def pTws (w : Int → Int) (p i : Int) : Nat → Int → Int × Int × Int
  | 0, _ => (-1, 0, 0)
  | k + 1, a => if pTwo w p i a = -1 then pTws w p i k (a + 2) else (2, a, pTwo w p i a)
def pWs (w : Int → Int) (p i : Int) : Int × Int × Int := if pDo w p i = true then (0, -1, -1) else if p_find (pO1 w p i 1) 2 (w 276).toNat 1 ≠ -1 then (1, -1, p_find (pO1 w p i 1) 2 (w 276).toNat 1) else if p_find (pO1 w p i 0) 2 (w 276).toNat 0 ≠ -1 then (1, p_find (pO1 w p i 0) 2 (w 276).toNat 0, -1) else pTws w p i (w 276).toNat 0
theorem pW2_keep {w : Int → Int} {p i a : Int} : ∀ (k : Nat) (b : Int) (s : Int × Int × Int), s.1 ≠ -1 → (∀ j : Nat, j < k → ¬ (if a = -1 then (0 : Int) else 1) + (if b + 2 * j = -1 then 0 else 1) < s.1) → pW2 w p i a k b s = s := by
  intro k
  induction k with
  | zero => intro _ _ _ _; rfl
  | succ k ih =>
    intro b s h1 h2
    have h0 := h2 0 (by omega)
    rw [show b + 2 * ((0 : Nat) : Int) = b from by omega] at h0
    have e : pW1 w p i a b s = s := if_neg (fun q => q.1.elim h1 h0)
    rw [pW2, e]
    exact ih (b + 2) s h1 (fun j hj => by
      have := h2 (j + 1) (by omega)
      rwa [show b + 2 * ((j + 1 : Nat) : Int) = b + 2 + 2 * (j : Int) from by omega] at this)
/-- from nothing found: the first right hand that does -/
theorem pW2_first {w : Int → Int} {p i a : Int} : ∀ (k : Nat) (b : Int) (s : Int × Int × Int), 0 ≤ b → s.1 = -1 → pW2 w p i a k b s = if p_find (fun b => pBy w p i a b) 2 k b = -1 then s else ((if a = -1 then (0 : Int) else 1) + 1, a, p_find (fun b => pBy w p i a b) 2 k b) := by
  intro k
  induction k with
  | zero => intro b s _ _; rfl
  | succ k ih =>
    intro b s h0 h1
    rw [pW2, p_find]
    unfold pW1
    by_cases q : pBy w p i a b = true
    · rw [if_pos ⟨Or.inl h1, q⟩, if_pos q, if_neg (show ¬ b = -1 by omega), if_neg (show ¬ b = -1 by omega)]
      have ca : (if a = -1 then (0 : Int) else 1) = 0 ∨ (if a = -1 then (0 : Int) else 1) = 1 := by by_cases q : a = -1 <;> simp [q]
      refine pW2_keep k (b + 2) _ (by dsimp only; omega) (fun j hj => ?_)
      rw [if_neg (show ¬ b + 2 + 2 * (j : Int) = -1 by omega)]
      dsimp only
      omega
    · rw [if_neg (fun z => q z.2), if_neg q]
      exact ih (b + 2) s (by omega) h1
theorem pFind_cg {P Q : Int → Bool} (s : Int) (k : Nat) (i : Int) (h : ∀ j : Nat, j < k → P (i + s * j) = Q (i + s * j)) : p_find P s k i = p_find Q s k i := p_find_cg s k i h
theorem pBy_right {w : Int → Int} (hw : WF w) (hW : TxW w) {p i b : Int} (hi : 0 ≤ i ∧ i < w 287) (hb : 0 ≤ b ∧ b % 2 = 1) : pBy w p i (-1) b = pO1 w p i 1 b := by
  have e1 : pLt w (-1) p = true := rfl
  have e2 : pLw w (-1) p = w := rfl
  have e3 : pLt w b p = pCan w b p 1 0 := if_neg (by omega)
  have e4 : pLw w b p = pLends w b p 1 0 := if_neg (by omega)
  unfold pBy pO1
  rw [e1, e2, e3, e4, Bool.true_and]
  cases c : pCan w b p 1 0 with
  | false => simp
  | true =>
    have ok := pCan_ok c
    obtain ⟨o1, o2⟩ := pLends_on hw ok
    have z := o2 0 (by omega) (by omega) (by omega)
    rw [hb.2] at o1
    unfold pDo
    rw [o1, z, pSuf_lend hw hW ok hi, pSuf_comm]
    simp
theorem pBy_left {w : Int → Int} (hw : WF w) (hW : TxW w) {p i a : Int} (hi : 0 ≤ i ∧ i < w 287) (ha : 0 ≤ a ∧ a % 2 = 0) : pBy w p i a (-1) = pO1 w p i 0 a := by
  have e3 : pLt w a p = pCan w a p 1 0 := if_neg (by omega)
  have e4 : pLw w a p = pLends w a p 1 0 := if_neg (by omega)
  have e1 : pLt (pLw w a p) (-1) p = true := rfl
  have e2 : pLw (pLw w a p) (-1) p = pLw w a p := rfl
  unfold pBy pO1
  rw [e1, e2, e3, e4, Bool.true_and]
  cases c : pCan w a p 1 0 with
  | false => simp
  | true =>
    have ok := pCan_ok c
    obtain ⟨o1, o2⟩ := pLends_on hw ok
    have z := o2 1 (by omega) (by omega) (by omega)
    rw [ha.2] at o1
    unfold pDo
    rw [o1, z, pSuf_lend hw hW ok hi]
    simp
theorem pBy_two {w : Int → Int} (hw : WF w) (hW : TxW w) {p i a b : Int} (hi : 0 ≤ i ∧ i < w 287) (ha : 0 ≤ a ∧ a % 2 = 0) (hb : 0 ≤ b ∧ b % 2 = 1) : pBy w p i a b = (pCan w a p 1 0 && pT2 w p i a b) := by
  have e3 : pLt w a p = pCan w a p 1 0 := if_neg (by omega)
  have e4 : pLw w a p = pLends w a p 1 0 := if_neg (by omega)
  have e1 : pLt (pLends w a p 1 0) b p = pCan (pLends w a p 1 0) b p 1 0 := if_neg (by omega)
  have e2 : pLw (pLends w a p 1 0) b p = pLends (pLends w a p 1 0) b p 1 0 := if_neg (by omega)
  unfold pBy pT2
  rw [e3, e4, e1, e2]
  cases c : pCan w a p 1 0 with
  | false => simp
  | true =>
    have ok := pCan_ok c
    obtain ⟨o1, -⟩ := pLends_on hw ok
    have hw1 := pLends_WF hw ok
    have tx := pLends_TX hw ok
    have hW1 := TxW_TX tx hW
    cases c2 : pCan (pLends w a p 1 0) b p 1 0 with
    | false => simp
    | true =>
      have ok2 := pCan_ok c2
      obtain ⟨q1, q2⟩ := pLends_on hw1 ok2
      have z := q2 0 (by omega) (by omega) (by omega)
      rw [hb.2] at q1
      rw [ha.2] at o1
      unfold pDo
      rw [q1, z, o1, pSuf_lend hw1 hW1 ok2 (by rw [tx _ (by omega)]; exact hi), pSuf_lend hw hW ok hi]
      simp
