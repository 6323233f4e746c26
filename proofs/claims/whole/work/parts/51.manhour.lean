/-! PURE: an hour, in the model -/
/-- the texts are the same -/
def pTX (w w' : Int → Int) : Prop := ∀ k, 277 ≤ k ∨ k < 0 → w' k = w k
theorem pTX_refl (w : Int → Int) : pTX w w := fun _ _ => rfl
theorem pTX_trans {a b c : Int → Int} (h1 : pTX a b) (h2 : pTX b c) : pTX a c := fun k hk => (h2 k hk).trans (h1 k hk)
theorem pSteps_TX {w w' : Int → Int} {k : Int} (h : pTX w w') (hk : 0 ≤ k) : ∀ (n : Nat) (i : Int), 0 ≤ i → pSteps w' k n i = pSteps w k n i := by
  intro n
  induction n with
  | zero => intro i _; rfl
  | succ n ih =>
    intro i hi
    rw [pSteps, pSteps, h _ (by omega), h _ (by omega), ih (i + 1) (by omega)]
theorem pB_TX {w w' : Int → Int} {k i : Int} (h : pTX w w') (hk : 0 ≤ k) (hi : 0 ≤ i) (hm : 0 ≤ pMid w k i) : pB w' k i = pB w k i := by
  have e1 : pTo w' k i = pTo w k i := h _ (by omega)
  have e2 : pMid w' k i = pMid w k i := h _ (by omega)
  unfold pB
  rw [e1, e2, pSteps_TX h hk _ _ hm]
theorem pE_TX {w w' : Int → Int} {k i : Int} (h : pTX w w') (hk : 0 ≤ k) (hi : 0 ≤ i) (hm : 0 ≤ pFrom w k i) : pE w' k i = pE w k i := by
  have e1 : pFrom w' k i = pFrom w k i := h _ (by omega)
  have e2 : pMid w' k i = pMid w k i := h _ (by omega)
  unfold pE
  rw [e1, e2, pSteps_TX h hk _ _ hm]
theorem pLaw_TX {w w' : Int → Int} {k : Int} (h : pTX w w') (hk : 0 ≤ k) (hL : pLaw w k) : pLaw w' k := by
  obtain ⟨h1, h2⟩ := hL
  have e : w' (288 + k) = w (288 + k) := h _ (by omega)
  refine ⟨by rw [e]; exact h1, fun i h0 hi => ?_⟩
  rw [e] at hi
  obtain ⟨b1, b2, b3⟩ := h2 i h0 hi
  rw [pB_TX h hk h0 (by omega), pE_TX h hk h0 (by omega), show pFrom w' k i = pFrom w k i from h _ (by omega), show pMid w' k i = pMid w k i from h _ (by omega), show pTo w' k i = pTo w k i from h _ (by omega)]
  exact ⟨b1, b2, b3⟩
theorem pLends_TX {w : Int → Int} {h to n price : Int} (hw : WF w) (hc : pLok w h to n price) : pTX w (pLends w h to n price) := fun k hk => pLends_hi hw hc (by omega)
theorem pWorks_TX {w : Int → Int} {p h t : Int} (hh : 0 ≤ h ∧ h < 16) (hp : 0 ≤ p ∧ p < 8) (hk : -1 ≤ pp w p 1 ∧ pp w p 1 ≤ 3) (ht : pp w p 1 ≠ -1) : pTX w (pWorks w p h t) := fun k hk2 => pWorks_off hk ht (by omega) (by omega) (by omega)
theorem pMarks_TX {w : Int → Int} (hn : w 276 ≤ 8) : pTX w (pMarks w) := fun k hk => pMk_off (by omega)
/-- one booking in its hour: the cells, and the bookings that failed -/
def pBk (i : Int) (s : (Int → Int) × List Int) : (Int → Int) × List Int := if s.1 (292 + 5 * i + 2) = s.1 0 then (if pCan s.1 (s.1 (292 + 5 * i)) (s.1 (292 + 5 * i + 1)) (s.1 (292 + 5 * i + 3)) (s.1 (292 + 5 * i + 4)) = true then (pLends s.1 (s.1 (292 + 5 * i)) (s.1 (292 + 5 * i + 1)) (s.1 (292 + 5 * i + 3)) (s.1 (292 + 5 * i + 4)), s.2) else (s.1, s.2 ++ [i])) else s
def pBks (w : Int → Int) (n : Int) : (Int → Int) × List Int := pF pBk n.toNat (w, [])
def pFa (u : Int → Int) (l : List Int) (hour : Int) : Int → Int := match l with
  | [] => u
  | i :: _ => if u 27 = -1 then p_up (p_up u 27 i) 28 hour else u
theorem pFa_app (u : Int → Int) (l : List Int) (i h : Int) (hl : ∀ x ∈ l, 0 ≤ x) : pFa u (l ++ [i]) h = if pFa u l h 27 = -1 then p_up (p_up (pFa u l h) 27 i) 28 h else pFa u l h := by
  cases l with
  | nil => rfl
  | cons x l =>
    have hx := hl x (List.mem_cons_self ..)
    show (if u 27 = -1 then p_up (p_up u 27 x) 28 h else u) = _
    have e : pFa u (x :: l) h = if u 27 = -1 then p_up (p_up u 27 x) 28 h else u := rfl
    rw [e]
    by_cases h3 : u 27 = -1
    · rw [if_pos h3, if_neg]
      rw [p_off (by omega), p_up1]
      omega
    · rw [if_neg h3, if_neg h3]
theorem pBks_next (w : Int → Int) {i : Int} (h : 0 ≤ i) : pBks w (i + 1) = pBk i (pBks w i) := (pF_next pBk (w, []) h).symm
theorem pBks_all {w : Int → Int} (hw : WF w) : ∀ n : Nat, WF (pBks w n).1 ∧ pTX w (pBks w n).1 ∧ (pBks w n).1 0 = w 0 ∧ (pBks w n).1 276 = w 276 ∧ (pBks w n).1 2 = w 2 ∧ (pBks w n).2.length ≤ n ∧ ∀ x ∈ (pBks w n).2, 0 ≤ x ∧ x < n := by
  intro n
  induction n with
  | zero => exact ⟨hw, pTX_refl w, rfl, rfl, rfl, Nat.le_refl _, fun x hx => by cases hx⟩
  | succ n ih =>
    rw [show ((n + 1 : Nat) : Int) = (n : Int) + 1 from by omega, pBks_next w (by omega)]
    generalize pBks w n = s at ih ⊢
    obtain ⟨i1, i2, i3, i4, i5, i6, i7⟩ := ih
    have i8 : ∀ x ∈ s.2, 0 ≤ x ∧ x < (n : Int) + 1 := fun x hx => by have := i7 x hx; omega
    unfold pBk
    by_cases h1 : s.1 (292 + 5 * (n : Int) + 2) = s.1 0
    · rw [if_pos h1]
      by_cases h2 : pCan s.1 (s.1 (292 + 5 * (n : Int))) (s.1 (292 + 5 * (n : Int) + 1)) (s.1 (292 + 5 * (n : Int) + 3)) (s.1 (292 + 5 * (n : Int) + 4)) = true
      · rw [if_pos h2]
        have ok := pCan_ok h2
        exact ⟨pLends_WF i1 ok, pTX_trans i2 (pLends_TX i1 ok), (pLends_hi i1 ok (by omega)).trans i3, (pLends_hi i1 ok (by omega)).trans i4, (pLends_hi i1 ok (by omega)).trans i5, Nat.le_succ_of_le i6, i8⟩
      · rw [if_neg h2]
        refine ⟨i1, i2, i3, i4, i5, ?_, ?_⟩
        · rw [List.length_append]
          simp
          omega
        · intro x hx
          rcases List.mem_append.mp hx with q | q
          · exact i8 x q
          · rw [List.mem_singleton.mp q]; omega
    · rw [if_neg h1]
      exact ⟨i1, i2, i3, i4, i5, by omega, i8⟩
theorem m70p (d : Nat) (h to n price : Int) (M : am_M) (hw : WF (M 187)) (h0 : 0 ≤ M 187 0 ∧ M 187 0 ≤ 20000) (hc : pLok (M 187) h to n price) : am_run (d + 3) 70 [.inr 186, .inl h, .inl to, .inl n, .inl price] M = some (M 187 0 + n, p_st M 187 (pLends (M 187) h to n price)) := by
  obtain ⟨⟨c1, c2⟩, c3, c4, c5, c6, c7⟩ := hc
  obtain ⟨⟨n1, n2, n3⟩, hp, hh, hl, hz⟩ := hw
  have a1 := hh.1 h c1.1 (by omega)
  exact m70 d h to n price M (by omega) n2 (by omega) (by omega) (by omega) c6 c3.1 c3.2 h0 (hp to c2.1 (by omega)).1 (hp _ (by omega) (by omega)).1 (by omega)
theorem m80_4 (d : Nat) (M : am_M) (u0 w0 : Int → Int) (hw0 : WF w0) (hL : pLaw w0 0) (h0 : 0 ≤ w0 0 ∧ w0 0 ≤ 20000) (hb : 0 ≤ w0 286 ∧ w0 286 ≤ 16) : ∀ (k : Nat) (i : Int) (o3 : Option am_V) (pile f : Int → Int), i = w0 286 - k → 0 ≤ i → ∃ pile' f', am_L (d + 6) 80 4 [some (.inr 186), some (.inl ((pBks w0 i).2.length : Int)), some (.inl i), o3] [] (pS M (pFa u0 (pBks w0 i).2 (w0 0)) (pBks w0 i).1 pile f) = some (((pBks w0 (w0 286)).2.length : Int), pS M (pFa u0 (pBks w0 (w0 286)).2 (w0 0)) (pBks w0 (w0 286)).1 pile' f') := by
  intro k
  induction k with
  | zero =>
    intro i o3 pile f hi hi0
    obtain rfl : i = w0 286 := by omega
    obtain ⟨a1, a2, a3, a4, a5, a6, a7⟩ := pBks_all hw0 (w0 286).toNat
    rw [show ((w0 286).toNat : Int) = w0 286 from by omega] at a1 a2 a3 a4 a5 a6 a7
    refine ⟨pile, f, ?_⟩
    have : (pBks w0 (w0 286)).1 286 = w0 286 := a2 _ (by omega)
    rw [e80_4, p_c (by omega), pS_187, this, if_neg (by omega)]
  | succ k ih =>
    intro i o3 pile f hi hi0
    obtain ⟨a1, a2, a3, a4, a5, a6, a7⟩ := pBks_all hw0 i.toNat
    have e := pBks_next w0 hi0
    rw [show (i.toNat : Int) = i from by omega] at a1 a2 a3 a4 a5 a6 a7
    have next := ih (i + 1)
    rw [e] at next
    generalize pBks w0 i = s at *
    have b0 : s.1 286 = w0 286 := a2 _ (by omega)
    have n1 := a1.1.1
    have n2 := a1.1.2.1
    have a6' : (s.2.length : Int) ≤ i := by omega
    rw [e80_4, p_c (by omega), pS_187, b0, if_pos (by omega)]
    simp (disch := omega) only [p_w]
    rw [p_c (by omega), p_c (by omega)]
    unfold pBk at next
    by_cases h1 : s.1 (292 + 5 * i + 2) = s.1 0
    · rw [if_pos h1]
      rw [if_pos h1] at next
      rw [p_c (by omega), p_c (by omega), p_c (by omega), p_c (by omega)]
      obtain ⟨pile2, f2, hm⟩ := m68 d (s.1 (292 + 5 * i)) (s.1 (292 + 5 * i + 1)) (s.1 (292 + 5 * i + 3)) (s.1 (292 + 5 * i + 4)) (pS M (pFa u0 s.2 (w0 0)) s.1 pile f) n1 n2 (by rw [pS_187, a3]; exact h0) (pLaw_TX a2 (by omega) hL)
      rw [pS_187, pS_st195, pS_st196] at hm
      rw [hm, p_b]
      by_cases h2 : pCan s.1 (s.1 (292 + 5 * i)) (s.1 (292 + 5 * i + 1)) (s.1 (292 + 5 * i + 3)) (s.1 (292 + 5 * i + 4)) = true
      · rw [if_pos h2] at next ⊢
        have ok := pCan_ok h2
        rw [if_neg (by decide), pS_187, p_c (by omega), p_c (by omega), p_c (by omega), p_c (by omega), m70p (d + 3) _ _ _ _ _ (by rw [pS_187]; exact a1) (by rw [pS_187, a3]; exact h0) (by rw [pS_187]; exact ok), p_b, pS_187, pS_st187]
        exact next _ pile2 f2 (by omega) (by omega)
      · rw [if_neg h2] at next ⊢
        rw [if_pos rfl, pS_186]
        simp only [List.length_append, List.length_cons, List.length_nil] at next
        rw [show ((s.2.length + (0 + 1) : Nat) : Int) = (s.2.length : Int) + 1 from by omega, pFa_app u0 s.2 i (w0 0) (fun x hx => (a7 x hx).1)] at next
        by_cases h3 : pFa u0 s.2 (w0 0) 27 = -1
        · rw [if_pos h3] at next
          rw [if_pos h3, p_c (by omega), p_upd, p_upd, pS_st186, pS_186, pS_187, a3, pS_st186]
          exact next _ pile2 f2 (by omega) (by omega)
        · rw [if_neg h3] at next
          rw [if_neg h3]
          exact next _ pile2 f2 (by omega) (by omega)
    · rw [if_neg h1] at next ⊢
      exact next _ pile f (by omega) (by omega)
theorem m80 (d : Nat) (M : am_M) (hw : WF (M 187)) (hL : pLaw (M 187) 0) (h0 : 0 ≤ M 187 0 ∧ M 187 0 ≤ 20000) (hb : 0 ≤ M 187 286 ∧ M 187 286 ≤ 16) : ∃ pile f, am_run (d + 7) 80 [.inr 186] M = some (((pBks (M 187) (M 187 286)).2.length : Int), pS M (pFa (M 186) (pBks (M 187) (M 187 286)).2 (M 187 0)) (pBks (M 187) (M 187 286)).1 pile f) := by
  obtain ⟨pile, f, h⟩ := m80_4 d M (M 186) (M 187) hw hL h0 hb (M 187 286).toNat 0 none (M 195) (M 196) (by omega) (by omega)
  refine ⟨pile, f, ?_⟩
  rw [e80]
  have e : pS M (pFa (M 186) (pBks (M 187) 0).2 (M 187 0)) (pBks (M 187) 0).1 (M 195) (M 196) = M := pS_id M
  rw [e] at h
  exact h
/-- works -/
def pWO1 (t p s : Int) (w : Int → Int) : Int → Int := if pOn w p s = -1 then w else pWorks w p (pOn w p s) t
def pWO (t p : Int) (w : Int → Int) : Int → Int := pWO1 t p 1 (pWO1 t p 0 w)
def pWA1 (t p : Int) (w : Int → Int) : Int → Int := if pp w p 1 = -1 then w else pWO t p w
def pWA (t : Int) (w : Int → Int) (n : Int) : Int → Int := pF (pWA1 t) n.toNat w
theorem pWA_next (t : Int) (w : Int → Int) {i : Int} (h : 0 ≤ i) : pWA t w (i + 1) = pWA1 t i (pWA t w i) := (pF_next (pWA1 t) w h).symm
/-- what a work keeps: the wrists, the tasks, the texts -/
def pWK (w w' : Int → Int) : Prop := WF w' ∧ pTX w w' ∧ w' 0 = w 0 ∧ w' 1 = w 1 ∧ w' 2 = w 2 ∧ w' 276 = w 276 ∧ (∀ p, 0 ≤ p → p < 8 → pp w' p 1 = pp w p 1) ∧ ∀ h, 0 ≤ h → h < 16 → ph w' h 8 = ph w h 8
theorem pWK_refl {w : Int → Int} (hw : WF w) : pWK w w := ⟨hw, pTX_refl w, rfl, rfl, rfl, rfl, fun _ _ _ => rfl, fun _ _ _ => rfl⟩
theorem pWK_trans {a b c : Int → Int} (h1 : pWK a b) (h2 : pWK b c) : pWK a c := by
  obtain ⟨-, a2, a3, a4, a5, a6, a7, a8⟩ := h1
  obtain ⟨b1, b2, b3, b4, b5, b6, b7, b8⟩ := h2
  exact ⟨b1, pTX_trans a2 b2, b3.trans a3, b4.trans a4, b5.trans a5, b6.trans a6, fun p h h' => (b7 p h h').trans (a7 p h h'), fun p h h' => (b8 p h h').trans (a8 p h h')⟩
theorem pWO1_K {w : Int → Int} {t p s : Int} (hw : WF w) (hp : 0 ≤ p ∧ p < w 276) (hs : 0 ≤ s ∧ s ≤ 1) (ht : pp w p 1 ≠ -1) : pWK w (pWO1 t p s w) := by
  unfold pWO1
  have n2 := hw.1.2.1
  by_cases h : pOn w p s = -1
  · rw [if_pos h]; exact pWK_refl hw
  · rw [if_neg h]
    have hr := pOn_range (w := w) (p := p) hs n2.1
    have hk := (hw.2.1 p hp.1 (by omega)).2
    have off : ∀ k, k ≠ 3 → k ≠ 4 + 4 * p + 0 → (k < 36 + 10 * pOn w p s ∨ 36 + 10 * pOn w p s + 5 < k) → pWorks w p (pOn w p s) t k = w k := fun k => pWorks_off hk ht
    exact ⟨pWorks_WF hw (by omega) hp ht, fun k hk => off k (by omega) (by omega) (by omega), off 0 (by omega) (by omega) (by omega), off 1 (by omega) (by omega) (by omega), off 2 (by omega) (by omega) (by omega), off 276 (by omega) (by omega) (by omega), fun q h0 h1 => off _ (by omega) (by omega) (by omega), fun g h0 h1 => off _ (by omega) (by omega) (by omega)⟩
theorem pWO_K {w : Int → Int} {t p : Int} (hw : WF w) (hp : 0 ≤ p ∧ p < w 276) (ht : pp w p 1 ≠ -1) : pWK w (pWO t p w) := by
  have n2 := hw.1.2.1
  have h1 := pWO1_K (t := t) (s := 0) hw hp (by omega) ht
  have h2 := pWO1_K (t := t) (p := p) (s := 1) h1.1 (by rw [h1.2.2.2.2.2.1]; exact hp) (by omega) (by rw [h1.2.2.2.2.2.2.1 p hp.1 (by omega)]; exact ht)
  exact pWK_trans h1 h2
theorem pWA_K {w : Int → Int} (t : Int) (hw : WF w) : ∀ n : Nat, (n : Int) ≤ w 276 → pWK w (pWA t w n) := by
  intro n
  induction n with
  | zero => intro _; exact pWK_refl hw
  | succ n ih =>
    intro hn
    have h1 := ih (by omega)
    rw [show ((n + 1 : Nat) : Int) = (n : Int) + 1 from by omega, pWA_next t w (by omega)]
    unfold pWA1
    by_cases h : pp (pWA t w n) n 1 = -1
    · rw [if_pos h]; exact h1
    · rw [if_neg h]
      exact pWK_trans h1 (pWO_K h1.1 (by rw [h1.2.2.2.2.2.1]; omega) h)
theorem m84 (d : Nat) (p t : Int) (M : am_M) (hw : WF (M 187)) (hL : pLaw (M 187) 1) (hp : 0 ≤ p ∧ p < M 187 276) (ht : pp (M 187) p 1 ≠ -1) : ∃ pile f, am_run (d + 7) 84 [.inr 186, .inl p, .inl t] M = some (0, pS M (M 186) (pWO t p (M 187)) pile f) := by
  have n2 := hw.1.2.1
  have one : ∀ (s : Int) (o4 : Option am_V) (w pile f : Int → Int), 0 ≤ s ∧ s ≤ 1 → WF w → pLaw w 1 → 0 ≤ p ∧ p < w 276 → pp w p 1 ≠ -1 → ∃ pile2 f2 o, am_L (d + 6) 84 2 [some (.inr 186), some (.inl p), some (.inl t), some (.inl s), o4] [] (pS M (M 186) w pile f) = am_L (d + 6) 84 2 [some (.inr 186), some (.inl p), some (.inl t), some (.inl (s + 1)), o] [] (pS M (M 186) (pWO1 t p s w) pile2 f2) := by
    intro s o4 w pile f hs hw hL hp ht
    have n2 := hw.1.2.1
    have hr := pOn_range (w := w) (p := p) hs n2.1
    rw [e84_2, if_pos (by omega), m12 _ _ _ _ (by rw [pS_187]; exact n2) hs, p_b, pS_187, p_w (by omega) (by omega)]
    unfold pWO1
    by_cases h : pOn w p s = -1
    · rw [if_pos h, if_pos h]
      exact ⟨_, _, _, rfl⟩
    · rw [if_neg h, if_neg h]
      obtain ⟨pile2, f2, h2⟩ := m82 d p (pOn w p s) t (pS M (M 186) w pile f) (by rw [pS_187]; exact hw) (by rw [pS_187]; exact hL) (by omega) (by omega) (by rw [pS_187]; exact ht)
      rw [h2, p_b, pS_pS, pS_186, pS_187]
      exact ⟨_, _, _, rfl⟩
  have k1 := pWO1_K (t := t) (s := 0) hw hp (by omega) ht
  obtain ⟨p1, f1, o1, h1⟩ := one 0 none (M 187) (M 195) (M 196) (by omega) hw hL hp ht
  obtain ⟨p2, f2, o2, h2⟩ := one 1 o1 (pWO1 t p 0 (M 187)) p1 f1 (by omega) k1.1 (pLaw_TX k1.2.1 (by omega) hL) (by rw [k1.2.2.2.2.2.1]; exact hp) (by rw [k1.2.2.2.2.2.2.1 p hp.1 (by omega)]; exact ht)
  refine ⟨p2, f2, ?_⟩
  rw [pS_id] at h1
  rw [show (0 : Int) + 1 = 1 from rfl] at h1
  rw [e84, h1, h2, e84_2, if_neg (by decide)]
  rfl
/-- an hour: the bookings that failed, and the cells -/
def pHr2 (t : Int) (w : Int → Int) : Int → Int := pMarks (pWA t w (w 276))
def pHr3 (w : Int → Int) : Int → Int := pEA (w 1).toNat (p_up w 0 (w 0 + 1))
def pHr (t : Int) (w : Int → Int) : Int → Int := pHr3 (pHr2 t (pBks w (w 286)).1)
def pHrL (w : Int → Int) : List Int := (pBks w (w 286)).2
theorem WF_hour {w : Int → Int} (hw : WF w) (v : Int) : WF (p_up w 0 v) := by
  have n2 := hw.1.2.1
  have off : ∀ k, k ≠ 0 → p_up w 0 v k = w k := fun k hk => p_off (by omega)
  refine WF_same hw ⟨off 1 (by omega), off 2 (by omega), off 276 (by omega)⟩ ?_ ?_ ?_ ?_ ?_
  · intro q h0 h1
    unfold pp
    rw [off _ (by omega), off _ (by omega)]
    exact hw.2.1 q h0 h1
  · refine WFh_same hw.2.2.1 (off 276 (by omega)) ?_ ?_
    · intro g h0 h1
      exact off _ (by omega)
    · intro g h0 h1
      unfold ph
      rw [off _ (by omega)]
      exact hw.2.2.1.2.1 g h0 h1
  · intro i f h0 h1 h2 h3
    exact off _ (by omega)
  · intro q h0 h1
    exact ⟨fun f k1 k2 => off _ (by omega), off _ (by omega)⟩
  · intro g h0 h1 f k1 k2
    exact off _ (by omega)
/-- what an hour keeps -/
def pHK (w w' : Int → Int) : Prop := WF w' ∧ pTX w w' ∧ w' 276 = w 276 ∧ w' 2 = w 2
theorem pHr_K {w : Int → Int} (t : Int) (hw : WF w) (hb : 0 ≤ w 286) : pHK w (pHr t w) ∧ pHr t w 0 = w 0 + 1 := by
  have n2 := hw.1.2.1
  obtain ⟨a1, a2, a3, a4, a5, a6, a7⟩ := pBks_all hw (w 286).toNat
  rw [show ((w 286).toNat : Int) = w 286 from by omega] at a1 a2 a3 a4 a5 a6 a7
  unfold pHr
  generalize (pBks w (w 286)).1 = w1 at *
  have k := pWA_K t a1 (w1 276).toNat (by omega)
  rw [show ((w1 276).toNat : Int) = w1 276 from by omega] at k
  unfold pHr2
  generalize pWA t w1 (w1 276) = w2 at *
  obtain ⟨b1, b2, b3, b4, b5, b6, b7, b8⟩ := k
  have m := pMarks_WF b1
  have moff : ∀ k, (k < 42 ∨ 196 ≤ k) → pMarks w2 k = w2 k := fun k hk => pMk_off (by omega)
  have h1 := WF_hour m (pMarks w2 0 + 1)
  have n1 := m.1.1
  have off1 : p_up (pMarks w2) 0 (pMarks w2 0 + 1) 1 = pMarks w2 1 := p_off (by omega)
  obtain ⟨c1, c2⟩ := pEA_all (pMarks w2 1).toNat _ h1 (by rw [off1]; omega)
  unfold pHr3
  refine ⟨⟨c1, fun k hk => ?_, ?_, ?_⟩, ?_⟩
  · rw [c2 k (by omega) (by omega), p_off (by omega), moff k (by omega), b2 k hk, a2 k hk]
  · rw [c2 _ (by omega) (by omega), p_off (by omega), moff _ (by omega), b6, a4]
  · rw [c2 _ (by omega) (by omega), p_off (by omega), moff _ (by omega), b5, a5]
  · rw [c2 _ (by omega) (by omega), p_up1, moff _ (by omega), b3, a3]
theorem m87_5 (d : Nat) (M : am_M) (u w0 : Int → Int) (t l : Int) (hw : WF w0) (hL : pLaw w0 1) (h0 : 0 ≤ w0 0 ∧ w0 0 ≤ 20000) : ∀ (k : Nat) (i : Int) (pile f : Int → Int), i = w0 276 - k → 0 ≤ i → ∃ pile2 f2, am_L (d + 7) 87 5 [some (.inr 186), some (.inl t), some (.inl l), some (.inl i)] [] (pS M u (pWA t w0 i) pile f) = some (l, pS M u (pHr3 (pHr2 t w0)) pile2 f2) := by
  intro k
  have n2 := hw.1.2.1
  induction k with
  | zero =>
    intro i pile f hi hi0
    obtain rfl : i = w0 276 := by omega
    have kk := pWA_K t hw (w0 276).toNat (by omega)
    rw [show ((w0 276).toNat : Int) = w0 276 from by omega] at kk
    obtain ⟨b1, b2, b3, b4, b5, b6, b7, b8⟩ := kk
    have e0 : pMarks (pWA t w0 (w0 276)) 0 = w0 0 := by rw [← b3]; exact pMk_off (by omega)
    refine ⟨pile, f, ?_⟩
    rw [e87_5, p_c (by omega), pS_187, if_neg (by omega), m85 _ _ (by rw [pS_187]; omega), p_b, pS_187, pS_st187, p_c (by omega), p_c (by omega), p_upd, pS_187, pS_st187, m86 _ _ (by rw [pS_187]; exact WF_hour (pMarks_WF b1) _), p_b, pS_187, pS_st187, e0, p_w (by omega) (by omega)]
    unfold pHr2 pHr3
    rw [e0, p_off (by omega)]
  | succ k ih =>
    intro i pile f hi hi0
    have kk := pWA_K t hw i.toNat (by omega)
    rw [show (i.toNat : Int) = i from by omega] at kk
    have e := pWA_next t w0 hi0
    have next := ih (i + 1)
    rw [e] at next
    generalize pWA t w0 i = w at *
    obtain ⟨b1, b2, b3, b4, b5, b6, b7, b8⟩ := kk
    rw [e87_5, p_c (by omega), pS_187, if_pos (by omega), m3 _ _ _ _ (by omega) (by omega), p_b, pS_187, p_w (by omega) (by omega)]
    unfold pWA1 at next
    by_cases h : pp w i 1 = -1
    · rw [if_pos h] at next ⊢
      exact next _ _ (by omega) (by omega)
    · rw [if_neg h] at next ⊢
      obtain ⟨pile2, f2, h2⟩ := m84 d i t (pS M u w pile f) b1 (pLaw_TX b2 (by omega) hL) (by rw [pS_187]; omega) h
      rw [h2, p_b, pS_pS, pS_186, pS_187]
      exact next _ _ (by omega) (by omega)
theorem m87 (d : Nat) (t : Int) (M : am_M) (hw : WF (M 187)) (hL : pLaw (M 187) 0 ∧ pLaw (M 187) 1) (h0 : 0 ≤ M 187 0 ∧ M 187 0 ≤ 20000) (hb : 0 ≤ M 187 286 ∧ M 187 286 ≤ 16) : ∃ pile f, am_run (d + 8) 87 [.inr 186, .inl t] M = some (((pHrL (M 187)).length : Int), pS M (pFa (M 186) (pHrL (M 187)) (M 187 0)) (pHr t (M 187)) pile f) := by
  have n2 := hw.1.2.1
  obtain ⟨pile, f, h⟩ := m80 d M hw hL.1 h0 hb
  obtain ⟨a1, a2, a3, a4, a5, a6, a7⟩ := pBks_all hw (M 187 286).toNat
  rw [show ((M 187 286).toNat : Int) = M 187 286 from by omega] at a1 a2 a3 a4 a5 a6 a7
  obtain ⟨pile2, f2, h2⟩ := m87_5 d M (pFa (M 186) (pHrL (M 187)) (M 187 0)) (pBks (M 187) (M 187 286)).1 t ((pHrL (M 187)).length : Int) a1 (pLaw_TX a2 (by omega) hL.2) (by omega) ((pBks (M 187) (M 187 286)).1 276).toNat 0 pile f (by have := a1.1.2.1; omega) (by omega)
  refine ⟨pile2, f2, ?_⟩
  rw [e87, h, p_b]
  exact h2
