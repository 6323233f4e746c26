/-! PURE: the model's keeping, and an hour of it -/
/-- what a model's run may touch: its object, its cells, the pile, the facts -/
def pS (M : am_M) (u w pile f : Int → Int) : am_M := p_st (p_st (p_st (p_st M 186 u) 187 w) 195 pile) 196 f
theorem pS_186 (M : am_M) (u w pile f : Int → Int) : pS M u w pile f 186 = u := rfl
theorem pS_187 (M : am_M) (u w pile f : Int → Int) : pS M u w pile f 187 = w := rfl
theorem pS_195 (M : am_M) (u w pile f : Int → Int) : pS M u w pile f 195 = pile := rfl
theorem pS_196 (M : am_M) (u w pile f : Int → Int) : pS M u w pile f 196 = f := rfl
theorem pS_o {M : am_M} {u w pile f : Int → Int} {b : Nat} (h : b ≠ 186 ∧ b ≠ 187 ∧ b ≠ 195 ∧ b ≠ 196) : pS M u w pile f b = M b := by
  unfold pS
  rw [p_st2 h.2.2.2, p_st2 h.2.2.1, p_st2 h.2.1, p_st2 h.1]
theorem pS_st186 (M : am_M) (u w pile f g : Int → Int) : p_st (pS M u w pile f) 186 g = pS M g w pile f := by
  unfold pS
  rw [p_st4 (a := 196) (b := 186) (by decide), p_st4 (a := 195) (b := 186) (by decide), p_st4 (a := 187) (b := 186) (by decide), p_st3]
theorem pS_st187 (M : am_M) (u w pile f g : Int → Int) : p_st (pS M u w pile f) 187 g = pS M u g pile f := by
  unfold pS
  rw [p_st4 (a := 196) (b := 187) (by decide), p_st4 (a := 195) (b := 187) (by decide), p_st3]
theorem pS_st195 (M : am_M) (u w pile f g : Int → Int) : p_st (pS M u w pile f) 195 g = pS M u w g f := by
  unfold pS
  rw [p_st4 (by decide), p_st3]
theorem pS_st196 (M : am_M) (u w pile f g : Int → Int) : p_st (pS M u w pile f) 196 g = pS M u w pile g := by
  unfold pS
  rw [p_st3]
theorem pS_pS (M : am_M) (u w pile f u' w' pile' f' : Int → Int) : pS (pS M u w pile f) u' w' pile' f' = pS M u' w' pile' f' := by
  rw [pS, pS_st186, pS_st187, pS_st195, pS_st196]
theorem pS_id (M : am_M) : pS M (M 186) (M 187) (M 195) (M 196) = M := by
  unfold pS
  rw [p_st5, p_st5, p_st5, p_st5]
theorem pS_w (M : am_M) (w : Int → Int) : p_st M 187 w = pS M (M 186) w (M 195) (M 196) := by
  rw [← pS_st187 M (M 186) (M 187), pS_id]
theorem pS_lw (M : am_M) (pile f : Int → Int) : p_st (p_st M 195 pile) 196 f = pS M (M 186) (M 187) pile f := by
  rw [← pS_st196 M (M 186) (M 187) pile (M 196), ← pS_st195 M (M 186) (M 187) (M 195), pS_id]
/-- cells copied from g onto f, n from a on -/
def pCp (f g : Int → Int) (a n : Int) : Int → Int := fun x => if a ≤ x ∧ x < a + n then g x else f x
theorem pCp_0 (f g : Int → Int) (a : Int) : pCp f g a 0 = f := by
  funext x
  exact if_neg (by omega)
theorem pCp_up {f g : Int → Int} {a n i v : Int} (hn : 0 ≤ n) (hi : i = a + n) (hv : v = g i) : p_up (pCp f g a n) i v = pCp f g a (n + 1) := by
  funext x
  unfold p_up pCp
  by_cases h : x = i
  · rw [if_pos h, if_pos (by omega), h, hv]
  · rw [if_neg h]
    by_cases h2 : a ≤ x ∧ x < a + n
    · rw [if_pos h2, if_pos (by omega)]
    · rw [if_neg h2, if_neg (by omega)]
theorem pCp_in {f g : Int → Int} {a n x : Int} (h : a ≤ x ∧ x < a + n) : pCp f g a n x = g x := if_pos h
theorem pCp_out {f g : Int → Int} {a n x : Int} (h : x < a ∨ a + n ≤ x) : pCp f g a n x = f x := if_neg (by omega)
/-- the rows of what is kept, before and behind a keeping -/
def pKB (B : Int → Int) (c : Int) : Int → Int := if c = 6 then pCp B (fun x => B (x + 276)) 0 1380 else B
def pKc (c : Int) : Int := if c = 6 then 5 else c
def pKept (B w : Int → Int) (c : Int) : Int → Int := pCp (pKB B c) (fun x => w (x - 276 * pKc c)) (276 * pKc c) 276
theorem m64_6 (d : Nat) (M : am_M) : ∀ (k : Nat) (i : Int), i = 1380 - k → 0 ≤ i → am_L d 64 6 [some (.inr 186), some (.inl i)] [] (p_st M 189 (pCp (M 189) (fun x => M 189 (x + 276)) 0 i)) = am_L d 64 29 [some (.inr 186), some (.inl 0)] [] (p_st (p_st M 186 (p_up (M 186) 4 (am_wrap (M 186 4 - 1)))) 189 (pCp (M 189) (fun x => M 189 (x + 276)) 0 1380)) := by
  intro k
  induction k with
  | zero =>
    intro i hi h0
    obtain rfl : i = 1380 := by omega
    rw [e64_6]
    simp (disch := omega) only [p_w, p_c, if_neg, p_upd, p_st2, p_st4]
  | succ k ih =>
    intro i hi h0
    rw [e64_6]
    simp (disch := omega) only [p_w, p_c, if_pos, p_upd, p_st1, p_st3, pCp_out]
    rw [pCp_up h0 (by omega) rfl]
    exact ih (i + 1) (by omega) (by omega)
theorem m64_29 (d : Nat) (M : am_M) (c : Int) (hc : M 186 4 = c) (h : 0 ≤ c ∧ c ≤ 5) : ∀ (k : Nat) (i : Int), i = 276 - k → 0 ≤ i → am_L d 64 29 [some (.inr 186), some (.inl i)] [] (p_st M 189 (pCp (M 189) (fun x => M 187 (x - 276 * c)) (276 * c) i)) = some (0, p_st (p_st M 186 (p_up (M 186) 4 (c + 1))) 189 (pCp (M 189) (fun x => M 187 (x - 276 * c)) (276 * c) 276)) := by
  intro k
  induction k with
  | zero =>
    intro i hi h0
    obtain rfl : i = 276 := by omega
    rw [e64_29]
    simp (disch := omega) only [p_w, p_c, if_neg, p_upd, p_st2, p_st4, hc]
  | succ k ih =>
    intro i hi h0
    rw [e64_29]
    simp (disch := omega) only [p_w, p_c, if_pos, p_upd, p_st1, p_st2, p_st3, hc]
    rw [pCp_up (g := fun x => M 187 (x - 276 * c)) (a := 276 * c) h0 rfl (show M 187 i = M 187 (276 * c + i - 276 * c) from by rw [show 276 * c + i - 276 * c = i from by omega])]
    exact ih (i + 1) (by omega) (by omega)
theorem m64 (d : Nat) (M : am_M) (h : 0 ≤ M 186 4 ∧ M 186 4 ≤ 6) : am_run (d + 1) 64 [.inr 186] M = some (0, p_st (p_st M 186 (p_up (M 186) 4 (pKc (M 186 4) + 1))) 189 (pKept (M 189) (M 187) (M 186 4))) := by
  rw [e64]
  unfold pKept pKB pKc
  by_cases h6 : M 186 4 = 6
  · rw [if_pos h6, if_pos h6, if_pos h6]
    have := m64_6 d M 1380 0 (by omega) (by omega)
    rw [pCp_0, p_st5] at this
    rw [this]
    have := m64_29 d (p_st (p_st M 186 (p_up (M 186) 4 (am_wrap (M 186 4 - 1)))) 189 (pCp (M 189) (fun x => M 189 (x + 276)) 0 1380)) 5 (by rw [p_st2 (by decide), p_st1, p_up1, p_w (by omega) (by omega)]; omega) (by omega) 276 0 (by omega) (by omega)
    simp (disch := decide) only [pCp_0, p_st5, p_st1, p_st2, p_st3, p_up3] at this
    rw [this, p_st4 (a := 189) (b := 186) (by decide), p_st3, p_st3]
  · rw [if_neg h6, if_neg h6, if_neg h6]
    have := m64_29 d M (M 186 4) rfl (by omega) 276 0 (by omega) (by omega)
    rw [pCp_0, p_st5] at this
    exact this
/-- the cells that an undoing brings back -/
def pUn (B w : Int → Int) (j : Int) : Int → Int := pCp w (fun x => B (276 * j + x)) 0 276
theorem m65_13 (d : Nat) (M : am_M) (c : Int) (hc : M 186 4 = c) (h : 0 ≤ c ∧ c ≤ 5) : ∀ (k : Nat) (i : Int), i = 276 - k → 0 ≤ i → am_L d 65 13 [some (.inr 186), some (.inl i)] [] (p_st M 187 (pCp (M 187) (fun x => M 189 (276 * c + x)) 0 i)) = some (1, p_st M 187 (pUn (M 189) (M 187) c)) := by
  intro k
  induction k with
  | zero =>
    intro i hi h0
    obtain rfl : i = 276 := by omega
    rw [e65_13]
    simp (disch := omega) only [p_w, p_c, if_neg, pUn]
  | succ k ih =>
    intro i hi h0
    rw [e65_13]
    simp (disch := omega) only [p_w, p_c, if_pos, p_upd, p_st1, p_st2, p_st3, hc]
    rw [pCp_up h0 (by omega) (by rfl)]
    exact ih (i + 1) (by omega) (by omega)
theorem m65 (d : Nat) (M : am_M) (h : 0 ≤ M 186 4 ∧ M 186 4 ≤ 6) : am_run (d + 1) 65 [.inr 186] M = some (if M 186 4 = 0 then 0 else 1, if M 186 4 = 0 then M else p_st (p_st M 186 (p_up (M 186) 4 (M 186 4 - 1))) 187 (pUn (M 189) (M 187) (M 186 4 - 1))) := by
  rw [e65]
  by_cases h6 : M 186 4 = 0
  · rw [if_pos h6, if_pos h6, if_pos h6]
  · rw [if_neg h6, if_neg h6, if_neg h6]
    have := m65_13 d (p_st M 186 (p_up (M 186) 4 (M 186 4 - 1))) (M 186 4 - 1) (by rw [p_st1, p_up1]) (by omega) 276 0 (by omega) (by omega)
    rw [pCp_0, p_st5, p_st2 (by decide), p_st2 (by decide)] at this
    simp (disch := omega) only [p_w, p_upd]
    exact this
/-- aside and back -/
theorem m104_2 (d : Nat) (M : am_M) : ∀ (k : Nat) (i : Int), i = 276 - k → 0 ≤ i → am_L d 104 2 [some (.inr 186), some (.inl i)] [] (p_st M 190 (pCp (M 190) (M 187) 0 i)) = some (0, p_st M 190 (pCp (M 190) (M 187) 0 276)) := by
  intro k
  induction k with
  | zero =>
    intro i hi h0
    obtain rfl : i = 276 := by omega
    rw [e104_2]
    simp (disch := omega) only [p_w, p_c, if_neg]
  | succ k ih =>
    intro i hi h0
    rw [e104_2]
    simp (disch := omega) only [p_w, p_c, if_pos, p_upd, p_st1, p_st2, p_st3]
    rw [pCp_up h0 (by omega) rfl]
    exact ih (i + 1) (by omega) (by omega)
theorem m104 (d : Nat) (M : am_M) : am_run (d + 1) 104 [.inr 186] M = some (0, p_st M 190 (pCp (M 190) (M 187) 0 276)) := by
  rw [e104]
  have := m104_2 d M 276 0 (by omega) (by omega)
  rwa [pCp_0, p_st5] at this
theorem m105_2 (d : Nat) (M : am_M) : ∀ (k : Nat) (i : Int), i = 276 - k → 0 ≤ i → am_L d 105 2 [some (.inr 186), some (.inl i)] [] (p_st M 187 (pCp (M 187) (M 190) 0 i)) = some (0, p_st M 187 (pCp (M 187) (M 190) 0 276)) := by
  intro k
  induction k with
  | zero =>
    intro i hi h0
    obtain rfl : i = 276 := by omega
    rw [e105_2]
    simp (disch := omega) only [p_w, p_c, if_neg]
  | succ k ih =>
    intro i hi h0
    rw [e105_2]
    simp (disch := omega) only [p_w, p_c, if_pos, p_upd, p_st1, p_st2, p_st3]
    rw [pCp_up h0 (by omega) rfl]
    exact ih (i + 1) (by omega) (by omega)
theorem m105 (d : Nat) (M : am_M) : am_run (d + 1) 105 [.inr 186] M = some (0, p_st M 187 (pCp (M 187) (M 190) 0 276)) := by
  rw [e105]
  have := m105_2 d M 276 0 (by omega) (by omega)
  rwa [pCp_0, p_st5] at this
theorem m16 (d : Nat) (M : am_M) : am_run (d + 1) 16 [.inr 186, .inl 1000] M = some (am_irem (am_iushr (am_wrap (1664525 * M 187 3 + 1013904223)) 8) 1000, p_st M 187 (p_up (M 187) 3 (am_wrap (1664525 * M 187 3 + 1013904223)))) := by
  rw [e16]
  simp (disch := omega) only [p_c, p_upd, p_st1, p_up1, p_ww]
def pTaskF (w : Int → Int) (h p kind skill : Int) (f : Int → Int) : Int → Int := p_up (p_up (p_up (pHF w h p f) 11 skill) 13 kind) 14 (w 0)
theorem m81 (d : Nat) (h p kind skill : Int) (M : am_M) (hh : 0 ≤ h ∧ h < 16) (hp : 0 ≤ p ∧ p < 8) : am_run (d + 4) 81 [.inr 186, .inl h, .inl p, .inl kind, .inl skill] M = some (0, p_st M 196 (pTaskF (M 187) h p kind skill (M 196))) := by
  rw [e81, m62 _ _ _ _ hh hp, p_b]
  simp (disch := omega) only [p_c, p_upd, p_st1, p_st2, p_st3, pTaskF]
theorem pTaskF_dep (w : Int → Int) (h p kind skill : Int) (f g : Int → Int) : ∀ s ∈ pA 1, pTaskF w h p kind skill f s = pTaskF w h p kind skill g s := by
  intro s hs
  simp only [pA, if_true, if_false, List.mem_cons, List.not_mem_nil, or_false, show ¬ (1 : Int) = 0 by decide] at hs
  rcases hs with rfl | rfl | rfl | rfl | rfl | rfl | rfl | rfl | rfl <;> simp [pTaskF, pHF, p_up]
/-- an amount of the hands' law -/
def pAm (w F : Int → Int) (word high : Int) : Int := pAmt w F word high (w 289).toNat 0
theorem pAm_range {w F : Int → Int} {word high : Int} (h : 0 ≤ high) : 0 ≤ pAm w F word high ∧ pAm w F word high ≤ high := by
  unfold pAm
  generalize (w 289).toNat = n
  have : ∀ (n : Nat) (i : Int), 0 ≤ pAmt w F word high n i ∧ pAmt w F word high n i ≤ high := by
    intro n
    induction n with
    | zero => intro i; simp only [pAmt]; omega
    | succ n ih =>
      intro i
      rw [pAmt]
      by_cases hc : pSay w 1 i = word ∧ pHolds w F 1 i = true
      · rw [if_pos hc]; omega
      · rw [if_neg hc]; exact ih _
  exact this n 0
def pWk1 (w : Int → Int) (p h : Int) (F : Int → Int) : Int → Int := p_up w (36 + 10 * h + pp w p 1) (min 99 (am_wrap (ph w h (pp w p 1) + pAm w F 26 9)))
def pWk2 (w : Int → Int) (h a : Int) : Int → Int := p_up w (36 + 10 * h + 4) (min 99 (am_wrap (ph w h 4 + a)))
def pDraw (w : Int → Int) : Int → Int := p_up w 3 (am_wrap (1664525 * w 3 + 1013904223))
def pWk4 (w : Int → Int) (h a : Int) : Int → Int := if 0 < a then (if am_irem (am_iushr (am_wrap (1664525 * w 3 + 1013904223)) 8) 1000 < a then p_up (pDraw w) (36 + 10 * h + 5) (min 9 (am_wrap (ph (pDraw w) h 5 + 1))) else pDraw w) else w
def pWkF (w : Int → Int) (p h : Int) : Int → Int := pTaskF w h p (pp w p 1) (ph w h (pp w p 1)) (fun _ => 0)
/-- an hour of a task with a hand -/
def pWorks (w : Int → Int) (p h t : Int) : Int → Int := pWk4 (pEarns (pWk2 (pWk1 w p h (pWkF w p h)) h (pAm w (pWkF w p h) 27 9)) p (pAm w (pWkF w p h) 29 99)) h (if t = 0 then 0 else pAm w (pWkF w p h) 28 1000)
theorem m82 (d : Nat) (p h t : Int) (M : am_M) (hw : WF (M 187)) (hL : pLaw (M 187) 1) (hh : 0 ≤ h ∧ h < 16) (hp : 0 ≤ p ∧ p < 8) (ht : pp (M 187) p 1 ≠ -1) : ∃ pile f, am_run (d + 6) 82 [.inr 186, .inl p, .inl h, .inl t] M = some (0, pS M (M 186) (pWorks (M 187) p h t) pile f) := by
  have k1 := (hw.2.1 p hp.1 hp.2).2
  have c1 := (hw.2.1 p hp.1 hp.2).1
  have n9 : 0 ≤ M 187 289 := hL.1.1
  generalize hF : pTaskF (M 187) h p (pp (M 187) p 1) (ph (M 187) h (pp (M 187) p 1)) (M 196) = F
  have am : ∀ (pile : Int → Int) (word high : Int), ∃ pile2, am_run (d + 5) 58 [.inr 186, .inl word, .inl high] (pS M (M 186) (M 187) pile F) = some (pAm (M 187) (pWkF (M 187) p h) word high, pS M (M 186) (M 187) pile2 F) := by
    intro pile word high
    obtain ⟨pile2, hp2⟩ := m58 (d + 1) word high (pS M (M 186) (M 187) pile F) hL
    refine ⟨pile2, ?_⟩
    rw [pS_st195, pS_187, pS_196] at hp2
    rw [hp2, ← hF, pAmt_dep hL (pTaskF_dep (M 187) h p (pp (M 187) p 1) (ph (M 187) h (pp (M 187) p 1)) (M 196) (fun _ => 0)) _ 0 (Int.le_refl _) (by omega)]
    rfl
  have fin : ∀ (a : Int) (pile : Int → Int), am_L (d + 5) 82 39 [some (.inr 186), some (.inl p), some (.inl h), some (.inl t), some (.inl (pp (M 187) p 1)), some (.inl (pAm (M 187) (pWkF (M 187) p h) 26 9)), some (.inl (pAm (M 187) (pWkF (M 187) p h) 27 9)), some (.inl (pAm (M 187) (pWkF (M 187) p h) 29 99)), none] [.inl a] (pS M (M 186) (M 187) pile F) = some (0, pS M (M 186) (pWk4 (pEarns (pWk2 (pWk1 (M 187) p h (pWkF (M 187) p h)) h (pAm (M 187) (pWkF (M 187) p h) 27 9)) p (pAm (M 187) (pWkF (M 187) p h) 29 99)) h a) pile F) := by
    intro a pile
    have r29 := pAm_range (w := M 187) (F := pWkF (M 187) p h) (word := 29) (high := 99) (by omega)
    have ec : pp (pWk2 (pWk1 (M 187) p h (pWkF (M 187) p h)) h (pAm (M 187) (pWkF (M 187) p h) 27 9)) p 0 = pp (M 187) p 0 := by
      unfold pWk2 pWk1
      simp (disch := omega) only [pp_off]
    rw [e82_39, show am_wrap (0 + pp (M 187) p 1) = pp (M 187) p 1 from by rw [p_w (by omega) (by omega)]; omega]
    rw [m5 _ _ _ _ hh (by omega), p_b, m1, p_b, m6 _ _ _ _ _ hh (by omega), p_b, pS_187, pS_st187, ← pWk1, m5 _ _ _ _ hh (by omega), p_b, m1, p_b, m6 _ _ _ _ _ hh (by omega), p_b, pS_187, pS_st187, ← pWk2, m69 _ _ _ _ hp (by rw [pS_187, ec]; exact c1) (by omega), p_b, pS_187, pS_st187]
    unfold pWk4
    by_cases a0 : 0 < a
    · rw [if_pos a0, if_pos a0, m16, p_b, pS_187, pS_st187, ← pDraw]
      by_cases a1 : am_irem (am_iushr (am_wrap (1664525 * pEarns (pWk2 (pWk1 (M 187) p h (pWkF (M 187) p h)) h (pAm (M 187) (pWkF (M 187) p h) 27 9)) p (pAm (M 187) (pWkF (M 187) p h) 29 99) 3 + 1013904223)) 8) 1000 < a
      · rw [if_pos a1, if_pos a1, m5 _ _ _ _ hh (by omega), p_b, m1, p_b, m6 _ _ _ _ _ hh (by omega), p_b, pS_187, pS_st187]
      · rw [if_neg a1, if_neg a1]
    · rw [if_neg a0, if_neg a0]
  rw [e82, m3 _ _ _ _ hp (by omega), p_b, show am_wrap (0 + pp (M 187) p 1) = pp (M 187) p 1 from by rw [p_w (by omega) (by omega)]; omega, m5 _ _ _ _ hh (by omega), p_b, m81 _ _ _ _ _ _ hh hp, p_b, hF]
  have e0 : p_st M 196 F = pS M (M 186) (M 187) (M 195) F := by rw [← pS_lw, p_st5]
  rw [e0]
  obtain ⟨p1, h1⟩ := am (M 195) 26 9
  obtain ⟨p2, h2⟩ := am p1 27 9
  obtain ⟨p3, h3⟩ := am p2 29 99
  obtain ⟨p4, h4⟩ := am p3 28 1000
  rw [h1, p_b, h2, p_b, h3, p_b]
  unfold pWorks
  by_cases t0 : t = 0
  · rw [if_pos t0, if_pos t0]
    exact ⟨_, _, fin 0 p3⟩
  · rw [if_neg t0, if_neg t0, h4, p_b]
    exact ⟨_, _, fin _ p4⟩
