/-! PURE: text: a line of a law -/
def sLine (k : Int) (A B : am_M) (st : List (Int × Int)) (i : Int) : Prop := ∃ p E C r s, st = p ++ (E ++ (C ++ r)) ∧ (A 97 i = pVb s ∧ A 98 i = (pFl p).length ∧ A 99 i = (pFl (p ++ E)).length ∧ A 100 i = (pFl (p ++ (E ++ C))).length) ∧ (B 191 (4 * i) = p.length ∧ B 191 (4 * i + 1) = p.length + E.length ∧ B 191 (4 * i + 2) = p.length + E.length + C.length ∧ B 191 (4 * i + 3) = s) ∧ pSayOk k s ∧ (C ≠ [] → pTy C [] = some [true] ∧ pAsks (pA k) C) ∧ (k = 1 → pTy E [] = some [false] ∧ pAsks (pA k) E)
def sGA (n : Int) (A A' : am_M) : Prop := (∀ b, b < 92 ∨ 101 < b ∨ (93 ≤ b ∧ b ≤ 95) → A' b = A b) ∧ ∀ b i, 97 ≤ b → b ≤ 100 → i < n → A' b i = A b i
def sGB (n : Int) (B B' : am_M) : Prop := (∀ b, b ≠ 186 → b ≠ 191 → b ≠ 192 → B' b = B b) ∧ (∀ f, (f < 17 ∨ f = 23 ∨ 24 < f) → f ≠ 13 → f ≠ 14 → B' 186 f = B 186 f) ∧ ∀ j, j < 4 * n → B' 191 j = B 191 j
theorem sGA_t {n : Int} {A B C : am_M} (h1 : sGA n A B) (h2 : sGA n B C) : sGA n A C := ⟨fun b hb => (h2.1 b hb).trans (h1.1 b hb), fun b i a1 a2 a3 => (h2.2 b i a1 a2 a3).trans (h1.2 b i a1 a2 a3)⟩
theorem sGB_t {n : Int} {A B C : am_M} (h1 : sGB n A B) (h2 : sGB n B C) : sGB n A C := ⟨fun b b1 b2 b3 => (h2.1 b b1 b2 b3).trans (h1.1 b b1 b2 b3), fun f a1 a2 a3 => (h2.2.1 f a1 a2 a3).trans (h1.2.1 f a1 a2 a3), fun j hj => (h2.2.2 j hj).trans (h1.2.2 j hj)⟩
theorem sFA_G {n : Int} {A A' : am_M} (h : sFA A A') : sGA n A A' := ⟨fun b hb => h.1 b (by omega) (by omega) (by omega), fun b i a1 a2 a3 => by rw [h.1 b (by omega) (by omega) (by omega)]⟩
theorem sFB_G {n : Int} {B B' : am_M} (h : sFB B B') : sGB n B B' := ⟨fun b b1 b2 b3 => h.1 b b1 b3, fun f a1 a2 a3 => h.2 f a1 a3, fun j hj => by rw [h.1 191 (by decide) (by decide)]⟩
theorem sGA_up {n : Int} (A : am_M) {b : Nat} {i v : Int} (hb : 96 ≤ b ∧ b ≤ 100) (hi : b = 96 ∨ n ≤ i) : sGA n A (p_st A b (p_up (A b) i v)) := by
  refine ⟨fun x hx => p_st2 (by omega), fun x j a1 a2 a3 => ?_⟩
  by_cases q : x = b
  · rw [q, p_st1, p_off (by omega)]
  · rw [p_st2 q]
theorem sGB_up {n : Int} (B : am_M) {i v : Int} (hi : 4 * n ≤ i) : sGB n B (p_st B 191 (p_up (B 191) i v)) := ⟨fun b b1 b2 b3 => p_st2 b2, fun f a1 a2 a3 => by rw [p_st2 (by decide)], fun j hj => by rw [p_st1, p_off (by omega)]⟩
theorem sR_A {k o c : Int} {A A' B : am_M} {L : List Int} {st : List (Int × Int)} {l : List sTok} (h : sR k o c A B L st l) (h2 : A' 92 = A 92) (h3 : A' 93 = A 93) (h4 : A' 94 = A 94) (h5 : A' 95 = A 95) (h6 : A' 96 1 = A 96 1) (h7 : A' 101 = A 101) : sR k o c A' B L st l := by
  obtain ⟨a1, a2, a3, a4, a5, a6, a7⟩ := h
  exact ⟨sQ_cg a1 (Int.le_refl _) h2 h3 h4 h5, by rw [h2]; exact a2, a3, a4, a5, sCC_cg a6 h6 h7, a7⟩
theorem sR_B {k o c : Int} {A B : am_M} {L : List Int} {st : List (Int × Int)} {l : List sTok} (h : sR k o c A B L st l) (f : Int → Int) : sR k o c A (p_st B 191 f) L st l := by
  obtain ⟨a1, a2, a3, a4, a5, a6, a7⟩ := h
  exact ⟨a1, a2, by rw [p_st2 (by decide)]; exact a3, sStd_cg a4 (fun f hf => by rw [p_st2 (by decide)]) (fun b hb => p_st2 (by omega)), a5, a6, sMC_cg a7 (by rw [p_st2 (by decide)]) (p_st2 (by decide))⟩
/-- the end of a line -/
theorem s_line3 {k c n : Int} (hk : 0 ≤ k ∧ k < 3) (hn : 0 ≤ n ∧ n < 16) {A B : am_M} {p E C : List (Int × Int)} {l : List sTok} {s : Int} (h : sR k 0 c A B (pFl (p ++ (E ++ C))) (p ++ (E ++ C)) l) (a0 : A 96 0 = n) (b0 : B 186 13 = n) (a7 : A 97 n = pVb s) (a8 : A 98 n = (pFl p).length) (a9 : A 99 n = (pFl (p ++ E)).length) (c0 : B 191 (4 * n) = p.length) (c1 : B 191 (4 * n + 1) = p.length + E.length) (c3 : B 191 (4 * n + 3) = s) (hs : pSayOk k s) (hC : C ≠ [] → pTy C [] = some [true] ∧ pAsks (pA k) C) (hE : k = 1 → pTy E [] = some [false] ∧ pAsks (pA k) E) (d d' : Nat) : ∃ x A' B', am_chk (0 ≤ (n : Int) ∧ n < 16) (am_bnd (am_run (d + 2) 170 [.inr 92, .inl 59] (am_upd (am_upd A 100 n (A 96 1)) 96 0 (am_wrap (((am_upd A 100 n (A 96 1)) 96 0) + 1)))) (fun r2 M2 => am_chk ((r2 : Int) = 0 ∨ r2 = 1) (some (r2, M2)))) = some (x, A') ∧ am_chk (0 ≤ ((am_wrap ((am_wrap (4 * (B 186 13))) + 2)) : Int) ∧ (am_wrap ((am_wrap (4 * (B 186 13))) + 2)) < 64) (am_bnd (am_run (d' + 10) 34 [.inr 186, .inl 159] (am_upd B 191 (am_wrap ((am_wrap (4 * (B 186 13))) + 2)) (B 186 14))) (fun r4 M4 => am_chk ((r4 : Int) = 0 ∨ r4 = 1) (some (r4, M4)))) = some (x, B') ∧ sGA n A A' ∧ sGB n B B' ∧ ((x = 1 ∧ ∃ l', l'.length < l.length ∧ sR k 0 c A' B' (pFl (p ++ (E ++ C))) (p ++ (E ++ C)) l' ∧ A' 96 0 = n + 1 ∧ B' 186 13 = n ∧ sLine k A' B' (p ++ (E ++ C)) n) ∨ (x = 0 ∧ A' 92 5 = B' 186 21 ∧ A' 92 6 = B' 186 22)) := by
  have hA : sR k 0 c (p_st (p_st A 100 (p_up (A 100) n (A 96 1))) 96 (p_up (A 96) 0 (n + 1))) (p_st B 191 (p_up (B 191) (4 * n + 2) (B 186 14))) (pFl (p ++ (E ++ C))) (p ++ (E ++ C)) l := by
    refine sR_A (sR_B h _) ?_ ?_ ?_ ?_ ?_ ?_
    · rw [p_st2 (by decide), p_st2 (by decide)]
    · rw [p_st2 (by decide), p_st2 (by decide)]
    · rw [p_st2 (by decide), p_st2 (by decide)]
    · rw [p_st2 (by decide), p_st2 (by decide)]
    · rw [p_st1, p_off (by omega)]
    · rw [p_st2 (by decide), p_st2 (by decide)]
  have g1 : sGA n A (p_st (p_st A 100 (p_up (A 100) n (A 96 1))) 96 (p_up (A 96) 0 (n + 1))) := by
    have e := sGA_up (n := n) (p_st A 100 (p_up (A 100) n (A 96 1))) (b := 96) (i := 0) (v := n + 1) (by omega) (Or.inl rfl)
    rw [p_st2 (a := 100) (b := 96) (by decide)] at e
    exact sGA_t (sGA_up A (by omega) (Or.inr (Int.le_refl _))) e
  have g2 : sGB n B (p_st B 191 (p_up (B 191) (4 * n + 2) (B 186 14))) := sGB_up B (by omega)
  have e1 : (am_upd (am_upd A 100 n (A 96 1)) 96 0 (am_wrap (((am_upd A 100 n (A 96 1)) 96 0) + 1))) = p_st (p_st A 100 (p_up (A 100) n (A 96 1))) 96 (p_up (A 96) 0 (n + 1)) := by
    simp only [p_upd]
    rw [p_st2 (a := 100) (b := 96) (by decide), a0, p_w (x := n + 1) (by omega) (by omega)]
  have e2 : (am_upd B 191 (am_wrap ((am_wrap (4 * (B 186 13))) + 2)) (B 186 14)) = p_st B 191 (p_up (B 191) (4 * n + 2) (B 186 14)) := by
    rw [p_upd, b0, p_w (x := 4 * n) (by omega) (by omega), p_w (x := 4 * n + 2) (by omega) (by omega)]
  rw [p_c (by omega), e1, e2, b0, p_w (x := 4 * n) (by omega) (by omega), p_w (x := 4 * n + 2) (by omega) (by omega), p_c (by omega)]
  obtain ⟨x, A', B', y1, y2, f1, f2, hO⟩ := s_skip hk hA (y := 59) (by decide) d d'
  have y2 : am_run (d' + 10) 34 [.inr 186, .inl 159] (p_st B 191 (p_up (B 191) (4 * n + 2) (B 186 14))) = some (x, B') := y2
  rcases hO with ⟨rfl, m, l', z1, z2, rfl⟩ | ⟨rfl, z1, z2⟩
  · rw [y1, y2, p_b, p_b, p_c (Or.inr rfl), p_c (Or.inr rfl)]
    rw [List.append_nil] at z2
    refine ⟨1, A', B', rfl, rfl, sGA_t g1 (sFA_G f1), sGB_t g2 (sFB_G f2), Or.inl ⟨rfl, l', z1, sR_c z2 (by omega), ?_, ?_, p, E, C, [], s, ?_, ⟨?_, ?_, ?_, ?_⟩, ⟨?_, ?_, ?_, ?_⟩, hs, hC, hE⟩⟩
    · rw [f1.2, p_st1, p_up1]
    · rw [f2.2 13 (by omega) (by omega), p_st2 (by decide)]
      exact b0
    · rw [List.append_nil]
    · rw [f1.1 97 (by decide) (by decide) (by decide), p_st2 (by decide), p_st2 (by decide)]
      exact a7
    · rw [f1.1 98 (by decide) (by decide) (by decide), p_st2 (by decide), p_st2 (by decide)]
      exact a8
    · rw [f1.1 99 (by decide) (by decide) (by decide), p_st2 (by decide), p_st2 (by decide)]
      exact a9
    · rw [f1.1 100 (by decide) (by decide) (by decide), p_st2 (by decide), p_st1, p_up1]
      exact h.2.2.2.2.2.1.1
    · rw [f2.1 191 (by decide) (by decide), p_st1, p_off (by omega)]
      exact c0
    · rw [f2.1 191 (by decide) (by decide), p_st1, p_off (by omega)]
      exact c1
    · rw [f2.1 191 (by decide) (by decide), p_st1, p_up1, h.2.2.2.2.2.2.1, List.length_append, List.length_append]
      omega
    · rw [f2.1 191 (by decide) (by decide), p_st1, p_off (by omega)]
      exact c3
  · rw [y1, y2, p_b, p_b, p_c (Or.inl rfl), p_c (Or.inl rfl)]
    exact ⟨0, A', B', rfl, rfl, sGA_t g1 (sFA_G f1), sGB_t g2 (sFB_G f2), Or.inr ⟨rfl, z1, z2⟩⟩
theorem s_line2 {k c n r1 : Int} (hk : 0 ≤ k ∧ k < 3) (hc : 0 ≤ c) (hn : 0 ≤ n ∧ n < 16) {A B : am_M} {p E : List (Int × Int)} {l : List sTok} {s : Int} (h : sR k 0 c A B (pFl (p ++ E)) (p ++ E) l) (a0 : A 96 0 = n) (b0 : B 186 13 = n) (a7 : A 97 n = pVb s) (a8 : A 98 n = (pFl p).length) (c0 : B 191 (4 * n) = p.length) (c3 : B 191 (4 * n + 3) = s) (hs : pSayOk k s) (hE : k = 1 → pTy E [] = some [false] ∧ pAsks (pA k) E) (d d' : Nat) : ∃ x A' B', am_L (d + 21) 172 56 [some (.inr 92), some (.inl k), some (.inl r1), some (.inl n)] [] A = some (x, A') ∧ am_L (d' + 39) 43 52 [some (.inr 186)] [] B = some (x, B') ∧ sGA n A A' ∧ sGB n B B' ∧ ((x = 1 ∧ ∃ m l', l'.length < l.length ∧ sR k 0 c A' B' (pFl (p ++ m)) (p ++ m) l' ∧ A' 96 0 = n + 1 ∧ B' 186 13 = n ∧ sLine k A' B' (p ++ m) n) ∨ (x = 0 ∧ A' 92 5 = B' 186 21 ∧ A' 92 6 = B' 186 22)) := by
  obtain ⟨q, l', rfl⟩ := sR_hd h
  have r9 : sR k 0 c (p_st A 99 (p_up (A 99) n (A 96 1))) (p_st B 191 (p_up (B 191) (4 * n + 1) (B 186 14))) (pFl (p ++ E)) (p ++ E) (q :: l') := sR_A (sR_B h _) (p_st2 (by decide)) (p_st2 (by decide)) (p_st2 (by decide)) (p_st2 (by decide)) (by rw [p_st2 (by decide)]) (p_st2 (by decide))
  have g1 : sGA n A (p_st A 99 (p_up (A 99) n (A 96 1))) := sGA_up A (by omega) (Or.inr (Int.le_refl _))
  have g2 : sGB n B (p_st B 191 (p_up (B 191) (4 * n + 1) (B 186 14))) := sGB_up B (by omega)
  have i0 : (p_st A 99 (p_up (A 99) n (A 96 1))) 96 0 = n := by rw [p_st2 (by decide)]; exact a0
  have i7 : (p_st A 99 (p_up (A 99) n (A 96 1))) 97 n = pVb s := by rw [p_st2 (by decide)]; exact a7
  have i8 : (p_st A 99 (p_up (A 99) n (A 96 1))) 98 n = (pFl p).length := by rw [p_st2 (by decide)]; exact a8
  have i9 : (p_st A 99 (p_up (A 99) n (A 96 1))) 99 n = (pFl (p ++ E)).length := by rw [p_st1, p_up1]; exact h.2.2.2.2.2.1.1
  have j0 : (p_st B 191 (p_up (B 191) (4 * n + 1) (B 186 14))) 186 13 = n := by rw [p_st2 (by decide)]; exact b0
  have u0 : (p_st B 191 (p_up (B 191) (4 * n + 1) (B 186 14))) 191 (4 * n) = p.length := by rw [p_st1, p_off (by omega)]; exact c0
  have u1 : (p_st B 191 (p_up (B 191) (4 * n + 1) (B 186 14))) 191 (4 * n + 1) = p.length + E.length := by
    rw [p_st1, p_up1, h.2.2.2.2.2.2.1, List.length_append]
    omega
  have u3 : (p_st B 191 (p_up (B 191) (4 * n + 1) (B 186 14))) 191 (4 * n + 3) = s := by rw [p_st1, p_off (by omega)]; exact c3
  rw [e172_56, p_c (by omega), e43_52, b0, p_w (x := 4 * n) (by omega) (by omega), p_w (x := 4 * n + 1) (by omega) (by omega), p_c (by omega), p_upd A, p_upd B]
  generalize p_st A 99 (p_up (A 99) n (A 96 1)) = A1 at *
  generalize p_st B 191 (p_up (B 191) (4 * n + 1) (B 186 14)) = B1 at *
  obtain ⟨w1, s18, s19, s20, see⟩ := sR_see hk r9
  obtain ⟨_, ⟨k14, k15, k16, k17⟩, _⟩ := s_kind hk w1
  rw [see, p_b, s18]
  by_cases q14 : q.1 = 14
  · rw [if_pos (show (q.1 : Int) = 14 from q14), if_pos (show sMk k q.1 = 3 from k14.mpr q14), sNx_e r9.1]
    obtain ⟨x, B2, y1, y2, y3⟩ := sGo r9 (by omega) (d' + 30)
    rw [y1, p_b]
    have hS := (s_all hk 8).2 0 (c + 1) _ _ _ _ d d' (by omega) (by omega) y3
    rcases sO_in hS with ⟨A3, B3, e1, e2, f1, f2, z1, z2⟩ | ⟨A3, B3, C, l2, e1, e2, f1, f2, hl2, r2, ht⟩
    · have e1 : am_run (d + 21) 173 [.inr 92, .inl 0] (sNx A1) = some (0, A3) := e1
      rw [e1, e2, p_b, p_b, if_pos rfl, if_pos rfl]
      exact ⟨0, A3, B3, rfl, rfl, sGA_t g1 (sGA_t (sFA_G (sNx_F A1)) (sFA_G f1)), sGB_t g2 (sGB_t (sFB_G y2) (sFB_G f2)), Or.inr ⟨rfl, z1, z2⟩⟩
    · have e1 : am_run (d + 21) 173 [.inr 92, .inl 0] (sNx A1) = some (1, A3) := e1
      rw [e1, e2, p_b, p_b, if_neg (by decide), if_neg (by decide)]
      rw [List.append_assoc] at r2
      have FA : sFA A1 A3 := sFA_t (sNx_F A1) f1
      have FB : sFB B1 B3 := sFB_t y2 f2
      obtain ⟨x4, A4, B4, e3, e4, f3, f4, hO⟩ := s_line3 hk hn (sR_c r2 (c' := c) (by omega)) (by rw [FA.2]; exact i0) (by rw [FB.2 13 (by omega) (by omega)]; exact j0) (by rw [FA.1 97 (by decide) (by decide) (by decide)]; exact i7) (by rw [FA.1 98 (by decide) (by decide) (by decide)]; exact i8) (by rw [FA.1 99 (by decide) (by decide) (by decide)]; exact i9) (by rw [FB.1 191 (by decide) (by decide)]; exact u0) (by rw [FB.1 191 (by decide) (by decide)]; exact u1) (by rw [FB.1 191 (by decide) (by decide)]; exact u3) hs (fun _ => ⟨by have := ht.2 [] [] (by decide); rw [List.append_nil] at this; exact this, ht.1⟩) hE (d + 19) (d' + 29)
      rw [e3, e4]
      refine ⟨x4, A4, B4, rfl, rfl, sGA_t g1 (sGA_t (sFA_G FA) f3), sGB_t g2 (sGB_t (sFB_G FB) f4), ?_⟩
      rcases hO with ⟨rfl, l5, z1, z2, z3, z4, z5⟩ | z
      · refine Or.inl ⟨rfl, E ++ C, l5, ?_, z2, z3, z4, z5⟩
        rw [List.length_cons]
        omega
      · exact Or.inr z
  · rw [if_neg (show ¬ (q.1 : Int) = 14 from q14), if_neg (show ¬ sMk k q.1 = 3 by omega)]
    have hr : sR k 0 c A1 B1 (pFl (p ++ (E ++ []))) (p ++ (E ++ [])) (q :: l') := by
      rw [List.append_nil]
      exact r9
    obtain ⟨x4, A4, B4, e3, e4, f3, f4, hO⟩ := s_line3 hk hn hr i0 j0 i7 i8 i9 u0 u1 u3 hs (fun z => absurd rfl z) hE (d + 19) (d' + 29)
    rw [e3, e4]
    refine ⟨x4, A4, B4, rfl, rfl, sGA_t g1 f3, sGB_t g2 f4, ?_⟩
    rcases hO with ⟨rfl, l5, z1, z2, z3, z4, z5⟩ | z
    · exact Or.inl ⟨rfl, E ++ [], l5, z1, z2, z3, z4, z5⟩
    · exact Or.inr z
