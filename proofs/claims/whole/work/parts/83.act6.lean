/-! PURE: acts: a person is born -/
def pBorn (w : Int → Int) (n a b : Int) : Int → Int := p_up (p_up (p_up (p_up (p_up (p_up w (4 + 4 * n + 0) a) (4 + 4 * n + 1) (-1)) (277 + n) b) (36 + 10 * (2 * n) + 8) n) (36 + 10 * (2 * n + 1) + 8) n) 276 (n + 1)
theorem Bpp {w : Int → Int} {n a b p f : Int} (hn : 0 ≤ n ∧ n < 8) (hp : 0 ≤ p ∧ p < 8) (hf : 0 ≤ f ∧ f < 4) : pp (pBorn w n a b) p f = if p = n ∧ f = 1 then -1 else if p = n ∧ f = 0 then a else pp w p f := by
  unfold pBorn
  rw [pp_off (by omega), pp_off (by omega), pp_off (by omega), pp_off (by omega), pp_up _ _ _ _ _ _ (by omega) hf, pp_up _ _ _ _ _ _ (by omega) hf]
theorem Bph {w : Int → Int} {n a b g f : Int} (hn : 0 ≤ n ∧ n < 8) (hg : 0 ≤ g ∧ g < 16) (hf : 0 ≤ f ∧ f < 10) : ph (pBorn w n a b) g f = if g = 2 * n + 1 ∧ f = 8 then n else if g = 2 * n ∧ f = 8 then n else ph w g f := by
  unfold pBorn
  rw [ph_off (by omega), ph_up _ _ _ _ _ _ (by omega) hf, ph_up _ _ _ _ _ _ (by omega) hf, ph_off (by omega), ph_off (by omega), ph_off (by omega)]
theorem B276 (w : Int → Int) (n a b : Int) : pBorn w n a b 276 = n + 1 := p_up1 _ _ _
theorem Bch {w : Int → Int} {n a b p : Int} (hn : 0 ≤ n ∧ n < 8) (hp : 0 ≤ p ∧ p < 8) : pBorn w n a b (277 + p) = if p = n then b else w (277 + p) := by
  unfold pBorn
  rw [p_off (by omega), p_off (by omega), p_off (by omega)]
  by_cases e : p = n
  · rw [if_pos e, e, p_up1]
  · rw [if_neg e, p_off (by omega), p_off (by omega), p_off (by omega)]
theorem Boff {w : Int → Int} {n a b k : Int} (hn : 0 ≤ n ∧ n < 8) (hk : k < 4 ∨ (196 ≤ k ∧ k < 276) ∨ 285 ≤ k) : pBorn w n a b k = w k := by
  unfold pBorn
  rw [p_off (by omega), p_off (by omega), p_off (by omega), p_off (by omega), p_off (by omega), p_off (by omega)]
theorem Bph8 {w : Int → Int} {n a b g : Int} (hn : 0 ≤ n ∧ n < 8) (hg : 0 ≤ g ∧ g < 2 * n + 2) : (2 * n ≤ g ∧ ph (pBorn w n a b) g 8 = n) ∨ (g < 2 * n ∧ ph (pBorn w n a b) g 8 = ph w g 8) := by
  rw [Bph hn (by omega) (by omega)]
  by_cases e1 : g = 2 * n + 1
  · rw [if_pos ⟨e1, rfl⟩]; exact Or.inl ⟨by omega, rfl⟩
  · rw [if_neg (fun z => e1 z.1)]
    by_cases e2 : g = 2 * n
    · rw [if_pos ⟨e2, rfl⟩]; exact Or.inl ⟨by omega, rfl⟩
    · rw [if_neg (fun z => e2 z.1)]; exact Or.inr ⟨by omega, rfl⟩
theorem Bn8 {w : Int → Int} {n a b g f : Int} (hn : 0 ≤ n ∧ n < 8) (hg : 0 ≤ g ∧ g < 16) (hf : 0 ≤ f ∧ f < 10) (h : f ≠ 8) : ph (pBorn w n a b) g f = ph w g f := by
  rw [Bph hn hg hf, if_neg (fun z => h z.2), if_neg (fun z => h z.2)]
theorem B_WFh {w : Int → Int} (hw : WF w) {n a b : Int} (e : w 276 = n) (hn : 0 ≤ n ∧ n < 8) : WFh (pBorn w n a b) := by
  obtain ⟨h1, h2, h3⟩ := hw.2.2.1
  rw [e] at h1 h3
  refine ⟨fun g g0 g1 => ?_, fun g g0 g1 => ?_, fun g k g0 g1 k0 k1 hm he hne => ?_⟩
  · rw [B276] at g1 ⊢
    rcases Bph8 (w := w) (a := a) (b := b) hn (g := g) (by omega) with ⟨q1, q2⟩ | ⟨q1, q2⟩
    · rw [q2]; omega
    · rw [q2]
      have := h1 g g0 q1
      omega
  · rw [Bn8 hn ⟨g0, g1⟩ (by omega) (by decide)]
    exact h2 g g0 g1
  · rw [B276] at g1 k1
    rcases Bph8 (w := w) (a := a) (b := b) hn (g := g) (by omega) with ⟨q1, q2⟩ | ⟨q1, q2⟩
    · rcases Bph8 (w := w) (a := a) (b := b) hn (g := k) (by omega) with ⟨r1, r2⟩ | ⟨r1, r2⟩
      · omega
      · rw [q2, r2] at he
        have := h1 k k0 r1
        omega
    · rcases Bph8 (w := w) (a := a) (b := b) hn (g := k) (by omega) with ⟨r1, r2⟩ | ⟨r1, r2⟩
      · rw [q2, r2] at he
        have := h1 g g0 q1
        omega
      · rw [q2, r2] at he
        rw [q2] at hne
        exact h3 g k g0 q1 k0 r1 hm he hne
theorem B_WF {w : Int → Int} (hw : WF w) {n a b : Int} (e : w 276 = n) (hn : 0 ≤ n ∧ n < 8) (ha : 0 ≤ a ∧ a ≤ 9999) : WF (pBorn w n a b) := by
  have hh := B_WFh hw (a := a) (b := b) e hn
  obtain ⟨⟨m1, m2, m3⟩, hp, -, hl, hz⟩ := hw
  unfold WFz at hz
  rw [e] at hz
  refine ⟨⟨by rw [Boff hn (by omega)]; exact m1, by rw [B276]; omega, by rw [Boff hn (by omega)]; exact m3⟩, fun p p0 p1 => ?_, hh, fun i i0 i1 => ?_, fun p p0 p1 => ?_, fun g g0 g1 f f0 f1 => ?_⟩
  · have := hp p p0 p1
    rw [Bpp hn ⟨p0, p1⟩ (by omega), Bpp hn ⟨p0, p1⟩ (by omega), if_neg (show ¬ (p = n ∧ (0 : Int) = 1) by omega)]
    by_cases q : p = n
    · rw [if_pos ⟨q, rfl⟩, if_pos ⟨q, rfl⟩]; omega
    · rw [if_neg (fun z => q z.1), if_neg (fun z => q z.1), if_neg (fun z => q z.1)]; exact this
  · rw [Boff hn (by omega)] at i1
    have := hl i i0 i1
    unfold pl at this ⊢
    rw [B276, Boff hn (by omega), Boff hn (by omega), Boff hn (by omega)]
    omega
  · rw [B276] at p0
    refine ⟨fun f f0 f1 => ?_, ?_⟩
    · rw [Bpp hn ⟨by omega, p1⟩ ⟨f0, f1⟩, if_neg (by omega), if_neg (by omega)]
      exact (hz.1 p (by omega) p1).1 f f0 f1
    · rw [Bch hn ⟨by omega, p1⟩, if_neg (by omega)]
      exact (hz.1 p (by omega) p1).2
  · rw [B276] at g0
    rw [Bph hn ⟨by omega, g1⟩ ⟨f0, f1⟩, if_neg (by omega), if_neg (by omega)]
    exact hz.2 g (by omega) g1 f f0 f1
theorem B_on {w : Int → Int} (hw : WF w) {n a b q s : Int} (e : w 276 = n) (hn : 0 ≤ n ∧ n < 8) (hq : 0 ≤ q ∧ q < n + 1) (hs : 0 ≤ s ∧ s ≤ 1) : pOn (pBorn w n a b) q s = if q = n then 2 * n + s else pOn w q s := by
  have hh := B_WFh hw (a := a) (b := b) e hn
  by_cases z : q = n
  · rw [if_pos z]
    refine pOn_is hh hs (by omega) (by rw [B276]; omega) (by rw [B276]; omega) (by omega) ?_
    rcases Bph8 (w := w) (a := a) (b := b) hn (g := 2 * n + s) (by omega) with ⟨q1, q2⟩ | ⟨q1, q2⟩
    · rw [q2, z]
    · omega
  · rw [if_neg z]
    rcases pOn_range (w := w) (p := q) hs (by omega) with r | ⟨r1, r2, r3, r4⟩
    · rw [r]
      refine (pOn_none hs (by rw [B276]; omega)).mpr (fun g g0 g1 g2 => ?_)
      rw [B276] at g1
      rcases Bph8 (w := w) (a := a) (b := b) hn (g := g) (by omega) with ⟨q1, q2⟩ | ⟨q1, q2⟩
      · rw [q2]; omega
      · rw [q2]
        exact (pOn_none hs (by omega)).mp r g g0 (by omega) g2
    · refine pOn_is hh hs (by omega) (by rw [B276]; omega) (by rw [B276]; omega) r3 ?_
      rcases Bph8 (w := w) (a := a) (b := b) hn (g := pOn w q s) (by omega) with ⟨q1, q2⟩ | ⟨q1, q2⟩
      · omega
      · rw [q2, r4]
theorem c136 (d : Nat) {o : Nat} (ho : IsW o) {M : am_M} {w : Int → Int} (hR : WR M o w) (hw : WF w) {n : Int} (e : w 276 = n) (hn : 0 ≤ n ∧ n < 8) (a b : Int) : pOk (am_run (d + 1) 136 [.inr o, .inl a, .inl b] M) (fun r M' => r = n ∧ WR M' o (pBorn w n a b) ∧ ∀ c, c < o ∨ o + 12 < c → M' c = M c) := by
  have en : M o 2 = n := (R_n hR).trans e
  rw [e136]
  simp only [w_c ho, w_r5 ho, w_r6 ho, w_r7 ho, w_r8 ho, w_r9 ho, w_r10 ho, w_r11 ho, w_r12 ho, w_r13 ho, w_r14 ho, w_r15 ho, w_r16 ho, w_k1 ho, w_k2 ho, w_k3 ho, w_k4 ho, w_k5 ho, w_k6 ho, w_k7 ho, w_k8 ho, w_k9 ho, w_k10 ho, w_k11 ho, w_k12 ho, w_l1 ho, w_l2 ho, w_l3 ho, w_l4 ho, w_l5 ho, w_l6 ho, w_l7 ho, w_l8 ho, w_l9 ho, w_l10 ho, w_l11 ho, w_l12 ho, w_B5, w_B9, cond_true, Bool.true_or, en]
  rw [p_w (x := n + 1) (by omega) (by omega), p_w (x := 2 * n) (by omega) (by omega), p_w (x := 2 * n + 1) (by omega) (by omega)]
  repeat refine pOk_c (by omega) ?_
  refine pOk_s ⟨rfl, ?_, ?_⟩
  · have hc : ∀ q s, (0 ≤ q ∧ q < n + 1) → (0 ≤ s ∧ s ≤ 1) → pOn (pBorn w n a b) q s = if q = n then 2 * n + s else pOn w q s := fun q s hq hs => B_on hw e hn hq hs
    obtain ⟨h1, h2, h3, h4, h5, h6⟩ := hR
    refine ⟨?_, ?_, ?_, ?_, ?_, ?_⟩
    · rw [B276, Boff hn (by omega), Boff hn (by omega), Boff hn (by omega), Boff hn (by omega)]
      simp (disch := omega) only [p_ud1, p_ud2, p_ud3]
      exact ⟨h1.1, h1.2.1, trivial, h1.2.2.2⟩
    · intro p k0 k1
      have z := h2 p k0 k1
      rw [Bpp hn ⟨k0, k1⟩ (by omega), Bpp hn ⟨k0, k1⟩ (by omega), Bpp hn ⟨k0, k1⟩ (by omega), Bch hn ⟨k0, k1⟩]
      by_cases q : p = n
      · rw [if_neg (show ¬ (p = n ∧ (0 : Int) = 1) by omega), if_pos (show p = n ∧ (0 : Int) = 0 from ⟨q, rfl⟩), if_pos q, if_pos (show p = n ∧ (1 : Int) = 1 from ⟨q, rfl⟩), if_neg (show ¬ (p = n ∧ (2 : Int) = 1) by omega), if_neg (show ¬ (p = n ∧ (2 : Int) = 0) by omega), q]
        rw [q] at z
        simp (disch := omega) only [p_ud1, p_ud2, p_ud3]
        exact ⟨trivial, trivial, trivial, z.2.2.2⟩
      · rw [if_neg (fun t => q t.1), if_neg (fun t => q t.1), if_neg q, if_neg (fun t => q t.1), if_neg (fun t => q t.1), if_neg (fun t => q t.1), if_neg (fun t => q t.1)]
        simp (disch := omega) only [p_ud1, p_ud2, p_ud3]
        exact z
    · intro p s k0 k1 k2 k3
      rw [B276] at k1
      rw [hc p s ⟨k0, k1⟩ ⟨k2, k3⟩]
      by_cases q : p = n
      · rw [if_pos q]
        by_cases s0 : s = 0
        · rw [s0, q, show 2 * n + 0 = 2 * n from by omega]
          simp (disch := omega) only [p_ud1, p_ud2, p_ud3]
        · rw [show s = 1 from by omega, q]
          simp (disch := omega) only [p_ud1, p_ud2, p_ud3]
      · rw [if_neg q]
        have z := h3 p s k0 (by omega) k2 k3
        simp (disch := omega) only [p_ud1, p_ud2, p_ud3]
        exact z
    · intro g k0 k1
      have z := h4 g k0 k1
      rw [Bph hn ⟨k0, k1⟩ (by omega), Bn8 hn ⟨k0, k1⟩ (by omega) (by decide), Bn8 hn ⟨k0, k1⟩ (by omega) (by decide), Bn8 hn ⟨k0, k1⟩ (by omega) (by decide), Bn8 hn ⟨k0, k1⟩ (by omega) (by decide)]
      by_cases q1 : g = 2 * n + 1
      · rw [if_pos ⟨q1, rfl⟩, q1]
        rw [q1] at z
        simp (disch := omega) only [p_ud1, p_ud2, p_ud3]
        exact ⟨trivial, z.2⟩
      · rw [if_neg (fun t => q1 t.1)]
        by_cases q2 : g = 2 * n
        · rw [if_pos ⟨q2, rfl⟩, q2]
          rw [q2] at z
          simp (disch := omega) only [p_ud1, p_ud2, p_ud3]
          exact ⟨trivial, z.2⟩
        · rw [if_neg (fun t => q2 t.1)]
          simp (disch := omega) only [p_ud1, p_ud2, p_ud3]
          exact z
    · intro g k k0 k1 k2 k3
      have z := h5 g k k0 k1 k2 k3
      rw [Bn8 hn ⟨k0, k1⟩ ⟨k2, by omega⟩ (by omega)]
      simp (disch := omega) only [p_ud1, p_ud2, p_ud3]
      exact z
    · intro k k0 k1
      have z := h6 k k0 k1
      rw [Boff hn (by omega)]
      simp (disch := omega) only [p_ud1, p_ud2, p_ud3]
      exact z
  · intro c hc
    simp (disch := omega) only [p_ud1]
theorem p_up5 {w : Int → Int} {i v : Int} (h : w i = v) : p_up w i v = w := by
  funext k
  unfold p_up
  by_cases q : k = i
  · rw [if_pos q, q, h]
  · rw [if_neg q]
/-- the model: the hands of the new -/
theorem m17_58 (d : Nat) (a b n h : Int) (M : am_M) (hh : 0 ≤ h ∧ h < 16) (hz : ∀ f, 0 ≤ f → f < 10 → ph (M 187) h f = 0) : ∀ (k : Nat) (i : Int), i = 10 - k → 0 ≤ i → am_L (d + 1) 17 58 [some (.inr 186), some (.inl a), some (.inl b), some (.inl n), some (.inl h), some (.inl i)] [] M = am_L (d + 1) 17 49 [some (.inr 186), some (.inl a), some (.inl b), some (.inl n), some (.inl (am_wrap (h + 1))), some (.inl 10)] [] (p_st M 187 (p_up (M 187) (36 + 10 * h + 8) n)) := by
  intro k
  induction k with
  | zero =>
    intro i hi h0
    rw [e17_58, if_neg (by omega), m6 _ _ _ _ _ hh (by omega), p_b, show i = 10 from by omega]
  | succ k ih =>
    intro i hi h0
    rw [e17_58, if_pos (by omega), m6 _ _ _ _ _ hh (by omega), p_b, p_up5 (show M 187 (36 + 10 * h + i) = 0 from hz i h0 (by omega)), p_st5, p_w (x := i + 1) (by omega) (by omega), ih (i + 1) (by omega) (by omega)]
theorem a_person {C M : am_M} (hI : Inv C M) (a b : Int) : Pair C M 182 17 [.inl a, .inl b] := by
  have hR := hI.1.1
  have hw := hI.1.2.1
  have hh := hI.1.2.2.1
  have n2 := hw.1.2.1
  by_cases c1 : 0 ≤ a ∧ a ≤ 9999
  · by_cases c2 : 0 ≤ b ∧ b ≤ 1
    · by_cases c3 : M 187 276 < 8
      · obtain ⟨n, en⟩ : ∃ n, n = M 187 276 := ⟨_, rfl⟩
        rw [← en] at c3 n2
        have hn : 0 ≤ n ∧ n < 8 := ⟨n2.1, c3⟩
        refine Pair_forget (v := n) (w' := pBorn (M 187) n a b) hI ?_ (fun M1 f1 => ?_) (B_WF hw en.symm hn c1) (by rw [Boff hn (by omega)]; exact hh) (fun k hk => Boff hn (by omega)) (fun k k0 k1 => Boff hn (by omega))
        · rw [e182, c253, p_b, p_i0, if_pos c1, c253, p_b, p_i0, if_pos c2, R_n hR, ← en, if_pos c3, c197, p_b]
          refine pOk_b (c136 998 ho1 (WR_fr hR (fun b b1 b2 => p_st2 (by omega))) hw en.symm hn a b) (fun r M2 ⟨q1, q2, q3⟩ => pOk_s ⟨q1, ?_, fun f hf => ?_, q2, fun b hb => ?_⟩)
          · rw [q3 0 (by omega), p_st1, p_up1]
          · rw [q3 0 (by omega), p_st1, p_off (by omega)]
          · rw [q3 b (by omega), p_st2 (by omega)]
        · have e7 : M1 187 = M 187 := f1 187 (by omega)
          rw [e17, m0, p_b, p_i0, if_pos c1, m0, p_b, p_i0, if_pos c2, p_c (by omega), e7, ← en, if_neg (by omega), p_c (by omega), m4 _ _ _ _ _ hn (by omega), p_b, m4 _ _ _ _ _ hn (by omega), p_b, m4 _ _ _ _ _ hn (by omega), p_b, p_w (x := 277 + n) (by omega) (by omega), p_c (by omega), p_w (x := 2 * n) (by omega) (by omega)]
          have z := hw.2.2.2.2
          have z1 : ∀ f, 0 ≤ f → f < 4 → pp (M 187) n f = 0 := (z.1 n (by omega) (by omega)).1
          have z2 : ∀ g, 2 * n ≤ g → g < 16 → ∀ f, 0 ≤ f → f < 10 → ph (M 187) g f = 0 := fun g g0 => z.2 g (by omega)
          obtain ⟨W, hW⟩ : ∃ W, W = p_up (p_up (p_up (M 187) (4 + 4 * n + 0) a) (4 + 4 * n + 1) (-1)) (277 + n) b := ⟨_, rfl⟩
          have wz : ∀ g, 2 * n ≤ g → g < 16 → ∀ f, 0 ≤ f → f < 10 → ph W g f = 0 := by
            intro g g0 g1 f f0 k1
            rw [hW, ph_off (by omega), ph_off (by omega), ph_off (by omega)]
            exact z2 g g0 g1 f f0 k1
          simp only [p_upd, p_st1, p_st3, e7]
          rw [p_up5 (w := p_up (p_up (M 187) (4 + 4 * n + 0) a) (4 + 4 * n + 1) (-1)) (i := 4 + 4 * n + 2) (v := 0) (by rw [p_off (by omega), p_off (by omega)]; exact z1 2 (by omega) (by omega)), ← hW]
          rw [e17_49, p_w (x := 2 * n) (by omega) (by omega), p_w (x := 2 * n + 2) (by omega) (by omega), if_pos (by omega), m17_58 _ _ _ _ _ _ (by omega) (by rw [p_st1]; exact wz _ (by omega) (by omega)) 10 0 (by omega) (by omega), p_w (x := 2 * n + 1) (by omega) (by omega), p_st1, p_st3]
          rw [e17_49, p_w (x := 2 * n) (by omega) (by omega), p_w (x := 2 * n + 2) (by omega) (by omega), if_pos (by omega), m17_58 _ _ _ _ _ _ (by omega) (by rw [p_st1]; intro f f0 k1; rw [ph_off (by omega)]; exact wz _ (by omega) (by omega) f f0 k1) 10 0 (by omega) (by omega), p_w (x := 2 * n + 1 + 1) (by omega) (by omega), p_st1, p_st3]
          rw [e17_49, p_w (x := 2 * n) (by omega) (by omega), p_w (x := 2 * n + 2) (by omega) (by omega), if_neg (by omega), p_c (by omega), p_c (by omega), p_upd, p_st1, p_st3]
          have e276 : p_up (p_up W (36 + 10 * (2 * n) + 8) n) (36 + 10 * (2 * n + 1) + 8) n 276 = n := by rw [p_off (by omega), p_off (by omega), hW, p_off (by omega), p_off (by omega), p_off (by omega), ← en]
          rw [e276, p_w (x := n + 1) (by omega) (by omega), m14, p_b]
          refine pOk_s ⟨rfl, ?_, ?_, fun f hf h4 => ?_, fun b b1 b2 => ?_⟩
          · rw [p_st2 (by decide), p_st1, hW]; rfl
          · rw [p_st1, p_up1]
          · rw [p_st1, p_off (by omega), p_st2 (by decide), f1 186 (by omega)]
          · rw [p_st2 b1, p_st2 b2]
      · refine Pair_e (v := -1) hI ?_ ?_
        · rw [e182, c253, p_b, p_i0, if_pos c1, c253, p_b, p_i0, if_pos c2, R_n hR, if_neg c3]
        · rw [e17, m0, p_b, p_i0, if_pos c1, m0, p_b, p_i0, if_pos c2, p_c (by omega), if_pos (by omega)]
    · refine Pair_e (v := -1) hI ?_ ?_
      · rw [e182, c253, p_b, p_i0, if_pos c1, c253, p_b, p_i0, if_neg c2]
      · rw [e17, m0, p_b, p_i0, if_pos c1, m0, p_b, p_i0, if_neg c2]
  · refine Pair_e (v := -1) hI ?_ ?_
    · rw [e182, c253, p_b, p_i0, if_neg c1]
    · rw [e17, m0, p_b, p_i0, if_neg c1]
