/-! PURE: acts: the feed -/
theorem pT_255 : ∀ i, i < 32 → pTest 255 i = decide (i < 8) := by decide +kernel
theorem pT_sr (x : Int) (i j : Nat) (hi : i + j < 32) : pTest (am_ishr x (i : Nat)) j = pTest x (i + j) := by
  unfold pTest am_ishr
  rw [p_o32, Int32.toBitVec_shiftRight]
  have ha : ∀ i : Nat, i < 32 → ((Int32.ofInt (i : Nat) &&& 31).toBitVec.smod 32).toNat = i := by decide +kernel
  show ((Int32.ofInt x).toBitVec.sshiftRight ((Int32.ofInt (i : Nat) &&& 31).toBitVec.smod 32).toNat).getLsbD j = _
  rw [ha i (by omega), BitVec.getLsbD_sshiftRight]
  have h1 : decide (32 ≤ j) = false := decide_eq_false (by omega)
  rw [h1, if_pos hi]
  rfl
theorem pT_us (x : Int) (i j : Nat) (hi : i < 32) : pTest (am_iushr x (i : Nat)) j = pTest x (i + j) := by
  unfold pTest am_iushr
  rw [p_o32]
  have ha : ∀ i : Nat, i < 32 → (((Int32.ofInt (i : Nat)).toUInt32 &&& Int32.toUInt32 31).toBitVec % 32).toNat = i := by decide +kernel
  show ((Int32.ofInt x).toBitVec >>> (((Int32.ofInt (i : Nat)).toUInt32 &&& Int32.toUInt32 31).toBitVec % 32).toNat).getLsbD j = _
  rw [ha i hi, BitVec.getLsbD_ushiftRight]
theorem p_us (x : Int) (s : Nat) (hs : s ≤ 24) : am_iand (am_iushr x (s : Nat)) 255 = am_iand (am_ishr x (s : Nat)) 255 := by
  refine pT_eq (p_and_in _ _) (p_and_in _ _) (fun i hi => ?_)
  rw [pT_and, pT_and, pT_255 i hi]
  by_cases q : i < 8
  · rw [pT_us _ _ _ (by omega), pT_sr _ _ _ (by omega)]
  · rw [decide_eq_false q, Bool.and_false, Bool.and_false]
theorem p_byte (y : Int) : 0 ≤ am_iand y 255 ∧ am_iand y 255 ≤ 255 := by
  have h : (Int32.ofInt y &&& Int32.ofInt 255).toInt = (((Int32.ofInt y).toBitVec &&& 255#32).toNat : Int) := by
    have e : ((Int32.ofInt y).toBitVec &&& 255#32).toNat ≤ 255 := by
      rw [BitVec.toNat_and]
      exact Nat.and_le_right
    show ((Int32.ofInt y).toBitVec &&& 255#32).toInt = _
    rw [BitVec.toInt_eq_toNat_of_lt]
    omega
  have e : ((Int32.ofInt y).toBitVec &&& 255#32).toNat ≤ 255 := by
    rw [BitVec.toNat_and]
    exact Nat.and_le_right
  unfold am_iand
  rw [h]
  omega
def pW4 (f : Int → Int) (n x : Int) : Int → Int := p_up (p_up (p_up (p_up f n (am_iand (am_ishr x 24) 255)) (n + 1) (am_iand (am_ishr x 16) 255)) (n + 2) (am_iand (am_ishr x 8) 255)) (n + 3) (am_iand (am_ishr x 0) 255)
theorem c185_1 (d : Nat) {M : am_M} {n x : Int} (hn : M 0 12 = n) (h : 0 ≤ n ∧ n < 400) (s : Nat) (hs : s ≤ 24) : am_L d 185 2 [some (.inr 0), some (.inl x), some (.inl (s : Nat))] [] M = am_L d 185 2 [some (.inr 0), some (.inl x), some (.inl ((s : Nat) - 8))] [] (p_st (p_st M 91 (p_up (M 91) n (am_iand (am_ishr x (s : Nat)) 255))) 0 (p_up (M 0) 12 (n + 1))) := by
  have hb := p_byte (am_ishr x (s : Nat))
  have ec : am_chr (am_chr (am_iand (am_iushr x (s : Nat)) 255)) = am_iand (am_ishr x (s : Nat)) 255 := by
    rw [p_us x s hs]
    unfold am_chr
    omega
  rw [e185_2, if_neg (by omega), hn, if_pos h.2, p_c (by omega), ec, p_w (x := (s : Nat) + (-8)) (by omega) (by omega), p_upd, p_upd, p_st2 (by decide), hn, p_w (x := n + 1) (by omega) (by omega)]
  rfl
theorem p_sw {M : am_M} {a b : Nat} {f g f' g' : Int → Int} (h : a ≠ b) : p_st (p_st (p_st (p_st M a f) b g) a f') b g' = p_st (p_st M a f') b g' := by
  funext c
  by_cases q : c = b
  · rw [q, p_st1, p_st1]
  · rw [p_st2 q, p_st2 q]
    by_cases q2 : c = a
    · rw [q2, p_st1, p_st1]
    · rw [p_st2 q2, p_st2 q2, p_st2 q, p_st2 q2]
theorem p_uu (f : Int → Int) (i v w : Int) : p_up (p_up f i v) i w = p_up f i w := by
  funext k
  unfold p_up
  by_cases q : k = i
  · rw [if_pos q, if_pos q]
  · rw [if_neg q, if_neg q, if_neg q]
theorem c185 (d : Nat) {M : am_M} {n : Int} (x : Int) (hn : M 0 12 = n) (h : 0 ≤ n ∧ n + 4 ≤ 400) : am_run (d + 1) 185 [.inr 0, .inl x] M = some (0, p_st (p_st M 91 (pW4 (M 91) n x)) 0 (p_up (M 0) 12 (n + 4))) := by
  rw [e185]
  have s1 := c185_1 d (M := M) (x := x) hn (by omega) 24 (by omega)
  have s2 := fun (M : am_M) (hn : M 0 12 = n + 1) => c185_1 d (M := M) (x := x) hn (by omega) 16 (by omega)
  have s3 := fun (M : am_M) (hn : M 0 12 = n + 1 + 1) => c185_1 d (M := M) (x := x) hn (by omega) 8 (by omega)
  have s4 := fun (M : am_M) (hn : M 0 12 = n + 1 + 1 + 1) => c185_1 d (M := M) (x := x) hn (by omega) 0 (by omega)
  refine (s1.trans ((s2 _ (by rw [p_st1, p_up1])).trans ((s3 _ (by rw [p_st1, p_up1])).trans ((s4 _ (by rw [p_st1, p_up1])).trans ?_))))
  rw [e185_2, if_pos (by decide)]
  rw [p_sw (by decide), p_sw (by decide), p_sw (by decide)]
  simp (disch := omega) only [p_st1, p_st2, p_uu]
  unfold pW4
  rw [show n + 1 + 1 = n + 2 from by omega, show n + 2 + 1 = n + 3 from by omega, show n + 3 + 1 = n + 4 from by omega]
  rfl
def pPick (a b c d e k : Int) : Int := if k < 4 then a else if k < 8 then b else if k < 12 then c else if k < 16 then d else e
theorem pPick_4 (a b c d e : Int) {k j : Int} (h : k % 4 = 0) (hj : 0 ≤ j ∧ j < 4) : pPick a b c d e (k + j) = pPick a b c d e k := by
  unfold pPick
  simp only [show (k + j < 4 ↔ k < 4) from by omega, show (k + j < 8 ↔ k < 8) from by omega, show (k + j < 12 ↔ k < 12) from by omega, show (k + j < 16 ↔ k < 16) from by omega]
theorem p_rem4 : ∀ x : Nat, x < 20 → am_irem (x : Nat) 4 = ((x : Nat) : Int) % 4 := by decide +kernel
theorem p_rem4i {x : Int} (h : 0 ≤ x ∧ x < 20) : am_irem x 4 = x % 4 := by
  have := p_rem4 x.toNat (by omega)
  rwa [show ((x.toNat : Nat) : Int) = x from by omega] at this
theorem m19_1 (t : Nat) (a b c d e : Int) (o7 : Option am_V) {M : am_M} {n k : Int} (hn : M 186 16 = n) (h : 0 ≤ n ∧ n < 400) (hk : 0 ≤ k ∧ k < 20) : am_L t 19 10 [some (.inr 186), some (.inl a), some (.inl b), some (.inl c), some (.inl d), some (.inl e), some (.inl k), o7] [] M = am_L t 19 10 [some (.inr 186), some (.inl a), some (.inl b), some (.inl c), some (.inl d), some (.inl e), some (.inl (k + 1)), some (.inl (pPick a b c d e k))] [] (p_st (p_st M 194 (p_up (M 194) n (am_iand (am_ishr (pPick a b c d e k) (24 - 8 * (k % 4))) 255))) 186 (p_up (M 186) 16 (n + 1))) := by
  have go : ∀ x, am_L t 19 34 [some (.inr 186), some (.inl a), some (.inl b), some (.inl c), some (.inl d), some (.inl e), some (.inl k), o7] [.inl x] M = am_L t 19 10 [some (.inr 186), some (.inl a), some (.inl b), some (.inl c), some (.inl d), some (.inl e), some (.inl (k + 1)), some (.inl x)] [] (p_st (p_st M 194 (p_up (M 194) n (am_iand (am_ishr x (24 - 8 * (k % 4))) 255))) 186 (p_up (M 186) 16 (n + 1))) := by
    intro x
    rw [e19_34, p_c (by decide), hn, p_c (by omega), p_rem4i hk, p_w (x := 8 * (k % 4)) (by omega) (by omega), p_w (x := 24 - 8 * (k % 4)) (by omega) (by omega), p_w (x := k + 1) (by omega) (by omega), p_upd, p_upd, p_st2 (by decide), hn, p_w (x := n + 1) (by omega) (by omega)]
  rw [e19_10, if_pos hk.2]
  unfold pPick
  by_cases q1 : k < 4
  · rw [if_pos q1, if_pos q1, go]
  · rw [if_neg q1, if_neg q1]
    by_cases q2 : k < 8
    · rw [if_pos q2, if_pos q2, go]
    · rw [if_neg q2, if_neg q2]
      by_cases q3 : k < 12
      · rw [if_pos q3, if_pos q3, go]
      · rw [if_neg q3, if_neg q3]
        by_cases q4 : k < 16
        · rw [if_pos q4, if_pos q4, go]
        · rw [if_neg q4, if_neg q4, go]
theorem m19_4 (t : Nat) (a b c d e x : Int) (o7 : Option am_V) {M : am_M} {n k : Int} (hn : M 186 16 = n) (h : 0 ≤ n ∧ n + 4 ≤ 400) (hk : 0 ≤ k ∧ k < 20) (h4 : k % 4 = 0) (hx : pPick a b c d e k = x) : am_L t 19 10 [some (.inr 186), some (.inl a), some (.inl b), some (.inl c), some (.inl d), some (.inl e), some (.inl k), o7] [] M = am_L t 19 10 [some (.inr 186), some (.inl a), some (.inl b), some (.inl c), some (.inl d), some (.inl e), some (.inl (k + 4)), some (.inl x)] [] (p_st (p_st M 194 (pW4 (M 194) n x)) 186 (p_up (M 186) 16 (n + 4))) := by
  have x1 : pPick a b c d e (k + 1) = x := (pPick_4 a b c d e h4 (by omega)).trans hx
  have x2 : pPick a b c d e (k + 1 + 1) = x := by rw [show k + 1 + 1 = k + 2 from by omega]; exact (pPick_4 a b c d e h4 (by omega)).trans hx
  have x3 : pPick a b c d e (k + 1 + 1 + 1) = x := by rw [show k + 1 + 1 + 1 = k + 3 from by omega]; exact (pPick_4 a b c d e h4 (by omega)).trans hx
  rw [m19_1 t a b c d e o7 hn (by omega) hk, hx]
  rw [m19_1 t a b c d e _ (n := n + 1) (by rw [p_st1, p_up1]) (by omega) (by omega), x1]
  rw [m19_1 t a b c d e _ (n := n + 1 + 1) (by rw [p_st1, p_up1]) (by omega) (by omega), x2]
  rw [m19_1 t a b c d e _ (n := n + 1 + 1 + 1) (by rw [p_st1, p_up1]) (by omega) (by omega), x3]
  rw [p_sw (by decide), p_sw (by decide), p_sw (by decide)]
  simp (disch := omega) only [p_st1, p_st2, p_uu]
  unfold pW4
  rw [show 24 - 8 * (k % 4) = 24 from by omega, show 24 - 8 * ((k + 1) % 4) = 16 from by omega, show 24 - 8 * ((k + 1 + 1) % 4) = 8 from by omega, show 24 - 8 * ((k + 1 + 1 + 1) % 4) = 0 from by omega, show n + 1 + 1 = n + 2 from by omega, show n + 2 + 1 = n + 3 from by omega, show n + 3 + 1 = n + 4 from by omega, show k + 1 + 1 + 1 + 1 = k + 4 from by omega]
def pW20 (f : Int → Int) (n a b c d e : Int) : Int → Int := pW4 (pW4 (pW4 (pW4 (pW4 f n a) (n + 4) b) (n + 8) c) (n + 12) d) (n + 16) e
theorem m19 (t : Nat) (a b c d e : Int) {M : am_M} {n : Int} (hn : M 186 16 = n) (h : 0 ≤ n ∧ n + 20 ≤ 400) : am_run (t + 1) 19 [.inr 186, .inl a, .inl b, .inl c, .inl d, .inl e] M = some (n + 20, p_st (p_st M 194 (pW20 (M 194) n a b c d e)) 186 (p_up (M 186) 16 (n + 20))) := by
  rw [e19, hn, p_w (x := n + 20) (by omega) (by omega), if_neg (by omega)]
  refine (m19_4 t a b c d e a none hn (by omega) (k := 0) (by decide) (by decide) rfl).trans ?_
  refine (m19_4 t a b c d e b _ (n := n + 4) (by rw [p_st1, p_up1]) (by omega) (k := 4) (by decide) (by decide) rfl).trans ?_
  refine (m19_4 t a b c d e c _ (n := n + 4 + 4) (by rw [p_st1, p_up1]) (by omega) (k := 8) (by decide) (by decide) rfl).trans ?_
  refine (m19_4 t a b c d e d _ (n := n + 4 + 4 + 4) (by rw [p_st1, p_up1]) (by omega) (k := 12) (by decide) (by decide) rfl).trans ?_
  refine (m19_4 t a b c d e e _ (n := n + 4 + 4 + 4 + 4) (by rw [p_st1, p_up1]) (by omega) (k := 16) (by decide) (by decide) rfl).trans ?_
  rw [e19_10, if_neg (by decide), p_sw (by decide), p_sw (by decide), p_sw (by decide), p_sw (by decide)]
  simp (disch := omega) only [p_st1, p_st2, p_uu, p_up1]
  unfold pW20
  rw [show n + 4 + 4 = n + 8 from by omega, show n + 8 + 4 = n + 12 from by omega, show n + 12 + 4 = n + 16 from by omega, show n + 16 + 4 = n + 20 from by omega]
theorem c184 (t : Nat) (a b c d e : Int) {M : am_M} {n : Int} (hn : M 0 12 = n) (h : 0 ≤ n ∧ n + 20 ≤ 400) : am_run (t + 2) 184 [.inr 0, .inl a, .inl b, .inl c, .inl d, .inl e] M = some (n + 20, p_st (p_st M 91 (pW20 (M 91) n a b c d e)) 0 (p_up (M 0) 12 (n + 20))) := by
  rw [e184, hn, p_w (x := n + 20) (by omega) (by omega), if_neg (by omega)]
  rw [c185 t a hn (by omega), p_b]
  rw [c185 t b (n := n + 4) (by rw [p_st1, p_up1]) (by omega), p_b]
  rw [c185 t c (n := n + 4 + 4) (by rw [p_st1, p_up1]) (by omega), p_b]
  rw [c185 t d (n := n + 4 + 4 + 4) (by rw [p_st1, p_up1]) (by omega), p_b]
  rw [c185 t e (n := n + 4 + 4 + 4 + 4) (by rw [p_st1, p_up1]) (by omega), p_b]
  rw [p_sw (by decide), p_sw (by decide), p_sw (by decide), p_sw (by decide)]
  simp (disch := omega) only [p_st1, p_st2, p_uu, p_up1]
  unfold pW20
  rw [show n + 4 + 4 = n + 8 from by omega, show n + 8 + 4 = n + 12 from by omega, show n + 12 + 4 = n + 16 from by omega, show n + 16 + 4 = n + 20 from by omega]
/-- two tapes that say the same so far -/
def pSame (f g : Int → Int) (n : Int) : Prop := ∀ j, 0 ≤ j → j < n → f j = g j ∧ 0 ≤ g j ∧ g j ≤ 255
theorem pSame_up {f g : Int → Int} {n m v : Int} (h : pSame f g n) (hv : 0 ≤ v ∧ v ≤ 255) (hm : m = n + 1) : pSame (p_up f n v) (p_up g n v) m := by
  intro j j0 j1
  by_cases q : j = n
  · rw [q, p_up1, p_up1]
    exact ⟨rfl, hv⟩
  · rw [p_off (by omega), p_off (by omega)]
    exact h j j0 (by omega)
theorem pSame_4 {f g : Int → Int} {n m x : Int} (h : pSame f g n) (hm : m = n + 4) : pSame (pW4 f n x) (pW4 g n x) m := by
  have h1 := pSame_up h (p_byte (am_ishr x 24)) rfl
  have h2 := pSame_up h1 (p_byte (am_ishr x 16)) (show n + 2 = n + 1 + 1 by omega)
  have h3 := pSame_up h2 (p_byte (am_ishr x 8)) (show n + 3 = n + 2 + 1 by omega)
  exact pSame_up h3 (p_byte (am_ishr x 0)) (by omega)
theorem pSame_20 {f g : Int → Int} {n a b c d e : Int} (h : pSame f g n) : pSame (pW20 f n a b c d e) (pW20 g n a b c d e) (n + 20) := by
  have h1 := pSame_4 (x := a) h rfl
  have h2 := pSame_4 (x := b) h1 (show n + 8 = n + 4 + 4 by omega)
  have h3 := pSame_4 (x := c) h2 (show n + 12 = n + 8 + 4 by omega)
  have h4 := pSame_4 (x := d) h3 (show n + 16 = n + 12 + 4 by omega)
  exact pSame_4 (x := e) h4 (by omega)
/-- the tape alone is changed -/
theorem Inv_tape {C M N : am_M} (hI : Inv C M) {v : Int} (g0 : N 0 = p_up (M 0) 12 v) (g6 : N 186 = p_up (M 186) 16 v) (f : ∀ b, b ≠ 0 → b ≠ 186 → b ≠ 91 → b ≠ 194 → N b = M b) (hv : 0 ≤ v ∧ v ≤ 400) (ht : pSame (N 91) (N 194) v) : Inv C N := by
  have h7 : N 187 = M 187 := f 187 (by omega) (by omega) (by omega) (by omega)
  have h8 : N 188 = M 188 := f 188 (by omega) (by omega) (by omega) (by omega)
  obtain ⟨⟨a1, a2, a3, a4, a5, a6⟩, ⟨b1, b2, b3, b4⟩, ⟨c1, c2, c3⟩, -, ⟨e1, e2⟩, i1, i2⟩ := hI
  refine ⟨⟨?_, ?_, ?_, ?_, ?_, ?_⟩, ⟨?_, ?_, ?_, ?_⟩, ⟨?_, ?_, ?_⟩, ⟨?_, ?_, ?_⟩, ⟨?_, ?_⟩, ?_, ?_⟩
  · rw [h7]; exact WR_fr a1 (fun b _ _ => f b (by omega) (by omega) (by omega) (by omega))
  · rw [h7]; exact a2
  · rw [h7]; exact a3
  · rw [h7]; exact a4
  · rw [h7]; exact TxR_fr a5 (fun b _ _ => f b (by omega) (by omega) (by omega) (by omega))
  · rw [h7]; exact pBook_w a6 (f 52 (by omega) (by omega) (by omega) (by omega)) (fun _ _ _ => rfl)
  · rw [g0, g6, p_off (by omega), p_off (by omega)]; exact b1
  · rw [g6, p_off (by omega)]; exact b2
  · rw [g0, p_off (by omega)]; exact b3
  · rw [g0, g6, h7, f 189 (by omega) (by omega) (by omega) (by omega), p_off (by omega), p_off (by omega)]
    exact pRing_fr b4 (fun b _ _ => f b (by omega) (by omega) (by omega) (by omega))
  · rw [g0, g6, p_off (by omega), p_off (by omega)]; exact c1
  · rw [g6, p_off (by omega)]; exact c2
  · rw [g6, p_off (by omega), h8]
    intro q
    obtain ⟨k1, k2, k3, k4, k5, k6⟩ := c3 q
    exact ⟨WR_fr k1 (fun b _ _ => f b (by omega) (by omega) (by omega) (by omega)), k2, k3, k4, TxR_fr k5 (fun b _ _ => f b (by omega) (by omega) (by omega) (by omega)), fun j j0 j1 => by rw [f 90 (by omega) (by omega) (by omega) (by omega)]; exact k6 j j0 j1⟩
  · rw [g0, g6, p_up1, p_up1]
  · rw [g6, p_up1]; exact hv
  · rw [g6, p_up1]
    exact ht
  · rw [g6, p_off (by omega), f 92 (by omega) (by omega) (by omega) (by omega)]; exact e1
  · rw [g6, p_off (by omega), f 92 (by omega) (by omega) (by omega) (by omega)]; exact e2
  · intro k hk
    rw [h7, h8]; exact i1 k hk
  · intro b hb
    rw [f b (by omega) (by omega) (by omega) (by omega)]; exact i2 b hb
theorem a_feed {C M : am_M} (hI : Inv C M) (a b c d e : Int) : Pair C M 184 19 [.inl a, .inl b, .inl c, .inl d, .inl e] := by
  obtain ⟨t1, t2, t3⟩ := hI.2.2.2.1
  by_cases q : M 186 16 + 20 ≤ 400
  · have hc := c184 998 a b c d e (M := M) t1 (by omega)
    have hm := m19 999 a b c d e (M := p_st (p_st M 91 (pW20 (M 91) (M 186 16) a b c d e)) 0 (p_up (M 0) 12 (M 186 16 + 20))) (n := M 186 16) (by rw [p_st2 (by decide), p_st2 (by decide)]) (by omega)
    refine ⟨_, _, hc, _, _, hm, rfl, Inv_tape hI (v := M 186 16 + 20) ?_ ?_ (fun b b1 b2 b3 b4 => ?_) (by omega) ?_⟩
    · rw [p_st2 (by decide), p_st2 (by decide), p_st1]
    · rw [p_st1, p_st2 (by decide), p_st2 (by decide)]
    · rw [p_st2 b2, p_st2 b4, p_st2 b1, p_st2 b3]
    · rw [p_st2 (by decide), p_st2 (by decide), p_st2 (by decide), p_st1, p_st2 (by decide), p_st1, p_st2 (by decide), p_st2 (by decide)]
      exact pSame_20 t3
  · refine Pair_e (v := -1) hI ?_ ?_
    · rw [e184, t1, p_w (x := M 186 16 + 20) (by omega) (by omega), if_pos (by omega)]
    · rw [e19, p_w (x := M 186 16 + 20) (by omega) (by omega), if_pos (by omega)]
