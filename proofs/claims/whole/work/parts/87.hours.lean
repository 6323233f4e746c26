/-! PURE: acts: hours: how many failed -/
def pLow (l : List Int) (n : Int) : Int := (l.filter (fun x => decide (x < n))).length
theorem pLow_c (a : Int) (l : List Int) (n : Int) : pLow (a :: l) n = if a < n then pLow l n + 1 else pLow l n := by
  unfold pLow
  rw [List.filter_cons]
  by_cases h : a < n
  · rw [if_pos (decide_eq_true h), if_pos h, List.length_cons]
    omega
  · rw [if_neg (by simp [h]), if_neg h]
theorem pLow_S (n : Int) : ∀ l : List Int, l.Pairwise (· < ·) → pLow l (n + 1) = if n ∈ l then pLow l n + 1 else pLow l n := by
  intro l
  induction l with
  | nil => intro _; rw [if_neg (by simp)]; rfl
  | cons a l ih =>
    intro h
    have h1 : ∀ y ∈ l, a < y := fun y hy => List.rel_of_pairwise_cons h hy
    have h2 := ih h.of_cons
    rw [pLow_c, pLow_c, h2]
    by_cases e : a = n
    · have no : n ∉ l := fun z => by have := h1 _ z; omega
      rw [if_neg no, if_pos (show n ∈ a :: l by rw [e]; exact List.mem_cons_self), if_pos (by omega), if_neg (show ¬ a < n by omega)]
    · have iff : n ∈ a :: l ↔ n ∈ l := by
        rw [List.mem_cons]
        exact ⟨fun z => z.resolve_left (fun q => e q.symm), Or.inr⟩
      by_cases m : n ∈ l
      · rw [if_pos m, if_pos (iff.mpr m)]
        by_cases q : a < n
        · rw [if_pos (by omega), if_pos q]
        · rw [if_neg (by omega), if_neg q]
      · rw [if_neg m, if_neg (fun z => m (iff.mp z))]
        by_cases q : a < n
        · rw [if_pos (by omega), if_pos q]
        · rw [if_neg (by omega), if_neg q]
theorem pLow_all {l : List Int} {n : Int} (h : ∀ x ∈ l, x < n) : pLow l n = l.length := by
  unfold pLow
  rw [List.filter_eq_self.mpr (fun x hx => decide_eq_true (h x hx))]
theorem pLow_0 {l : List Int} (h : ∀ x ∈ l, 0 ≤ x) : pLow l 0 = 0 := by
  unfold pLow
  rw [List.filter_eq_nil_iff.mpr (fun x hx => by have := h x hx; simp; omega)]
  rfl
theorem pPop_L {l : List Int} (hx : ∀ x ∈ l, 0 ≤ x ∧ x < 16) (hs : l.Pairwise (· < ·)) : pPop (pSetL l) = l.length := by
  have key : ∀ n : Nat, n ≤ 16 → pPopN (pSetL l) n = pLow l n := by
    intro n
    induction n with
    | zero => intro _; exact (pLow_0 (fun x h => (hx x h).1)).symm
    | succ n ih =>
      intro hn
      have t := pSetL_test _ l rfl (fun x h => by have := hx x h; omega) n (by omega)
      rw [show ((n + 1 : Nat) : Int) = (n : Int) + 1 from by omega, pPopN_next _ (by omega), pLow_S _ _ hs, ih (by omega), show ((n : Int)).toNat = n from by omega]
      by_cases m : (n : Int) ∈ l
      · rw [if_pos (t.mpr m), if_pos m]
      · rw [if_neg (fun z => m (t.mp z)), if_neg m]
  rw [pPop_N]
  exact (key 16 (by omega)).trans (pLow_all (fun x h => (hx x h).2))
theorem pT_lt {x : Int} (hx : -2147483648 ≤ x ∧ x ≤ 2147483647) (h : ∀ i, 16 ≤ i → i < 32 → pTest x i = false) : 0 ≤ x ∧ x < 65536 := by
  have e : (Int32.ofInt x).toBitVec.toNat < 2 ^ 16 := by
    refine Nat.lt_pow_two_of_testBit _ (fun i hi => ?_)
    by_cases q : i < 32
    · exact h i hi q
    · exact BitVec.getLsbD_of_ge _ _ (by omega)
  have e2 : x = ((Int32.ofInt x).toBitVec.toNat : Int) := by
    have h1 : (Int32.ofInt x).toInt = x := Int32.toInt_ofInt_of_le (by omega) (by omega)
    have h2 : (Int32.ofInt x).toInt = (Int32.ofInt x).toBitVec.toInt := rfl
    rw [BitVec.toInt_eq_toNat_of_lt (by omega)] at h2
    omega
  omega
theorem pSetL_lt {l : List Int} (hx : ∀ x ∈ l, 0 ≤ x ∧ x < 16) : 0 ≤ pSetL l ∧ pSetL l < 65536 := by
  refine pT_lt (pSetL_in l) (fun i h1 h2 => ?_)
  have t := pSetL_test _ l rfl (fun x h => by have := hx x h; omega) i h2
  cases q : pTest (pSetL l) i with
  | false => rfl
  | true =>
    have := hx _ (t.mp q)
    omega
/-- the model's hours, each after the other: the world, what is kept, how many, how many failed -/
def pHw : Nat → (Int → Int) → Int → Int
  | 0, w => w
  | k + 1, w => pHw k (pHr 1 w)
def pHc : Nat → Int → Int
  | 0, c => c
  | k + 1, c => pHc k (pKc c + 1)
def pHB : Nat → (Int → Int) → (Int → Int) → Int → Int → Int
  | 0, B, _, _ => B
  | k + 1, B, w, c => pHB k (pKept B w c) (pHr 1 w) (pKc c + 1)
def pHt : Nat → (Int → Int) → Int
  | 0, _ => 0
  | k + 1, w => (pHrL w).length + pHt k (pHr 1 w)
theorem pHrL_len {w : Int → Int} (hW : TxW w) : ((pHrL w).length : Int) ≤ 16 := by
  have h := pHrL_ok hW
  rw [← pPop_L h.1 h.2]
  exact (pPop_range _).2
/-- what an hour leaves to be so -/
def pGo (w : Int → Int) (M : am_M) (k : Int) : Prop := WF w ∧ TxW w ∧ TxR M 28 w ∧ 0 ≤ w 0 ∧ w 0 + k ≤ 9999
theorem pGo_next {w : Int → Int} {M M' : am_M} {k : Int} (h : pGo w M (k + 1)) (hf : ∀ b, 28 ≤ b → b ≤ 51 → M' b = M b) : pGo (pHr 1 w) M' k ∧ pTX w (pHr 1 w) := by
  obtain ⟨h1, h2, h3, h4, h5⟩ := h
  obtain ⟨⟨a1, a2, a3, a4⟩, a5⟩ := pHr_K 1 h1 h2.2.1.1
  exact ⟨⟨a1, TxW_TX a2 h2, TxR_TX a2 h2 (TxR_fr h3 (fun b b1 b2 => hf b (by omega) (by omega))), by omega, by omega⟩, a2⟩
/-- the class's -/
theorem c195_18 (d : Nat) (n : Int) : ∀ (k : Nat) (i x2 nx cc m c : Int) (B w : Int → Int) (M : am_M), i = n - k → 0 ≤ i → n ≤ 100 → (0 ≤ x2 ∧ x2 + 16 * k ≤ 2000) → WR M 1 w → pGo w M k → M 0 3 = cc → M 0 4 = nx → (0 ≤ nx ∧ nx < 6) → pRing M nx m c B w → (0 ≤ m ∧ m ≤ c ∧ c ≤ 6) → (m ≤ cc ∧ cc ≤ 6) → ((m = cc ∧ m = c) ∨ 6 ≤ m + k) → pOk (am_L (d + 8) 195 18 [some (.inr 0), some (.inl n), some (.inl x2), some (.inl i)] [] M) (fun r M' => r = x2 + pHt k w ∧ WR M' 1 (pHw k w) ∧ pGo (pHw k w) M' 0 ∧ pTX w (pHw k w) ∧ M' 0 3 = pHc k c ∧ (0 ≤ M' 0 4 ∧ M' 0 4 < 6) ∧ pHc k c ≤ 6 ∧ 0 ≤ pHc k c ∧ pRing M' (M' 0 4) (pHc k c) (pHc k c) (pHB k B w c) (pHw k w) ∧ (∀ f, f ≠ 3 → f ≠ 4 → M' 0 f = M 0 f) ∧ ∀ b, b ≠ 0 → (b < 1 ∨ 26 < b) → b ≠ 105 → b ≠ 106 → b ≠ 107 → (b < 108 ∨ 185 < b) → M' b = M b) := by
  intro k
  induction k with
  | zero =>
    intro i x2 nx cc m c B w M hi h0 hn hx hR hG h3 h4 hnx hr hm hmc hor
    rw [e195_18, if_neg (by omega)]
    have em : m = c := by omega
    have ec : cc = c := by omega
    refine pOk_s ⟨by rw [pHt]; omega, hR, hG, fun _ _ => rfl, by rw [h3, ec]; rfl, by rw [h4]; exact hnx, hm.2.2, by rw [pHc]; omega, ?_, fun _ _ _ => rfl, fun _ _ _ _ _ _ _ => rfl⟩
    rw [h4, pHc, pHB, pHw]
    rw [em] at hr
    exact hr
  | succ k ih =>
    intro i x2 nx cc m c B w M hi h0 hn hx hR hG h3 h4 hnx hr hm hmc hor
    have hw := hG.1
    have hW := hG.2.1
    have n2 := hw.1.2.1
    have hG1 : pGo w M ((k : Int) + 1) := by rw [show (k : Int) + 1 = ((k + 1 : Nat) : Int) from by omega]; exact hG
    have okl := pHrL_ok hW
    have lt := pSetL_lt okl.1
    have len := pHrL_len hW
    have hkc : pKc c + 1 = min (c + 1) 6 := by
      unfold pKc
      by_cases q : c = 6
      · rw [if_pos q]; omega
      · rw [if_neg q]; omega
    have hw4 : ∀ v, pHK w v → ∀ k, 276 ≤ k → k < 285 → v k = w k := fun v hv k k0 k1 => by
      by_cases q : k = 276
      · rw [q]; exact hv.2.2.1
      · exact hv.2.1 k (by omega)
    have hK := pHr_K 1 hw hW.2.1.1
    rw [e195_18, if_pos (by omega), p_w (x := n - i) (by omega) (by omega)]
    by_cases q : 6 < n - i
    · rw [if_pos q]
      refine pOk_b (c233 (d + 1) ho1 hR hw hW hG.2.2.1 ⟨hG.2.2.2.1, by have := hG.2.2.2.2; omega⟩ 1) (fun r M1 ⟨q1, q2, q3⟩ => ?_)
      rw [q1, c255p _ _ lt.1 lt.2, p_b, pPop_L okl.1 okl.2, p_w (x := i + 1) (by omega) (by omega), p_w (x := x2 + ((pHrL w).length : Int)) (by omega) (by omega)]
      have gn := pGo_next (M' := M1) hG1 (fun b b1 b2 => q3 b (by omega) (by omega) (by omega))
      have e0 : M1 0 = M 0 := q3 0 (by omega) (by omega) (by omega)
      refine pOk_m (ih (i + 1) (x2 + (pHrL w).length) nx cc 0 (pKc c + 1) (pKept B w c) (pHr 1 w) M1 (by omega) (by omega) hn (by omega) q2 gn.1 (by rw [e0]; exact h3) (by rw [e0]; exact h4) hnx (fun j j0 j1 => by omega) (by omega) (by omega) (Or.inr (by omega))) (fun r M' ⟨t1, t2, t3, t4, t5, t6, t7, t8, t9, t10, t11⟩ => ?_)
      refine ⟨by rw [t1, pHt]; omega, t2, t3, fun k hk => (t4 k hk).trans (gn.2 k hk), t5, t6, t7, t8, t9, fun f f1 f2 => by rw [t10 f f1 f2, e0], fun b b1 b2 b3 b4 b5 b6 => (t11 b b1 b2 b3 b4 b5 b6).trans (q3 b (by omega) b3 b4)⟩
    · rw [if_neg q]
      refine pOk_b (c196 (d + 6) hR n2.2 (by rw [h3]; omega) (by rw [h4]; exact hnx)) (fun _ M0 ⟨s1, s2, s3, s4, s5⟩ => ?_)
      rw [h4] at s1 s3 s5
      rw [h3] at s2
      have R0 : WR M0 1 w := WR_fr hR (fun b _ _ => s5 b (by omega) (by omega))
      refine pOk_b (c233 (d + 1) ho1 R0 hw hW (TxR_fr hG.2.2.1 (fun b _ _ => s5 b (by omega) (by omega))) ⟨hG.2.2.2.1, by have := hG.2.2.2.2; omega⟩ 1) (fun r M1 ⟨q1, q2, q3⟩ => ?_)
      rw [q1, c255p _ _ lt.1 lt.2, p_b, pPop_L okl.1 okl.2, p_w (x := i + 1) (by omega) (by omega), p_w (x := x2 + ((pHrL w).length : Int)) (by omega) (by omega)]
      have gn := pGo_next (M' := M1) hG1 (fun b b1 b2 => (q3 b (by omega) (by omega) (by omega)).trans (s5 b (by omega) (by omega)))
      have e0 : M1 0 = M0 0 := q3 0 (by omega) (by omega) (by omega)
      have ring := pRing_keep hw ⟨hG.2.2.2.1, by have := hG.2.2.2.2; omega⟩ hnx hm hr s1 s5
      have ring1 : pRing M1 ((nx + 1) % 6) (min (m + 1) 6) (pKc c + 1) (pKept B w c) (pHr 1 w) := pRing_w n2.2 (pRing_fr ring (fun b b1 b2 => q3 b (by omega) (by omega) (by omega))) (hw4 _ hK.1)
      refine pOk_m (ih (i + 1) (x2 + (pHrL w).length) ((nx + 1) % 6) (min (cc + 1) 6) (min (m + 1) 6) (pKc c + 1) (pKept B w c) (pHr 1 w) M1 (by omega) (by omega) hn (by omega) q2 gn.1 (by rw [e0]; exact s2) (by rw [e0]; exact s3) (by omega) ring1 (by omega) (by omega) (by omega)) (fun r M' ⟨t1, t2, t3, t4, t5, t6, t7, t8, t9, t10, t11⟩ => ?_)
      refine ⟨by rw [t1, pHt]; omega, t2, t3, fun k hk => (t4 k hk).trans (gn.2 k hk), t5, t6, t7, t8, t9, fun f f1 f2 => by rw [t10 f f1 f2, e0]; exact s4 f f1 f2, fun b b1 b2 b3 b4 b5 b6 => (t11 b b1 b2 b3 b4 b5 b6).trans ((q3 b (by omega) b3 b4).trans (s5 b b1 (by omega)))⟩
