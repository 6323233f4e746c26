/-! PURE: when all are back; the first booking that fails -/
theorem pSetL_in (l : List Int) : -2147483648 ≤ pSetL l ∧ pSetL l ≤ 2147483647 := by
  rcases List.eq_nil_or_concat l with h | ⟨l', x, h⟩
  · rw [h]; exact ⟨by decide, by decide⟩
  · rw [h, List.concat_eq_append, pSetL_app]; exact p_or_in _ _
theorem pSetL_test : ∀ (n : Nat) (l : List Int), l.length = n → (∀ x ∈ l, 0 ≤ x ∧ x < 32) → ∀ i : Nat, i < 32 → (pTest (pSetL l) i = true ↔ (i : Int) ∈ l) := by
  intro n
  induction n with
  | zero =>
    intro l hl _ i hi
    rw [List.length_eq_zero_iff.mp hl]
    have : pSetL [] = 0 := rfl
    rw [this, pT_0]
    simp
  | succ n ih =>
    intro l hl hx i hi
    rcases List.eq_nil_or_concat l with h | ⟨l', x, h⟩
    · rw [h] at hl; cases hl
    · rw [List.concat_eq_append] at h
      subst h
      have hl' : l'.length = n := by simpa using hl
      have hxx := hx x (by simp)
      have hs := pT_shl x.toNat (by omega) i hi
      rw [show ((x.toNat : Nat) : Int) = x from by omega] at hs
      rw [pSetL_app, pT_or, Bool.or_eq_true, ih l' hl' (fun y hy => hx y (by simp [hy])) i hi, hs, decide_eq_true_iff, List.mem_append, List.mem_singleton]
      exact or_congr Iff.rfl ⟨fun q => by omega, fun q => by omega⟩
theorem pSetL_0 {l : List Int} (hx : ∀ x ∈ l, 0 ≤ x ∧ x < 32) : pSetL l = 0 ↔ l = [] := by
  constructor
  · intro h
    match l with
    | [] => rfl
    | x :: l =>
      have hb := hx x (by simp)
      have := (pSetL_test _ (x :: l) rfl hx x.toNat (by omega)).mpr (by rw [show ((x.toNat : Nat) : Int) = x from by omega]; simp)
      rw [h, pT_0] at this
      cases this
  · intro h; rw [h]; rfl
/-- the failed bookings, in their order -/
theorem pBks_sorted (w : Int → Int) : ∀ n : Nat, (∀ x ∈ (pBks w n).2, 0 ≤ x ∧ x < n) ∧ (pBks w n).2.Pairwise (· < ·) := by
  intro n
  induction n with
  | zero => exact ⟨fun x hx => (by cases hx), List.Pairwise.nil⟩
  | succ n ih =>
    rw [show ((n + 1 : Nat) : Int) = (n : Int) + 1 from by omega, pBks_next w (by omega)]
    generalize pBks w n = s at ih ⊢
    obtain ⟨i1, i2⟩ := ih
    have i3 : ∀ x ∈ s.2, 0 ≤ x ∧ x < (n : Int) + 1 := fun x hx => by have := i1 x hx; omega
    unfold pBk
    by_cases h1 : s.1 (292 + 5 * (n : Int) + 2) = s.1 0
    · rw [if_pos h1]
      by_cases h2 : pCan s.1 (s.1 (292 + 5 * (n : Int))) (s.1 (292 + 5 * (n : Int) + 1)) (s.1 (292 + 5 * (n : Int) + 3)) (s.1 (292 + 5 * (n : Int) + 4)) = true
      · rw [if_pos h2]
        exact ⟨i3, i2⟩
      · rw [if_neg h2]
        refine ⟨fun x hx => ?_, List.pairwise_append.mpr ⟨i2, List.pairwise_singleton _ _, fun a ha b hb => ?_⟩⟩
        · rcases List.mem_append.mp hx with q | q
          · exact i3 x q
          · rw [List.mem_singleton.mp q]; omega
        · rw [List.mem_singleton.mp hb]
          exact (i1 a ha).2
    · rw [if_neg h1]
      exact ⟨i3, i2⟩
theorem pHrL_ok {w : Int → Int} (hW : TxW w) : (∀ x ∈ pHrL w, 0 ≤ x ∧ x < 16) ∧ (pHrL w).Pairwise (· < ·) := by
  have n := hW.2.1
  have := pBks_sorted w (w 286).toNat
  rw [show (((w 286).toNat : Nat) : Int) = w 286 from by omega] at this
  exact ⟨fun x hx => by have := this.1 x hx; omega, this.2⟩
theorem c242 (d : Nat) (M : am_M) {x : Int} {l : List Int} (hl : ∀ y ∈ x :: l, 0 ≤ y ∧ y < 16) (hs : (x :: l).Pairwise (· < ·)) : am_run (d + 1) 242 [.inl (pSetL (x :: l))] M = some (x, M) := by
  have hx := hl x (by simp)
  have lp : ∀ (k : Nat) (i : Int), i = x - k → 0 ≤ i → am_L d 242 2 [some (.inl (pSetL (x :: l))), some (.inl i)] [] M = some (x, M) := by
    intro k
    induction k with
    | zero =>
      intro i hi h0
      obtain rfl : i = x := by omega
      have t := (pSetL_test _ (i :: l) rfl (fun y hy => by have := hl y hy; omega) i.toNat (by omega)).mpr (by rw [show ((i.toNat : Nat) : Int) = i from by omega]; simp)
      rw [e242_2, if_pos (by omega), pT_bitI (by omega), if_pos t, if_pos rfl]
    | succ k ih =>
      intro i hi h0
      have t : ¬ pTest (pSetL (x :: l)) i.toNat = true := by
        intro q
        have := (pSetL_test _ (x :: l) rfl (fun y hy => by have := hl y hy; omega) i.toNat (by omega)).mp q
        rw [show ((i.toNat : Nat) : Int) = i from by omega] at this
        rcases List.mem_cons.mp this with z | z
        · omega
        · have := (List.pairwise_cons.mp hs).1 i z
          omega
      rw [e242_2, if_pos (by omega), pT_bitI (by omega), if_neg t, if_neg (by decide), p_w (by omega) (by omega)]
      exact ih (i + 1) (by omega) (by omega)
  rw [e242]
  exact lp x.toNat 0 (by omega) (by omega)
def pFs (w : Int → Int) : Nat → Int → Int × Int
  | 0, _ => (-1, -1)
  | k + 1, i => match pHrL (pAhd w i) with
    | [] => pFs w k (i + 1)
    | x :: _ => (x, w 0 + i)
theorem q_fails {C M : am_M} (hI : Inv C M) (a : Int) : Pair C M 241 109 [.inl a] := by
  have hw := hI.1.2.1
  have hh := hI.1.2.2.1
  have hW := hI.1.2.2.2.1
  have n2 := hw.1.2.1
  refine Pair_q (v := if 0 ≤ a ∧ a ≤ 1 then (if a = 0 then (pFs (M 187) 300 0).1 else (pFs (M 187) 300 0).2) else -1) hI ?_ (fun M1 hI1 e1 => ?_)
  · rw [e241, c253, p_b, p_i0]
    by_cases h2 : 0 ≤ a ∧ a ≤ 1
    · have lp : ∀ (k : Nat) (i : Int) (o3 o4 : Option am_V) (M' : am_M), i = 300 - k → 0 ≤ i → WR M' 14 (pAhd (M 187) i) → CQ M M' → pOk (am_L 999 241 14 [some (.inr 0), some (.inl a), some (.inl i), o3, o4] [] M') (fun r M' => r = (if a = 0 then (pFs (M 187) k i).1 else (pFs (M 187) k i).2) ∧ CQ M M') := by
        intro k
        induction k with
        | zero =>
          intro i o3 o4 M' hi h0 hR hC
          rw [e241_14, if_neg (by omega)]
          exact pOk_s ⟨by unfold pFs; split <;> rfl, hC⟩
        | succ k ih =>
          intro i o3 o4 M' hi h0 hR hC
          obtain ⟨a1, a2, a3, a4⟩ := pAhd_all hw hW.2.1.1 i.toNat
          rw [show ((i.toNat : Nat) : Int) = i from by omega] at a1 a2 a3 a4
          obtain ⟨l1, l2⟩ := pHrL_ok (TxW_TX a2 hW)
          have eh : M' 14 1 = M 187 0 + i := by rw [R_hr hR, a4]
          rw [e241_14, if_pos (by omega), p_w (x := i + 1) (by omega) (by omega), eh]
          refine pOk_b (c_ahd 992 hI (by omega) hR hC) (fun r M2 ⟨h1, h2', h3⟩ => ?_)
          rw [h1, pFs]
          cases hl : pHrL (pAhd (M 187) i) with
          | nil =>
            dsimp only
            rw [if_pos (show pSetL [] = 0 from rfl)]
            exact ih (i + 1) _ _ M2 (by omega) (by omega) h2' h3
          | cons x l =>
            dsimp only
            rw [hl] at l1 l2
            rw [if_neg (fun q => by have := (pSetL_0 (fun y hy => by have := l1 y hy; omega)).mp q; cases this)]
            by_cases q : a = 1
            · rw [if_pos q, if_neg (by omega)]
              exact pOk_s ⟨rfl, h3⟩
            · rw [if_neg q, if_pos (by omega), c242 _ _ l1 l2, p_b]
              exact pOk_s ⟨rfl, h3⟩
      rw [if_pos h2, if_pos h2]
      refine pOk_b (c_think _ hI) (fun r M1 ⟨h1, h2⟩ => lp 300 0 _ _ M1 (by omega) (by omega) h1 h2)
    · rw [if_neg h2, if_neg h2]; exact pOk_s ⟨rfl, CQ_refl _⟩
  · rw [← e1] at hW hw hh n2 ⊢
    rw [e109, m0, p_b, p_i0]
    by_cases h2 : 0 ≤ a ∧ a ≤ 1
    · have fin : ∀ (u pile f : Int → Int) (i : Int), 0 ≤ i → (∀ k, k < 27 → u k = M1 186 k) → ∀ s : Int × Int, u 27 = s.1 → u 28 = s.2 → pOk (am_bnd (am_run 999 105 [.inr 186] (pS (p_st M1 190 (pCp (M1 190) (M1 187) 0 276)) u (pAhd (M1 187) i) pile f)) (fun _ M2 => (if (a : Int) = 0 then some ((M2 186 27), M2) else some ((M2 186 28), M2)))) (fun r M2 => r = (if a = 0 then s.1 else s.2) ∧ pMQ M1 M2) := by
        intro u pile f i h0 hu s s1 s2
        obtain ⟨M', m1, m2, m3⟩ := m_rest 998 hI1 h0 (pile := pile) (f := f) hu
        rw [m1, p_b, m3, s1, s2]
        by_cases q : a = 0
        · rw [if_pos q, if_pos q]; exact pOk_s ⟨rfl, m2⟩
        · rw [if_neg q, if_neg q]; exact pOk_s ⟨rfl, m2⟩
      have lp : ∀ (k : Nat) (i : Int) (u pile f : Int → Int), i = 300 - k → 0 ≤ i → (∀ k, k < 27 → u k = M1 186 k) → u 27 = -1 → u 28 = -1 → pOk (am_L 999 109 17 [some (.inr 186), some (.inl a), some (.inl i)] [] (pS (p_st M1 190 (pCp (M1 190) (M1 187) 0 276)) u (pAhd (M1 187) i) pile f)) (fun r M2 => r = (if a = 0 then (pFs (M1 187) k i).1 else (pFs (M1 187) k i).2) ∧ pMQ M1 M2) := by
        intro k
        induction k with
        | zero =>
          intro i u pile f hi h0 hu u7 u8
          rw [e109_17, if_neg (by omega)]
          exact fin u pile f i h0 hu (-1, -1) u7 u8
        | succ k ih =>
          intro i u pile f hi h0 hu u7 u8
          obtain ⟨a1, a2, a3, a4⟩ := pAhd_all hw hW.2.1.1 i.toNat
          rw [show ((i.toNat : Nat) : Int) = i from by omega] at a1 a2 a3 a4
          obtain ⟨l1, l2⟩ := pHrL_ok (TxW_TX a2 hW)
          obtain ⟨pile', f', hm⟩ := m_ahd (N := p_st M1 190 (pCp (M1 190) (M1 187) 0 276)) 991 hI1 (i := i) (by omega) u pile f
          rw [e109_17, if_pos (by omega), pS_186, if_pos u7, hm, p_b, p_w (x := i + 1) (by omega) (by omega), pFs]
          cases hl : pHrL (pAhd (M1 187) i) with
          | nil =>
            exact ih (i + 1) _ _ _ (by omega) (by omega) hu u7 u8
          | cons x l =>
            rw [hl] at l1
            have hx := l1 x (by simp)
            dsimp only
            have e : pFa u (x :: l) (pAhd (M1 187) i 0) = p_up (p_up u 27 x) 28 (M1 187 0 + i) := by
              show (if u 27 = -1 then p_up (p_up u 27 x) 28 (pAhd (M1 187) i 0) else u) = _
              rw [if_pos u7, a4]
            have e27 : p_up (p_up u 27 x) 28 (M1 187 0 + i) 27 = x := by rw [p_off (by omega), p_up1]
            rw [e]
            -- it stops at the next turn
            rw [e109_17]
            have hu' : ∀ k, k < 27 → p_up (p_up u 27 x) 28 (M1 187 0 + i) k = M1 186 k := fun k hk => by rw [p_off (by omega), p_off (by omega)]; exact hu k hk
            have fin' := fin (p_up (p_up u 27 x) 28 (M1 187 0 + i)) pile' f' (i + 1) (by omega) hu' (x, M1 187 0 + i) e27 (p_up1 _ _ _)
            by_cases q : i + 1 < 300
            · rw [if_pos q, pS_186, e27, if_neg (by omega)]
              exact fin'
            · rw [if_neg q]
              exact fin'
      rw [if_pos h2, if_pos h2, m104, p_b, p_upd, p_upd, m_asd, pS_st186, pS_st186]
      simp only [pS_186]
      refine lp 300 0 _ _ _ (by omega) (by omega) (fun k hk => by rw [p_off (by omega), p_off (by omega)]) ?_ (p_up1 _ _ _)
      rw [p_off (by omega), p_up1]
    · rw [if_neg h2, if_neg h2]; exact pOk_s ⟨rfl, pMQ_refl _⟩
theorem pSet_zero (P : Int → Bool) : ∀ k : Nat, k ≤ 32 → (pSet P k = 0 ↔ ∀ j : Nat, j < k → P j = false) := by
  intro k hk
  have t := pSetQ_test P id k (fun j hj _ => by simp only [id]; omega)
  constructor
  · intro h j hj
    cases hp : P j with
    | false => rfl
    | true =>
      have := (t j (by omega)).mpr ⟨j, hj, hp, rfl⟩
      rw [← pSet_Q, h, pT_0] at this
      cases this
  · intro h
    refine pT_eq (pSet_in _ _) (by decide) (fun i hi => ?_)
    rw [pT_0]
    cases hp : pTest (pSet P k) i with
    | false => rfl
    | true =>
      obtain ⟨j, j1, j2, -⟩ := (t i hi).mp hp
      rw [h j j1] at j2
      cases j2
theorem m106 (d : Nat) (M : am_M) (hn : 0 ≤ M 187 276 ∧ M 187 276 ≤ 8) : am_run (d + 2) 106 [.inr 186] M = some (if pSet (pAway (M 187)) (2 * M 187 276) = 0 then 1 else 0, M) := by
  have z := pSet_zero (pAway (M 187)) (2 * M 187 276).toNat (by omega)
  rw [show (((2 * M 187 276).toNat : Nat) : Int) = 2 * M 187 276 from by omega] at z
  have lp : ∀ (k : Nat) (i : Int), i = 2 * M 187 276 - k → 0 ≤ i → (∀ j : Nat, (j : Int) < i → pAway (M 187) j = false) → am_L (d + 1) 106 2 [some (.inr 186), some (.inl i)] [] M = some (if pSet (pAway (M 187)) (2 * M 187 276) = 0 then 1 else 0, M) := by
    intro k
    induction k with
    | zero =>
      intro i hi h0 hj
      rw [e106_2, p_c (by omega), p_w (by omega) (by omega), if_neg (by omega), if_pos (z.mpr (fun j h => hj j (by omega)))]
    | succ k ih =>
      intro i hi h0 hj
      rw [e106_2, p_c (by omega), p_w (x := 2 * M 187 276) (by omega) (by omega), if_pos (by omega), m5 _ _ _ _ (by omega) (by omega), p_b, m13 _ _ _ (by omega), p_b, p_w (x := i + 1) (by omega) (by omega)]
      by_cases q : ph (M 187) i 8 = i / 2
      · rw [if_pos q]
        refine ih (i + 1) (by omega) (by omega) (fun j h => ?_)
        by_cases e : (j : Int) = i
        · rw [e]; exact decide_eq_false (fun y => y q)
        · exact hj j (by omega)
      · rw [if_neg q, if_neg]
        intro h
        have := z.mp h i.toNat (by omega)
        rw [show ((i.toNat : Nat) : Int) = i from by omega] at this
        exact (of_decide_eq_false this) q
  rw [e106]
  exact lp (2 * M 187 276).toNat 0 (by omega) (by omega) (fun j h => by omega)
def pBa (w : Int → Int) : Nat → Int → Int
  | 0, _ => -1
  | k + 1, i => if pSet (pAway (pAhd w i)) (2 * w 276) = 0 then w 0 + i else pBa w k (i + 1)
theorem q_back {C M : am_M} (hI : Inv C M) : Pair C M 238 107 [] := by
  have hw := hI.1.2.1
  have hh := hI.1.2.2.1
  have hW := hI.1.2.2.2.1
  have n2 := hw.1.2.1
  refine Pair_q (v := pBa (M 187) 301 0) hI ?_ (fun M1 hI1 e1 => ?_)
  · have lp : ∀ (k : Nat) (i : Int) (M' : am_M), i = 300 - k → 0 ≤ i → WR M' 14 (pAhd (M 187) i) → CQ M M' → pOk (am_L 999 238 7 [some (.inr 0), some (.inl i)] [] M') (fun r M' => r = pBa (M 187) (k + 1) i ∧ CQ M M') := by
      intro k
      induction k with
      | zero =>
        intro i M' hi h0 hR hC
        obtain ⟨a1, a2, a3, a4⟩ := pAhd_all hw hW.2.1.1 i.toNat
        rw [show ((i.toNat : Nat) : Int) = i from by omega] at a1 a2 a3 a4
        have eh : M' 14 1 = M 187 0 + i := by rw [R_hr hR, a4]
        rw [e238_7, if_neg (by omega), c140 _ ho14 hR (by omega), p_b, a3, pBa, eh]
        by_cases q : pSet (pAway (pAhd (M 187) i)) (2 * M 187 276) = 0
        · rw [if_pos q, if_pos q]; exact pOk_s ⟨rfl, hC⟩
        · rw [if_neg q, if_neg q]; exact pOk_s ⟨rfl, hC⟩
      | succ k ih =>
        intro i M' hi h0 hR hC
        obtain ⟨a1, a2, a3, a4⟩ := pAhd_all hw hW.2.1.1 i.toNat
        rw [show ((i.toNat : Nat) : Int) = i from by omega] at a1 a2 a3 a4
        have eh : M' 14 1 = M 187 0 + i := by rw [R_hr hR, a4]
        rw [e238_7, if_pos (by omega), c140 _ ho14 hR (by omega), p_b, a3, pBa, eh, p_w (x := i + 1) (by omega) (by omega)]
        by_cases q : pSet (pAway (pAhd (M 187) i)) (2 * M 187 276) = 0
        · rw [if_pos q, if_pos q]; exact pOk_s ⟨rfl, hC⟩
        · rw [if_neg q, if_neg q]
          exact pOk_b (c_ahd 992 hI (by omega) hR hC) (fun r M2 ⟨_, h2, h3⟩ => ih (i + 1) M2 (by omega) (by omega) h2 h3)
    rw [e238]
    exact pOk_b (c_think _ hI) (fun r M1 ⟨h1, h2⟩ => lp 300 0 M1 (by omega) (by omega) h1 h2)
  · rw [← e1] at hW hw hh n2 ⊢
    have fin : ∀ (u pile f : Int → Int) (i x : Int), 0 ≤ i → (∀ k, k < 27 → u k = M1 186 k) → pOk (am_bnd (am_run 999 105 [.inr 186] (pS (p_st M1 190 (pCp (M1 190) (M1 187) 0 276)) u (pAhd (M1 187) i) pile f)) (fun _ M2 => some (x, M2))) (fun r M2 => r = x ∧ pMQ M1 M2) := by
      intro u pile f i x h0 hu
      obtain ⟨M', m1, m2, m3⟩ := m_rest 998 hI1 h0 (pile := pile) (f := f) hu
      rw [m1, p_b]
      exact pOk_s ⟨rfl, m2⟩
    have lp : ∀ (k : Nat) (i : Int) (u pile f : Int → Int), i = 301 - k → 0 ≤ i → (∀ k, k < 27 → u k = M1 186 k) → pOk (am_L 999 107 6 [some (.inr 186), some (.inl (-1)), some (.inl i)] [] (pS (p_st M1 190 (pCp (M1 190) (M1 187) 0 276)) u (pAhd (M1 187) i) pile f)) (fun r M2 => r = pBa (M1 187) k i ∧ pMQ M1 M2) := by
      intro k
      induction k with
      | zero =>
        intro i u pile f hi h0 hu
        rw [e107_6, if_pos (by omega)]
        exact fin u pile f i (-1) h0 hu
      | succ k ih =>
        intro i u pile f hi h0 hu
        obtain ⟨a1, a2, a3, a4⟩ := pAhd_all hw hW.2.1.1 i.toNat
        rw [show ((i.toNat : Nat) : Int) = i from by omega] at a1 a2 a3 a4
        obtain ⟨pile', f', hm⟩ := m_ahd (N := p_st M1 190 (pCp (M1 190) (M1 187) 0 276)) 991 hI1 (i := i) (by omega) u pile f
        rw [e107_6, if_neg (by omega), if_pos rfl, m106 _ _ (by rw [pS_187]; omega), p_b, pS_187, a3, p_i0, p_w (x := i + 1) (by omega) (by omega), pBa]
        by_cases q : pSet (pAway (pAhd (M1 187) i)) (2 * M1 187 276) = 0
        · rw [if_pos q, if_pos q, p_c (by omega), a4, e107_6]
          by_cases q2 : 300 < i + 1
          · rw [if_pos q2]
            exact fin u pile f i _ h0 hu
          · rw [if_neg q2, if_neg (by omega)]
            exact fin u pile f i _ h0 hu
        · rw [if_neg q, if_neg q, hm, p_b]
          exact ih (i + 1) _ _ _ (by omega) (by omega) (fun k hk => by rw [pFa_lo _ _ _ hk]; exact hu k hk)
    rw [e107, m104, p_b, m_asd]
    exact lp 301 0 _ _ _ (by omega) (by omega) (fun _ _ => rfl)
