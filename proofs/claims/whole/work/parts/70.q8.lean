/-! PURE: hours in thought -/
def pAhd (w : Int → Int) (n : Int) : Int → Int := pF (fun _ v => pHr 0 v) n.toNat w
theorem pAhd_next (w : Int → Int) {i : Int} (h : 0 ≤ i) : pAhd w (i + 1) = pHr 0 (pAhd w i) := (pF_next (fun _ v => pHr 0 v) w h).symm
theorem pAhd_all {w : Int → Int} (hw : WF w) (hb : 0 ≤ w 286) : ∀ n : Nat, WF (pAhd w n) ∧ pTX w (pAhd w n) ∧ pAhd w n 276 = w 276 ∧ pAhd w n 0 = w 0 + n := by
  intro n
  induction n with
  | zero => exact ⟨hw, pTX_refl w, rfl, by show w 0 = w 0 + ((0 : Nat) : Int); omega⟩
  | succ n ih =>
    rw [show ((n + 1 : Nat) : Int) = (n : Int) + 1 from by omega, pAhd_next w (by omega)]
    obtain ⟨i1, i2, i3, i4⟩ := ih
    obtain ⟨⟨k1, k2, k3, k4⟩, k5⟩ := pHr_K 0 i1 (by rw [i2 _ (by omega)]; exact hb)
    exact ⟨k1, pTX_trans i2 k2, k3.trans i3, by rw [k5, i4]; omega⟩
theorem ho14 : IsW 14 := Or.inr (Or.inl rfl)
/-- one hour more in the class's thought -/
theorem c_ahd (d : Nat) {C M M' : am_M} (hI : Inv C M) {i : Int} (hi : 0 ≤ i ∧ i ≤ 301) (hR : WR M' 14 (pAhd (M 187) i)) (hC : CQ M M') : pOk (am_run (d + 7) 233 [.inr 0, .inr 14, .inl 0] M') (fun r M2 => r = pSetL (pHrL (pAhd (M 187) i)) ∧ WR M2 14 (pAhd (M 187) (i + 1)) ∧ CQ M M2) := by
  have hw := hI.1.2.1
  have hh := hI.1.2.2.1
  have hW := hI.1.2.2.2.1
  have hX := hI.1.2.2.2.2.1
  obtain ⟨a1, a2, a3, a4⟩ := pAhd_all hw hW.2.1.1 i.toNat
  rw [show ((i.toNat : Nat) : Int) = i from by omega] at a1 a2 a3 a4
  rw [pAhd_next _ hi.1]
  exact pOk_m (c233 d ho14 hR a1 (TxW_TX a2 hW) (TxR_TX a2 hW (TxR_fr hX (fun b _ _ => hC b (by omega) (by omega) (by omega) (by omega)))) (by omega) 0) (fun r M2 ⟨h1, h2, h3⟩ => ⟨h1, h2, CQ_trans hC (CA_CQ h3)⟩)
theorem c_think (d : Nat) {C M : am_M} (hI : Inv C M) : pOk (am_run (d + 1) 133 [.inr 14, .inr 1] M) (fun _ M' => WR M' 14 (pAhd (M 187) 0) ∧ CQ M M') := by
  refine pOk_m (c133 d ho14 ho1 (by decide) hI.1.2.1.1.2.1.2 hI.1.1) (fun r M' ⟨_, h2, h3⟩ => ⟨h2, fun b hb _ _ _ => h3 b (by omega)⟩)
theorem c237 (d : Nat) {C M : am_M} (hI : Inv C M) {n : Int} (hn : 0 ≤ n ∧ n ≤ 300) : pOk (am_run (d + 8) 237 [.inr 0, .inl n] M) (fun _ M' => WR M' 14 (pAhd (M 187) n) ∧ CQ M M') := by
  have lp : ∀ (k : Nat) (i : Int) (M' : am_M), i = n - k → 0 ≤ i → WR M' 14 (pAhd (M 187) i) → CQ M M' → pOk (am_L (d + 7) 237 7 [some (.inr 0), some (.inl n), some (.inl i)] [] M') (fun _ M' => WR M' 14 (pAhd (M 187) n) ∧ CQ M M') := by
    intro k
    induction k with
    | zero =>
      intro i M' hi h0 hR hC
      obtain rfl : i = n := by omega
      rw [e237_7, if_neg (by omega)]
      exact pOk_s ⟨hR, hC⟩
    | succ k ih =>
      intro i M' hi h0 hR hC
      rw [e237_7, if_pos (by omega), p_w (x := i + 1) (by omega) (by omega)]
      exact pOk_b (c_ahd d hI (by omega) hR hC) (fun r M2 ⟨_, h2, h3⟩ => ih (i + 1) M2 (by omega) (by omega) h2 h3)
  rw [e237]
  exact pOk_b (c_think _ hI) (fun r M1 ⟨h1, h2⟩ => lp n.toNat 0 M1 (by omega) (by omega) h1 h2)
theorem pFa_lo (u : Int → Int) (l : List Int) (h : Int) {k : Int} (hk : k < 27) : pFa u l h k = u k := by
  unfold pFa
  cases l with
  | nil => rfl
  | cons x l =>
    dsimp only
    by_cases q : u 27 = -1
    · rw [if_pos q, p_off (by omega), p_off (by omega)]
    · rw [if_neg q]
theorem pRest {w w' B : Int → Int} (h : ∀ k, 276 ≤ k ∨ k < 0 → w' k = w k) : pCp w' (pCp B w 0 276) 0 276 = w := by
  funext k
  by_cases q : 0 ≤ k ∧ k < 276
  · rw [pCp_in (by omega), pCp_in (by omega)]
  · rw [pCp_out (by omega), h k (by omega)]
/-- one hour more in the model's thought -/
theorem m_ahd (d : Nat) {C M N : am_M} (hI : Inv C M) {i : Int} (hi : 0 ≤ i ∧ i ≤ 301) (u pile f : Int → Int) : ∃ pile' f', am_run (d + 8) 87 [.inr 186, .inl 0] (pS N u (pAhd (M 187) i) pile f) = some (((pHrL (pAhd (M 187) i)).length : Int), pS N (pFa u (pHrL (pAhd (M 187) i)) (pAhd (M 187) i 0)) (pAhd (M 187) (i + 1)) pile' f') := by
  have hw := hI.1.2.1
  have hh := hI.1.2.2.1
  have hW := hI.1.2.2.2.1
  obtain ⟨a1, a2, a3, a4⟩ := pAhd_all hw hW.2.1.1 i.toNat
  rw [show ((i.toNat : Nat) : Int) = i from by omega] at a1 a2 a3 a4
  have hW' := TxW_TX a2 hW
  obtain ⟨pile', f', h⟩ := m87 d 0 (pS N u (pAhd (M 187) i) pile f) a1 ⟨LawT_law hW'.1.1, LawT_law hW'.1.2.1⟩ (by rw [pS_187]; omega) hW'.2.1
  rw [pS_pS, pS_186, pS_187] at h
  rw [pAhd_next _ hi.1]
  exact ⟨pile', f', h⟩
/-- what the model leaves when all is put back -/
theorem m_rest (d : Nat) {C M : am_M} (hI : Inv C M) {i : Int} (hi : 0 ≤ i) {u pile f : Int → Int} (hu : ∀ k, k < 27 → u k = M 186 k) : ∃ M', am_run (d + 1) 105 [.inr 186] (pS (p_st M 190 (pCp (M 190) (M 187) 0 276)) u (pAhd (M 187) i) pile f) = some (0, M') ∧ pMQ M M' ∧ M' 186 = u := by
  have hw := hI.1.2.1
  have hW := hI.1.2.2.2.1
  obtain ⟨a1, a2, a3, a4⟩ := pAhd_all hw hW.2.1.1 i.toNat
  rw [show ((i.toNat : Nat) : Int) = i from by omega] at a2 a3
  refine ⟨pS (p_st M 190 (pCp (M 190) (M 187) 0 276)) u (M 187) pile f, ?_, ⟨fun b h1 h2 h3 => ?_, hu⟩, rfl⟩
  · rw [m105, pS_187, pS_o (by omega), p_st1, pRest (fun k hk => ?_), pS_st187]
    by_cases q : k = 276
    · rw [q, a3]
    · exact a2 k (by omega)
  · by_cases e : b = 187
    · rw [e]; rfl
    · rw [pS_o (by omega), p_st2 (by omega)]
theorem m_asd (M : am_M) (L : Int → Int) : p_st M 190 L = pS (p_st M 190 L) (M 186) (M 187) (M 195) (M 196) := by
  have := pS_id (p_st M 190 L)
  rw [p_st2 (by decide), p_st2 (by decide), p_st2 (by decide), p_st2 (by decide)] at this
  exact this.symm
theorem q_where {C M : am_M} (hI : Inv C M) (h n : Int) : Pair C M 239 108 [.inl h, .inl n] := by
  have hR := hI.1.1
  have hw := hI.1.2.1
  have hW := hI.1.2.2.2.1
  have n2 := hw.1.2.1
  refine Pair_q (v := if (0 ≤ h ∧ h ≤ 2 * M 187 276 - 1) ∧ 0 ≤ n ∧ n ≤ 300 then ph (pAhd (M 187) n) h 8 else -2) hI ?_ (fun M1 hI1 e1 => ?_)
  · rw [e239, c135 _ ho1 hR n2, p_b, p_i0]
    by_cases h1 : 0 ≤ h ∧ h ≤ 2 * M 187 276 - 1
    · rw [if_pos h1, c253, p_b, p_i0]
      by_cases h2 : 0 ≤ n ∧ n ≤ 300
      · rw [if_pos h2, if_pos ⟨h1, h2⟩]
        refine pOk_b (c237 991 hI h2) (fun r M2 ⟨r1, r2⟩ => ?_)
        have e : M2 20 h = ph (pAhd (M 187) n) h 8 := R_at r1 h1.1 (by omega)
        rw [p_c (by omega), e]
        exact pOk_s ⟨rfl, r2⟩
      · rw [if_neg h2, if_neg (fun q => h2 q.2)]; exact pOk_s ⟨rfl, CQ_refl _⟩
    · rw [if_neg h1, if_neg (fun q => h1 q.1)]; exact pOk_s ⟨rfl, CQ_refl _⟩
  · rw [← e1] at hW hw n2 ⊢
    rw [e108, m9 _ _ _ n2, p_b, p_i0]
    by_cases h1 : 0 ≤ h ∧ h ≤ 2 * M1 187 276 - 1
    · rw [if_pos h1, m0, p_b, p_i0]
      by_cases h2 : 0 ≤ n ∧ n ≤ 300
      · have lp : ∀ (k : Nat) (i : Int) (u pile f : Int → Int), i = n - k → 0 ≤ i → (∀ k, k < 27 → u k = M1 186 k) → pOk (am_L 999 108 15 [some (.inr 186), some (.inl h), some (.inl n), some (.inl i)] [] (pS (p_st M1 190 (pCp (M1 190) (M1 187) 0 276)) u (pAhd (M1 187) i) pile f)) (fun r M2 => r = ph (pAhd (M1 187) n) h 8 ∧ pMQ M1 M2) := by
          intro k
          induction k with
          | zero =>
            intro i u pile f hi h0 hu
            obtain rfl : i = n := by omega
            obtain ⟨M', m1, m2, -⟩ := m_rest 998 hI1 h0 (pile := pile) (f := f) hu
            rw [e108_15, if_neg (by omega), m5 _ _ _ _ (by omega) (by omega), p_b, pS_187, m1, p_b]
            exact pOk_s ⟨rfl, m2⟩
          | succ k ih =>
            intro i u pile f hi h0 hu
            obtain ⟨pile', f', hm⟩ := m_ahd (N := p_st M1 190 (pCp (M1 190) (M1 187) 0 276)) 991 hI1 (i := i) (by omega) u pile f
            rw [e108_15, if_pos (by omega), hm, p_b, p_w (x := i + 1) (by omega) (by omega)]
            exact ih (i + 1) _ _ _ (by omega) (by omega) (fun k hk => by rw [pFa_lo _ _ _ hk]; exact hu k hk)
        rw [if_pos h2, if_pos (show (0 ≤ h ∧ h ≤ 2 * M1 187 276 - 1) ∧ 0 ≤ n ∧ n ≤ 300 from ⟨h1, h2⟩), m104, p_b, m_asd]
        exact lp n.toNat 0 _ _ _ (by omega) (by omega) (fun _ _ => rfl)
      · rw [if_neg h2, if_neg (fun q => h2 q.2)]; exact pOk_s ⟨rfl, pMQ_refl _⟩
    · rw [if_neg h1, if_neg (fun q => h1 q.1)]; exact pOk_s ⟨rfl, pMQ_refl _⟩
theorem q_out {C M : am_M} (hI : Inv C M) (n : Int) : Pair C M 240 128 [.inl n] := by
  have hw := hI.1.2.1
  have hW := hI.1.2.2.2.1
  have n2 := hw.1.2.1
  refine Pair_q (v := if 0 ≤ n ∧ n ≤ 300 then pSet (pAway (pAhd (M 187) n)) (2 * M 187 276) else -1) hI ?_ (fun M1 hI1 e1 => ?_)
  · rw [e240, c253, p_b, p_i0]
    by_cases h2 : 0 ≤ n ∧ n ≤ 300
    · obtain ⟨a1, a2, a3, a4⟩ := pAhd_all hw hW.2.1.1 n.toNat
      rw [show ((n.toNat : Nat) : Int) = n from by omega] at a3
      rw [if_pos h2, if_pos h2]
      refine pOk_b (c237 991 hI h2) (fun r M2 ⟨r1, r2⟩ => ?_)
      rw [c140 _ ho14 r1 (by omega), p_b, a3]
      exact pOk_s ⟨rfl, r2⟩
    · rw [if_neg h2, if_neg h2]; exact pOk_s ⟨rfl, CQ_refl _⟩
  · rw [← e1] at hW hw n2 ⊢
    rw [e128, m0, p_b, p_i0]
    by_cases h2 : 0 ≤ n ∧ n ≤ 300
    · obtain ⟨a1, a2, a3, a4⟩ := pAhd_all hw hW.2.1.1 n.toNat
      rw [show ((n.toNat : Nat) : Int) = n from by omega] at a3
      have l2 : ∀ (u pile f : Int → Int), (∀ k, k < 27 → u k = M1 186 k) → ∀ (k : Nat) (i : Int), i = 2 * M1 187 276 - k → 0 ≤ i → pOk (am_L 999 128 24 [some (.inr 186), some (.inl n), some (.inl (pSet (pAway (pAhd (M1 187) n)) i)), some (.inl i)] [] (pS (p_st M1 190 (pCp (M1 190) (M1 187) 0 276)) u (pAhd (M1 187) n) pile f)) (fun r M2 => r = pSet (pAway (pAhd (M1 187) n)) (2 * M1 187 276) ∧ pMQ M1 M2) := by
        intro u pile f hu k
        induction k with
        | zero =>
          intro i hi h0
          obtain ⟨M', m1, m2, -⟩ := m_rest 998 hI1 h2.1 (pile := pile) (f := f) hu
          rw [e128_24, p_c (by omega), pS_187, a3, p_w (by omega) (by omega), if_neg (by omega), m1, p_b, show i = 2 * M1 187 276 from by omega]
          exact pOk_s ⟨rfl, m2⟩
        | succ k ih =>
          intro i hi h0
          have next := ih (i + 1) (by omega) (by omega)
          rw [pSet_next _ h0] at next
          rw [e128_24, p_c (by omega), pS_187, a3, p_w (x := 2 * M1 187 276) (by omega) (by omega), if_pos (by omega), m5 _ _ _ _ (by omega) (by omega), p_b, m13 _ _ _ (by omega), p_b, p_w (x := i + 1) (by omega) (by omega), p_or0 (pSet_in _ _), pS_187]
          unfold pAway at next ⊢
          by_cases q : ph (pAhd (M1 187) n) i 8 = i / 2
          · rw [if_pos q]
            rw [if_neg (by simp [q])] at next
            exact next
          · rw [if_neg q]
            rw [if_pos (by simp [q])] at next
            exact next
      have lp : ∀ (k : Nat) (i : Int) (u pile f : Int → Int), i = n - k → 0 ≤ i → (∀ k, k < 27 → u k = M1 186 k) → pOk (am_L 999 128 11 [some (.inr 186), some (.inl n), some (.inl i), none] [] (pS (p_st M1 190 (pCp (M1 190) (M1 187) 0 276)) u (pAhd (M1 187) i) pile f)) (fun r M2 => r = pSet (pAway (pAhd (M1 187) n)) (2 * M1 187 276) ∧ pMQ M1 M2) := by
        intro k
        induction k with
        | zero =>
          intro i u pile f hi h0 hu
          obtain rfl : i = n := by omega
          rw [e128_11, if_neg (by omega)]
          exact l2 u pile f hu (2 * M1 187 276).toNat 0 (by omega) (by omega)
        | succ k ih =>
          intro i u pile f hi h0 hu
          obtain ⟨pile', f', hm⟩ := m_ahd (N := p_st M1 190 (pCp (M1 190) (M1 187) 0 276)) 991 hI1 (i := i) (by omega) u pile f
          rw [e128_11, if_pos (by omega), hm, p_b, p_w (x := i + 1) (by omega) (by omega)]
          exact ih (i + 1) _ _ _ (by omega) (by omega) (fun k hk => by rw [pFa_lo _ _ _ hk]; exact hu k hk)
      rw [if_pos h2, if_pos h2, m104, p_b, m_asd]
      exact lp n.toNat 0 _ _ _ (by omega) (by omega) (fun _ _ => rfl)
    · rw [if_neg h2, if_neg h2]; exact pOk_s ⟨rfl, pMQ_refl _⟩
