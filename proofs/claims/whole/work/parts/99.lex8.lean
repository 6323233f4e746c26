/-! PURE: text: the model reads the head of the tokens -/
/-- the model's kind of a token of the class, in text k -/
def sMk (k K : Int) : Int := if K = 202 then 0 else if K = 200 then 2 else if K = 201 then 1 else if K < 35 then sWk k K else 100 + K
def sStr (M : am_M) : Prop := ∀ i, i < 36 → M (300 + i) 0 = 0 ∧ ∀ j, 0 ≤ j → M (400 + i) j = (sByt i).getD j.toNat 0
theorem sStr_fr {M M' : am_M} (h : sStr M) (hf : ∀ b, 199 ≤ b → M' b = M b) : sStr M' := by
  intro i hi
  rw [hf (300 + i) (by omega), hf (400 + i) (by omega)]
  exact h i hi
/-- the model's token is q -/
def sTokM (M : am_M) (q : Int × Int × Int) : Prop := M 186 18 = sMk (M 186 12) q.1 ∧ M 186 19 = q.2.2 ∧ (q.1 = 200 → M 186 20 = q.2.1)
/-- these tokens lie ahead -/
def sPre (M : am_M) (l : List (Int × Int × Int)) : Prop := (0 ≤ M 186 17 ∧ M 186 17 ≤ M 186 16 ∧ M 186 16 ≤ 400) ∧ (∀ j, 0 ≤ j → j < M 186 16 → 0 ≤ M 194 j) ∧ sStr M ∧ ∃ K : Nat, M 186 16 - M 186 17 ≤ K ∧ l = sLex (M 194) (M 186 16) K (M 186 17) ++ [(202, 0, M 186 16)]
theorem sVal_0 (f : Int → Int) (a : Int) (k : Nat) : sVal f (k + 1) a 0 = sVal f k (a + 1) (f a - 48) := by
  rw [sVal]
  congr 1
  omega
theorem sSig_ne {c x : Int} (h : ¬ sSig c = true) (hx : sSig x = true) : ¬ c = x := fun z => h (z ▸ hx)
theorem m32_0 (d : Nat) {f : Int → Int} {n : Int} (hn : n ≤ 400) (hf0 : ∀ j, 0 ≤ j → j < n → 0 ≤ f j) : ∀ (K : Nat) (i : Int) (M : am_M), n - i ≤ K → 0 ≤ i → i ≤ n → M 186 16 = n → M 194 = f → M 186 17 = i → sStr M → pOk (am_L (d + 8) 32 0 [some (.inr 186), none, none] [] M) (fun _ M' => ∃ q l', sLex f n K i ++ [(202, 0, n)] = q :: l' ∧ sTokM M' q ∧ (q.1 ≠ 202 → sPre M' l') ∧ sFr M M') := by
  intro K
  induction K with
  | zero =>
    intro i M hK h0 h1 h16 hf h17 hS
    have r : ∀ N : am_M, N 186 16 = n → N 186 17 = i → am_run (d + 8) 21 [.inr 186, .inl (N 186 17)] N = some (-1, N) := fun N a b => by rw [b, m21 _ a hn h0, if_neg (by omega)]
    rw [e32_0, r M h16 h17, p_b, if_neg (by decide), r M h16 h17, p_b, if_neg (by decide), p_upd, r _ (by rw [p_st1, p_off (by omega)]; exact h16) (by rw [p_st1, p_off (by omega)]; exact h17), p_b, if_pos rfl, p_upd, h17]
    refine pOk_s ⟨(202, 0, n), [], rfl, ⟨?_, ?_, fun z => absurd (show (202 : Int) = 200 from z) (by decide)⟩, fun z => absurd rfl z, ?_⟩
    · rw [p_st1, p_up1]
      rfl
    · rw [p_st1, p_off (by omega), p_st1, p_up1]
      show i = n
      omega
    · exact sFr_trans (sFr_up M (by omega)) (sFr_up _ (by omega))
  | succ K ih =>
    intro i M hK h0 h1 h16 hf h17 hS
    by_cases qi : i < n
    · have c0 := hf0 i h0 qi
      have r : ∀ N : am_M, N 186 16 = n → N 186 17 = i → N 194 = f → am_run (d + 8) 21 [.inr 186, .inl (N 186 17)] N = some (f i, N) := fun N a b c => by rw [b, m21 _ a hn h0, if_pos qi, c]
      rw [sLex, if_pos qi, e32_0, r M h16 h17 hf, p_b]
      have go := ih (i + 1) (p_st M 186 (p_up (M 186) 17 (i + 1))) (by omega) (by omega) (by omega) (by rw [p_st1, p_off (by omega)]; exact h16) (by rw [p_st2 (by decide)]; exact hf) (by rw [p_st1, p_up1]) (sStr_fr hS (fun b hb => p_st2 (by omega)))
      have w17 : am_wrap (M 186 17 + 1) = i + 1 := by rw [h17, p_w (x := i + 1) (by omega) (by omega)]
      by_cases q32 : f i = 32
      · rw [if_pos (show (f i : Int) = 32 from q32), if_pos (Or.inl q32), w17, p_upd]
        exact pOk_m go (fun _ M' ⟨q, l', a, b, c, e⟩ => ⟨q, l', a, b, c, sFr_trans (sFr_up M (by omega)) e⟩)
      rw [if_neg (show ¬ (f i : Int) = 32 from q32), r M h16 h17 hf, p_b]
      by_cases q10 : f i = 10
      · rw [if_pos (show (f i : Int) = 10 from q10), if_pos (Or.inr q10), w17, p_upd]
        exact pOk_m go (fun _ M' ⟨q, l', a, b, c, e⟩ => ⟨q, l', a, b, c, sFr_trans (sFr_up M (by omega)) e⟩)
      have hin := sCutE_in f qi
      have a16 : (p_st M 186 (p_up (M 186) 19 i)) 186 16 = n := by rw [p_st1, p_off (by omega)]; exact h16
      have a17 : (p_st M 186 (p_up (M 186) 19 i)) 186 17 = i := by rw [p_st1, p_off (by omega)]; exact h17
      have a19 : (p_st M 186 (p_up (M 186) 19 i)) 186 19 = i := by rw [p_st1, p_up1]
      have a12 : (p_st M 186 (p_up (M 186) 19 i)) 186 12 = M 186 12 := by rw [p_st1, p_off (by omega)]
      have af : (p_st M 186 (p_up (M 186) 19 i)) 194 = f := by rw [p_st2 (by decide)]; exact hf
      have aS : sStr (p_st M 186 (p_up (M 186) 19 i)) := sStr_fr hS (fun b hb => p_st2 (by omega))
      have aF : sFr M (p_st M 186 (p_up (M 186) 19 i)) := sFr_up M (by omega)
      rw [if_neg (show ¬ (f i : Int) = 10 from q10), if_neg (show ¬ (f i = 32 ∨ f i = 10) from fun z => z.elim q32 q10), p_upd, h17, r _ a16 a17 af, p_b, if_neg (show ¬ (f i : Int) = -1 by omega), m22, p_b]
      generalize p_st M 186 (p_up (M 186) 19 i) = A at *
      -- what must hold at the end
      have fin : ∀ M', M' 186 17 = sCutE f n i → M' 186 18 = sMk (A 186 12) (sCutK f n i) → M' 186 19 = i → (sCutK f n i = 200 → M' 186 20 = sCutV f n i) → sFr A M' → ∃ q l', (sCutK f n i, sCutV f n i, i) :: sLex f n K (sCutE f n i) ++ [(202, 0, n)] = q :: l' ∧ sTokM M' q ∧ (q.1 ≠ 202 → sPre M' l') ∧ sFr M M' := by
        intro M' b17 b18 b19 b20 bF
        have b16 : M' 186 16 = n := (bF.1 16 (by omega) (by omega) (by omega) (by omega)).trans a16
        have b94 : M' 194 = f := (bF.2 194 (by omega)).trans af
        refine ⟨_, _, rfl, ⟨?_, b19, b20⟩, fun _ => ⟨?_, ?_, sStr_fr aS (fun b hb => bF.2 b (by omega)), K, ?_, ?_⟩, sFr_trans aF bF⟩
        · rw [b18, bF.1 12 (by omega) (by omega) (by omega) (by omega)]
        · rw [b16, b17]
          omega
        · rw [b16, b94]
          exact hf0
        · rw [b16, b17]
          omega
        · rw [b16, b17, b94]
          rfl
      by_cases qL : sLet (f i) = true
      · rw [if_pos qL, if_neg (by decide), m32_38 (d + 6) (f := f) hn _ (n - i).toNat i A (by omega) h0 a16 af a17]
        have eE : sTo (fun c => sLet c) f n (n - i).toNat i = sCutE f n i := by
          unfold sCutE
          rw [if_pos qL, show (n - i).toNat = (n - (i + 1)).toNat + 1 from by omega, sTo, if_pos (show i < n ∧ (fun c => sLet c) (f i) = true from ⟨qi, qL⟩)]
        rw [eE]
        have hA : ∀ d', d + 5 ≤ d' → ∀ j, j < 36 → am_run d' 24 [.inr 186, .inr (300 + j)] (p_st A 186 (p_up (A 186) 17 (sCutE f n i))) = some (if sHit f i (sCutE f n i) j = true then 1 else 0, p_st A 186 (p_up (A 186) 17 (sCutE f n i))) := by
          intro d' hd j hj
          obtain ⟨z, rfl⟩ : ∃ z, d' = z + 5 := ⟨d' - 5, by omega⟩
          have h19 : (p_st A 186 (p_up (A 186) 17 (sCutE f n i))) 186 19 = i := by rw [p_st1, p_off (by omega)]; exact a19
          have h17' : (p_st A 186 (p_up (A 186) 17 (sCutE f n i))) 186 17 = sCutE f n i := by rw [p_st1, p_up1]
          rw [m24 z hj (sStr_fr aS (fun b hb => p_st2 (by omega)) j hj) (by rw [h19]; exact h0) (by rw [h19, h17']; omega) (by rw [h17']; omega), h19, h17', p_st2 (by decide), af]
        rw [m31 hA, p_b, p_st1, p_st3, p_off (show (12 : Int) < 17 ∨ (17 : Int) < 12 by omega), sWk_ok]
        refine pOk_s (fin _ ?_ ?_ ?_ ?_ ?_)
        · rw [p_st1, p_off (by omega), p_up1]
        · rw [p_st1, p_up1]
          unfold sCutK sMk
          rw [if_pos qL]
          rcases sFind_or f i (sCutE f n i) 35 0 with ⟨m, h1, h2, h3, h4⟩ | ⟨h1, h2⟩
          · rw [h3, if_neg (by omega), if_neg (by omega), if_neg (by omega), if_pos (by omega)]
          · rw [h1, if_neg (by decide), if_neg (by decide), if_pos rfl, sWk, if_neg (by decide)]
        · rw [p_st1, p_off (by omega), p_off (by omega)]
          exact a19
        · intro z
          exfalso
          unfold sCutK at z
          rw [if_pos qL] at z
          rcases sFind_or f i (sCutE f n i) 35 0 with ⟨m, h1, h2, h3, h4⟩ | ⟨h1, h2⟩ <;> omega
        · exact ⟨fun g g1 g2 g3 g4 => by rw [p_st1, p_off (by omega), p_off (by omega)], fun b hb => p_st2 hb⟩
      rw [if_neg qL, if_pos rfl, m23, p_b]
      by_cases qD : sDig (f i) = true
      · have qd : 48 ≤ f i ∧ f i ≤ 57 := of_decide_eq_true qD
        rw [if_pos qD, if_neg (by decide), p_upd]
        have eE : sTo (fun c => sDig c) f n (n - i).toNat i = sCutE f n i := by
          unfold sCutE
          rw [if_neg qL, if_pos qD, show (n - i).toNat = (n - (i + 1)).toNat + 1 from by omega, sTo, if_pos (show i < n ∧ (fun c => sDig c) (f i) = true from ⟨qi, qD⟩)]
        refine pOk_m (m32_62 (d + 6) (f := f) hn h0 _ (n - i).toNat i 0 _ (by omega) (by omega) (by rw [p_st1, p_off (by omega)]; exact a16) (by rw [p_st2 (by decide)]; exact af) (by rw [p_st1, p_off (by omega)]; exact a17) (by rw [p_st1, p_off (by omega)]; exact a19) (by rw [p_st1, p_up1]) (fun _ => rfl) (by unfold sFew; omega)) (fun _ M' ⟨g1, g2, g3, g4, g5⟩ => fin M' ?_ ?_ g3 ?_ (sFr_trans (sFr_up A (by omega)) g5))
        · rw [g1, eE]
        · rw [g2, eE]
          unfold sCutK sMk
          rw [if_neg qL, if_pos qD]
          by_cases q4 : sCutE f n i - i ≤ 4
          · rw [if_pos q4, if_pos q4, if_neg (by decide), if_pos rfl]
          · rw [if_neg q4, if_neg q4, if_neg (by decide), if_neg (by decide), if_pos rfl]
        · intro z
          have q4 : sCutE f n i - i ≤ 4 := by
            unfold sCutK at z
            rw [if_neg qL, if_pos qD] at z
            by_cases q4 : sCutE f n i - i ≤ 4
            · exact q4
            · rw [if_neg q4] at z
              omega
          rw [eE] at g4
          rw [g4 q4, show (sCutE f n i - i).toNat = (sCutE f n i - (i + 1)).toNat + 1 from by omega, sVal_0]
          unfold sCutV
          rw [if_pos qD]
      have eE : sCutE f n i = i + 1 := by
        unfold sCutE
        rw [if_neg qL, if_neg qD]
      have wA : am_wrap (A 186 17 + 1) = i + 1 := by rw [a17, p_w (x := i + 1) (by omega) (by omega)]
      rw [if_neg qD, if_pos rfl, wA]
      simp only [p_upd, e32_144]
      have fin2 : ∀ v, v = sMk (A 186 12) (sCutK f n i) → pOk (some (0, p_st (p_st A 186 (p_up (A 186) 17 (i + 1))) 186 (p_up ((p_st A 186 (p_up (A 186) 17 (i + 1))) 186) 18 v))) (fun (_ : Int) M' => ∃ q l', (sCutK f n i, sCutV f n i, i) :: sLex f n K (sCutE f n i) ++ [(202, 0, n)] = q :: l' ∧ sTokM M' q ∧ (q.1 ≠ 202 → sPre M' l') ∧ sFr M M') := by
        intro v hv
        refine pOk_s (fin _ ?_ ?_ ?_ ?_ ?_)
        · rw [p_st1, p_off (by omega), p_st1, p_up1, eE]
        · rw [p_st1, p_up1, hv]
        · rw [p_st1, p_off (by omega), p_st1, p_off (by omega)]
          exact a19
        · intro z
          unfold sCutK at z
          rw [if_neg qL, if_neg qD] at z
          by_cases qS : sSig (f i) = true
          · rw [if_pos qS] at z
            have := of_decide_eq_true qS
            omega
          · rw [if_neg qS] at z
            omega
        · exact ⟨fun g g1 g2 g3 g4 => by rw [p_st1, p_off (by omega), p_st1, p_off (by omega)], fun b hb => by rw [p_st2 hb, p_st2 hb]⟩
      have wx : ∀ x : Int, sSig x = true → am_wrap (100 + x) = 100 + x := by
        intro x hx
        have := of_decide_eq_true hx
        exact p_w (by omega) (by omega)
      by_cases qS : sSig (f i) = true
      · have qs := of_decide_eq_true qS
        have ek : 100 + f i = sMk (A 186 12) (sCutK f n i) := by
          unfold sCutK sMk
          rw [if_neg qL, if_neg qD, if_pos qS, if_neg (by omega), if_neg (by omega), if_neg (by omega), if_neg (by omega)]
        rw [wx _ qS]
        rw [if_neg (show ¬ (1 : Int) = 0 by decide)]
        have F := fin2 _ ek
        by_cases q1 : f i = 59
        · rw [if_pos q1]; exact F
        rw [if_neg q1]
        by_cases q2 : f i = 43
        · rw [if_pos q2]; exact F
        rw [if_neg q2]
        by_cases q3 : f i = 45
        · rw [if_pos q3]; exact F
        rw [if_neg q3]
        by_cases q4 : f i = 42
        · rw [if_pos q4]; exact F
        rw [if_neg q4]
        by_cases q5 : f i = 47
        · rw [if_pos q5]; exact F
        rw [if_neg q5]
        by_cases q6 : f i = 40
        · rw [if_pos q6]; exact F
        rw [if_neg q6]
        by_cases q7 : f i = 41
        · rw [if_pos q7]; exact F
        rw [if_neg q7]
        by_cases q8 : f i = 60
        · rw [if_pos q8]; exact F
        rw [if_neg q8]
        by_cases q9 : f i = 61
        · rw [if_pos q9]; exact F
        rw [if_neg q9]
        by_cases q0 : f i = 62
        · rw [if_pos q0]; exact F
        omega
      · rw [if_neg (sSig_ne qS (by decide)), if_neg (sSig_ne qS (by decide)), if_neg (sSig_ne qS (by decide)), if_neg (sSig_ne qS (by decide)), if_neg (sSig_ne qS (by decide)), if_neg (sSig_ne qS (by decide)), if_neg (sSig_ne qS (by decide)), if_neg (sSig_ne qS (by decide)), if_neg (sSig_ne qS (by decide)), if_neg (sSig_ne qS (by decide)), if_pos trivial]
        refine fin2 _ ?_
        unfold sCutK sMk
        rw [if_neg qL, if_neg qD, if_neg qS]
        rfl
    · have r : ∀ N : am_M, N 186 16 = n → N 186 17 = i → am_run (d + 8) 21 [.inr 186, .inl (N 186 17)] N = some (-1, N) := fun N a b => by rw [b, m21 _ a hn h0, if_neg (by omega)]
      rw [sLex, if_neg qi, e32_0, r M h16 h17, p_b, if_neg (by decide), r M h16 h17, p_b, if_neg (by decide), p_upd, r _ (by rw [p_st1, p_off (by omega)]; exact h16) (by rw [p_st1, p_off (by omega)]; exact h17), p_b, if_pos rfl, p_upd, h17]
      refine pOk_s ⟨(202, 0, n), [], rfl, ⟨?_, ?_, fun z => absurd (show (202 : Int) = 200 from z) (by decide)⟩, fun z => absurd rfl z, ?_⟩
      · rw [p_st1, p_up1]
        rfl
      · rw [p_st1, p_off (by omega), p_st1, p_up1]
        show i = n
        omega
      · exact sFr_trans (sFr_up M (by omega)) (sFr_up _ (by omega))
theorem m32 (d : Nat) {M : am_M} {l : List (Int × Int × Int)} (h : sPre M l) : pOk (am_run (d + 9) 32 [.inr 186] M) (fun _ M' => ∃ q l', l = q :: l' ∧ sTokM M' q ∧ (q.1 ≠ 202 → sPre M' l') ∧ sFr M M') := by
  obtain ⟨⟨h0, h1, h2⟩, h3, h4, K, h5, rfl⟩ := h
  rw [show am_run (d + 9) 32 [.inr 186] M = am_L (d + 8) 32 0 [some (.inr 186), none, none] [] M from by rw [e32, e32_0]]
  exact m32_0 d h2 h3 K _ M h5 h0 h1 rfl rfl rfl h4
