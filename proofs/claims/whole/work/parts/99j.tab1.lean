/-! PURE: text: a cell of a table -/
theorem s_tbT3 : ∀ K : Nat, K < 35 → ((sWk 3 K = 7 ↔ K = 28) ∧ (sWk 3 K = 8 ↔ K = 29) ∧ (sWk 3 K = 9 ↔ K = 30) ∧ (sWk 3 K = 10 ↔ K = 31) ∧ (sWk 3 K = 11 ↔ K = 5)) := by decide +kernel
theorem s_tbT4 : ∀ K : Nat, K < 35 → ((sWk 4 K = 12 ↔ K = 32) ∧ (sWk 4 K = 13 ↔ K = 33) ∧ (sWk 4 K = 14 ↔ K = 34) ∧ (sWk 4 K = 24 ↔ K = 26)) := by decide +kernel
theorem s_tbT5 : ∀ K : Nat, K < 35 → (1 ≤ sWk 3 K ∧ sWk 3 K ≤ 60 ∧ sWk 3 K ≠ 2) ∧ (1 ≤ sWk 4 K ∧ sWk 4 K ≤ 60 ∧ sWk 4 K ≠ 2) := by decide +kernel
def sKT (k K : Int) : Prop := ((sMk k K = 0 ↔ K = 202) ∧ (sMk k K = 2 ↔ K = 200) ∧ (sMk k K = 159 ↔ K = 59)) ∧ (k = 3 → (sMk k K = 7 ↔ K = 28) ∧ (sMk k K = 8 ↔ K = 29) ∧ (sMk k K = 9 ↔ K = 30) ∧ (sMk k K = 10 ↔ K = 31) ∧ (sMk k K = 11 ↔ K = 5)) ∧ (k = 4 → (sMk k K = 12 ↔ K = 32) ∧ (sMk k K = 13 ↔ K = 33) ∧ (sMk k K = 14 ↔ K = 34) ∧ (sMk k K = 24 ↔ K = 26))
theorem s_kindT {k K : Int} (hk : k = 3 ∨ k = 4) (hK : 0 ≤ K) : sKT k K := by
  have big : ∀ x, sMk k K = x → 35 ≤ K → (x < 3 ∨ 75 < x) → ((x = 0 ↔ K = 202) ∧ (x = 2 ↔ K = 200) ∧ (x = 159 ↔ K = 59)) → sKT k K := by
    intro x hx h35 hx2 h1
    unfold sKT
    rw [hx]
    exact ⟨h1, fun _ => ⟨⟨fun z => by omega, fun z => by omega⟩, ⟨fun z => by omega, fun z => by omega⟩, ⟨fun z => by omega, fun z => by omega⟩, ⟨fun z => by omega, fun z => by omega⟩, ⟨fun z => by omega, fun z => by omega⟩⟩, fun _ => ⟨⟨fun z => by omega, fun z => by omega⟩, ⟨fun z => by omega, fun z => by omega⟩, ⟨fun z => by omega, fun z => by omega⟩, ⟨fun z => by omega, fun z => by omega⟩⟩⟩
  by_cases q1 : K = 202
  · exact big 0 (by unfold sMk; rw [if_pos q1]) (by omega) (by omega) (by omega)
  by_cases q2 : K = 200
  · exact big 2 (by unfold sMk; rw [if_neg q1, if_pos q2]) (by omega) (by omega) (by omega)
  by_cases q3 : K = 201
  · exact big 1 (by unfold sMk; rw [if_neg q1, if_neg q2, if_pos q3]) (by omega) (by omega) (by omega)
  by_cases q4 : K < 35
  · have e : sMk k K = sWk k K := by unfold sMk; rw [if_neg q1, if_neg q2, if_neg q3, if_pos q4]
    obtain ⟨m, rfl⟩ : ∃ m : Nat, K = (m : Int) := ⟨K.toNat, by omega⟩
    obtain ⟨a1, a2, a3, a4, a5⟩ := s_tbT3 m (by omega)
    obtain ⟨b1, b2, b3, b4⟩ := s_tbT4 m (by omega)
    obtain ⟨c1, c2⟩ := s_tbT5 m (by omega)
    unfold sKT
    rw [e]
    rcases hk with rfl | rfl
    · exact ⟨by omega, fun _ => ⟨by omega, by omega, by omega, by omega, by omega⟩, fun z => absurd z (by decide)⟩
    · exact ⟨by omega, fun z => absurd z (by decide), fun _ => ⟨by omega, by omega, by omega, by omega⟩⟩
  · exact big (100 + K) (by unfold sMk; rw [if_neg q1, if_neg q2, if_neg q3, if_neg q4]) (by omega) (by omega) (by omega)
def sT (k : Int) (A B : am_M) (l : List sTok) : Prop := sQ A l 0 ∧ sStd B l ∧ sWf l ∧ B 186 12 = k
def sHA (A A' : am_M) : Prop := ∀ b, b ≠ 92 → b ≠ 103 → A' b = A b
def sHB (B B' : am_M) : Prop := (∀ b, b ≠ 186 → b ≠ 193 → B' b = B b) ∧ ∀ f, (f < 17 ∨ 23 ≤ f) → f ≠ 26 → B' 186 f = B 186 f
theorem sHA_t {A B C : am_M} (h1 : sHA A B) (h2 : sHA B C) : sHA A C := fun b b1 b2 => (h2 b b1 b2).trans (h1 b b1 b2)
theorem sHB_t {A B C : am_M} (h1 : sHB A B) (h2 : sHB B C) : sHB A C := ⟨fun b b1 b2 => (h2.1 b b1 b2).trans (h1.1 b b1 b2), fun f a1 a2 => (h2.2 f a1 a2).trans (h1.2 f a1 a2)⟩
/-- the same fault in both -/
def sFt (A' B' : am_M) : Prop := A' 92 5 = B' 186 21 ∧ A' 92 6 = B' 186 22
theorem sT_hd {k : Int} {A B : am_M} {l : List sTok} (h : sT k A B l) : ∃ q l', l = q :: l' := by
  obtain ⟨_, ⟨q, l', e, _⟩, _⟩ := h
  exact ⟨q, l', e⟩
theorem sT_bad {k : Int} {A B : am_M} {l : List sTok} (h : sT k A B l) (d d' : Nat) (y : Int) : ∃ A' B', am_run (d + 1) 169 [.inr 92, .inl y] A = some (0, A') ∧ am_run (d' + 1) 33 [.inr 186, .inl y] B = some (0, B') ∧ sHA A A' ∧ sHB B B' ∧ sFt A' B' := by
  obtain ⟨hQ, ⟨q, l', rfl, a1, a2⟩, _⟩ := h
  refine ⟨_, _, c169 d hQ y, m33 d' y B, fun b b1 b2 => p_st2 b1, ⟨fun b b1 b2 => p_st2 b1, fun f f1 f2 => by rw [p_st1, p_off (by omega), p_off (by omega)]⟩, ?_, ?_⟩
  · rw [p_st1, p_st1, p_off (by omega), p_up1, p_off (by omega), p_up1]
  · rw [p_st1, p_st1, p_up1, p_up1, a1.2.1]
theorem sT_see {k : Int} (hk : k = 3 ∨ k = 4) {A B : am_M} {q : sTok} {l : List sTok} (h : sT k A B (q :: l)) : sKT k q.1 ∧ B 186 18 = sMk k q.1 ∧ (q.1 = 200 → B 186 20 = q.2.1 ∧ A 94 (A 92 4) = q.2.1 ∧ (0 ≤ A 92 4 ∧ A 92 4 < 401)) ∧ ∀ d, am_run (d + 1) 168 [.inr 92] A = some (q.1, A) := by
  obtain ⟨h1, ⟨q', l2, e, ⟨t1, t2, t3⟩, t4⟩, h5, h3⟩ := h
  injection e with e1 e2
  subst e1 e2
  obtain ⟨w1, w2⟩ := h5 q List.mem_cons_self
  refine ⟨s_kindT hk w1, by rw [← h3]; exact t1, fun z => ⟨t3 z, ?_⟩, fun d => c168 d h1⟩
  obtain ⟨t, a1, a2, a3, a4, a5, a6⟩ := h1
  rw [List.length_cons] at a4
  exact ⟨by rw [a1]; exact a5.2.1 z, by omega⟩
theorem sT_go {k : Int} {A B : am_M} {q : sTok} {l : List sTok} (h : sT k A B (q :: l)) (hq : q.1 ≠ 202) (d : Nat) : ∃ x B', am_run (d + 9) 32 [.inr 186] B = some (x, B') ∧ sFr B B' ∧ sHB B B' ∧ sT k (sNx A) B' l ∧ sHA A (sNx A) := by
  obtain ⟨h1, h2, h3, h4⟩ := h
  obtain ⟨x, B', g1, g2, g3⟩ := s_next h2 hq d
  refine ⟨x, B', g1, g2, ⟨fun b b1 b2 => g2.2 b b1, fun f f1 f2 => g2.1 f (by omega) (by omega) (by omega) (by omega)⟩, ⟨?_, g3, sWf_t h3, ?_⟩, fun b b1 b2 => p_st2 b1⟩
  · exact sQ_cg (sNx_Q h1) (by omega) rfl rfl rfl rfl
  · rw [g2.1 12 (by omega) (by omega) (by omega) (by omega)]; exact h4
theorem sT_cg {k : Int} {A A' B B' : am_M} {l : List sTok} (h : sT k A B l) (hA : ∀ b, (92 ≤ b ∧ b ≤ 95) → A' b = A b) (hB : ∀ f, f ≤ 20 → f ≠ 15 → B' 186 f = B 186 f) (hb : ∀ b, b = 194 ∨ 199 ≤ b → B' b = B b) : sT k A' B' l := by
  obtain ⟨h1, h2, h3, h4⟩ := h
  exact ⟨sQ_cg h1 (Int.le_refl _) (hA 92 (by decide)) (hA 93 (by decide)) (hA 94 (by decide)) (hA 95 (by decide)), sStd_cg h2 (fun f hf => hB f (by omega) (by omega)) hb, h3, by rw [hB 12 (by omega) (by omega)]; exact h4⟩
/-- a word that must stand here -/
theorem sT_need {k : Int} (hk : k = 3 ∨ k = 4) {A B : am_M} {l : List sTok} (h : sT k A B l) {y t : Int} (hy : y ≠ 202) (ht : ∀ K, sKT k K → (sMk k K = t ↔ K = y)) (d d' : Nat) : (∃ A' B', am_run (d + 2) 170 [.inr 92, .inl y] A = some (0, A') ∧ am_run (d' + 10) 34 [.inr 186, .inl t] B = some (0, B') ∧ sHA A A' ∧ sHB B B' ∧ sFt A' B') ∨ (∃ B' l', am_run (d + 2) 170 [.inr 92, .inl y] A = some (1, sNx A) ∧ am_run (d' + 10) 34 [.inr 186, .inl t] B = some (1, B') ∧ sHA A (sNx A) ∧ sHB B B' ∧ sFr B B' ∧ sT k (sNx A) B' l' ∧ l'.length < l.length) := by
  obtain ⟨q, l', rfl⟩ := sT_hd h
  obtain ⟨kt, s18, s20, see⟩ := sT_see hk h
  have ht := ht _ kt
  rw [e170, see, p_b, e34, s18]
  by_cases hq : q.1 = y
  · obtain ⟨x, B', g1, g2, g3, g4, g5⟩ := sT_go h (by omega) d'
    rw [if_pos (show (q.1 : Int) = y from hq), if_pos (ht.mpr hq), sNx_e h.1, g1, p_b]
    exact Or.inr ⟨B', l', rfl, rfl, g5, g3, g2, g4, by rw [List.length_cons]; omega⟩
  · obtain ⟨A', B', e1, e2, f1, f2, y1⟩ := sT_bad h d (d' + 8) 1
    rw [if_neg (show ¬ (q.1 : Int) = y from hq), if_neg (fun z => hq (ht.mp z)), e1, e2, p_b, p_b, p_c (Or.inl rfl), p_c (Or.inl rfl)]
    exact Or.inl ⟨A', B', rfl, rfl, f1, f2, y1⟩
/-- a number that must stand here -/
theorem sT_num {k : Int} (hk : k = 3 ∨ k = 4) {A B : am_M} {l : List sTok} (h : sT k A B l) {a b lo hi : Int} (ha : 0 ≤ a ∧ a < 80) (hb : 0 ≤ b ∧ b < 80) (d d' : Nat) : (∃ A' B', am_run (d + 2) 180 [.inr 92, .inl a, .inl lo, .inl hi] A = some (0, A') ∧ am_bnd (am_run (d' + 10) 45 [.inr 186, .inl lo, .inl hi] B) (fun r2 M2 => (if (r2 : Int) = 0 then some (0, M2) else am_chk (0 ≤ (b : Int) ∧ b < 80) (some (1, (am_upd M2 193 b (M2 186 26)))))) = some (0, B') ∧ sHA A A' ∧ sHB B B' ∧ sFt A' B') ∨ (∃ A' B' l' v, am_run (d + 2) 180 [.inr 92, .inl a, .inl lo, .inl hi] A = some (1, A') ∧ am_bnd (am_run (d' + 10) 45 [.inr 186, .inl lo, .inl hi] B) (fun r2 M2 => (if (r2 : Int) = 0 then some (0, M2) else am_chk (0 ≤ (b : Int) ∧ b < 80) (some (1, (am_upd M2 193 b (M2 186 26)))))) = some (1, B') ∧ sHA A A' ∧ sHB B B' ∧ sT k A' B' l' ∧ l'.length < l.length ∧ (lo ≤ v ∧ v ≤ hi) ∧ A' 103 = p_up (A 103) a v ∧ B' 193 = p_up (B 193) b v) := by
  obtain ⟨q, l', rfl⟩ := sT_hd h
  obtain ⟨⟨⟨_, k2, _⟩, _⟩, s18, s20, see⟩ := sT_see hk h
  rw [e180, see, p_b, e45, s18]
  by_cases q2 : q.1 = 200
  · obtain ⟨u1, u2, u3⟩ := s20 q2
    rw [if_pos (show (q.1 : Int) = 200 from q2), if_pos (k2.mpr q2), u1, m0, p_b, p_c u3, u2, p_i0]
    by_cases q3 : q.2.1 < lo
    · obtain ⟨A', B', e1, e2, f1, f2, y1⟩ := sT_bad h d (d' + 8) 2
      rw [if_pos q3, if_neg (show ¬ (lo ≤ q.2.1 ∧ q.2.1 ≤ hi) by omega), e1, e2, p_b, p_b, p_c (Or.inl rfl), p_c (Or.inl rfl), p_b, if_pos rfl]
      exact Or.inl ⟨A', B', rfl, rfl, f1, f2, y1⟩
    rw [if_neg q3, p_c u3]
    by_cases q4 : hi < q.2.1
    · obtain ⟨A', B', e1, e2, f1, f2, y1⟩ := sT_bad h d (d' + 8) 2
      rw [if_pos q4, if_neg (show ¬ (lo ≤ q.2.1 ∧ q.2.1 ≤ hi) by omega), e1, e2, p_b, p_b, p_c (Or.inl rfl), p_c (Or.inl rfl), p_b, if_pos rfl]
      exact Or.inl ⟨A', B', rfl, rfl, f1, f2, y1⟩
    rw [if_neg q4, p_c u3, p_c ha, if_pos (show (lo ≤ q.2.1 ∧ q.2.1 ≤ hi) by omega), u1, p_upd B]
    have h2 : sT k (p_st A 103 (p_up (A 103) a q.2.1)) (p_st B 186 (p_up (B 186) 26 q.2.1)) (q :: l') := sT_cg h (fun b hb => p_st2 (by omega)) (fun f f1 f2 => by rw [p_st1, p_off (by omega)]) (fun b hb => p_st2 (by omega))
    obtain ⟨x, B', g1, g2, g3, g4, g5⟩ := sT_go h2 (by omega) d'
    rw [g1, p_b, p_b, if_neg (by decide), p_c hb, p_upd A, sNx_e h2.1, p_upd]
    have hb26 : B' 186 26 = q.2.1 := by rw [g2.1 26 (by omega) (by omega) (by omega) (by omega), p_st1, p_up1]
    rw [hb26]
    refine Or.inr ⟨_, _, l', q.2.1, rfl, rfl, sHA_t (fun b b1 b2 => p_st2 b2) g5, sHB_t ⟨fun b b1 b2 => p_st2 b1, fun f f1 f2 => by rw [p_st1, p_off (by omega)]⟩ (sHB_t g3 ⟨fun b b1 b2 => p_st2 b2, fun f f1 f2 => by rw [p_st2 (by decide)]⟩), ?_, by rw [List.length_cons]; omega, by omega, ?_, ?_⟩
    · exact sT_cg g4 (fun b hb => rfl) (fun f f1 f2 => by rw [p_st2 (by decide)]) (fun b hb => p_st2 (by omega))
    · unfold sNx
      rw [p_st2 (by decide), p_st1]
    · rw [p_st1, g2.2 193 (by decide), p_st2 (by decide)]
  · obtain ⟨A', B', e1, e2, f1, f2, y1⟩ := sT_bad h d (d' + 8) 1
    rw [if_neg (show ¬ (q.1 : Int) = 200 from q2), if_neg (fun z => q2 (k2.mp z)), e1, e2, p_b, p_b, p_c (Or.inl rfl), p_c (Or.inl rfl), p_b, if_pos rfl]
    exact Or.inl ⟨A', B', rfl, rfl, f1, f2, y1⟩
