/-! PURE: text: both readers side by side -/
abbrev sTok : Type := Int × Int × Int
/-- what a law's texts may ask, as bits -/
def sAsk (k : Int) : Int := if k = 0 then 1023 else if k = 1 then 15757 else 2475
def sFst (k : Int) : Int := if k = 0 then 18 else if k = 1 then 20 else 24
def sLst (k : Int) : Int := if k = 0 then 19 else if k = 1 then 23 else 27
theorem s_tb1 : ∀ k : Nat, k < 3 → ∀ K : Nat, K < 35 → ((41 ≤ sWk k K ∧ sWk k K ≤ 54) ↔ (K < 14 ∧ am_iand (am_ishr (sAsk k) K) 1 = 1)) := by decide +kernel
theorem s_tb2 : ∀ k : Nat, k < 3 → ∀ K : Nat, K < 35 → (K < 14 ∧ am_iand (am_ishr (sAsk k) K) 1 = 1 → sWk k K = 41 + K ∧ ((K : Int) + 1) ∈ pA k) := by decide +kernel
theorem s_tb3 : ∀ k : Nat, k < 3 → ∀ K : Nat, K < 35 → ((sWk k K = 3 ↔ K = 14) ∧ (sWk k K = 4 ↔ K = 15) ∧ (sWk k K = 5 ↔ K = 16) ∧ (sWk k K = 6 ↔ K = 17)) := by decide +kernel
theorem s_tb4 : ∀ k : Nat, k < 3 → ∀ K : Nat, K < 35 → ((20 ≤ sWk k K ∧ sWk k K ≤ 29) ↔ (sFst k ≤ K ∧ (K : Int) ≤ sLst k)) := by decide +kernel
theorem s_tb5a : ∀ k : Nat, k < 3 → ∀ K : Nat, K < 35 → ((sFst k ≤ K ∧ (K : Int) ≤ sLst k) → pVb (sWk k K) = K) := by decide +kernel
theorem s_tb5b : ∀ K : Nat, K < 35 → ((sFst 0 ≤ K ∧ (K : Int) ≤ sLst 0) → 20 ≤ sWk 0 K ∧ sWk 0 K ≤ 21) ∧ ((sFst 1 ≤ K ∧ (K : Int) ≤ sLst 1) → 26 ≤ sWk 1 K ∧ sWk 1 K ≤ 29) ∧ ((sFst 2 ≤ K ∧ (K : Int) ≤ sLst 2) → 22 ≤ sWk 2 K ∧ sWk 2 K ≤ 25) := by decide +kernel
theorem s_tb5 (k : Nat) (_ : k < 3) (K : Nat) (hK : K < 35) (h : sFst k ≤ K ∧ (K : Int) ≤ sLst k) : pVb (sWk k K) = K ∧ ((k = 0 → 20 ≤ sWk k K ∧ sWk k K ≤ 21) ∧ (k = 1 → 26 ≤ sWk k K ∧ sWk k K ≤ 29) ∧ (k = 2 → 22 ≤ sWk k K ∧ sWk k K ≤ 25)) := by
  obtain ⟨b0, b1, b2⟩ := s_tb5b K hK
  refine ⟨s_tb5a k (by omega) K hK h, fun z => ?_, fun z => ?_, fun z => ?_⟩
  · subst z; exact b0 h
  · subst z; exact b1 h
  · subst z; exact b2 h
theorem s_tb6 : ∀ k : Nat, k < 3 → ∀ K : Nat, K < 35 → (1 ≤ sWk k K ∧ sWk k K ≤ 60 ∧ sWk k K ≠ 2) := by decide +kernel
theorem s_in3 {k : Int} (h : 0 ≤ k ∧ k < 3) : ∃ n : Nat, n < 3 ∧ k = (n : Int) := ⟨k.toNat, by omega, by omega⟩
theorem s_kind {k K : Int} (hk : 0 ≤ k ∧ k < 3) (hK : 0 ≤ K) : ((sMk k K = 0 ↔ K = 202) ∧ (sMk k K = 2 ↔ K = 200)) ∧ ((sMk k K = 3 ↔ K = 14) ∧ (sMk k K = 4 ↔ K = 15) ∧ (sMk k K = 5 ↔ K = 16) ∧ (sMk k K = 6 ↔ K = 17)) ∧ (∀ c, 40 ≤ c → c ≤ 62 → (sMk k K = 100 + c ↔ K = c)) ∧ ((41 ≤ sMk k K ∧ sMk k K ≤ 54) ↔ (K < 14 ∧ am_iand (am_ishr (sAsk k) K) 1 = 1)) ∧ (K < 14 ∧ am_iand (am_ishr (sAsk k) K) 1 = 1 → sMk k K = 41 + K ∧ (K + 1) ∈ pA k) ∧ ((20 ≤ sMk k K ∧ sMk k K ≤ 29) ↔ (sFst k ≤ K ∧ K ≤ sLst k)) ∧ ((sFst k ≤ K ∧ K ≤ sLst k) → pVb (sMk k K) = K ∧ pSayOk k (sMk k K)) := by
  have hl : sLst k ≤ 27 := by
    unfold sLst
    by_cases q : k = 0
    · rw [if_pos q]; omega
    · rw [if_neg q]
      by_cases q : k = 1
      · rw [if_pos q]; omega
      · rw [if_neg q]; omega
  have big : ∀ x, sMk k K = x → 35 ≤ K → (x < 3 ∨ 75 < x) → ((x = 0 ↔ K = 202) ∧ (x = 2 ↔ K = 200)) → (∀ c, 40 ≤ c → c ≤ 62 → (x = 100 + c ↔ K = c)) → ((sMk k K = 0 ↔ K = 202) ∧ (sMk k K = 2 ↔ K = 200)) ∧ ((sMk k K = 3 ↔ K = 14) ∧ (sMk k K = 4 ↔ K = 15) ∧ (sMk k K = 5 ↔ K = 16) ∧ (sMk k K = 6 ↔ K = 17)) ∧ (∀ c, 40 ≤ c → c ≤ 62 → (sMk k K = 100 + c ↔ K = c)) ∧ ((41 ≤ sMk k K ∧ sMk k K ≤ 54) ↔ (K < 14 ∧ am_iand (am_ishr (sAsk k) K) 1 = 1)) ∧ (K < 14 ∧ am_iand (am_ishr (sAsk k) K) 1 = 1 → sMk k K = 41 + K ∧ (K + 1) ∈ pA k) ∧ ((20 ≤ sMk k K ∧ sMk k K ≤ 29) ↔ (sFst k ≤ K ∧ K ≤ sLst k)) ∧ ((sFst k ≤ K ∧ K ≤ sLst k) → pVb (sMk k K) = K ∧ pSayOk k (sMk k K)) := by
    intro x hx h35 hx2 h1 h2
    rw [hx]
    exact ⟨h1, ⟨⟨fun z => by omega, fun z => by omega⟩, ⟨fun z => by omega, fun z => by omega⟩, ⟨fun z => by omega, fun z => by omega⟩, ⟨fun z => by omega, fun z => by omega⟩⟩, h2, ⟨fun z => by omega, fun z => by omega⟩, fun z => by omega, ⟨fun z => by omega, fun z => by omega⟩, fun z => by omega⟩
  by_cases q1 : K = 202
  · exact big 0 (by unfold sMk; rw [if_pos q1]) (by omega) (by omega) ⟨⟨fun _ => q1, fun _ => rfl⟩, by omega⟩ (fun c h1 h2 => by omega)
  by_cases q2 : K = 200
  · exact big 2 (by unfold sMk; rw [if_neg q1, if_pos q2]) (by omega) (by omega) ⟨by omega, ⟨fun _ => q2, fun _ => rfl⟩⟩ (fun c h1 h2 => by omega)
  by_cases q3 : K = 201
  · exact big 1 (by unfold sMk; rw [if_neg q1, if_neg q2, if_pos q3]) (by omega) (by omega) ⟨by omega, by omega⟩ (fun c h1 h2 => by omega)
  by_cases q4 : K < 35
  · have e : sMk k K = sWk k K := by unfold sMk; rw [if_neg q1, if_neg q2, if_neg q3, if_pos q4]
    obtain ⟨n, hn, rfl⟩ := s_in3 hk
    obtain ⟨m, rfl⟩ : ∃ m : Nat, K = (m : Int) := ⟨K.toNat, by omega⟩
    have a1 := s_tb1 n hn m (by omega)
    have a2 := s_tb2 n hn m (by omega)
    have a3 := s_tb3 n hn m (by omega)
    have a4 := s_tb4 n hn m (by omega)
    have a5 := s_tb5 n hn m (by omega)
    have a6 := s_tb6 n hn m (by omega)
    rw [e]
    refine ⟨⟨by omega, by omega⟩, ⟨by omega, by omega, by omega, by omega⟩, fun c h1 h2 => by omega, ?_, ?_, a4, ?_⟩
    · rw [a1]
      exact ⟨fun z => ⟨by omega, z.2⟩, fun z => ⟨by omega, z.2⟩⟩
    · intro z
      exact a2 ⟨by omega, z.2⟩
    · intro z
      obtain ⟨b1, b2⟩ := a5 z
      exact ⟨b1, fun y => b2.1 (by omega), fun y => b2.2.1 (by omega), fun y => b2.2.2 (by omega)⟩
  · exact big (100 + K) (by unfold sMk; rw [if_neg q1, if_neg q2, if_neg q3, if_neg q4]) (by omega) (by omega) ⟨by omega, by omega⟩ (fun c h1 h2 => by omega)
def sWf (l : List sTok) : Prop := ∀ q ∈ l, 0 ≤ q.1 ∧ (q.1 = 200 → 0 ≤ q.2.1 ∧ q.2.1 ≤ 9999)
def sStd (B : am_M) (l : List sTok) : Prop := ∃ q l', l = q :: l' ∧ sTokM B q ∧ (q.1 ≠ 202 → sPre B l')
def sCC (A : am_M) (L : List Int) : Prop := A 96 1 = L.length ∧ pAtL (A 101) 0 L
def sAt2 (f : Int → Int) : Int → List (Int × Int) → Prop
  | _, [] => True
  | i, q :: l => f (2 * i) = q.1 ∧ f (2 * i + 1) = q.2 ∧ sAt2 f (i + 1) l
def sMC (B : am_M) (st : List (Int × Int)) : Prop := B 186 14 = st.length ∧ sAt2 (B 192) 0 st
def sQ (A : am_M) (l : List sTok) (n : Int) : Prop := ∃ t, A 92 4 = t ∧ A 92 3 = t + l.length ∧ 0 ≤ t ∧ t + l.length ≤ 401 ∧ sArr A t l ∧ n ≤ t ∧ A 92 5 = 0 ∧ A 92 6 = -1
def sR (k o c : Int) (A B : am_M) (L : List Int) (st : List (Int × Int)) (l : List sTok) : Prop := sQ A l (L.length + c) ∧ A 92 7 = sAsk k ∧ (B 186 12 = k ∧ B 186 24 = o) ∧ sStd B l ∧ sWf l ∧ sCC A L ∧ sMC B st
def sFA (A A' : am_M) : Prop := (∀ b, b ≠ 92 → b ≠ 96 → b ≠ 101 → A' b = A b) ∧ A' 96 0 = A 96 0
def sFB (B B' : am_M) : Prop := (∀ b, b ≠ 186 → b ≠ 192 → B' b = B b) ∧ ∀ f, (f < 17 ∨ f = 23 ∨ 24 < f) → f ≠ 14 → B' 186 f = B 186 f
theorem sFA_r (A : am_M) : sFA A A := ⟨fun _ _ _ _ => rfl, rfl⟩
theorem sFB_r (A : am_M) : sFB A A := ⟨fun _ _ _ => rfl, fun _ _ _ => rfl⟩
theorem sFA_t {A B C : am_M} (h1 : sFA A B) (h2 : sFA B C) : sFA A C := ⟨fun b a1 a2 a3 => (h2.1 b a1 a2 a3).trans (h1.1 b a1 a2 a3), h2.2.trans h1.2⟩
theorem sFB_t {A B C : am_M} (h1 : sFB A B) (h2 : sFB B C) : sFB A C := ⟨fun b a1 a2 => (h2.1 b a1 a2).trans (h1.1 b a1 a2), fun f a1 a2 => (h2.2 f a1 a2).trans (h1.2 f a1 a2)⟩
theorem sFr_FB {A B : am_M} (h : sFr A B) : sFB A B := ⟨fun b a1 _ => h.2 b a1, fun f a1 a2 => h.1 f (by omega) (by omega) (by omega) (by omega)⟩
theorem sArr_cg {M M' : am_M} (h3 : M' 93 = M 93) (h4 : M' 94 = M 94) (h5 : M' 95 = M 95) : ∀ (l : List sTok) (t : Int), sArr M t l → sArr M' t l := by
  intro l
  induction l with
  | nil => intro t _; trivial
  | cons q l ih =>
    intro t h
    obtain ⟨a1, a2, a3, a4⟩ := h
    refine ⟨?_, ?_, ?_, ih _ a4⟩
    · rw [h3]; exact a1
    · rw [h4]; exact a2
    · rw [h5]; exact a3
theorem sStd_cg {B B' : am_M} {l : List sTok} (h : sStd B l) (hf : ∀ f, f = 12 ∨ (16 ≤ f ∧ f ≤ 20) → B' 186 f = B 186 f) (hb : ∀ b, b = 194 ∨ 199 ≤ b → B' b = B b) : sStd B' l := by
  obtain ⟨q, l', e, ⟨a1, a2, a3⟩, a4⟩ := h
  refine ⟨q, l', e, ⟨?_, ?_, ?_⟩, fun z => ?_⟩
  · rw [hf 18 (by omega), hf 12 (by omega)]; exact a1
  · rw [hf 19 (by omega)]; exact a2
  · rw [hf 20 (by omega)]; exact a3
  · obtain ⟨b1, b2, b3, K, b4, b5⟩ := a4 z
    refine ⟨?_, ?_, sStr_fr b3 (fun b hb' => hb b (Or.inr hb')), K, ?_, ?_⟩
    · rw [hf 17 (by omega), hf 16 (by omega)]; exact b1
    · rw [hf 16 (by omega), hb 194 (by omega)]; exact b2
    · rw [hf 17 (by omega), hf 16 (by omega)]; exact b4
    · rw [hf 17 (by omega), hf 16 (by omega), hb 194 (by omega)]; exact b5
theorem c168 (d : Nat) {A : am_M} {q : sTok} {l : List sTok} {n : Int} (h : sQ A (q :: l) n) : am_run (d + 1) 168 [.inr 92] A = some (q.1, A) := by
  obtain ⟨t, h1, h2, h3, h4, h5, h6⟩ := h
  rw [List.length_cons] at h2 h4
  rw [e168, h1, h2, if_pos (by omega), p_c (by omega), h5.1]
theorem c169 (d : Nat) {A : am_M} {q : sTok} {l : List sTok} {n : Int} (h : sQ A (q :: l) n) (y : Int) : am_run (d + 1) 169 [.inr 92, .inl y] A = some (0, p_st A 92 (p_up (p_up (A 92) 5 y) 6 q.2.2)) := by
  obtain ⟨t, h1, h2, h3, h4, h5, h6⟩ := h
  rw [List.length_cons] at h2 h4
  have e4 : (p_st A 92 (p_up (A 92) 5 y)) 92 4 = t := by rw [p_st1, p_off (by omega)]; exact h1
  have e3 : (p_st A 92 (p_up (A 92) 5 y)) 92 3 = t + ((l.length + 1 : Nat) : Int) := by rw [p_st1, p_off (by omega)]; exact h2
  rw [e169]
  simp only [p_upd]
  rw [e4, e3, if_pos (by omega), p_c (by omega), p_st2 (a := 92) (b := 95) (by decide), h5.2.2.1, p_st1, p_st3]
theorem m33 (d : Nat) (y : Int) (B : am_M) : am_run (d + 1) 33 [.inr 186, .inl y] B = some (0, p_st B 186 (p_up (p_up (B 186) 21 y) 22 (B 186 19))) := by
  rw [e33]
  simp only [p_upd]
  rw [p_st1, p_off (show (19 : Int) < 21 ∨ (21 : Int) < 19 by omega), p_st3]
theorem sBad {A B : am_M} {l : List sTok} {n : Int} (hQ : sQ A l n) (hS : sStd B l) (d d' : Nat) (y : Int) : ∃ A' B', am_run (d + 1) 169 [.inr 92, .inl y] A = some (0, A') ∧ am_run (d' + 1) 33 [.inr 186, .inl y] B = some (0, B') ∧ sFA A A' ∧ sFB B B' ∧ A' 92 5 = B' 186 21 ∧ A' 92 6 = B' 186 22 := by
  obtain ⟨q, l', rfl, a1, a2⟩ := hS
  refine ⟨_, _, c169 d hQ y, m33 d' y B, ⟨fun b b1 b2 b3 => p_st2 b1, by rw [p_st2 (by decide)]⟩, ⟨fun b b1 b2 => p_st2 b1, fun f f1 f2 => by rw [p_st1, p_off (by omega), p_off (by omega)]⟩, ?_, ?_⟩
  · rw [p_st1, p_st1, p_off (by omega), p_up1, p_off (by omega), p_up1]
  · rw [p_st1, p_st1, p_up1, p_up1, a1.2.1]
/-- the class takes a token -/
def sNx (A : am_M) : am_M := p_st A 92 (p_up (A 92) 4 (A 92 4 + 1))
theorem sNx_e {A : am_M} {l : List sTok} {n : Int} (h : sQ A l n) : am_upd A 92 4 (am_wrap (A 92 4 + 1)) = sNx A := by
  obtain ⟨t, h1, h2, h3, h4, h5, h6⟩ := h
  unfold sNx
  rw [p_upd, p_w (by omega) (by omega)]
theorem sNx_Q {A : am_M} {q : sTok} {l : List sTok} {n : Int} (h : sQ A (q :: l) n) : sQ (sNx A) l (n + 1) := by
  obtain ⟨t, h1, h2, h3, h4, h5, h6⟩ := h
  rw [List.length_cons] at h2 h4
  refine ⟨t + 1, ?_, ?_, by omega, by omega, ?_, by omega, ?_, ?_⟩
  · unfold sNx
    rw [p_st1, p_up1, h1]
  · unfold sNx
    rw [p_st1, p_off (by omega), h2]
    omega
  · exact sArr_cg (p_st2 (by decide)) (p_st2 (by decide)) (p_st2 (by decide)) l _ h5.2.2.2
  · unfold sNx
    rw [p_st1, p_off (by omega)]
    exact h6.2.1
  · unfold sNx
    rw [p_st1, p_off (by omega)]
    exact h6.2.2
theorem sNx_F (A : am_M) : sFA A (sNx A) := ⟨fun b b1 b2 b3 => p_st2 b1, by unfold sNx; rw [p_st2 (by decide)]⟩
theorem s_next {B : am_M} {q : sTok} {l : List sTok} (h : sStd B (q :: l)) (hq : q.1 ≠ 202) (d : Nat) : ∃ x B', am_run (d + 9) 32 [.inr 186] B = some (x, B') ∧ sFr B B' ∧ sStd B' l := by
  obtain ⟨q', l', e, a1, a2⟩ := h
  injection e with e1 e2
  subst e1 e2
  obtain ⟨x, B', h1, q2, l2, h2, h3, h4, h5⟩ := m32 d (a2 hq)
  exact ⟨x, B', h1, h5, q2, l2, h2, h3, h4⟩
theorem sWf_t {q : sTok} {l : List sTok} (h : sWf (q :: l)) : sWf l := fun x hx => h x (List.mem_cons_of_mem _ hx)
theorem sMC_cg {B B' : am_M} {st : List (Int × Int)} (h : sMC B st) (h1 : B' 186 14 = B 186 14) (h2 : B' 192 = B 192) : sMC B' st := by
  unfold sMC
  rw [h1, h2]
  exact h
theorem sCC_cg {A A' : am_M} {L : List Int} (h : sCC A L) (h1 : A' 96 1 = A 96 1) (h2 : A' 101 = A 101) : sCC A' L := by
  unfold sCC
  rw [h1, h2]
  exact h
theorem sGo {k o c : Int} {A B : am_M} {L : List Int} {st : List (Int × Int)} {q : sTok} {l : List sTok} (h : sR k o c A B L st (q :: l)) (hq : q.1 ≠ 202) (d : Nat) : ∃ x B', am_run (d + 9) 32 [.inr 186] B = some (x, B') ∧ sFB B B' ∧ sR k o (c + 1) (sNx A) B' L st l := by
  obtain ⟨h1, h2, h3, h4, h5, h6, h7⟩ := h
  obtain ⟨x, B', g1, g2, g3⟩ := s_next h4 hq d
  refine ⟨x, B', g1, sFr_FB g2, ?_, ?_, ⟨?_, ?_⟩, g3, sWf_t h5, ?_, ?_⟩
  · have := sNx_Q h1
    rw [Int.add_assoc] at this
    exact this
  · unfold sNx
    rw [p_st1, p_off (by omega)]
    exact h2
  · rw [g2.1 12 (by omega) (by omega) (by omega) (by omega)]; exact h3.1
  · rw [g2.1 24 (by omega) (by omega) (by omega) (by omega)]; exact h3.2
  · exact sCC_cg h6 (by unfold sNx; rw [p_st2 (by decide)]) (p_st2 (by decide))
  · exact sMC_cg h7 (g2.1 14 (by omega) (by omega) (by omega) (by omega)) (g2.2 192 (by decide))
