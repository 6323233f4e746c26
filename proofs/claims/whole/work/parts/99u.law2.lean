/-! PURE: the law: its loop -/
def pIn (x : Int) : Prop := -2147483648 ≤ x ∧ x ≤ 2147483647
def pInts (M : am_M) : Prop := ∀ a i, pIn (M a i)
/-- what every run leaves -/
def pPres : Prop := ∀ (j : Nat) (args : List am_V) (M : am_M) (r : Int) (M1 : am_M), j < 264 → (∀ x, Sum.inl x ∈ args → pIn x) → pInts M → am_run 1000 j args M = some (r, M1) → pInts M1 ∧ ∀ a, 199 ≤ a → M1 a = M a
theorem law_pair (hP : pPres) {C M : am_M} (hx : pInts M) {j jm : Nat} (hj : j < 264 ∧ jm < 264) {args : List am_V} (ha : ∀ x, Sum.inl x ∈ args → pIn x) (h : Pair C M j jm args) : ∃ r M1 M2, am_run 1000 j (.inr 0 :: args) M = some (r, M1) ∧ M1 203 = M 203 ∧ am_run 1000 jm (.inr 186 :: args) M1 = some (r, M2) ∧ Inv C M2 ∧ pInts M2 := by
  obtain ⟨r, M1, h1, r', M2, h2, h3, h4⟩ := h
  have hb : ∀ a : Nat, ∀ x, (Sum.inl x : am_V) ∈ (Sum.inr a : am_V) :: args → pIn x := by
    intro a x hm
    rcases List.mem_cons.mp hm with z | z
    · cases z
    · exact ha x z
  obtain ⟨g1, g2⟩ := hP j _ M r M1 hj.1 (hb 0) hx h1
  obtain ⟨g3, g4⟩ := hP jm _ M1 r' M2 hj.2 (hb 186) g1 h2
  exact ⟨r, M1, M2, h1, g2 203 (by decide), by rw [← h3]; exact h2, h4, g3⟩
theorem law_ar {M : am_M} (hx : pInts M) {l : List Int} {f : Int → Int} (h : ∀ x ∈ l, ∃ k, x = f k) (hf : ∀ k, pIn (f k)) : ∀ x, Sum.inl x ∈ l.map (Sum.inl : Int → am_V) → pIn x := by
  intro x hm
  obtain ⟨y, hy, e⟩ := List.mem_map.mp hm
  injection e with e
  obtain ⟨k, rfl⟩ := h y hy
  rw [← e]
  exact hf k
theorem l_22 (hP : pPres) {C M : am_M} (hI : Inv C M) (hx : pInts M) {L i : Int} (hL : M 203 (-1) = L) (h0 : 0 ≤ i) (hi : i + 6 ≤ L) (h3 : L ≤ 3072) : ∃ M2, am_L 1000 264 22 [some (.inr 203), some (.inr 0), some (.inr 186), some (.inl i)] [] M = am_L 1000 264 1161 [some (.inr 203), some (.inr 0), some (.inr 186), some (.inl i)] [] M2 ∧ Inv C M2 ∧ pInts M2 := by
  obtain ⟨r, M1, M2, e1, e2, e3, e4, e5⟩ := law_pair hP hx (by decide) (law_ar hx (l := [M 203 (i + 1)]) (f := fun k => M 203 k) (fun x hm => by simp only [List.mem_cons, List.not_mem_nil, or_false] at hm; rcases hm with rfl <;> exact ⟨_, rfl⟩) (fun k => hx 203 k)) (a_state hI (M 203 (i + 1)))
  refine ⟨M2, ?_, e4, e5⟩
  rw [e264_22, p_w (x := i + 1) (by omega) (by omega), hL, p_c (by omega), show am_run 1000 181 [.inr 0, .inl (M 203 (i + 1))] M = some (r, M1) from e1, p_b, e2, hL, p_c (by omega), show am_run 1000 15 [.inr 186, .inl (M 203 (i + 1))] M1 = some (r, M2) from e3, p_b, if_pos rfl]
theorem l_39 (hP : pPres) {C M : am_M} (hI : Inv C M) (hx : pInts M) {L i : Int} (hL : M 203 (-1) = L) (h0 : 0 ≤ i) (hi : i + 6 ≤ L) (h3 : L ≤ 3072) : ∃ M2, am_L 1000 264 39 [some (.inr 203), some (.inr 0), some (.inr 186), some (.inl i)] [] M = am_L 1000 264 1161 [some (.inr 203), some (.inr 0), some (.inr 186), some (.inl i)] [] M2 ∧ Inv C M2 ∧ pInts M2 := by
  obtain ⟨r, M1, M2, e1, e2, e3, e4, e5⟩ := law_pair hP hx (by decide) (law_ar hx (l := [M 203 (i + 1), M 203 (i + 2)]) (f := fun k => M 203 k) (fun x hm => by simp only [List.mem_cons, List.not_mem_nil, or_false] at hm; rcases hm with rfl | rfl <;> exact ⟨_, rfl⟩) (fun k => hx 203 k)) (a_person hI (M 203 (i + 1)) (M 203 (i + 2)))
  refine ⟨M2, ?_, e4, e5⟩
  rw [e264_39, p_w (x := i + 1) (by omega) (by omega), p_w (x := i + 2) (by omega) (by omega), hL, p_c (by omega), p_c (by omega), show am_run 1000 182 [.inr 0, .inl (M 203 (i + 1)), .inl (M 203 (i + 2))] M = some (r, M1) from e1, p_b, e2, hL, p_c (by omega), p_c (by omega), show am_run 1000 17 [.inr 186, .inl (M 203 (i + 1)), .inl (M 203 (i + 2))] M1 = some (r, M2) from e3, p_b, if_pos rfl]
theorem l_66 (hP : pPres) {C M : am_M} (hI : Inv C M) (hx : pInts M) {L i : Int} (hL : M 203 (-1) = L) (h0 : 0 ≤ i) (hi : i + 6 ≤ L) (h3 : L ≤ 3072) : ∃ M2, am_L 1000 264 66 [some (.inr 203), some (.inr 0), some (.inr 186), some (.inl i)] [] M = am_L 1000 264 1161 [some (.inr 203), some (.inr 0), some (.inr 186), some (.inl i)] [] M2 ∧ Inv C M2 ∧ pInts M2 := by
  obtain ⟨r, M1, M2, e1, e2, e3, e4, e5⟩ := law_pair hP hx (by decide) (law_ar hx (l := [M 203 (i + 1), M 203 (i + 2), M 203 (i + 3)]) (f := fun k => M 203 k) (fun x hm => by simp only [List.mem_cons, List.not_mem_nil, or_false] at hm; rcases hm with rfl | rfl | rfl <;> exact ⟨_, rfl⟩) (fun k => hx 203 k)) (a_set hI (M 203 (i + 1)) (M 203 (i + 2)) (M 203 (i + 3)) (hx 203 (i + 1)))
  refine ⟨M2, ?_, e4, e5⟩
  rw [e264_66, p_w (x := i + 1) (by omega) (by omega), p_w (x := i + 2) (by omega) (by omega), p_w (x := i + 3) (by omega) (by omega), hL, p_c (by omega), p_c (by omega), p_c (by omega), show am_run 1000 183 [.inr 0, .inl (M 203 (i + 1)), .inl (M 203 (i + 2)), .inl (M 203 (i + 3))] M = some (r, M1) from e1, p_b, e2, hL, p_c (by omega), p_c (by omega), p_c (by omega), show am_run 1000 18 [.inr 186, .inl (M 203 (i + 1)), .inl (M 203 (i + 2)), .inl (M 203 (i + 3))] M1 = some (r, M2) from e3, p_b, if_pos rfl]
theorem l_103 (hP : pPres) {C M : am_M} (hI : Inv C M) (hx : pInts M) {L i : Int} (hL : M 203 (-1) = L) (h0 : 0 ≤ i) (hi : i + 6 ≤ L) (h3 : L ≤ 3072) : ∃ M2, am_L 1000 264 103 [some (.inr 203), some (.inr 0), some (.inr 186), some (.inl i)] [] M = am_L 1000 264 1161 [some (.inr 203), some (.inr 0), some (.inr 186), some (.inl i)] [] M2 ∧ Inv C M2 ∧ pInts M2 := by
  obtain ⟨r, M1, M2, e1, e2, e3, e4, e5⟩ := law_pair hP hx (by decide) (law_ar hx (l := [M 203 (i + 1), M 203 (i + 2), M 203 (i + 3), M 203 (i + 4)]) (f := fun k => M 203 k) (fun x hm => by simp only [List.mem_cons, List.not_mem_nil, or_false] at hm; rcases hm with rfl | rfl | rfl | rfl <;> exact ⟨_, rfl⟩) (fun k => hx 203 k)) (a_lend hI (M 203 (i + 1)) (M 203 (i + 2)) (M 203 (i + 3)) (M 203 (i + 4)))
  refine ⟨M2, ?_, e4, e5⟩
  rw [e264_103, p_w (x := i + 1) (by omega) (by omega), p_w (x := i + 2) (by omega) (by omega), p_w (x := i + 3) (by omega) (by omega), p_w (x := i + 4) (by omega) (by omega), hL, p_c (by omega), p_c (by omega), p_c (by omega), p_c (by omega), show am_run 1000 189 [.inr 0, .inl (M 203 (i + 1)), .inl (M 203 (i + 2)), .inl (M 203 (i + 3)), .inl (M 203 (i + 4))] M = some (r, M1) from e1, p_b, e2, hL, p_c (by omega), p_c (by omega), p_c (by omega), p_c (by omega), show am_run 1000 71 [.inr 186, .inl (M 203 (i + 1)), .inl (M 203 (i + 2)), .inl (M 203 (i + 3)), .inl (M 203 (i + 4))] M1 = some (r, M2) from e3, p_b, if_pos rfl]
theorem l_150 (hP : pPres) {C M : am_M} (hI : Inv C M) (hx : pInts M) {L i : Int} (hL : M 203 (-1) = L) (h0 : 0 ≤ i) (hi : i + 6 ≤ L) (h3 : L ≤ 3072) : ∃ M2, am_L 1000 264 150 [some (.inr 203), some (.inr 0), some (.inr 186), some (.inl i)] [] M = am_L 1000 264 1161 [some (.inr 203), some (.inr 0), some (.inr 186), some (.inl i)] [] M2 ∧ Inv C M2 ∧ pInts M2 := by
  obtain ⟨r, M1, M2, e1, e2, e3, e4, e5⟩ := law_pair hP hx (by decide) (law_ar hx (l := [M 203 (i + 1), M 203 (i + 2)]) (f := fun k => M 203 k) (fun x hm => by simp only [List.mem_cons, List.not_mem_nil, or_false] at hm; rcases hm with rfl | rfl <;> exact ⟨_, rfl⟩) (fun k => hx 203 k)) (a_leave hI (M 203 (i + 1)) (M 203 (i + 2)))
  refine ⟨M2, ?_, e4, e5⟩
  rw [e264_150, p_w (x := i + 1) (by omega) (by omega), p_w (x := i + 2) (by omega) (by omega), hL, p_c (by omega), p_c (by omega), show am_run 1000 190 [.inr 0, .inl (M 203 (i + 1)), .inl (M 203 (i + 2))] M = some (r, M1) from e1, p_b, e2, hL, p_c (by omega), p_c (by omega), show am_run 1000 72 [.inr 186, .inl (M 203 (i + 1)), .inl (M 203 (i + 2))] M1 = some (r, M2) from e3, p_b, if_pos rfl]
theorem l_177 (hP : pPres) {C M : am_M} (hI : Inv C M) (hx : pInts M) {L i : Int} (hL : M 203 (-1) = L) (h0 : 0 ≤ i) (hi : i + 6 ≤ L) (h3 : L ≤ 3072) : ∃ M2, am_L 1000 264 177 [some (.inr 203), some (.inr 0), some (.inr 186), some (.inl i)] [] M = am_L 1000 264 1161 [some (.inr 203), some (.inr 0), some (.inr 186), some (.inl i)] [] M2 ∧ Inv C M2 ∧ pInts M2 := by
  obtain ⟨r, M1, M2, e1, e2, e3, e4, e5⟩ := law_pair hP hx (by decide) (law_ar hx (l := [M 203 (i + 1), M 203 (i + 2)]) (f := fun k => M 203 k) (fun x hm => by simp only [List.mem_cons, List.not_mem_nil, or_false] at hm; rcases hm with rfl | rfl <;> exact ⟨_, rfl⟩) (fun k => hx 203 k)) (a_fetch hI (M 203 (i + 1)) (M 203 (i + 2)))
  refine ⟨M2, ?_, e4, e5⟩
  rw [e264_177, p_w (x := i + 1) (by omega) (by omega), p_w (x := i + 2) (by omega) (by omega), hL, p_c (by omega), p_c (by omega), show am_run 1000 191 [.inr 0, .inl (M 203 (i + 1)), .inl (M 203 (i + 2))] M = some (r, M1) from e1, p_b, e2, hL, p_c (by omega), p_c (by omega), show am_run 1000 73 [.inr 186, .inl (M 203 (i + 1)), .inl (M 203 (i + 2))] M1 = some (r, M2) from e3, p_b, if_pos rfl]
theorem l_204 (hP : pPres) {C M : am_M} (hI : Inv C M) (hx : pInts M) {L i : Int} (hL : M 203 (-1) = L) (h0 : 0 ≤ i) (hi : i + 6 ≤ L) (h3 : L ≤ 3072) : ∃ M2, am_L 1000 264 204 [some (.inr 203), some (.inr 0), some (.inr 186), some (.inl i)] [] M = am_L 1000 264 1161 [some (.inr 203), some (.inr 0), some (.inr 186), some (.inl i)] [] M2 ∧ Inv C M2 ∧ pInts M2 := by
  obtain ⟨r, M1, M2, e1, e2, e3, e4, e5⟩ := law_pair hP hx (by decide) (law_ar hx (l := [M 203 (i + 1), M 203 (i + 2)]) (f := fun k => M 203 k) (fun x hm => by simp only [List.mem_cons, List.not_mem_nil, or_false] at hm; rcases hm with rfl | rfl <;> exact ⟨_, rfl⟩) (fun k => hx 203 k)) (a_task hI (M 203 (i + 1)) (M 203 (i + 2)))
  refine ⟨M2, ?_, e4, e5⟩
  rw [e264_204, p_w (x := i + 1) (by omega) (by omega), p_w (x := i + 2) (by omega) (by omega), hL, p_c (by omega), p_c (by omega), show am_run 1000 192 [.inr 0, .inl (M 203 (i + 1)), .inl (M 203 (i + 2))] M = some (r, M1) from e1, p_b, e2, hL, p_c (by omega), p_c (by omega), show am_run 1000 74 [.inr 186, .inl (M 203 (i + 1)), .inl (M 203 (i + 2))] M1 = some (r, M2) from e3, p_b, if_pos rfl]
theorem l_231 (hP : pPres) {C M : am_M} (hI : Inv C M) (hx : pInts M) {L i : Int} (hL : M 203 (-1) = L) (h0 : 0 ≤ i) (hi : i + 6 ≤ L) (h3 : L ≤ 3072) : ∃ M2, am_L 1000 264 231 [some (.inr 203), some (.inr 0), some (.inr 186), some (.inl i)] [] M = am_L 1000 264 1161 [some (.inr 203), some (.inr 0), some (.inr 186), some (.inl i)] [] M2 ∧ Inv C M2 ∧ pInts M2 := by
  obtain ⟨r, M1, M2, e1, e2, e3, e4, e5⟩ := law_pair hP hx (by decide) (law_ar hx (l := [M 203 (i + 1), M 203 (i + 2)]) (f := fun k => M 203 k) (fun x hm => by simp only [List.mem_cons, List.not_mem_nil, or_false] at hm; rcases hm with rfl | rfl <;> exact ⟨_, rfl⟩) (fun k => hx 203 k)) (a_deed hI (M 203 (i + 1)) (M 203 (i + 2)))
  refine ⟨M2, ?_, e4, e5⟩
  rw [e264_231, p_w (x := i + 1) (by omega) (by omega), p_w (x := i + 2) (by omega) (by omega), hL, p_c (by omega), p_c (by omega), show am_run 1000 193 [.inr 0, .inl (M 203 (i + 1)), .inl (M 203 (i + 2))] M = some (r, M1) from e1, p_b, e2, hL, p_c (by omega), p_c (by omega), show am_run 1000 79 [.inr 186, .inl (M 203 (i + 1)), .inl (M 203 (i + 2))] M1 = some (r, M2) from e3, p_b, if_pos rfl]
theorem l_258 (hP : pPres) {C M : am_M} (hI : Inv C M) (hx : pInts M) {L i : Int} (hL : M 203 (-1) = L) (h0 : 0 ≤ i) (hi : i + 6 ≤ L) (h3 : L ≤ 3072) : ∃ M2, am_L 1000 264 258 [some (.inr 203), some (.inr 0), some (.inr 186), some (.inl i)] [] M = am_L 1000 264 1161 [some (.inr 203), some (.inr 0), some (.inr 186), some (.inl i)] [] M2 ∧ Inv C M2 ∧ pInts M2 := by
  obtain ⟨r, M1, M2, e1, e2, e3, e4, e5⟩ := law_pair hP hx (by decide) (law_ar hx (l := [M 203 (i + 1)]) (f := fun k => M 203 k) (fun x hm => by simp only [List.mem_cons, List.not_mem_nil, or_false] at hm; rcases hm with rfl <;> exact ⟨_, rfl⟩) (fun k => hx 203 k)) (a_hours hI (M 203 (i + 1)))
  refine ⟨M2, ?_, e4, e5⟩
  rw [e264_258, p_w (x := i + 1) (by omega) (by omega), hL, p_c (by omega), show am_run 1000 195 [.inr 0, .inl (M 203 (i + 1))] M = some (r, M1) from e1, p_b, e2, hL, p_c (by omega), show am_run 1000 88 [.inr 186, .inl (M 203 (i + 1))] M1 = some (r, M2) from e3, p_b, if_pos rfl]
theorem l_275 (hP : pPres) {C M : am_M} (hI : Inv C M) (hx : pInts M) {L i : Int} (hL : M 203 (-1) = L) (h0 : 0 ≤ i) (hi : i + 6 ≤ L) (h3 : L ≤ 3072) : ∃ M2, am_L 1000 264 275 [some (.inr 203), some (.inr 0), some (.inr 186), some (.inl i)] [] M = am_L 1000 264 1161 [some (.inr 203), some (.inr 0), some (.inr 186), some (.inl i)] [] M2 ∧ Inv C M2 ∧ pInts M2 := by
  obtain ⟨r, M1, M2, e1, e2, e3, e4, e5⟩ := law_pair hP hx (by decide) (law_ar hx (l := [M 203 (i + 1), M 203 (i + 2), M 203 (i + 3), M 203 (i + 4), M 203 (i + 5)]) (f := fun k => M 203 k) (fun x hm => by simp only [List.mem_cons, List.not_mem_nil, or_false] at hm; rcases hm with rfl | rfl | rfl | rfl | rfl <;> exact ⟨_, rfl⟩) (fun k => hx 203 k)) (a_feed hI (M 203 (i + 1)) (M 203 (i + 2)) (M 203 (i + 3)) (M 203 (i + 4)) (M 203 (i + 5)))
  refine ⟨M2, ?_, e4, e5⟩
  rw [e264_275, p_w (x := i + 1) (by omega) (by omega), p_w (x := i + 2) (by omega) (by omega), p_w (x := i + 3) (by omega) (by omega), p_w (x := i + 4) (by omega) (by omega), p_w (x := i + 5) (by omega) (by omega), hL, p_c (by omega), p_c (by omega), p_c (by omega), p_c (by omega), p_c (by omega), show am_run 1000 184 [.inr 0, .inl (M 203 (i + 1)), .inl (M 203 (i + 2)), .inl (M 203 (i + 3)), .inl (M 203 (i + 4)), .inl (M 203 (i + 5))] M = some (r, M1) from e1, p_b, e2, hL, p_c (by omega), p_c (by omega), p_c (by omega), p_c (by omega), p_c (by omega), show am_run 1000 19 [.inr 186, .inl (M 203 (i + 1)), .inl (M 203 (i + 2)), .inl (M 203 (i + 3)), .inl (M 203 (i + 4)), .inl (M 203 (i + 5))] M1 = some (r, M2) from e3, p_b, if_pos rfl]
theorem l_332 (hP : pPres) {C M : am_M} (hI : Inv C M) (hx : pInts M) {L i : Int} (hL : M 203 (-1) = L) (h0 : 0 ≤ i) (hi : i + 6 ≤ L) (h3 : L ≤ 3072) : ∃ M2, am_L 1000 264 332 [some (.inr 203), some (.inr 0), some (.inr 186), some (.inl i)] [] M = am_L 1000 264 1161 [some (.inr 203), some (.inr 0), some (.inr 186), some (.inl i)] [] M2 ∧ Inv C M2 ∧ pInts M2 := by
  obtain ⟨r, M1, M2, e1, e2, e3, e4, e5⟩ := law_pair hP hx (by decide) (law_ar hx (l := [M 203 (i + 1)]) (f := fun k => M 203 k) (fun x hm => by simp only [List.mem_cons, List.not_mem_nil, or_false] at hm; rcases hm with rfl <;> exact ⟨_, rfl⟩) (fun k => hx 203 k)) (a_end hI (M 203 (i + 1)))
  refine ⟨M2, ?_, e4, e5⟩
  rw [e264_332, p_w (x := i + 1) (by omega) (by omega), hL, p_c (by omega), show am_run 1000 186 [.inr 0, .inl (M 203 (i + 1))] M = some (r, M1) from e1, p_b, e2, hL, p_c (by omega), show am_run 1000 20 [.inr 186, .inl (M 203 (i + 1))] M1 = some (r, M2) from e3, p_b, if_pos rfl]
theorem l_349 (hP : pPres) {C M : am_M} (hI : Inv C M) (hx : pInts M) (hK : pKons C) (hS : ∀ k, 0 ≤ k → k < 3 → C 200 k = sFst k ∧ C 201 k = sLst k ∧ C 202 k = sAsk k) {L i : Int} (hL : M 203 (-1) = L) (h0 : 0 ≤ i) (hi : i + 6 ≤ L) (h3 : L ≤ 3072) : ∃ M2, am_L 1000 264 349 [some (.inr 203), some (.inr 0), some (.inr 186), some (.inl i)] [] M = am_L 1000 264 1161 [some (.inr 203), some (.inr 0), some (.inr 186), some (.inl i)] [] M2 ∧ Inv C M2 ∧ pInts M2 := by
  obtain ⟨r, M1, M2, e1, e2, e3, e4, e5⟩ := law_pair hP hx (by decide) (law_ar hx (l := [M 203 (i + 1)]) (f := fun k => M 203 k) (fun x hm => by simp only [List.mem_cons, List.not_mem_nil, or_false] at hm; rcases hm with rfl <;> exact ⟨_, rfl⟩) (fun k => hx 203 k)) (a_text hI hK hS (M 203 (i + 1)))
  refine ⟨M2, ?_, e4, e5⟩
  rw [e264_349, p_w (x := i + 1) (by omega) (by omega), hL, p_c (by omega), show am_run 1000 187 [.inr 0, .inl (M 203 (i + 1))] M = some (r, M1) from e1, p_b, e2, hL, p_c (by omega), show am_run 1000 52 [.inr 186, .inl (M 203 (i + 1))] M1 = some (r, M2) from e3, p_b, if_pos rfl]
theorem l_366 (hP : pPres) {C M : am_M} (hI : Inv C M) (hx : pInts M) {L i : Int} (hL : M 203 (-1) = L) (h0 : 0 ≤ i) (hi : i + 6 ≤ L) (h3 : L ≤ 3072) : ∃ M2, am_L 1000 264 366 [some (.inr 203), some (.inr 0), some (.inr 186), some (.inl i)] [] M = am_L 1000 264 1161 [some (.inr 203), some (.inr 0), some (.inr 186), some (.inl i)] [] M2 ∧ Inv C M2 ∧ pInts M2 := by
  obtain ⟨r, M1, M2, e1, e2, e3, e4, e5⟩ := law_pair hP hx (by decide) (law_ar hx (l := [M 203 (i + 1)]) (f := fun k => M 203 k) (fun x hm => by simp only [List.mem_cons, List.not_mem_nil, or_false] at hm; rcases hm with rfl <;> exact ⟨_, rfl⟩) (fun k => hx 203 k)) (q_fault hI (M 203 (i + 1)))
  refine ⟨M2, ?_, e4, e5⟩
  rw [e264_366, p_w (x := i + 1) (by omega) (by omega), hL, p_c (by omega), show am_run 1000 188 [.inr 0, .inl (M 203 (i + 1))] M = some (r, M1) from e1, p_b, e2, hL, p_c (by omega), show am_run 1000 53 [.inr 186, .inl (M 203 (i + 1))] M1 = some (r, M2) from e3, p_b, if_pos rfl]
theorem l_383 (hP : pPres) {C M : am_M} (hI : Inv C M) (hx : pInts M) {L i : Int} (hL : M 203 (-1) = L) (h0 : 0 ≤ i) (hi : i + 6 ≤ L) (h3 : L ≤ 3072) : ∃ M2, am_L 1000 264 383 [some (.inr 203), some (.inr 0), some (.inr 186), some (.inl i)] [] M = am_L 1000 264 1161 [some (.inr 203), some (.inr 0), some (.inr 186), some (.inl i)] [] M2 ∧ Inv C M2 ∧ pInts M2 := by
  obtain ⟨r, M1, M2, e1, e2, e3, e4, e5⟩ := law_pair hP hx (by decide) (law_ar hx (l := [M 203 (i + 1), M 203 (i + 2)]) (f := fun k => M 203 k) (fun x hm => by simp only [List.mem_cons, List.not_mem_nil, or_false] at hm; rcases hm with rfl | rfl <;> exact ⟨_, rfl⟩) (fun k => hx 203 k)) (q_of hI (M 203 (i + 1)) (M 203 (i + 2)))
  refine ⟨M2, ?_, e4, e5⟩
  rw [e264_383, p_w (x := i + 1) (by omega) (by omega), p_w (x := i + 2) (by omega) (by omega), hL, p_c (by omega), p_c (by omega), show am_run 1000 200 [.inr 0, .inl (M 203 (i + 1)), .inl (M 203 (i + 2))] M = some (r, M1) from e1, p_b, e2, hL, p_c (by omega), p_c (by omega), show am_run 1000 90 [.inr 186, .inl (M 203 (i + 1)), .inl (M 203 (i + 2))] M1 = some (r, M2) from e3, p_b, if_pos rfl]
theorem l_410 (hP : pPres) {C M : am_M} (hI : Inv C M) (hx : pInts M) {L i : Int} (hL : M 203 (-1) = L) (h0 : 0 ≤ i) (hi : i + 6 ≤ L) (h3 : L ≤ 3072) : ∃ M2, am_L 1000 264 410 [some (.inr 203), some (.inr 0), some (.inr 186), some (.inl i)] [] M = am_L 1000 264 1161 [some (.inr 203), some (.inr 0), some (.inr 186), some (.inl i)] [] M2 ∧ Inv C M2 ∧ pInts M2 := by
  obtain ⟨r, M1, M2, e1, e2, e3, e4, e5⟩ := law_pair hP hx (by decide) (law_ar hx (l := [M 203 (i + 1), M 203 (i + 2)]) (f := fun k => M 203 k) (fun x hm => by simp only [List.mem_cons, List.not_mem_nil, or_false] at hm; rcases hm with rfl | rfl <;> exact ⟨_, rfl⟩) (fun k => hx 203 k)) (q_at hI (M 203 (i + 1)) (M 203 (i + 2)))
  refine ⟨M2, ?_, e4, e5⟩
  rw [e264_410, p_w (x := i + 1) (by omega) (by omega), p_w (x := i + 2) (by omega) (by omega), hL, p_c (by omega), p_c (by omega), show am_run 1000 202 [.inr 0, .inl (M 203 (i + 1)), .inl (M 203 (i + 2))] M = some (r, M1) from e1, p_b, e2, hL, p_c (by omega), p_c (by omega), show am_run 1000 91 [.inr 186, .inl (M 203 (i + 1)), .inl (M 203 (i + 2))] M1 = some (r, M2) from e3, p_b, if_pos rfl]
theorem l_437 (hP : pPres) {C M : am_M} (hI : Inv C M) (hx : pInts M) {L i : Int} (hL : M 203 (-1) = L) (h0 : 0 ≤ i) (hi : i + 6 ≤ L) (h3 : L ≤ 3072) : ∃ M2, am_L 1000 264 437 [some (.inr 203), some (.inr 0), some (.inr 186), some (.inl i)] [] M = am_L 1000 264 1161 [some (.inr 203), some (.inr 0), some (.inr 186), some (.inl i)] [] M2 ∧ Inv C M2 ∧ pInts M2 := by
  obtain ⟨r, M1, M2, e1, e2, e3, e4, e5⟩ := law_pair hP hx (by decide) (law_ar hx (l := [M 203 (i + 1), M 203 (i + 2)]) (f := fun k => M 203 k) (fun x hm => by simp only [List.mem_cons, List.not_mem_nil, or_false] at hm; rcases hm with rfl | rfl <;> exact ⟨_, rfl⟩) (fun k => hx 203 k)) (q_loan hI (M 203 (i + 1)) (M 203 (i + 2)))
  refine ⟨M2, ?_, e4, e5⟩
  rw [e264_437, p_w (x := i + 1) (by omega) (by omega), p_w (x := i + 2) (by omega) (by omega), hL, p_c (by omega), p_c (by omega), show am_run 1000 203 [.inr 0, .inl (M 203 (i + 1)), .inl (M 203 (i + 2))] M = some (r, M1) from e1, p_b, e2, hL, p_c (by omega), p_c (by omega), show am_run 1000 92 [.inr 186, .inl (M 203 (i + 1)), .inl (M 203 (i + 2))] M1 = some (r, M2) from e3, p_b, if_pos rfl]
theorem l_464 (hP : pPres) {C M : am_M} (hI : Inv C M) (hx : pInts M) {L i : Int} (hL : M 203 (-1) = L) (h0 : 0 ≤ i) (hi : i + 6 ≤ L) (h3 : L ≤ 3072) : ∃ M2, am_L 1000 264 464 [some (.inr 203), some (.inr 0), some (.inr 186), some (.inl i)] [] M = am_L 1000 264 1161 [some (.inr 203), some (.inr 0), some (.inr 186), some (.inl i)] [] M2 ∧ Inv C M2 ∧ pInts M2 := by
  obtain ⟨r, M1, M2, e1, e2, e3, e4, e5⟩ := law_pair hP hx (by decide) (law_ar hx (l := [M 203 (i + 1), M 203 (i + 2)]) (f := fun k => M 203 k) (fun x hm => by simp only [List.mem_cons, List.not_mem_nil, or_false] at hm; rcases hm with rfl | rfl <;> exact ⟨_, rfl⟩) (fun k => hx 203 k)) (q_book hI (M 203 (i + 1)) (M 203 (i + 2)))
  refine ⟨M2, ?_, e4, e5⟩
  rw [e264_464, p_w (x := i + 1) (by omega) (by omega), p_w (x := i + 2) (by omega) (by omega), hL, p_c (by omega), p_c (by omega), show am_run 1000 204 [.inr 0, .inl (M 203 (i + 1)), .inl (M 203 (i + 2))] M = some (r, M1) from e1, p_b, e2, hL, p_c (by omega), p_c (by omega), show am_run 1000 93 [.inr 186, .inl (M 203 (i + 1)), .inl (M 203 (i + 2))] M1 = some (r, M2) from e3, p_b, if_pos rfl]
theorem l_491 (hP : pPres) {C M : am_M} (hI : Inv C M) (hx : pInts M) {L i : Int} (hL : M 203 (-1) = L) (h0 : 0 ≤ i) (hi : i + 6 ≤ L) (h3 : L ≤ 3072) : ∃ M2, am_L 1000 264 491 [some (.inr 203), some (.inr 0), some (.inr 186), some (.inl i)] [] M = am_L 1000 264 1161 [some (.inr 203), some (.inr 0), some (.inr 186), some (.inl i)] [] M2 ∧ Inv C M2 ∧ pInts M2 := by
  obtain ⟨r, M1, M2, e1, e2, e3, e4, e5⟩ := law_pair hP hx (by decide) (law_ar hx (l := [M 203 (i + 1), M 203 (i + 2), M 203 (i + 3), M 203 (i + 4)]) (f := fun k => M 203 k) (fun x hm => by simp only [List.mem_cons, List.not_mem_nil, or_false] at hm; rcases hm with rfl | rfl | rfl | rfl <;> exact ⟨_, rfl⟩) (fun k => hx 203 k)) (q_may hI (M 203 (i + 1)) (M 203 (i + 2)) (M 203 (i + 3)) (M 203 (i + 4)))
  refine ⟨M2, ?_, e4, e5⟩
  rw [e264_491, p_w (x := i + 1) (by omega) (by omega), p_w (x := i + 2) (by omega) (by omega), p_w (x := i + 3) (by omega) (by omega), p_w (x := i + 4) (by omega) (by omega), hL, p_c (by omega), p_c (by omega), p_c (by omega), p_c (by omega), show am_run 1000 216 [.inr 0, .inl (M 203 (i + 1)), .inl (M 203 (i + 2)), .inl (M 203 (i + 3)), .inl (M 203 (i + 4))] M = some (r, M1) from e1, p_b, e2, hL, p_c (by omega), p_c (by omega), p_c (by omega), p_c (by omega), show am_run 1000 94 [.inr 186, .inl (M 203 (i + 1)), .inl (M 203 (i + 2)), .inl (M 203 (i + 3)), .inl (M 203 (i + 4))] M1 = some (r, M2) from e3, p_b, if_pos rfl]
theorem l_538 (hP : pPres) {C M : am_M} (hI : Inv C M) (hx : pInts M) {L i : Int} (hL : M 203 (-1) = L) (h0 : 0 ≤ i) (hi : i + 6 ≤ L) (h3 : L ≤ 3072) : ∃ M2, am_L 1000 264 538 [some (.inr 203), some (.inr 0), some (.inr 186), some (.inl i)] [] M = am_L 1000 264 1161 [some (.inr 203), some (.inr 0), some (.inr 186), some (.inl i)] [] M2 ∧ Inv C M2 ∧ pInts M2 := by
  obtain ⟨r, M1, M2, e1, e2, e3, e4, e5⟩ := law_pair hP hx (by decide) (law_ar hx (l := [M 203 (i + 1), M 203 (i + 2)]) (f := fun k => M 203 k) (fun x hm => by simp only [List.mem_cons, List.not_mem_nil, or_false] at hm; rcases hm with rfl | rfl <;> exact ⟨_, rfl⟩) (fun k => hx 203 k)) (q_can hI (M 203 (i + 1)) (M 203 (i + 2)))
  refine ⟨M2, ?_, e4, e5⟩
  rw [e264_538, p_w (x := i + 1) (by omega) (by omega), p_w (x := i + 2) (by omega) (by omega), hL, p_c (by omega), p_c (by omega), show am_run 1000 221 [.inr 0, .inl (M 203 (i + 1)), .inl (M 203 (i + 2))] M = some (r, M1) from e1, p_b, e2, hL, p_c (by omega), p_c (by omega), show am_run 1000 100 [.inr 186, .inl (M 203 (i + 1)), .inl (M 203 (i + 2))] M1 = some (r, M2) from e3, p_b, if_pos rfl]
theorem l_565 (hP : pPres) {C M : am_M} (hI : Inv C M) (hx : pInts M) {L i : Int} (hL : M 203 (-1) = L) (h0 : 0 ≤ i) (hi : i + 6 ≤ L) (h3 : L ≤ 3072) : ∃ M2, am_L 1000 264 565 [some (.inr 203), some (.inr 0), some (.inr 186), some (.inl i)] [] M = am_L 1000 264 1161 [some (.inr 203), some (.inr 0), some (.inr 186), some (.inl i)] [] M2 ∧ Inv C M2 ∧ pInts M2 := by
  obtain ⟨r, M1, M2, e1, e2, e3, e4, e5⟩ := law_pair hP hx (by decide) (law_ar hx (l := [M 203 (i + 1)]) (f := fun k => M 203 k) (fun x hm => by simp only [List.mem_cons, List.not_mem_nil, or_false] at hm; rcases hm with rfl <;> exact ⟨_, rfl⟩) (fun k => hx 203 k)) (q_pay hI (M 203 (i + 1)))
  refine ⟨M2, ?_, e4, e5⟩
  rw [e264_565, p_w (x := i + 1) (by omega) (by omega), hL, p_c (by omega), show am_run 1000 225 [.inr 0, .inl (M 203 (i + 1))] M = some (r, M1) from e1, p_b, e2, hL, p_c (by omega), show am_run 1000 103 [.inr 186, .inl (M 203 (i + 1))] M1 = some (r, M2) from e3, p_b, if_pos rfl]
theorem l_582 (hP : pPres) {C M : am_M} (hI : Inv C M) (hx : pInts M) {L i : Int} (hL : M 203 (-1) = L) (h0 : 0 ≤ i) (hi : i + 6 ≤ L) (h3 : L ≤ 3072) : ∃ M2, am_L 1000 264 582 [some (.inr 203), some (.inr 0), some (.inr 186), some (.inl i)] [] M = am_L 1000 264 1161 [some (.inr 203), some (.inr 0), some (.inr 186), some (.inl i)] [] M2 ∧ Inv C M2 ∧ pInts M2 := by
  obtain ⟨r, M1, M2, e1, e2, e3, e4, e5⟩ := law_pair hP hx (by decide) (fun x hm => absurd hm List.not_mem_nil) (q_back hI )
  refine ⟨M2, ?_, e4, e5⟩
  rw [e264_582, e1, p_b, e3, p_b, if_pos rfl]
theorem l_589 (hP : pPres) {C M : am_M} (hI : Inv C M) (hx : pInts M) {L i : Int} (hL : M 203 (-1) = L) (h0 : 0 ≤ i) (hi : i + 6 ≤ L) (h3 : L ≤ 3072) : ∃ M2, am_L 1000 264 589 [some (.inr 203), some (.inr 0), some (.inr 186), some (.inl i)] [] M = am_L 1000 264 1161 [some (.inr 203), some (.inr 0), some (.inr 186), some (.inl i)] [] M2 ∧ Inv C M2 ∧ pInts M2 := by
  obtain ⟨r, M1, M2, e1, e2, e3, e4, e5⟩ := law_pair hP hx (by decide) (law_ar hx (l := [M 203 (i + 1), M 203 (i + 2)]) (f := fun k => M 203 k) (fun x hm => by simp only [List.mem_cons, List.not_mem_nil, or_false] at hm; rcases hm with rfl | rfl <;> exact ⟨_, rfl⟩) (fun k => hx 203 k)) (q_where hI (M 203 (i + 1)) (M 203 (i + 2)))
  refine ⟨M2, ?_, e4, e5⟩
  rw [e264_589, p_w (x := i + 1) (by omega) (by omega), p_w (x := i + 2) (by omega) (by omega), hL, p_c (by omega), p_c (by omega), show am_run 1000 239 [.inr 0, .inl (M 203 (i + 1)), .inl (M 203 (i + 2))] M = some (r, M1) from e1, p_b, e2, hL, p_c (by omega), p_c (by omega), show am_run 1000 108 [.inr 186, .inl (M 203 (i + 1)), .inl (M 203 (i + 2))] M1 = some (r, M2) from e3, p_b, if_pos rfl]
theorem l_616 (hP : pPres) {C M : am_M} (hI : Inv C M) (hx : pInts M) {L i : Int} (hL : M 203 (-1) = L) (h0 : 0 ≤ i) (hi : i + 6 ≤ L) (h3 : L ≤ 3072) : ∃ M2, am_L 1000 264 616 [some (.inr 203), some (.inr 0), some (.inr 186), some (.inl i)] [] M = am_L 1000 264 1161 [some (.inr 203), some (.inr 0), some (.inr 186), some (.inl i)] [] M2 ∧ Inv C M2 ∧ pInts M2 := by
  obtain ⟨r, M1, M2, e1, e2, e3, e4, e5⟩ := law_pair hP hx (by decide) (law_ar hx (l := [M 203 (i + 1)]) (f := fun k => M 203 k) (fun x hm => by simp only [List.mem_cons, List.not_mem_nil, or_false] at hm; rcases hm with rfl <;> exact ⟨_, rfl⟩) (fun k => hx 203 k)) (q_fails hI (M 203 (i + 1)))
  refine ⟨M2, ?_, e4, e5⟩
  rw [e264_616, p_w (x := i + 1) (by omega) (by omega), hL, p_c (by omega), show am_run 1000 241 [.inr 0, .inl (M 203 (i + 1))] M = some (r, M1) from e1, p_b, e2, hL, p_c (by omega), show am_run 1000 109 [.inr 186, .inl (M 203 (i + 1))] M1 = some (r, M2) from e3, p_b, if_pos rfl]
theorem l_633 (hP : pPres) {C M : am_M} (hI : Inv C M) (hx : pInts M) {L i : Int} (hL : M 203 (-1) = L) (h0 : 0 ≤ i) (hi : i + 6 ≤ L) (h3 : L ≤ 3072) : ∃ M2, am_L 1000 264 633 [some (.inr 203), some (.inr 0), some (.inr 186), some (.inl i)] [] M = am_L 1000 264 1161 [some (.inr 203), some (.inr 0), some (.inr 186), some (.inl i)] [] M2 ∧ Inv C M2 ∧ pInts M2 := by
  obtain ⟨r, M1, M2, e1, e2, e3, e4, e5⟩ := law_pair hP hx (by decide) (fun x hm => absurd hm List.not_mem_nil) (q_bare hI )
  refine ⟨M2, ?_, e4, e5⟩
  rw [e264_633, e1, p_b, e3, p_b, if_pos rfl]
theorem l_640 (hP : pPres) {C M : am_M} (hI : Inv C M) (hx : pInts M) {L i : Int} (hL : M 203 (-1) = L) (h0 : 0 ≤ i) (hi : i + 6 ≤ L) (h3 : L ≤ 3072) : ∃ M2, am_L 1000 264 640 [some (.inr 203), some (.inr 0), some (.inr 186), some (.inl i)] [] M = am_L 1000 264 1161 [some (.inr 203), some (.inr 0), some (.inr 186), some (.inl i)] [] M2 ∧ Inv C M2 ∧ pInts M2 := by
  obtain ⟨r, M1, M2, e1, e2, e3, e4, e5⟩ := law_pair hP hx (by decide) (law_ar hx (l := [M 203 (i + 1)]) (f := fun k => M 203 k) (fun x hm => by simp only [List.mem_cons, List.not_mem_nil, or_false] at hm; rcases hm with rfl <;> exact ⟨_, rfl⟩) (fun k => hx 203 k)) (q_whose hI (M 203 (i + 1)))
  refine ⟨M2, ?_, e4, e5⟩
  rw [e264_640, p_w (x := i + 1) (by omega) (by omega), hL, p_c (by omega), show am_run 1000 212 [.inr 0, .inl (M 203 (i + 1))] M = some (r, M1) from e1, p_b, e2, hL, p_c (by omega), show am_run 1000 111 [.inr 186, .inl (M 203 (i + 1))] M1 = some (r, M2) from e3, p_b, if_pos rfl]
theorem l_657 (hP : pPres) {C M : am_M} (hI : Inv C M) (hx : pInts M) {L i : Int} (hL : M 203 (-1) = L) (h0 : 0 ≤ i) (hi : i + 6 ≤ L) (h3 : L ≤ 3072) : ∃ M2, am_L 1000 264 657 [some (.inr 203), some (.inr 0), some (.inr 186), some (.inl i)] [] M = am_L 1000 264 1161 [some (.inr 203), some (.inr 0), some (.inr 186), some (.inl i)] [] M2 ∧ Inv C M2 ∧ pInts M2 := by
  obtain ⟨r, M1, M2, e1, e2, e3, e4, e5⟩ := law_pair hP hx (by decide) (law_ar hx (l := [M 203 (i + 1)]) (f := fun k => M 203 k) (fun x hm => by simp only [List.mem_cons, List.not_mem_nil, or_false] at hm; rcases hm with rfl <;> exact ⟨_, rfl⟩) (fun k => hx 203 k)) (q_ask hI (M 203 (i + 1)))
  refine ⟨M2, ?_, e4, e5⟩
  rw [e264_657, p_w (x := i + 1) (by omega) (by omega), hL, p_c (by omega), show am_run 1000 213 [.inr 0, .inl (M 203 (i + 1))] M = some (r, M1) from e1, p_b, e2, hL, p_c (by omega), show am_run 1000 113 [.inr 186, .inl (M 203 (i + 1))] M1 = some (r, M2) from e3, p_b, if_pos rfl]
theorem l_674 (hP : pPres) {C M : am_M} (hI : Inv C M) (hx : pInts M) {L i : Int} (hL : M 203 (-1) = L) (h0 : 0 ≤ i) (hi : i + 6 ≤ L) (h3 : L ≤ 3072) : ∃ M2, am_L 1000 264 674 [some (.inr 203), some (.inr 0), some (.inr 186), some (.inl i)] [] M = am_L 1000 264 1161 [some (.inr 203), some (.inr 0), some (.inr 186), some (.inl i)] [] M2 ∧ Inv C M2 ∧ pInts M2 := by
  obtain ⟨r, M1, M2, e1, e2, e3, e4, e5⟩ := law_pair hP hx (by decide) (law_ar hx (l := [M 203 (i + 1), M 203 (i + 2), M 203 (i + 3)]) (f := fun k => M 203 k) (fun x hm => by simp only [List.mem_cons, List.not_mem_nil, or_false] at hm; rcases hm with rfl | rfl | rfl <;> exact ⟨_, rfl⟩) (fun k => hx 203 k)) (q_learns hI (M 203 (i + 1)) (M 203 (i + 2)) (M 203 (i + 3)))
  refine ⟨M2, ?_, e4, e5⟩
  rw [e264_674, p_w (x := i + 1) (by omega) (by omega), p_w (x := i + 2) (by omega) (by omega), p_w (x := i + 3) (by omega) (by omega), hL, p_c (by omega), p_c (by omega), p_c (by omega), show am_run 1000 244 [.inr 0, .inl (M 203 (i + 1)), .inl (M 203 (i + 2)), .inl (M 203 (i + 3))] M = some (r, M1) from e1, p_b, e2, hL, p_c (by omega), p_c (by omega), p_c (by omega), show am_run 1000 116 [.inr 186, .inl (M 203 (i + 1)), .inl (M 203 (i + 2)), .inl (M 203 (i + 3))] M1 = some (r, M2) from e3, p_b, if_pos rfl]
theorem l_711 (hP : pPres) {C M : am_M} (hI : Inv C M) (hx : pInts M) {L i : Int} (hL : M 203 (-1) = L) (h0 : 0 ≤ i) (hi : i + 6 ≤ L) (h3 : L ≤ 3072) : ∃ M2, am_L 1000 264 711 [some (.inr 203), some (.inr 0), some (.inr 186), some (.inl i)] [] M = am_L 1000 264 1161 [some (.inr 203), some (.inr 0), some (.inr 186), some (.inl i)] [] M2 ∧ Inv C M2 ∧ pInts M2 := by
  obtain ⟨r, M1, M2, e1, e2, e3, e4, e5⟩ := law_pair hP hx (by decide) (law_ar hx (l := [M 203 (i + 1), M 203 (i + 2), M 203 (i + 3)]) (f := fun k => M 203 k) (fun x hm => by simp only [List.mem_cons, List.not_mem_nil, or_false] at hm; rcases hm with rfl | rfl | rfl <;> exact ⟨_, rfl⟩) (fun k => hx 203 k)) (q_safe hI (M 203 (i + 1)) (M 203 (i + 2)) (M 203 (i + 3)))
  refine ⟨M2, ?_, e4, e5⟩
  rw [e264_711, p_w (x := i + 1) (by omega) (by omega), p_w (x := i + 2) (by omega) (by omega), p_w (x := i + 3) (by omega) (by omega), hL, p_c (by omega), p_c (by omega), p_c (by omega), show am_run 1000 245 [.inr 0, .inl (M 203 (i + 1)), .inl (M 203 (i + 2)), .inl (M 203 (i + 3))] M = some (r, M1) from e1, p_b, e2, hL, p_c (by omega), p_c (by omega), p_c (by omega), show am_run 1000 117 [.inr 186, .inl (M 203 (i + 1)), .inl (M 203 (i + 2)), .inl (M 203 (i + 3))] M1 = some (r, M2) from e3, p_b, if_pos rfl]
theorem l_748 (hP : pPres) {C M : am_M} (hI : Inv C M) (hx : pInts M) {L i : Int} (hL : M 203 (-1) = L) (h0 : 0 ≤ i) (hi : i + 6 ≤ L) (h3 : L ≤ 3072) : ∃ M2, am_L 1000 264 748 [some (.inr 203), some (.inr 0), some (.inr 186), some (.inl i)] [] M = am_L 1000 264 1161 [some (.inr 203), some (.inr 0), some (.inr 186), some (.inl i)] [] M2 ∧ Inv C M2 ∧ pInts M2 := by
  obtain ⟨r, M1, M2, e1, e2, e3, e4, e5⟩ := law_pair hP hx (by decide) (law_ar hx (l := [M 203 (i + 1), M 203 (i + 2), M 203 (i + 3), M 203 (i + 4)]) (f := fun k => M 203 k) (fun x hm => by simp only [List.mem_cons, List.not_mem_nil, or_false] at hm; rcases hm with rfl | rfl | rfl | rfl <;> exact ⟨_, rfl⟩) (fun k => hx 203 k)) (q_finds hI (M 203 (i + 1)) (M 203 (i + 2)) (M 203 (i + 3)) (M 203 (i + 4)))
  refine ⟨M2, ?_, e4, e5⟩
  rw [e264_748, p_w (x := i + 1) (by omega) (by omega), p_w (x := i + 2) (by omega) (by omega), p_w (x := i + 3) (by omega) (by omega), p_w (x := i + 4) (by omega) (by omega), hL, p_c (by omega), p_c (by omega), p_c (by omega), p_c (by omega), show am_run 1000 219 [.inr 0, .inl (M 203 (i + 1)), .inl (M 203 (i + 2)), .inl (M 203 (i + 3)), .inl (M 203 (i + 4))] M = some (r, M1) from e1, p_b, e2, hL, p_c (by omega), p_c (by omega), p_c (by omega), p_c (by omega), show am_run 1000 121 [.inr 186, .inl (M 203 (i + 1)), .inl (M 203 (i + 2)), .inl (M 203 (i + 3)), .inl (M 203 (i + 4))] M1 = some (r, M2) from e3, p_b, if_pos rfl]
theorem l_795 (hP : pPres) {C M : am_M} (hI : Inv C M) (hx : pInts M) {L i : Int} (hL : M 203 (-1) = L) (h0 : 0 ≤ i) (hi : i + 6 ≤ L) (h3 : L ≤ 3072) : ∃ M2, am_L 1000 264 795 [some (.inr 203), some (.inr 0), some (.inr 186), some (.inl i)] [] M = am_L 1000 264 1161 [some (.inr 203), some (.inr 0), some (.inr 186), some (.inl i)] [] M2 ∧ Inv C M2 ∧ pInts M2 := by
  obtain ⟨r, M1, M2, e1, e2, e3, e4, e5⟩ := law_pair hP hx (by decide) (law_ar hx (l := [M 203 (i + 1), M 203 (i + 2), M 203 (i + 3)]) (f := fun k => M 203 k) (fun x hm => by simp only [List.mem_cons, List.not_mem_nil, or_false] at hm; rcases hm with rfl | rfl | rfl <;> exact ⟨_, rfl⟩) (fun k => hx 203 k)) (q_dear hI (M 203 (i + 1)) (M 203 (i + 2)) (M 203 (i + 3)))
  refine ⟨M2, ?_, e4, e5⟩
  rw [e264_795, p_w (x := i + 1) (by omega) (by omega), p_w (x := i + 2) (by omega) (by omega), p_w (x := i + 3) (by omega) (by omega), hL, p_c (by omega), p_c (by omega), p_c (by omega), show am_run 1000 220 [.inr 0, .inl (M 203 (i + 1)), .inl (M 203 (i + 2)), .inl (M 203 (i + 3))] M = some (r, M1) from e1, p_b, e2, hL, p_c (by omega), p_c (by omega), p_c (by omega), show am_run 1000 122 [.inr 186, .inl (M 203 (i + 1)), .inl (M 203 (i + 2)), .inl (M 203 (i + 3))] M1 = some (r, M2) from e3, p_b, if_pos rfl]
theorem l_832 (hP : pPres) {C M : am_M} (hI : Inv C M) (hx : pInts M) {L i : Int} (hL : M 203 (-1) = L) (h0 : 0 ≤ i) (hi : i + 6 ≤ L) (h3 : L ≤ 3072) : ∃ M2, am_L 1000 264 832 [some (.inr 203), some (.inr 0), some (.inr 186), some (.inl i)] [] M = am_L 1000 264 1161 [some (.inr 203), some (.inr 0), some (.inr 186), some (.inl i)] [] M2 ∧ Inv C M2 ∧ pInts M2 := by
  obtain ⟨r, M1, M2, e1, e2, e3, e4, e5⟩ := law_pair hP hx (by decide) (law_ar hx (l := [M 203 (i + 1), M 203 (i + 2), M 203 (i + 3)]) (f := fun k => M 203 k) (fun x hm => by simp only [List.mem_cons, List.not_mem_nil, or_false] at hm; rcases hm with rfl | rfl | rfl <;> exact ⟨_, rfl⟩) (fun k => hx 203 k)) (q_wishes hI (M 203 (i + 1)) (M 203 (i + 2)) (M 203 (i + 3)))
  refine ⟨M2, ?_, e4, e5⟩
  rw [e264_832, p_w (x := i + 1) (by omega) (by omega), p_w (x := i + 2) (by omega) (by omega), p_w (x := i + 3) (by omega) (by omega), hL, p_c (by omega), p_c (by omega), p_c (by omega), show am_run 1000 230 [.inr 0, .inl (M 203 (i + 1)), .inl (M 203 (i + 2)), .inl (M 203 (i + 3))] M = some (r, M1) from e1, p_b, e2, hL, p_c (by omega), p_c (by omega), p_c (by omega), show am_run 1000 126 [.inr 186, .inl (M 203 (i + 1)), .inl (M 203 (i + 2)), .inl (M 203 (i + 3))] M1 = some (r, M2) from e3, p_b, if_pos rfl]
theorem l_869 (hP : pPres) {C M : am_M} (hI : Inv C M) (hx : pInts M) {L i : Int} (hL : M 203 (-1) = L) (h0 : 0 ≤ i) (hi : i + 6 ≤ L) (h3 : L ≤ 3072) : ∃ M2, am_L 1000 264 869 [some (.inr 203), some (.inr 0), some (.inr 186), some (.inl i)] [] M = am_L 1000 264 1161 [some (.inr 203), some (.inr 0), some (.inr 186), some (.inl i)] [] M2 ∧ Inv C M2 ∧ pInts M2 := by
  obtain ⟨r, M1, M2, e1, e2, e3, e4, e5⟩ := law_pair hP hx (by decide) (law_ar hx (l := [M 203 (i + 1), M 203 (i + 2)]) (f := fun k => M 203 k) (fun x hm => by simp only [List.mem_cons, List.not_mem_nil, or_false] at hm; rcases hm with rfl | rfl <;> exact ⟨_, rfl⟩) (fun k => hx 203 k)) (q_spread hI (M 203 (i + 1)) (M 203 (i + 2)))
  refine ⟨M2, ?_, e4, e5⟩
  rw [e264_869, p_w (x := i + 1) (by omega) (by omega), p_w (x := i + 2) (by omega) (by omega), hL, p_c (by omega), p_c (by omega), show am_run 1000 211 [.inr 0, .inl (M 203 (i + 1)), .inl (M 203 (i + 2))] M = some (r, M1) from e1, p_b, e2, hL, p_c (by omega), p_c (by omega), show am_run 1000 127 [.inr 186, .inl (M 203 (i + 1)), .inl (M 203 (i + 2))] M1 = some (r, M2) from e3, p_b, if_pos rfl]
theorem l_896 (hP : pPres) {C M : am_M} (hI : Inv C M) (hx : pInts M) {L i : Int} (hL : M 203 (-1) = L) (h0 : 0 ≤ i) (hi : i + 6 ≤ L) (h3 : L ≤ 3072) : ∃ M2, am_L 1000 264 896 [some (.inr 203), some (.inr 0), some (.inr 186), some (.inl i)] [] M = am_L 1000 264 1161 [some (.inr 203), some (.inr 0), some (.inr 186), some (.inl i)] [] M2 ∧ Inv C M2 ∧ pInts M2 := by
  obtain ⟨r, M1, M2, e1, e2, e3, e4, e5⟩ := law_pair hP hx (by decide) (law_ar hx (l := [M 203 (i + 1)]) (f := fun k => M 203 k) (fun x hm => by simp only [List.mem_cons, List.not_mem_nil, or_false] at hm; rcases hm with rfl <;> exact ⟨_, rfl⟩) (fun k => hx 203 k)) (q_out hI (M 203 (i + 1)))
  refine ⟨M2, ?_, e4, e5⟩
  rw [e264_896, p_w (x := i + 1) (by omega) (by omega), hL, p_c (by omega), show am_run 1000 240 [.inr 0, .inl (M 203 (i + 1))] M = some (r, M1) from e1, p_b, e2, hL, p_c (by omega), show am_run 1000 128 [.inr 186, .inl (M 203 (i + 1))] M1 = some (r, M2) from e3, p_b, if_pos rfl]
theorem l_913 (hP : pPres) {C M : am_M} (hI : Inv C M) (hx : pInts M) {L i : Int} (hL : M 203 (-1) = L) (h0 : 0 ≤ i) (hi : i + 6 ≤ L) (h3 : L ≤ 3072) : ∃ M2, am_L 1000 264 913 [some (.inr 203), some (.inr 0), some (.inr 186), some (.inl i)] [] M = am_L 1000 264 1161 [some (.inr 203), some (.inr 0), some (.inr 186), some (.inl i)] [] M2 ∧ Inv C M2 ∧ pInts M2 := by
  obtain ⟨r, M1, M2, e1, e2, e3, e4, e5⟩ := law_pair hP hx (by decide) (law_ar hx (l := [M 203 (i + 1), M 203 (i + 2), M 203 (i + 3)]) (f := fun k => M 203 k) (fun x hm => by simp only [List.mem_cons, List.not_mem_nil, or_false] at hm; rcases hm with rfl | rfl | rfl <;> exact ⟨_, rfl⟩) (fun k => hx 203 k)) (q_judged hI (M 203 (i + 1)) (M 203 (i + 2)) (M 203 (i + 3)))
  refine ⟨M2, ?_, e4, e5⟩
  rw [e264_913, p_w (x := i + 1) (by omega) (by omega), p_w (x := i + 2) (by omega) (by omega), p_w (x := i + 3) (by omega) (by omega), hL, p_c (by omega), p_c (by omega), p_c (by omega), show am_run 1000 249 [.inr 0, .inl (M 203 (i + 1)), .inl (M 203 (i + 2)), .inl (M 203 (i + 3))] M = some (r, M1) from e1, p_b, e2, hL, p_c (by omega), p_c (by omega), p_c (by omega), show am_run 1000 119 [.inr 186, .inl (M 203 (i + 1)), .inl (M 203 (i + 2)), .inl (M 203 (i + 3))] M1 = some (r, M2) from e3, p_b, if_pos rfl]
theorem l_950 (hP : pPres) {C M : am_M} (hI : Inv C M) (hx : pInts M) {L i : Int} (hL : M 203 (-1) = L) (h0 : 0 ≤ i) (hi : i + 6 ≤ L) (h3 : L ≤ 3072) : ∃ M2, am_L 1000 264 950 [some (.inr 203), some (.inr 0), some (.inr 186), some (.inl i)] [] M = am_L 1000 264 1161 [some (.inr 203), some (.inr 0), some (.inr 186), some (.inl i)] [] M2 ∧ Inv C M2 ∧ pInts M2 := by
  obtain ⟨r, M1, M2, e1, e2, e3, e4, e5⟩ := law_pair hP hx (by decide) (law_ar hx (l := [M 203 (i + 1), M 203 (i + 2)]) (f := fun k => M 203 k) (fun x hm => by simp only [List.mem_cons, List.not_mem_nil, or_false] at hm; rcases hm with rfl | rfl <;> exact ⟨_, rfl⟩) (fun k => hx 203 k)) (q_loophole hI (M 203 (i + 1)) (M 203 (i + 2)))
  refine ⟨M2, ?_, e4, e5⟩
  rw [e264_950, p_w (x := i + 1) (by omega) (by omega), p_w (x := i + 2) (by omega) (by omega), hL, p_c (by omega), p_c (by omega), show am_run 1000 250 [.inr 0, .inl (M 203 (i + 1)), .inl (M 203 (i + 2))] M = some (r, M1) from e1, p_b, e2, hL, p_c (by omega), p_c (by omega), show am_run 1000 120 [.inr 186, .inl (M 203 (i + 1)), .inl (M 203 (i + 2))] M1 = some (r, M2) from e3, p_b, if_pos rfl]
theorem l_977 (hP : pPres) {C M : am_M} (hI : Inv C M) (hx : pInts M) {L i : Int} (hL : M 203 (-1) = L) (h0 : 0 ≤ i) (hi : i + 6 ≤ L) (h3 : L ≤ 3072) : ∃ M2, am_L 1000 264 977 [some (.inr 203), some (.inr 0), some (.inr 186), some (.inl i)] [] M = am_L 1000 264 1161 [some (.inr 203), some (.inr 0), some (.inr 186), some (.inl i)] [] M2 ∧ Inv C M2 ∧ pInts M2 := by
  obtain ⟨r, M1, M2, e1, e2, e3, e4, e5⟩ := law_pair hP hx (by decide) (law_ar hx (l := [M 203 (i + 1), M 203 (i + 2)]) (f := fun k => M 203 k) (fun x hm => by simp only [List.mem_cons, List.not_mem_nil, or_false] at hm; rcases hm with rfl | rfl <;> exact ⟨_, rfl⟩) (fun k => hx 203 k)) (q_premium hI (M 203 (i + 1)) (M 203 (i + 2)))
  refine ⟨M2, ?_, e4, e5⟩
  rw [e264_977, p_w (x := i + 1) (by omega) (by omega), p_w (x := i + 2) (by omega) (by omega), hL, p_c (by omega), p_c (by omega), show am_run 1000 247 [.inr 0, .inl (M 203 (i + 1)), .inl (M 203 (i + 2))] M = some (r, M1) from e1, p_b, e2, hL, p_c (by omega), p_c (by omega), show am_run 1000 118 [.inr 186, .inl (M 203 (i + 1)), .inl (M 203 (i + 2))] M1 = some (r, M2) from e3, p_b, if_pos rfl]
theorem l_1004 (hP : pPres) {C M : am_M} (hI : Inv C M) (hx : pInts M) {L i : Int} (hL : M 203 (-1) = L) (h0 : 0 ≤ i) (hi : i + 6 ≤ L) (h3 : L ≤ 3072) : ∃ M2, am_L 1000 264 1004 [some (.inr 203), some (.inr 0), some (.inr 186), some (.inl i)] [] M = am_L 1000 264 1161 [some (.inr 203), some (.inr 0), some (.inr 186), some (.inl i)] [] M2 ∧ Inv C M2 ∧ pInts M2 := by
  obtain ⟨r, M1, M2, e1, e2, e3, e4, e5⟩ := law_pair hP hx (by decide) (law_ar hx (l := [M 203 (i + 1), M 203 (i + 2)]) (f := fun k => M 203 k) (fun x hm => by simp only [List.mem_cons, List.not_mem_nil, or_false] at hm; rcases hm with rfl | rfl <;> exact ⟨_, rfl⟩) (fun k => hx 203 k)) (q_chain hI (M 203 (i + 1)) (M 203 (i + 2)))
  refine ⟨M2, ?_, e4, e5⟩
  rw [e264_1004, p_w (x := i + 1) (by omega) (by omega), p_w (x := i + 2) (by omega) (by omega), hL, p_c (by omega), p_c (by omega), show am_run 1000 207 [.inr 0, .inl (M 203 (i + 1)), .inl (M 203 (i + 2))] M = some (r, M1) from e1, p_b, e2, hL, p_c (by omega), p_c (by omega), show am_run 1000 95 [.inr 186, .inl (M 203 (i + 1)), .inl (M 203 (i + 2))] M1 = some (r, M2) from e3, p_b, if_pos rfl]
theorem l_1031 (hP : pPres) {C M : am_M} (hI : Inv C M) (hx : pInts M) {L i : Int} (hL : M 203 (-1) = L) (h0 : 0 ≤ i) (hi : i + 6 ≤ L) (h3 : L ≤ 3072) : ∃ M2, am_L 1000 264 1031 [some (.inr 203), some (.inr 0), some (.inr 186), some (.inl i)] [] M = am_L 1000 264 1161 [some (.inr 203), some (.inr 0), some (.inr 186), some (.inl i)] [] M2 ∧ Inv C M2 ∧ pInts M2 := by
  obtain ⟨r, M1, M2, e1, e2, e3, e4, e5⟩ := law_pair hP hx (by decide) (law_ar hx (l := [M 203 (i + 1), M 203 (i + 2)]) (f := fun k => M 203 k) (fun x hm => by simp only [List.mem_cons, List.not_mem_nil, or_false] at hm; rcases hm with rfl | rfl <;> exact ⟨_, rfl⟩) (fun k => hx 203 k)) (q_owes hI (M 203 (i + 1)) (M 203 (i + 2)))
  refine ⟨M2, ?_, e4, e5⟩
  rw [e264_1031, p_w (x := i + 1) (by omega) (by omega), p_w (x := i + 2) (by omega) (by omega), hL, p_c (by omega), p_c (by omega), show am_run 1000 208 [.inr 0, .inl (M 203 (i + 1)), .inl (M 203 (i + 2))] M = some (r, M1) from e1, p_b, e2, hL, p_c (by omega), p_c (by omega), show am_run 1000 96 [.inr 186, .inl (M 203 (i + 1)), .inl (M 203 (i + 2))] M1 = some (r, M2) from e3, p_b, if_pos rfl]
theorem l_1058 (hP : pPres) {C M : am_M} (hI : Inv C M) (hx : pInts M) {L i : Int} (hL : M 203 (-1) = L) (h0 : 0 ≤ i) (hi : i + 6 ≤ L) (h3 : L ≤ 3072) : ∃ M2, am_L 1000 264 1058 [some (.inr 203), some (.inr 0), some (.inr 186), some (.inl i)] [] M = am_L 1000 264 1161 [some (.inr 203), some (.inr 0), some (.inr 186), some (.inl i)] [] M2 ∧ Inv C M2 ∧ pInts M2 := by
  obtain ⟨r, M1, M2, e1, e2, e3, e4, e5⟩ := law_pair hP hx (by decide) (fun x hm => absurd hm List.not_mem_nil) (q_callus hI )
  refine ⟨M2, ?_, e4, e5⟩
  rw [e264_1058, e1, p_b, e3, p_b, if_pos rfl]
theorem l_1065 (hP : pPres) {C M : am_M} (hI : Inv C M) (hx : pInts M) {L i : Int} (hL : M 203 (-1) = L) (h0 : 0 ≤ i) (hi : i + 6 ≤ L) (h3 : L ≤ 3072) : ∃ M2, am_L 1000 264 1065 [some (.inr 203), some (.inr 0), some (.inr 186), some (.inl i)] [] M = am_L 1000 264 1161 [some (.inr 203), some (.inr 0), some (.inr 186), some (.inl i)] [] M2 ∧ Inv C M2 ∧ pInts M2 := by
  obtain ⟨r, M1, M2, e1, e2, e3, e4, e5⟩ := law_pair hP hx (by decide) (law_ar hx (l := [M 203 (i + 1), M 203 (i + 2), M 203 (i + 3), M 203 (i + 4)]) (f := fun k => M 203 k) (fun x hm => by simp only [List.mem_cons, List.not_mem_nil, or_false] at hm; rcases hm with rfl | rfl | rfl | rfl <;> exact ⟨_, rfl⟩) (fun k => hx 203 k)) (q_turns hI (M 203 (i + 1)) (M 203 (i + 2)) (M 203 (i + 3)) (M 203 (i + 4)))
  refine ⟨M2, ?_, e4, e5⟩
  rw [e264_1065, p_w (x := i + 1) (by omega) (by omega), p_w (x := i + 2) (by omega) (by omega), p_w (x := i + 3) (by omega) (by omega), p_w (x := i + 4) (by omega) (by omega), hL, p_c (by omega), p_c (by omega), p_c (by omega), p_c (by omega), show am_run 1000 215 [.inr 0, .inl (M 203 (i + 1)), .inl (M 203 (i + 2)), .inl (M 203 (i + 3)), .inl (M 203 (i + 4))] M = some (r, M1) from e1, p_b, e2, hL, p_c (by omega), p_c (by omega), p_c (by omega), p_c (by omega), show am_run 1000 129 [.inr 186, .inl (M 203 (i + 1)), .inl (M 203 (i + 2)), .inl (M 203 (i + 3)), .inl (M 203 (i + 4))] M1 = some (r, M2) from e3, p_b, if_pos rfl]
theorem l_1112 (hP : pPres) {C M : am_M} (hI : Inv C M) (hx : pInts M) {L i : Int} (hL : M 203 (-1) = L) (h0 : 0 ≤ i) (hi : i + 6 ≤ L) (h3 : L ≤ 3072) : ∃ M2, am_L 1000 264 1112 [some (.inr 203), some (.inr 0), some (.inr 186), some (.inl i)] [] M = am_L 1000 264 1161 [some (.inr 203), some (.inr 0), some (.inr 186), some (.inl i)] [] M2 ∧ Inv C M2 ∧ pInts M2 := by
  obtain ⟨r, M1, M2, e1, e2, e3, e4, e5⟩ := law_pair hP hx (by decide) (fun x hm => absurd hm List.not_mem_nil) (a_undo hI )
  refine ⟨M2, ?_, e4, e5⟩
  rw [e264_1112, e1, p_b, e3, p_b, if_pos rfl]
theorem l_1119 (hP : pPres) {C M : am_M} (hI : Inv C M) (hx : pInts M) {L i : Int} (hL : M 203 (-1) = L) (h0 : 0 ≤ i) (hi : i + 6 ≤ L) (h3 : L ≤ 3072) : ∃ M2, am_L 1000 264 1119 [some (.inr 203), some (.inr 0), some (.inr 186), some (.inl i)] [] M = am_L 1000 264 1161 [some (.inr 203), some (.inr 0), some (.inr 186), some (.inl i)] [] M2 ∧ Inv C M2 ∧ pInts M2 := by
  by_cases q : M 203 (i + 1) = 0
  · obtain ⟨r, M1, M2, e1, e2, e3, e4, e5⟩ := law_pair hP hx (by decide) (fun x hm => by rw [List.mem_singleton] at hm; injection hm with hm; rw [hm]; exact ⟨by decide, by decide⟩) (a_image hI 0)
    refine ⟨M2, ?_, e4, e5⟩
    rw [e264_1119, p_w (x := i + 1) (by omega) (by omega), hL, p_c (by omega), if_pos q, e1, p_b, e2, hL, p_c (by omega), if_pos q, e3, p_b, if_pos rfl]
  · obtain ⟨r, M1, M2, e1, e2, e3, e4, e5⟩ := law_pair hP hx (by decide) (fun x hm => by rw [List.mem_singleton] at hm; injection hm with hm; rw [hm]; exact ⟨by decide, by decide⟩) (a_image hI 1)
    refine ⟨M2, ?_, e4, e5⟩
    rw [e264_1119, p_w (x := i + 1) (by omega) (by omega), hL, p_c (by omega), if_neg q, e1, p_b, e2, hL, p_c (by omega), if_neg q, e3, p_b, if_pos rfl]
theorem l_1144 (hP : pPres) {C M : am_M} (hI : Inv C M) (hx : pInts M) {L i : Int} (hL : M 203 (-1) = L) (h0 : 0 ≤ i) (hi : i + 6 ≤ L) (h3 : L ≤ 3072) : ∃ M2, am_L 1000 264 1144 [some (.inr 203), some (.inr 0), some (.inr 186), some (.inl i)] [] M = am_L 1000 264 1161 [some (.inr 203), some (.inr 0), some (.inr 186), some (.inl i)] [] M2 ∧ Inv C M2 ∧ pInts M2 := by
  obtain ⟨r, M1, M2, e1, e2, e3, e4, e5⟩ := law_pair hP hx (by decide) (law_ar hx (l := [M 203 (i + 1)]) (f := fun k => M 203 k) (fun x hm => by simp only [List.mem_cons, List.not_mem_nil, or_false] at hm; rcases hm with rfl <;> exact ⟨_, rfl⟩) (fun k => hx 203 k)) (q_look hI (M 203 (i + 1)))
  refine ⟨M2, ?_, e4, e5⟩
  rw [e264_1144, p_w (x := i + 1) (by omega) (by omega), hL, p_c (by omega), show am_run 1000 205 [.inr 0, .inl (M 203 (i + 1))] M = some (r, M1) from e1, p_b, e2, hL, p_c (by omega), show am_run 1000 132 [.inr 186, .inl (M 203 (i + 1))] M1 = some (r, M2) from e3, p_b, if_pos rfl]
theorem law_loop (hP : pPres) {C : am_M} (hK : pKons C) (hS : ∀ k, 0 ≤ k → k < 3 → C 200 k = sFst k ∧ C 201 k = sLst k ∧ C 202 k = sAsk k) {L : Int} (hL : C 203 (-1) = L) (h3 : 0 ≤ L ∧ L ≤ 3072) : ∀ (N : Nat) (i : Int) (M : am_M), L - i ≤ N → 0 ≤ i → i ≤ 4000 → Inv C M → pInts M → ∃ M', am_L 1000 264 10 [some (.inr 203), some (.inr 0), some (.inr 186), some (.inl i)] [] M = some (1, M') := by
  intro N
  induction N with
  | zero =>
    intro i M hN h0 h4 hI hx
    have eL : M 203 (-1) = L := by rw [hI.2.2.2.2.2.2 203 (by decide)]; exact hL
    rw [e264_10, eL, p_w (x := L - 6) (by omega) (by omega), if_pos (by omega), e264_1163]
    exact ⟨M, rfl⟩
  | succ N ih =>
    intro i M hN h0 h4 hI hx
    have eL : M 203 (-1) = L := by rw [hI.2.2.2.2.2.2 203 (by decide)]; exact hL
    rw [e264_10, eL, p_w (x := L - 6) (by omega) (by omega)]
    by_cases q : L - 6 < i
    · rw [if_pos q, e264_1163]
      exact ⟨M, rfl⟩
    have hi : i + 6 ≤ L := by omega
    have next : ∀ M2, Inv C M2 → pInts M2 → ∃ M', am_L 1000 264 1161 [some (.inr 203), some (.inr 0), some (.inr 186), some (.inl i)] [] M2 = some (1, M') := by
      intro M2 g1 g2
      rw [e264_1161, p_w (x := i + 6) (by omega) (by omega)]
      exact ih (i + 6) M2 (by omega) (by omega) (by omega) g1 g2
    have go : ∀ {t : Nat}, (∃ M2, am_L 1000 264 t [some (.inr 203), some (.inr 0), some (.inr 186), some (.inl i)] [] M = am_L 1000 264 1161 [some (.inr 203), some (.inr 0), some (.inr 186), some (.inl i)] [] M2 ∧ Inv C M2 ∧ pInts M2) → ∃ M', am_L 1000 264 t [some (.inr 203), some (.inr 0), some (.inr 186), some (.inl i)] [] M = some (1, M') := by
      intro t ⟨M2, g1, g2, g3⟩
      rw [g1]
      exact next M2 g2 g3
    rw [if_neg q, p_c (by omega)]
    generalize am_iand (M 203 i) 63 = v
    by_cases q0 : v = 0
    · rw [if_pos q0]
      exact go (l_22 hP hI hx eL h0 hi h3.2)
    rw [if_neg q0]
    by_cases q1 : v = 1
    · rw [if_pos q1]
      exact go (l_39 hP hI hx eL h0 hi h3.2)
    rw [if_neg q1]
    by_cases q2 : v = 2
    · rw [if_pos q2]
      exact go (l_66 hP hI hx eL h0 hi h3.2)
    rw [if_neg q2]
    by_cases q3 : v = 3
    · rw [if_pos q3]
      exact go (l_103 hP hI hx eL h0 hi h3.2)
    rw [if_neg q3]
    by_cases q4 : v = 4
    · rw [if_pos q4]
      exact go (l_150 hP hI hx eL h0 hi h3.2)
    rw [if_neg q4]
    by_cases q5 : v = 5
    · rw [if_pos q5]
      exact go (l_177 hP hI hx eL h0 hi h3.2)
    rw [if_neg q5]
    by_cases q6 : v = 6
    · rw [if_pos q6]
      exact go (l_204 hP hI hx eL h0 hi h3.2)
    rw [if_neg q6]
    by_cases q7 : v = 7
    · rw [if_pos q7]
      exact go (l_231 hP hI hx eL h0 hi h3.2)
    rw [if_neg q7]
    by_cases q8 : v = 8
    · rw [if_pos q8]
      exact go (l_258 hP hI hx eL h0 hi h3.2)
    rw [if_neg q8]
    by_cases q9 : v = 9
    · rw [if_pos q9]
      exact go (l_275 hP hI hx eL h0 hi h3.2)
    rw [if_neg q9]
    by_cases q10 : v = 10
    · rw [if_pos q10]
      exact go (l_332 hP hI hx eL h0 hi h3.2)
    rw [if_neg q10]
    by_cases q11 : v = 11
    · rw [if_pos q11]
      exact go (l_349 hP hI hx hK hS eL h0 hi h3.2)
    rw [if_neg q11]
    by_cases q12 : v = 12
    · rw [if_pos q12]
      exact go (l_366 hP hI hx eL h0 hi h3.2)
    rw [if_neg q12]
    by_cases q13 : v = 13
    · rw [if_pos q13]
      exact go (l_383 hP hI hx eL h0 hi h3.2)
    rw [if_neg q13]
    by_cases q14 : v = 14
    · rw [if_pos q14]
      exact go (l_410 hP hI hx eL h0 hi h3.2)
    rw [if_neg q14]
    by_cases q15 : v = 15
    · rw [if_pos q15]
      exact go (l_437 hP hI hx eL h0 hi h3.2)
    rw [if_neg q15]
    by_cases q16 : v = 16
    · rw [if_pos q16]
      exact go (l_464 hP hI hx eL h0 hi h3.2)
    rw [if_neg q16]
    by_cases q17 : v = 17
    · rw [if_pos q17]
      exact go (l_491 hP hI hx eL h0 hi h3.2)
    rw [if_neg q17]
    by_cases q18 : v = 18
    · rw [if_pos q18]
      exact go (l_538 hP hI hx eL h0 hi h3.2)
    rw [if_neg q18]
    by_cases q19 : v = 19
    · rw [if_pos q19]
      exact go (l_565 hP hI hx eL h0 hi h3.2)
    rw [if_neg q19]
    by_cases q20 : v = 20
    · rw [if_pos q20]
      exact go (l_582 hP hI hx eL h0 hi h3.2)
    rw [if_neg q20]
    by_cases q21 : v = 21
    · rw [if_pos q21]
      exact go (l_589 hP hI hx eL h0 hi h3.2)
    rw [if_neg q21]
    by_cases q22 : v = 22
    · rw [if_pos q22]
      exact go (l_616 hP hI hx eL h0 hi h3.2)
    rw [if_neg q22]
    by_cases q23 : v = 23
    · rw [if_pos q23]
      exact go (l_633 hP hI hx eL h0 hi h3.2)
    rw [if_neg q23]
    by_cases q24 : v = 24
    · rw [if_pos q24]
      exact go (l_640 hP hI hx eL h0 hi h3.2)
    rw [if_neg q24]
    by_cases q25 : v = 25
    · rw [if_pos q25]
      exact go (l_657 hP hI hx eL h0 hi h3.2)
    rw [if_neg q25]
    by_cases q26 : v = 26
    · rw [if_pos q26]
      exact go (l_674 hP hI hx eL h0 hi h3.2)
    rw [if_neg q26]
    by_cases q27 : v = 27
    · rw [if_pos q27]
      exact go (l_711 hP hI hx eL h0 hi h3.2)
    rw [if_neg q27]
    by_cases q28 : v = 28
    · rw [if_pos q28]
      exact go (l_748 hP hI hx eL h0 hi h3.2)
    rw [if_neg q28]
    by_cases q29 : v = 29
    · rw [if_pos q29]
      exact go (l_795 hP hI hx eL h0 hi h3.2)
    rw [if_neg q29]
    by_cases q30 : v = 30
    · rw [if_pos q30]
      exact go (l_832 hP hI hx eL h0 hi h3.2)
    rw [if_neg q30]
    by_cases q31 : v = 31
    · rw [if_pos q31]
      exact go (l_869 hP hI hx eL h0 hi h3.2)
    rw [if_neg q31]
    by_cases q32 : v = 32
    · rw [if_pos q32]
      exact go (l_896 hP hI hx eL h0 hi h3.2)
    rw [if_neg q32]
    by_cases q33 : v = 33
    · rw [if_pos q33]
      exact go (l_913 hP hI hx eL h0 hi h3.2)
    rw [if_neg q33]
    by_cases q34 : v = 34
    · rw [if_pos q34]
      exact go (l_950 hP hI hx eL h0 hi h3.2)
    rw [if_neg q34]
    by_cases q35 : v = 35
    · rw [if_pos q35]
      exact go (l_977 hP hI hx eL h0 hi h3.2)
    rw [if_neg q35]
    by_cases q36 : v = 36
    · rw [if_pos q36]
      exact go (l_1004 hP hI hx eL h0 hi h3.2)
    rw [if_neg q36]
    by_cases q37 : v = 37
    · rw [if_pos q37]
      exact go (l_1031 hP hI hx eL h0 hi h3.2)
    rw [if_neg q37]
    by_cases q38 : v = 38
    · rw [if_pos q38]
      exact go (l_1058 hP hI hx eL h0 hi h3.2)
    rw [if_neg q38]
    by_cases q39 : v = 39
    · rw [if_pos q39]
      exact go (l_1065 hP hI hx eL h0 hi h3.2)
    rw [if_neg q39]
    by_cases q40 : v = 40
    · rw [if_pos q40]
      exact go (l_1112 hP hI hx eL h0 hi h3.2)
    rw [if_neg q40]
    by_cases q41 : v = 41
    · rw [if_pos q41]
      exact go (l_1119 hP hI hx eL h0 hi h3.2)
    rw [if_neg q41]
    by_cases q42 : v = 42
    · rw [if_pos q42]
      exact go (l_1144 hP hI hx eL h0 hi h3.2)
    rw [if_neg q42]
    exact next M hI hx
theorem law_all (hP : pPres) {C M : am_M} (hK : pKons C) (hS : ∀ k, 0 ≤ k → k < 3 → C 200 k = sFst k ∧ C 201 k = sLst k ∧ C 202 k = sAsk k) {L : Int} (hL : C 203 (-1) = L) (h3 : 0 ≤ L ∧ L ≤ 3072) (hI : Inv C M) (hx : pInts M) : ∃ M', am_L 1000 264 8 [some (.inr 203), some (.inr 0), some (.inr 186), none] [] M = some (1, M') := by
  rw [e264_8]
  exact law_loop hP hK hS hL h3 (L.toNat + 1) 0 M (by omega) (by omega) (by omega) hI hx
