/-! PURE: the class's worlds -/
def IsW (o : Nat) : Prop := o = 1 ∨ o = 14 ∨ o = 53 ∨ o = 108 ∨ o = 121 ∨ o = 134 ∨ o = 147 ∨ o = 160 ∨ o = 173
theorem w_c {o : Nat} (h : IsW o) : am_cls o = 5 := by rcases h with rfl | rfl | rfl | rfl | rfl | rfl | rfl | rfl | rfl <;> rfl
theorem w_B5 : Nat.beq 5 5 = true := rfl
theorem w_B9 : Nat.beq 9 9 = true := rfl
theorem w_far {o : Nat} (h : IsW o) : (o + 12 < 105 ∨ 107 < o) ∧ o + 12 < 186 ∧ 0 < o ∧ (o + 12 < 28 ∨ 52 < o) ∧ (o + 12 < 66 ∨ 107 < o) := by rcases h with rfl | rfl | rfl | rfl | rfl | rfl | rfl | rfl | rfl <;> decide
theorem w_apart {o q : Nat} (h : IsW o) (h2 : IsW q) (hne : o ≠ q) : o + 12 < q ∨ q + 12 < o := by
  rcases h with rfl | rfl | rfl | rfl | rfl | rfl | rfl | rfl | rfl <;> rcases h2 with rfl | rfl | rfl | rfl | rfl | rfl | rfl | rfl | rfl <;> first | exact absurd rfl hne | decide
theorem w_r5 {o : Nat} (h : IsW o) : am_rf o 5 = o + 1 := by rcases h with rfl | rfl | rfl | rfl | rfl | rfl | rfl | rfl | rfl <;> rfl
theorem w_k1 {o : Nat} (h : IsW o) : am_cls (o + 1) = 9 := by rcases h with rfl | rfl | rfl | rfl | rfl | rfl | rfl | rfl | rfl <;> rfl
theorem w_l1 {o : Nat} (h : IsW o) (M : am_M) : am_len M (o + 1) = 8 := by rcases h with rfl | rfl | rfl | rfl | rfl | rfl | rfl | rfl | rfl <;> rfl
theorem w_r6 {o : Nat} (h : IsW o) : am_rf o 6 = o + 2 := by rcases h with rfl | rfl | rfl | rfl | rfl | rfl | rfl | rfl | rfl <;> rfl
theorem w_k2 {o : Nat} (h : IsW o) : am_cls (o + 2) = 9 := by rcases h with rfl | rfl | rfl | rfl | rfl | rfl | rfl | rfl | rfl <;> rfl
theorem w_l2 {o : Nat} (h : IsW o) (M : am_M) : am_len M (o + 2) = 8 := by rcases h with rfl | rfl | rfl | rfl | rfl | rfl | rfl | rfl | rfl <;> rfl
theorem w_r7 {o : Nat} (h : IsW o) : am_rf o 7 = o + 3 := by rcases h with rfl | rfl | rfl | rfl | rfl | rfl | rfl | rfl | rfl <;> rfl
theorem w_k3 {o : Nat} (h : IsW o) : am_cls (o + 3) = 9 := by rcases h with rfl | rfl | rfl | rfl | rfl | rfl | rfl | rfl | rfl <;> rfl
theorem w_l3 {o : Nat} (h : IsW o) (M : am_M) : am_len M (o + 3) = 8 := by rcases h with rfl | rfl | rfl | rfl | rfl | rfl | rfl | rfl | rfl <;> rfl
theorem w_r8 {o : Nat} (h : IsW o) : am_rf o 8 = o + 4 := by rcases h with rfl | rfl | rfl | rfl | rfl | rfl | rfl | rfl | rfl <;> rfl
theorem w_k4 {o : Nat} (h : IsW o) : am_cls (o + 4) = 9 := by rcases h with rfl | rfl | rfl | rfl | rfl | rfl | rfl | rfl | rfl <;> rfl
theorem w_l4 {o : Nat} (h : IsW o) (M : am_M) : am_len M (o + 4) = 8 := by rcases h with rfl | rfl | rfl | rfl | rfl | rfl | rfl | rfl | rfl <;> rfl
theorem w_r9 {o : Nat} (h : IsW o) : am_rf o 9 = o + 5 := by rcases h with rfl | rfl | rfl | rfl | rfl | rfl | rfl | rfl | rfl <;> rfl
theorem w_k5 {o : Nat} (h : IsW o) : am_cls (o + 5) = 9 := by rcases h with rfl | rfl | rfl | rfl | rfl | rfl | rfl | rfl | rfl <;> rfl
theorem w_l5 {o : Nat} (h : IsW o) (M : am_M) : am_len M (o + 5) = 16 := by rcases h with rfl | rfl | rfl | rfl | rfl | rfl | rfl | rfl | rfl <;> rfl
theorem w_r10 {o : Nat} (h : IsW o) : am_rf o 10 = o + 6 := by rcases h with rfl | rfl | rfl | rfl | rfl | rfl | rfl | rfl | rfl <;> rfl
theorem w_k6 {o : Nat} (h : IsW o) : am_cls (o + 6) = 9 := by rcases h with rfl | rfl | rfl | rfl | rfl | rfl | rfl | rfl | rfl <;> rfl
theorem w_l6 {o : Nat} (h : IsW o) (M : am_M) : am_len M (o + 6) = 16 := by rcases h with rfl | rfl | rfl | rfl | rfl | rfl | rfl | rfl | rfl <;> rfl
theorem w_r11 {o : Nat} (h : IsW o) : am_rf o 11 = o + 7 := by rcases h with rfl | rfl | rfl | rfl | rfl | rfl | rfl | rfl | rfl <;> rfl
theorem w_k7 {o : Nat} (h : IsW o) : am_cls (o + 7) = 9 := by rcases h with rfl | rfl | rfl | rfl | rfl | rfl | rfl | rfl | rfl <;> rfl
theorem w_l7 {o : Nat} (h : IsW o) (M : am_M) : am_len M (o + 7) = 64 := by rcases h with rfl | rfl | rfl | rfl | rfl | rfl | rfl | rfl | rfl <;> rfl
theorem w_r12 {o : Nat} (h : IsW o) : am_rf o 12 = o + 8 := by rcases h with rfl | rfl | rfl | rfl | rfl | rfl | rfl | rfl | rfl <;> rfl
theorem w_k8 {o : Nat} (h : IsW o) : am_cls (o + 8) = 9 := by rcases h with rfl | rfl | rfl | rfl | rfl | rfl | rfl | rfl | rfl <;> rfl
theorem w_l8 {o : Nat} (h : IsW o) (M : am_M) : am_len M (o + 8) = 16 := by rcases h with rfl | rfl | rfl | rfl | rfl | rfl | rfl | rfl | rfl <;> rfl
theorem w_r13 {o : Nat} (h : IsW o) : am_rf o 13 = o + 9 := by rcases h with rfl | rfl | rfl | rfl | rfl | rfl | rfl | rfl | rfl <;> rfl
theorem w_k9 {o : Nat} (h : IsW o) : am_cls (o + 9) = 9 := by rcases h with rfl | rfl | rfl | rfl | rfl | rfl | rfl | rfl | rfl <;> rfl
theorem w_l9 {o : Nat} (h : IsW o) (M : am_M) : am_len M (o + 9) = 16 := by rcases h with rfl | rfl | rfl | rfl | rfl | rfl | rfl | rfl | rfl <;> rfl
theorem w_r14 {o : Nat} (h : IsW o) : am_rf o 14 = o + 10 := by rcases h with rfl | rfl | rfl | rfl | rfl | rfl | rfl | rfl | rfl <;> rfl
theorem w_k10 {o : Nat} (h : IsW o) : am_cls (o + 10) = 9 := by rcases h with rfl | rfl | rfl | rfl | rfl | rfl | rfl | rfl | rfl <;> rfl
theorem w_l10 {o : Nat} (h : IsW o) (M : am_M) : am_len M (o + 10) = 16 := by rcases h with rfl | rfl | rfl | rfl | rfl | rfl | rfl | rfl | rfl <;> rfl
theorem w_r15 {o : Nat} (h : IsW o) : am_rf o 15 = o + 11 := by rcases h with rfl | rfl | rfl | rfl | rfl | rfl | rfl | rfl | rfl <;> rfl
theorem w_k11 {o : Nat} (h : IsW o) : am_cls (o + 11) = 9 := by rcases h with rfl | rfl | rfl | rfl | rfl | rfl | rfl | rfl | rfl <;> rfl
theorem w_l11 {o : Nat} (h : IsW o) (M : am_M) : am_len M (o + 11) = 16 := by rcases h with rfl | rfl | rfl | rfl | rfl | rfl | rfl | rfl | rfl <;> rfl
theorem w_r16 {o : Nat} (h : IsW o) : am_rf o 16 = o + 12 := by rcases h with rfl | rfl | rfl | rfl | rfl | rfl | rfl | rfl | rfl <;> rfl
theorem w_k12 {o : Nat} (h : IsW o) : am_cls (o + 12) = 9 := by rcases h with rfl | rfl | rfl | rfl | rfl | rfl | rfl | rfl | rfl <;> rfl
theorem w_l12 {o : Nat} (h : IsW o) (M : am_M) : am_len M (o + 12) = 80 := by rcases h with rfl | rfl | rfl | rfl | rfl | rfl | rfl | rfl | rfl <;> rfl
def WR (M : am_M) (o : Nat) (w : Int → Int) : Prop :=
  (M o 0 = w 3 ∧ M o 1 = w 0 ∧ M o 2 = w 276 ∧ M o 3 = w 1 ∧ M o 4 = w 2) ∧
  (∀ p, 0 ≤ p → p < 8 → M (o + 1) p = pp w p 0 ∧ M (o + 2) p = w (277 + p) ∧ M (o + 3) p = pp w p 1 ∧ M (o + 4) p = pp w p 2) ∧
  (∀ p s, 0 ≤ p → p < w 276 → 0 ≤ s → s ≤ 1 → M (o + 5) (2 * p + s) = pOn w p s) ∧
  (∀ h, 0 ≤ h → h < 16 → M (o + 6) h = ph w h 8 ∧ M (o + 8) h = ph w h 4 ∧ M (o + 9) h = ph w h 5 ∧ M (o + 10) h = ph w h 6 ∧ M (o + 11) h = ph w h 7) ∧
  (∀ h k, 0 ≤ h → h < 16 → 0 ≤ k → k < 4 → M (o + 7) (h * 4 + k) = ph w h k) ∧
  (∀ k, 0 ≤ k → k < 80 → M (o + 12) k = w (196 + k))
theorem R_dr {M : am_M} {o : Nat} {w : Int → Int} (h : WR M o w) : M o 0 = w 3 := h.1.1
theorem R_hr {M : am_M} {o : Nat} {w : Int → Int} (h : WR M o w) : M o 1 = w 0 := h.1.2.1
theorem R_n {M : am_M} {o : Nat} {w : Int → Int} (h : WR M o w) : M o 2 = w 276 := h.1.2.2.1
theorem R_ln {M : am_M} {o : Nat} {w : Int → Int} (h : WR M o w) : M o 3 = w 1 := h.1.2.2.2.1
theorem R_bk {M : am_M} {o : Nat} {w : Int → Int} (h : WR M o w) : M o 4 = w 2 := h.1.2.2.2.2
theorem R_coin {M : am_M} {o : Nat} {w : Int → Int} (h : WR M o w) {p : Int} (h0 : 0 ≤ p) (h1 : p < 8) : M (o + 1) p = pp w p 0 := (h.2.1 p h0 h1).1
theorem R_child {M : am_M} {o : Nat} {w : Int → Int} (h : WR M o w) {p : Int} (h0 : 0 ≤ p) (h1 : p < 8) : M (o + 2) p = w (277 + p) := (h.2.1 p h0 h1).2.1
theorem R_task {M : am_M} {o : Nat} {w : Int → Int} (h : WR M o w) {p : Int} (h0 : 0 ≤ p) (h1 : p < 8) : M (o + 3) p = pp w p 1 := (h.2.1 p h0 h1).2.2.1
theorem R_guilt {M : am_M} {o : Nat} {w : Int → Int} (h : WR M o w) {p : Int} (h0 : 0 ≤ p) (h1 : p < 8) : M (o + 4) p = pp w p 2 := (h.2.1 p h0 h1).2.2.2
theorem R_on {M : am_M} {o : Nat} {w : Int → Int} (h : WR M o w) {p s : Int} (h0 : 0 ≤ p) (h1 : p < w 276) (h2 : 0 ≤ s) (h3 : s ≤ 1) : M (o + 5) (2 * p + s) = pOn w p s := h.2.2.1 p s h0 h1 h2 h3
theorem R_at {M : am_M} {o : Nat} {w : Int → Int} (h : WR M o w) {g : Int} (h0 : 0 ≤ g) (h1 : g < 16) : M (o + 6) g = ph w g 8 := (h.2.2.2.1 g h0 h1).1
theorem R_wear {M : am_M} {o : Nat} {w : Int → Int} (h : WR M o w) {g : Int} (h0 : 0 ≤ g) (h1 : g < 16) : M (o + 8) g = ph w g 4 := (h.2.2.2.1 g h0 h1).2.1
theorem R_scars {M : am_M} {o : Nat} {w : Int → Int} (h : WR M o w) {g : Int} (h0 : 0 ≤ g) (h1 : g < 16) : M (o + 9) g = ph w g 5 := (h.2.2.2.1 g h0 h1).2.2.1
theorem R_marks {M : am_M} {o : Nat} {w : Int → Int} (h : WR M o w) {g : Int} (h0 : 0 ≤ g) (h1 : g < 16) : M (o + 10) g = ph w g 6 := (h.2.2.2.1 g h0 h1).2.2.2.1
theorem R_held {M : am_M} {o : Nat} {w : Int → Int} (h : WR M o w) {g : Int} (h0 : 0 ≤ g) (h1 : g < 16) : M (o + 11) g = ph w g 7 := (h.2.2.2.1 g h0 h1).2.2.2.2
theorem R_skill {M : am_M} {o : Nat} {w : Int → Int} (h : WR M o w) {g k : Int} (h0 : 0 ≤ g) (h1 : g < 16) (h2 : 0 ≤ k) (h3 : k < 4) : M (o + 7) (g * 4 + k) = ph w g k := h.2.2.2.2.1 g k h0 h1 h2 h3
theorem R_loan {M : am_M} {o : Nat} {w : Int → Int} (h : WR M o w) {i c : Int} (h0 : 0 ≤ i) (h1 : i < 16) (h2 : 0 ≤ c) (h3 : c < 5) : M (o + 12) (i * 5 + c) = pl w i c := by
  rw [h.2.2.2.2.2 (i * 5 + c) (by omega) (by omega)]
  unfold pl
  congr 1
  omega
/-- what another world's run leaves -/
theorem WR_fr {M M' : am_M} {o : Nat} {w : Int → Int} (h : WR M o w) (hf : ∀ b, o ≤ b → b ≤ o + 12 → M' b = M b) : WR M' o w := by
  obtain ⟨h1, h2, h3, h4, h5, h6⟩ := h
  have e : ∀ j : Nat, j ≤ 12 → M' (o + j) = M (o + j) := fun j hj => hf _ (by omega) (by omega)
  refine ⟨?_, ?_, ?_, ?_, ?_, ?_⟩
  · rw [hf o (by omega) (by omega)]; exact h1
  · intro p k0 k1
    rw [e 1 (by omega), e 2 (by omega), e 3 (by omega), e 4 (by omega)]
    exact h2 p k0 k1
  · intro p s k0 k1 k2 k3
    rw [e 5 (by omega)]
    exact h3 p s k0 k1 k2 k3
  · intro g k0 k1
    rw [e 6 (by omega), e 8 (by omega), e 9 (by omega), e 10 (by omega), e 11 (by omega)]
    exact h4 g k0 k1
  · intro g k k0 k1 k2 k3
    rw [e 7 (by omega)]
    exact h5 g k k0 k1 k2 k3
  · intro k k0 k1
    rw [e 12 (by omega)]
    exact h6 k k0 k1
theorem WR_cg {M : am_M} {o : Nat} {w w' : Int → Int} (hw : w 276 ≤ 8) (h : WR M o w) (he : ∀ k, 0 ≤ k → k < 285 → w' k = w k) : WR M o w' := by
  obtain ⟨h1, h2, h3, h4, h5, h6⟩ := h
  refine ⟨?_, ?_, ?_, ?_, ?_, ?_⟩
  · rw [he _ (by omega) (by omega), he _ (by omega) (by omega), he _ (by omega) (by omega), he _ (by omega) (by omega), he _ (by omega) (by omega)]; exact h1
  · intro p k0 k1
    unfold pp
    rw [he _ (by omega) (by omega), he _ (by omega) (by omega), he _ (by omega) (by omega), he _ (by omega) (by omega)]
    exact h2 p k0 k1
  · intro p s k0 k1 k2 k3
    rw [he _ (by omega) (by omega)] at k1
    rw [h3 p s k0 k1 k2 k3]
    exact (pOn_cg ⟨k2, k3⟩ (he _ (by omega) (by omega)) (fun g q0 q1 => he _ (by omega) (by omega))).symm
  · intro g k0 k1
    unfold ph
    rw [he _ (by omega) (by omega), he _ (by omega) (by omega), he _ (by omega) (by omega), he _ (by omega) (by omega), he _ (by omega) (by omega)]
    exact h4 g k0 k1
  · intro g k k0 k1 k2 k3
    unfold ph
    rw [he _ (by omega) (by omega)]
    exact h5 g k k0 k1 k2 k3
  · intro k k0 k1
    rw [he _ (by omega) (by omega)]
    exact h6 k k0 k1
theorem p_cp1 {M : am_M} {a b c : Nat} {i j n : Int} (h : c ≠ b) : am_cpy M a i b j n c = M c := by
  funext k
  exact if_neg (fun q => h q.1)
theorem p_cp2 {M : am_M} {a b : Nat} {n k : Int} (h0 : 0 ≤ k) (h : k < n) : am_cpy M a 0 b 0 n b k = M a k := by
  unfold am_cpy
  rw [if_pos ⟨rfl, h0, by omega⟩]
  congr 1
  omega
theorem p_ud1 {M : am_M} {a b : Nat} {i v : Int} (h : b ≠ a) : am_upd M a i v b = M b := by
  funext k
  exact if_neg (fun q => h q.1)
theorem p_ud2 (M : am_M) (a : Nat) (i v : Int) : am_upd M a i v a i = v := if_pos ⟨rfl, rfl⟩
theorem p_ud3 {M : am_M} {a : Nat} {i j v : Int} (h : j ≠ i) : am_upd M a i v a j = M a j := if_neg (fun q => h q.2)
/-- a copy of a world -/
theorem c133 (d : Nat) {a b : Nat} (ha : IsW a) (hb : IsW b) (hab : a ≠ b) {M : am_M} {w : Int → Int} (hn : w 276 ≤ 8) (hR : WR M b w) : pOk (am_run (d + 1) 133 [.inr a, .inr b] M) (fun r M' => r = 0 ∧ WR M' a w ∧ ∀ c, c < a ∨ a + 12 < c → M' c = M c) := by
  have hap := w_apart ha hb hab
  rw [e133]
  simp only [w_c ha, w_r5 ha, w_r6 ha, w_r7 ha, w_r8 ha, w_r9 ha, w_r10 ha, w_r11 ha, w_r12 ha, w_r13 ha, w_r14 ha, w_r15 ha, w_r16 ha, w_k1 ha, w_k2 ha, w_k3 ha, w_k4 ha, w_k5 ha, w_k6 ha, w_k7 ha, w_k8 ha, w_k9 ha, w_k10 ha, w_k11 ha, w_k12 ha, w_l1 ha, w_l2 ha, w_l3 ha, w_l4 ha, w_l5 ha, w_l6 ha, w_l7 ha, w_l8 ha, w_l9 ha, w_l10 ha, w_l11 ha, w_l12 ha, w_B5, w_B9, cond_true, Bool.true_or, w_c hb, w_r5 hb, w_r6 hb, w_r7 hb, w_r8 hb, w_r9 hb, w_r10 hb, w_r11 hb, w_r12 hb, w_r13 hb, w_r14 hb, w_r15 hb, w_r16 hb, w_k1 hb, w_k2 hb, w_k3 hb, w_k4 hb, w_k5 hb, w_k6 hb, w_k7 hb, w_k8 hb, w_k9 hb, w_k10 hb, w_k11 hb, w_k12 hb, w_l1 hb, w_l2 hb, w_l3 hb, w_l4 hb, w_l5 hb, w_l6 hb, w_l7 hb, w_l8 hb, w_l9 hb, w_l10 hb, w_l11 hb, w_l12 hb, w_B5, w_B9, cond_true, Bool.true_or, Bool.and_self]
  repeat refine pOk_c (by omega) ?_
  refine pOk_s ⟨rfl, ?_, ?_⟩
  · obtain ⟨h1, h2, h3, h4, h5, h6⟩ := hR
    refine ⟨?_, ?_, ?_, ?_, ?_, ?_⟩
    · simp (disch := omega) only [p_cp1, p_ud1, p_ud2, p_ud3]
      exact h1
    · intro p k0 k1
      simp (disch := omega) only [p_cp1, p_cp2, p_ud1]
      exact h2 p k0 k1
    · intro p s k0 k1 k2 k3
      simp (disch := omega) only [p_cp1, p_cp2, p_ud1]
      exact h3 p s k0 k1 k2 k3
    · intro g k0 k1
      simp (disch := omega) only [p_cp1, p_cp2, p_ud1]
      exact h4 g k0 k1
    · intro g k k0 k1 k2 k3
      simp (disch := omega) only [p_cp1, p_cp2, p_ud1]
      exact h5 g k k0 k1 k2 k3
    · intro k k0 k1
      simp (disch := omega) only [p_cp1, p_cp2, p_ud1]
      exact h6 k k0 k1
  · intro c hc
    simp (disch := omega) only [p_cp1, p_ud1]
