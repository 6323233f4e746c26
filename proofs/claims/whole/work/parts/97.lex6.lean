/-! PURE: text: the two kinds of one word -/
theorem sEq_inj {f : Int → Int} : ∀ (l m : List Int) (a : Int), l.length = m.length → sEq f a l = true → sEq f a m = true → l = m := by
  intro l
  induction l with
  | nil =>
    intro m a h _ _
    cases m with
    | nil => rfl
    | cons y m => rw [List.length_cons, List.length_nil] at h; omega
  | cons x l ih =>
    intro m a h h1 h2
    cases m with
    | nil => rw [List.length_cons, List.length_nil] at h; omega
    | cons y m =>
      rw [sEq, Bool.and_eq_true] at h1 h2
      rw [List.length_cons, List.length_cons] at h
      have e1 := of_decide_eq_true h1.1
      have e2 := of_decide_eq_true h2.1
      rw [ih m (a + 1) (by omega) h1.2 h2.2, ← e1, ← e2]
theorem s_diff : ∀ i : Nat, i < 36 → ∀ j : Nat, j < 36 → sByt i = sByt j → i = j := by decide +kernel
theorem sHit_inj {f : Int → Int} {a e : Int} {i j : Nat} (hi : i < 36) (hj : j < 36) (h1 : sHit f a e i = true) (h2 : sHit f a e j = true) : i = j := by
  unfold sHit at h1 h2
  rw [Bool.and_eq_true] at h1 h2
  have e1 := of_decide_eq_true h1.1
  have e2 := of_decide_eq_true h2.1
  exact s_diff i hi j hj (sEq_inj _ _ a (by omega) h1.2 h2.2)
theorem sFind_or (f : Int → Int) (a e : Int) : ∀ (k n : Nat), (∃ m : Nat, n ≤ m ∧ m < n + k ∧ sFind f a e k n = m ∧ sHit f a e (sId m) = true) ∨ (sFind f a e k n = 201 ∧ ∀ m, n ≤ m → m < n + k → sHit f a e (sId m) = false) := by
  intro k
  induction k with
  | zero =>
    intro n
    exact Or.inr ⟨rfl, fun m h1 h2 => by omega⟩
  | succ k ih =>
    intro n
    rw [sFind]
    by_cases q : sHit f a e (sId n) = true
    · rw [if_pos q]
      exact Or.inl ⟨n, by omega, by omega, rfl, q⟩
    · rw [if_neg q]
      rcases ih (n + 1) with ⟨m, h1, h2, h3, h4⟩ | ⟨h1, h2⟩
      · exact Or.inl ⟨m, by omega, by omega, h3, h4⟩
      · refine Or.inr ⟨h1, fun m h3 h4 => ?_⟩
        by_cases z : m = n
        · rw [z]
          exact eq_false_of_ne_true q
        · exact h2 m (by omega) (by omega)
theorem sId_all : ∀ i : Nat, i < 36 → 0 < i → ∃ m : Nat, m < 35 ∧ sId m = i := by decide +kernel
theorem sCas_cg {h g : Nat → Bool} : ∀ (l : List (Nat × Int)), (∀ q ∈ l, h q.1 = g q.1) → sCas h l = sCas g l := by
  intro l
  induction l with
  | nil => intro _; rfl
  | cons x l ih =>
    intro hq
    rw [sCas, sCas, hq x List.mem_cons_self, ih (fun q z => hq q (List.mem_cons_of_mem _ z))]
theorem sT_in : ∀ l ∈ [sT26, sT27, sT28, sT29, sT30], ∀ q ∈ l, 0 < q.1 ∧ q.1 < 36 := by decide +kernel
theorem sT31_in (k : Int) : ∀ q ∈ sT31 k, 0 < q.1 ∧ q.1 < 36 := by
  unfold sT31
  by_cases q3 : k = 3
  · rw [if_pos q3]; exact sT_in sT29 (by decide)
  · rw [if_neg q3]
    by_cases q4 : k = 4
    · rw [if_pos q4]; exact sT_in sT30 (by decide)
    · rw [if_neg q4]
      have go : ∀ l, l ∈ [sT26, sT27, sT28, sT29, sT30] → ∀ q ∈ (10, 3) :: (11, 4) :: (12, 5) :: (13, 6) :: l, 0 < q.1 ∧ q.1 < 36 := by
        intro l hl q hq
        rcases List.mem_cons.mp hq with rfl | hq
        · decide
        rcases List.mem_cons.mp hq with rfl | hq
        · decide
        rcases List.mem_cons.mp hq with rfl | hq
        · decide
        rcases List.mem_cons.mp hq with rfl | hq
        · decide
        exact sT_in l hl q hq
      by_cases q0 : k = 0
      · rw [if_pos q0]; exact go sT26 (by decide)
      · rw [if_neg q0]
        by_cases q1 : k = 1
        · rw [if_pos q1]; exact go sT27 (by decide)
        · rw [if_neg q1]; exact go sT28 (by decide)
theorem sCas_no : ∀ (l : List (Nat × Int)), sCas (fun _ => false) l = 1 := by
  intro l
  induction l with
  | nil => rfl
  | cons x l ih => rw [sCas, if_neg (by decide), ih]
/-- the model's kind of the word with this number of the class -/
def sWk (k c : Int) : Int := if 0 ≤ c ∧ c < 35 then sCas (fun i => decide (sId c.toNat = i)) (sT31 k) else 1
theorem sWk_ok (f : Int → Int) (a e k : Int) : sCas (sHit f a e) (sT31 k) = sWk k (sFind f a e 35 0) := by
  unfold sWk
  rcases sFind_or f a e 35 0 with ⟨m, h1, h2, h3, h4⟩ | ⟨h1, h2⟩
  · rw [h3, if_pos (by omega), show ((m : Int)).toNat = m from by omega]
    refine sCas_cg _ (fun q hq => ?_)
    obtain ⟨z1, z2⟩ := sT31_in k q hq
    by_cases z : sId m = q.1
    · rw [decide_eq_true z, ← z]; exact h4
    · rw [decide_eq_false z]
      cases y : sHit f a e q.1 with
      | false => rfl
      | true => exact absurd (sHit_inj (s_tab m (by omega)).1 z2 h4 y) z
  · rw [h1, if_neg (by decide)]
    refine Eq.trans (sCas_cg (g := fun _ => false) _ (fun q hq => ?_)) (sCas_no _)
    obtain ⟨z1, z2⟩ := sT31_in k q hq
    obtain ⟨m, y1, y2⟩ := sId_all q.1 z2 z1
    rw [← y2]
    exact h2 m (by omega) (by omega)
