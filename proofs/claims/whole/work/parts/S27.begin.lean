/-! START: from the built world to the abstract machine's -/
def am_M0 (L : Nat) (xs : Nat → Int32) : am_M := fun a i => if a = 92 ∧ i = 6 then -1 else if a = 186 ∧ i = 25 then -1 else if a < 199 then 0 else am_C L xs a i
theorem am_M0_ok (L : Nat) (xs : Nat → Int32) (hL : L ≤ 3072) : am_mok (am_C L xs) (am_M0 L xs) := by
  refine ⟨fun a i => ?_, fun a ha => ?_⟩
  · unfold am_M0
    split
    · exact ⟨by decide, by decide⟩
    · split
      · exact ⟨by decide, by decide⟩
      · split
        · exact ⟨by decide, by decide⟩
        · exact am_C_in L xs hL a i
  · funext i
    unfold am_M0
    rw [if_neg (by omega), if_neg (by omega), if_neg (by omega)]
def am_m0 : am_M := fun a i => if a = 92 ∧ i = 6 then -1 else if a = 186 ∧ i = 25 then -1 else 0
theorem am_M0_e (L : Nat) (xs : Nat → Int32) {a : Nat} (ha : a < 199) : am_M0 L xs a = am_m0 a := by
  funext i
  simp only [am_M0, am_m0, ha, if_true]
theorem am_us_no (a : Nat) : ∀ (l : List (Nat × Int × Int)) (M : am_M), (∀ q ∈ l, q.1 ≠ a) → am_us l M a = M a := by
  intro l
  induction l with
  | nil => intro M _; rfl
  | cons q l ih =>
    intro M h
    obtain ⟨b, i, v⟩ := q
    show am_us l (am_upd M b i v) a = M a
    rw [ih _ (fun q hq => h q (List.mem_cons_of_mem _ hq))]
    exact am_upd_other M b i v a (fun e => h _ List.mem_cons_self e.symm)
theorem am_bM1 : ∀ q ∈ am_uL, am_cls q.1 ≠ 9 ∧ am_cls q.1 ≠ 10 := by decide +kernel
theorem am_bM2 : ∀ k, k < 199 → am_cls k < 8 → ∀ j, j < am_nf (am_cls k) → (am_isr (am_cls k) j = true → bm_M k j = 1) ∧ (am_isr (am_cls k) j = false → bm_M k j = am_m0 k j) := by decide +kernel
theorem am_bM3 : ∀ k, k < 199 → (am_cls k = 11 ∨ am_cls k = 14) → ∀ j, j < am_ln k → bm_M k j = 1 := by decide +kernel
theorem am_bM4 : ∀ k, k < 199 → am_cls k < 8 ∨ am_cls k = 9 ∨ am_cls k = 10 ∨ am_cls k = 11 ∨ am_cls k = 14 := by decide +kernel
theorem am_bM5 : ∀ k, k < 199 → (am_cls k = 9 ∨ am_cls k = 10) → k ≠ 92 ∧ k ≠ 186 := by decide +kernel
theorem am_toP {D : va_G} {ad : Nat → Nat} {cA : Nat → ClassId} {L : Nat} {xs : Nat → Int32} {H : Heap} (h : va_P D vwCl (bm_ws ad cA bm_M 199) H) : va_P D vwCl (am_ws ad cA (am_M0 L xs)) H := by
  intro k q hq
  have hk : k < 199 := by
    have := (List.getElem?_eq_some_iff.mp hq).1
    rwa [am_ws_len] at this
  rw [am_ws_get ad cA _ hk] at hq
  cases hq
  have g := h k _ (bm_ws_get ad cA bm_M hk)
  have eM := am_M0_e L xs hk
  unfold bm_cell at g
  unfold am_cell
  by_cases h9 : am_cls k = 9 ∨ am_cls k = 10
  · rw [if_pos h9] at g ⊢
    have e : am_row bm_M k = am_row (am_M0 L xs) k := by
      funext j
      have e1 : bm_M k = (fun _ => 0) := am_us_no k am_uL _ (fun q hq e => by have := am_bM1 q hq; rw [e] at this; omega)
      have h5 := am_bM5 k hk h9
      simp only [am_row, e1, eM, am_m0]
      rw [if_neg (by omega), if_neg (by omega)]
    rw [e] at g
    exact g
  · rw [if_neg h9] at g ⊢
    by_cases h11 : am_cls k = 11 ∨ am_cls k = 14
    · rw [if_pos h11] at g ⊢
      have g : H[ad k]? = some (arrV (cA (am_cls k)) (am_ln k) (fun j => va_rf (bm_rrow ad bm_M k j))) := g
      show H[ad k]? = some (arrV (cA (am_cls k)) (am_ln k) (fun j => va_rf (am_rrow ad k j)))
      rw [g]
      unfold arrV
      congr 3
      funext j
      simp only [bm_rrow, am_rrow, am_bM3 k hk h11 j.val j.isLt, if_true]
    · rw [if_neg h11] at g ⊢
      have h8 : am_cls k < 8 := by have := am_bM4 k hk; omega
      have e : bm_fs ad bm_M k (am_cls k) = am_fs ad (am_M0 L xs) k (am_cls k) := by
        unfold bm_fs am_fs
        refine List.map_congr_left fun j hj => ?_
        have hj := List.mem_range.mp hj
        obtain ⟨b1, b2⟩ := am_bM2 k hk h8 j hj
        unfold bm_fld am_fld
        cases hr : am_isr (am_cls k) j with
        | true => rw [if_pos rfl, if_pos rfl, b1 hr, if_pos rfl]
        | false => rw [if_neg (by decide), if_neg (by decide), b2 hr, eM]
      rw [e] at g
      exact g
