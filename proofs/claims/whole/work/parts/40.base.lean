-- needs: 02 03 04
/-! PURE: laws to reckon with -/
theorem p_b (r : Int) (M : am_M) (f : Int → am_M → am_R) : am_bnd (some (r, M)) f = f r M := rfl
theorem p_c {c : Prop} [Decidable c] {x : am_R} (h : c) : am_chk c x = x := if_pos h
theorem p_w {x : Int} (h1 : -2147483648 ≤ x) (h2 : x ≤ 2147483647) : am_wrap x = x := by unfold am_wrap; omega
theorem p_w_in (x : Int) : -2147483648 ≤ am_wrap x ∧ am_wrap x ≤ 2147483647 := by unfold am_wrap; omega
/-- an array or object as a whole is put -/
def p_st (M : am_M) (a : Nat) (f : Int → Int) : am_M := fun b => if b = a then f else M b
def p_up (f : Int → Int) (i v : Int) : Int → Int := fun j => if j = i then v else f j
theorem p_upd (M : am_M) (a : Nat) (i v : Int) : am_upd M a i v = p_st M a (p_up (M a) i v) := by
  funext b j
  unfold am_upd p_st p_up
  by_cases h : b = a
  · subst h
    by_cases h2 : j = i <;> simp [h2]
  · simp [h]
theorem p_st1 (M : am_M) (a : Nat) (f : Int → Int) : p_st M a f a = f := if_pos rfl
theorem p_st2 {M : am_M} {a b : Nat} {f : Int → Int} (h : b ≠ a) : p_st M a f b = M b := if_neg h
theorem p_st3 (M : am_M) (a : Nat) (f g : Int → Int) : p_st (p_st M a f) a g = p_st M a g := by
  funext b
  unfold p_st
  by_cases h : b = a <;> simp [h]
theorem p_st4 {M : am_M} {a b : Nat} {f g : Int → Int} (h : b < a) : p_st (p_st M a f) b g = p_st (p_st M b g) a f := by
  funext c
  unfold p_st
  by_cases h1 : c = a
  · have : ¬ c = b := by omega
    simp [h1]
    intro h2
    omega
  · by_cases h2 : c = b
    · simp [h1, h2]
      intro h3
      omega
    · simp [h1, h2]
theorem p_st5 (M : am_M) (a : Nat) : p_st M a (M a) = M := by
  funext b
  unfold p_st
  by_cases h : b = a <;> simp [h]
theorem p_up1 (f : Int → Int) (i v : Int) : p_up f i v i = v := if_pos rfl
theorem p_up2 {f : Int → Int} {i j v : Int} (h : j ≠ i) : p_up f i v j = f j := if_neg h
theorem p_up3 (f : Int → Int) (i v v' : Int) : p_up (p_up f i v) i v' = p_up f i v' := by
  funext j
  unfold p_up
  by_cases h : j = i <;> simp [h]
theorem p_cpy (M : am_M) (a : Nat) (i : Int) (b : Nat) (j n : Int) : am_cpy M a i b j n = p_st M b (fun k => if j ≤ k ∧ k < j + n then M a (i + (k - j)) else M b k) := by
  funext c k
  unfold am_cpy p_st
  by_cases h : c = b
  · subst h
    by_cases h2 : j ≤ k ∧ k < j + n <;> simp [h2]
  · simp [h]
/-- the first of k numbers from i on, s apart, of which P holds; -1 if none -/
def p_find (P : Int → Bool) (s : Int) : Nat → Int → Int
  | 0, _ => -1
  | k + 1, i => if P i = true then i else p_find P s k (i + s)
/-- k steps of f from i on -/
def p_fold {α : Type} (f : Int → α → α) : Nat → Int → α → α
  | 0, _, a => a
  | k + 1, i, a => p_fold f k (i + 1) (f i a)
theorem p_small : ∀ h : Nat, h < 64 → am_iand h 1 = (h : Int) % 2 ∧ am_ishr h 1 = (h : Int) / 2 ∧ am_irem h 2 = (h : Int) % 2 ∧ am_idiv h 2 = (h : Int) / 2 := by decide +kernel
theorem p_and1 {h : Int} (h1 : 0 ≤ h) (h2 : h < 64) : am_iand h 1 = h % 2 := by
  have := (p_small h.toNat (by omega)).1
  rwa [show ((h.toNat : Nat) : Int) = h from by omega] at this
theorem p_shr1 {h : Int} (h1 : 0 ≤ h) (h2 : h < 64) : am_ishr h 1 = h / 2 := by
  have := (p_small h.toNat (by omega)).2.1
  rwa [show ((h.toNat : Nat) : Int) = h from by omega] at this
theorem p_rem2 {h : Int} (h1 : 0 ≤ h) (h2 : h < 64) : am_irem h 2 = h % 2 := by
  have := (p_small h.toNat (by omega)).2.2.1
  rwa [show ((h.toNat : Nat) : Int) = h from by omega] at this
theorem p_div2 {h : Int} (h1 : 0 ≤ h) (h2 : h < 64) : am_idiv h 2 = h / 2 := by
  have := (p_small h.toNat (by omega)).2.2.2
  rwa [show ((h.toNat : Nat) : Int) = h from by omega] at this
