/-! a method's entry: its locals are its arguments -/
theorem am_args_mem {k : Nat} {w : Value} : ∀ (vs : List Value) (i : Nat), (∀ v ∈ vs, v.category = 1) → vs[k]? = some w → (i + k, w) ∈ lv_args i vs := by
  induction k with
  | zero =>
    intro vs i hc h
    cases vs with
    | nil => simp at h
    | cons v vs => simp at h; subst h; exact List.mem_cons_self
  | succ k ih =>
    intro vs i hc h
    cases vs with
    | nil => simp at h
    | cons v vs =>
      have h1 : v.category = 1 := hc v List.mem_cons_self
      rw [show lv_args i (v :: vs) = (i, v) :: lv_args (if v.category = 2 then i + 2 else i + 1) vs from rfl, if_neg (by omega)]
      refine List.mem_cons_of_mem _ ?_
      rw [show i + (k + 1) = i + 1 + k from by omega]
      exact ih vs (i + 1) (fun q hq => hc q (List.mem_cons_of_mem _ hq)) (by simpa using h)
theorem am_sl_len : ∀ vs : List Value, (∀ v ∈ vs, v.category = 1) → (lg_sl vs).length = vs.length := by
  intro vs
  induction vs with
  | nil => intro _; rfl
  | cons v vs ih =>
    intro h
    have h1 : v.category = 1 := h v List.mem_cons_self
    rw [lg_sl, List.flatMap_cons, if_neg (by omega)]
    simp only [List.length_append, List.length_cons, List.length_nil]
    have := ih (fun q hq => h q (List.mem_cons_of_mem _ hq))
    unfold lg_sl at this
    rw [this]
    omega
theorem am_ini_len {n : Nat} {args : List am_V} (h : args.length ≤ n) : (am_ini n args).length = n := by
  rw [am_ini, List.length_append, List.length_map, List.length_replicate]
  omega
theorem am_entry {ad : Nat → Nat} {vF : Value} {n : Nat} {args : List am_V} (hF : vF = .null ∨ ∃ x, vF = .ref x) (hn : args.length ≤ n) (hv : ∀ v ∈ args, am_vok v) : am_lok ad vF (am_ini n args) ((lg_sl (args.map (am_enc ad vF)) ++ List.replicate (n - (lg_sl (args.map (am_enc ad vF))).length) Slot.unset).toArray) := by
  have hcat : ∀ v ∈ args.map (am_enc ad vF), v.category = 1 := by
    intro v hv
    obtain ⟨w, -, rfl⟩ := List.mem_map.mp hv
    exact am_enc_cat hF w
  have hl := lv_entry (args.map (am_enc ad vF)) (n := n) (by rw [am_sl_len _ hcat, List.length_map]; exact hn)
  refine ⟨by rw [am_ini_len hn]; exact hl.1, hl.2.1, fun k v hk => ?_⟩
  have hk1 : args[k]? = some v := by
    unfold am_ini at hk
    rcases Nat.lt_or_ge k args.length with h | h
    · rw [List.getElem?_append_left (by rw [List.length_map]; exact h), List.getElem?_map] at hk
      cases hq : args[k]? with
      | none => rw [hq] at hk; cases hk
      | some w => rw [hq] at hk; simp at hk; rw [hk]
    · exfalso
      rw [List.getElem?_append_right (by rw [List.length_map]; exact h)] at hk
      obtain ⟨-, h2⟩ := List.mem_replicate.mp (List.mem_of_getElem? hk)
      cases h2
  refine ⟨?_, hv v (List.mem_of_getElem? hk1)⟩
  have := am_args_mem (k := k) (w := am_enc ad vF v) (args.map (am_enc ad vF)) 0 hcat (by rw [List.getElem?_map, hk1]; rfl)
  rw [Nat.zero_add] at this
  exact hl.2.2 _ this
theorem am_vw : ∀ k, k < 8 → ∃ q : vw_C, vwCl[k]? = some q ∧ q.1 = am_cn k := by
  intro k hk
  match k, hk with
  | 0, _ => exact ⟨_, rfl, rfl⟩
  | 1, _ => exact ⟨_, rfl, rfl⟩
  | 2, _ => exact ⟨_, rfl, rfl⟩
  | 3, _ => exact ⟨_, rfl, rfl⟩
  | 4, _ => exact ⟨_, rfl, rfl⟩
  | 5, _ => exact ⟨_, rfl, rfl⟩
  | 6, _ => exact ⟨_, rfl, rfl⟩
  | 7, _ => exact ⟨_, rfl, rfl⟩
