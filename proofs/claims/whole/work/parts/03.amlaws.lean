/-! the machine's laws: each instruction ends, or goes on at one place; the limit is a fixed point; a run until a stop -/
abbrev am_KS : Type := List (Option am_V) → List am_V → am_M → am_R
abbrev am_KJ : Type := Nat → List (Option am_V) → List am_V → am_M → am_R
def am_T3 (F : am_KS → am_KJ → am_R) : Prop := (∃ o : am_R, ∀ ks kj, F ks kj = o) ∨ (∃ l s m, ∀ ks kj, F ks kj = ks l s m) ∨ (∃ t l s m, ∀ ks kj, F ks kj = kj t l s m)
theorem am_t_c (o : am_R) : am_T3 (fun _ _ => o) := Or.inl ⟨o, fun _ _ => rfl⟩
theorem am_t_s (l : List (Option am_V)) (s : List am_V) (m : am_M) : am_T3 (fun ks _ => ks l s m) := Or.inr (Or.inl ⟨l, s, m, fun _ _ => rfl⟩)
theorem am_t_j (t : Nat) (l : List (Option am_V)) (s : List am_V) (m : am_M) : am_T3 (fun _ kj => kj t l s m) := Or.inr (Or.inr ⟨t, l, s, m, fun _ _ => rfl⟩)
theorem am_t_pv {st : List am_V} {F : am_V → List am_V → am_KS → am_KJ → am_R} (h : ∀ v st, am_T3 (F v st)) : am_T3 (fun ks kj => am_pv st fun v st => F v st ks kj) := by
  cases st with
  | nil => exact am_t_c none
  | cons v st => exact h v st
theorem am_t_pi {st : List am_V} {F : Int → List am_V → am_KS → am_KJ → am_R} (h : ∀ v st, am_T3 (F v st)) : am_T3 (fun ks kj => am_pi st fun v st => F v st ks kj) := by
  cases st with
  | nil => exact am_t_c none
  | cons v st => cases v with
    | inl x => exact h x st
    | inr x => exact am_t_c none
theorem am_t_pr {st : List am_V} {F : Nat → List am_V → am_KS → am_KJ → am_R} (h : ∀ v st, am_T3 (F v st)) : am_T3 (fun ks kj => am_pr st fun v st => F v st ks kj) := by
  cases st with
  | nil => exact am_t_c none
  | cons v st => cases v with
    | inl x => exact am_t_c none
    | inr x => exact h x st
theorem am_t_lo {o : Option (Option am_V)} {F : am_V → am_KS → am_KJ → am_R} (h : ∀ v, am_T3 (F v)) : am_T3 (fun ks kj => am_lo o fun v => F v ks kj) := by
  cases o with
  | none => exact am_t_c none
  | some o => cases o with
    | none => exact am_t_c none
    | some v => exact h v
theorem am_t_vi {v : am_V} {F : Int → am_KS → am_KJ → am_R} (h : ∀ v, am_T3 (F v)) : am_T3 (fun ks kj => am_vi v fun v => F v ks kj) := by
  cases v with
  | inl x => exact h x
  | inr x => exact am_t_c none
theorem am_t_cond {b : Bool} {F : am_KS → am_KJ → am_R} (h : am_T3 F) : am_T3 (fun ks kj => cond b (F ks kj) none) := by
  cases b with
  | true => exact h
  | false => exact am_t_c none
theorem am_t_chk {c : Prop} [hc : Decidable c] {F : am_KS → am_KJ → am_R} (h : am_T3 F) : am_T3 (fun ks kj => am_chk c (F ks kj)) := by
  cases hc with
  | isTrue q => simpa [am_chk, q] using h
  | isFalse q => simpa [am_chk, q] using am_t_c none
theorem am_t_nil {st : List am_V} {F : am_KS → am_KJ → am_R} (h : am_T3 F) : am_T3 (fun ks kj => am_nil st (F ks kj)) := by
  cases st with
  | nil => exact h
  | cons _ _ => exact am_t_c none
theorem am_t_ret {t : Nat} {x : Int} {F : am_KS → am_KJ → am_R} (h : am_T3 F) : am_T3 (fun ks kj => am_ret t x (F ks kj)) := by
  unfold am_ret
  split
  · exact h
  · exact am_t_chk h
  · exact am_t_chk h
  · exact am_t_chk h
theorem am_t_bnd {x : am_R} {F : Int → am_M → am_KS → am_KJ → am_R} (h : ∀ v M, am_T3 (F v M)) : am_T3 (fun ks kj => am_bnd x fun v M => F v M ks kj) := by
  cases x with
  | none => exact am_t_c none
  | some p => exact h p.1 p.2
theorem am_br_tri (c : Jvm.ClassFile.Cond) (x y : Int) : (∀ A B : am_R, am_br c x y A B = A) ∨ (∀ A B : am_R, am_br c x y A B = B) := by
  cases c
  · by_cases h : x = y
    · exact Or.inl fun A B => by simp [am_br, h]
    · exact Or.inr fun A B => by simp [am_br, h]
  · by_cases h : x = y
    · exact Or.inr fun A B => by simp [am_br, h]
    · exact Or.inl fun A B => by simp [am_br, h]
  · by_cases h : x < y
    · exact Or.inl fun A B => by simp [am_br, h]
    · exact Or.inr fun A B => by simp [am_br, h]
  · by_cases h : x < y
    · exact Or.inr fun A B => by simp [am_br, h]
    · exact Or.inl fun A B => by simp [am_br, h]
  · by_cases h : y < x
    · exact Or.inl fun A B => by simp [am_br, h]
    · exact Or.inr fun A B => by simp [am_br, h]
  · by_cases h : y < x
    · exact Or.inr fun A B => by simp [am_br, h]
    · exact Or.inl fun A B => by simp [am_br, h]
theorem am_t_br {c : Jvm.ClassFile.Cond} {x y : Int} {F G : am_KS → am_KJ → am_R} (h : am_T3 F) (g : am_T3 G) : am_T3 (fun ks kj => am_br c x y (F ks kj) (G ks kj)) := by
  rcases am_br_tri c x y with q | q
  · simpa only [q] using h
  · simpa only [q] using g
theorem am_t_sw {x d : Int} {F : Nat → am_KS → am_KJ → am_R} (h : ∀ t, am_T3 (F t)) : ∀ (ts : List Int) (lo : Int), am_T3 (fun ks kj => am_sw x d (fun t => F t ks kj) lo ts) := by
  intro ts
  induction ts with
  | nil => intro lo; exact h _
  | cons t ts ih =>
    intro lo
    by_cases q : x = lo
    · simpa [am_sw, q] using h t.toNat
    · simpa [am_sw, q] using ih (lo + 1)
theorem am_t_swl {x d : Int} {F : Nat → am_KS → am_KJ → am_R} (h : ∀ t, am_T3 (F t)) : ∀ (ts : List (Int × Int)), am_T3 (fun ks kj => am_swl x d (fun t => F t ks kj) ts) := by
  intro ts
  induction ts with
  | nil => exact h _
  | cons t ts ih =>
    obtain ⟨v, t⟩ := t
    by_cases q : x = v
    · simpa [am_swl, q] using h t.toNat
    · simpa [am_swl, q] using ih
section AM
variable {cls : Nat → Nat} {rf : Nat → Int → Nat} {len : am_M → Nat → Int} {call : Nat → List am_V → am_M → am_R}
theorem am_tri (i : am_I) (ls : List (Option am_V)) (st : List am_V) (M : am_M) : am_T3 (am_stp cls rf len call i ls st M) := by
  obtain ⟨i, a, b⟩ := i
  cases i <;> (first
    | exact am_t_c none
    | exact am_t_s _ _ _
    | exact am_t_j _ _ _ _
    | exact am_t_lo fun _ => am_t_cond (am_t_s _ _ _)
    | exact am_t_pv fun _ _ => am_t_s _ _ _
    | exact am_t_pv fun _ _ => am_t_cond (am_t_s _ _ _)
    | exact am_t_pv fun _ _ => am_t_pv fun _ _ => am_t_s _ _ _
    | exact am_t_lo fun _ => am_t_vi fun _ => am_t_s _ _ _
    | exact am_t_pi fun _ _ => am_t_s _ _ _
    | exact am_t_pi fun x s => am_t_c (am_nil s (am_ret a x (some (x, M))))
    | exact am_t_pi fun _ _ => am_t_pi fun _ _ => am_t_s _ _ _
    | exact am_t_pi fun _ _ => am_t_pi fun _ _ => am_t_chk (am_t_s _ _ _)
    | exact am_t_pi fun _ _ => am_t_pi fun _ _ => am_t_cond (am_t_s _ _ _)
    | exact am_t_pi fun _ _ => am_t_br (am_t_j _ _ _ _) (am_t_s _ _ _)
    | exact am_t_pi fun _ _ => am_t_pi fun _ _ => am_t_br (am_t_j _ _ _ _) (am_t_s _ _ _)
    | exact am_t_pi fun _ _ => am_t_sw (fun _ => am_t_j _ _ _ _) _ _
    | exact am_t_pi fun _ _ => am_t_swl (fun _ => am_t_j _ _ _ _) _
    | exact am_t_pr fun _ _ => am_t_cond (am_t_s _ _ _)
    | exact am_t_pi fun _ _ => am_t_pr fun _ _ => am_t_cond (am_t_ret (am_t_s _ _ _))
    | exact am_t_pi fun _ _ => am_t_pr fun _ _ => am_t_cond (am_t_chk (am_t_s _ _ _))
    | exact am_t_pi fun _ _ => am_t_pi fun _ _ => am_t_pr fun _ _ => am_t_cond (am_t_chk (am_t_s _ _ _))
    | exact am_t_pi fun _ _ => am_t_pi fun _ _ => am_t_pr fun _ _ => am_t_pi fun _ _ => am_t_pr fun _ _ => am_t_cond (am_t_chk (am_t_nil (am_t_s _ _ _)))
    | exact am_t_cond (am_t_bnd fun _ _ => am_t_s _ _ _)
    | exact am_t_c (am_nil st (some (0, M))))
theorem am_ex_succ (full : List am_I) (n pc : Nat) (ls : List (Option am_V)) (st : List am_V) (M : am_M) : am_ex cls rf len call full (n + 1) pc ls st M = match full[pc]? with
    | some i => am_stp cls rf len call i ls st M (am_ex cls rf len call full n (pc + 1)) (am_ex cls rf len call full n)
    | none => none := rfl
theorem am_ex_mono (full : List am_I) : ∀ (n : Nat) (pc : Nat) (ls : List (Option am_V)) (st : List am_V) (M : am_M) (r : Int × am_M), am_ex cls rf len call full n pc ls st M = some r → am_ex cls rf len call full (n + 1) pc ls st M = some r := by
  intro n
  induction n with
  | zero => intro pc ls st M r h; cases h
  | succ n ih =>
    intro pc ls st M r h
    rw [am_ex_succ] at h ⊢
    cases hi : full[pc]? with
    | none => rw [hi] at h; cases h
    | some i =>
      rw [hi] at h
      dsimp only at h ⊢
      rcases am_tri (cls := cls) (rf := rf) (len := len) (call := call) i ls st M with ⟨o, h1⟩ | ⟨l, s, m, h1⟩ | ⟨t, l, s, m, h1⟩
      · rw [h1] at h ⊢; exact h
      · rw [h1] at h ⊢; exact ih _ _ _ _ _ h
      · rw [h1] at h ⊢; exact ih _ _ _ _ _ h
theorem am_ex_le (full : List am_I) {n k : Nat} (hk : n ≤ k) {pc : Nat} {ls : List (Option am_V)} {st : List am_V} {M : am_M} {r : Int × am_M} (h : am_ex cls rf len call full n pc ls st M = some r) : am_ex cls rf len call full k pc ls st M = some r := by
  induction hk with
  | refl => exact h
  | step _ ih => exact am_ex_mono full _ _ _ _ _ _ ih
theorem am_lim_some (full : List am_I) {n pc : Nat} {ls : List (Option am_V)} {st : List am_V} {M : am_M} {r : Int × am_M} (h : am_ex cls rf len call full n pc ls st M = some r) : am_lim cls rf len call full pc ls st M = some r := by
  have hex : ∃ o : am_R, (∃ n, am_ex cls rf len call full n pc ls st M = o ∧ o ≠ none) ∨ ((∀ n, am_ex cls rf len call full n pc ls st M = none) ∧ o = none) := ⟨some r, Or.inl ⟨n, h, by simp⟩⟩
  have hs := Classical.epsilon_spec hex
  change (∃ n, am_ex cls rf len call full n pc ls st M = am_lim cls rf len call full pc ls st M ∧ am_lim cls rf len call full pc ls st M ≠ none) ∨ _ at hs
  rcases hs with ⟨k, h1, h2⟩ | ⟨h1, -⟩
  · cases ho : am_lim cls rf len call full pc ls st M with
    | none => exact absurd ho h2
    | some q =>
      rw [ho] at h1
      have a := am_ex_le full (Nat.le_max_left n k) h
      have b := am_ex_le full (Nat.le_max_right n k) h1
      exact b.symm.trans a
  · rw [h1 n] at h; cases h
theorem am_lim_none (full : List am_I) {pc : Nat} {ls : List (Option am_V)} {st : List am_V} {M : am_M} (h : ∀ n, am_ex cls rf len call full n pc ls st M = none) : am_lim cls rf len call full pc ls st M = none := by
  have hex : ∃ o : am_R, (∃ n, am_ex cls rf len call full n pc ls st M = o ∧ o ≠ none) ∨ ((∀ n, am_ex cls rf len call full n pc ls st M = none) ∧ o = none) := ⟨none, Or.inr ⟨h, rfl⟩⟩
  have hs := Classical.epsilon_spec hex
  change (∃ n, am_ex cls rf len call full n pc ls st M = am_lim cls rf len call full pc ls st M ∧ am_lim cls rf len call full pc ls st M ≠ none) ∨ ((∀ n, am_ex cls rf len call full n pc ls st M = none) ∧ am_lim cls rf len call full pc ls st M = none) at hs
  rcases hs with ⟨k, h1, h2⟩ | ⟨-, h2⟩
  · rw [h k] at h1; exact absurd h1.symm h2
  · exact h2
theorem am_lim_ex (full : List am_I) {pc : Nat} {ls : List (Option am_V)} {st : List am_V} {M : am_M} {r : Int × am_M} (h : am_lim cls rf len call full pc ls st M = some r) : ∃ n, am_ex cls rf len call full n pc ls st M = some r := by
  by_cases hn : ∀ n, am_ex cls rf len call full n pc ls st M = none
  · rw [am_lim_none full hn] at h; cases h
  · obtain ⟨n, hn⟩ := Classical.not_forall.mp hn
    cases ho : am_ex cls rf len call full n pc ls st M with
    | none => exact absurd ho hn
    | some q => exact ⟨n, by rw [ho]; rw [am_lim_some full ho] at h; exact h⟩
theorem am_lim_eq (full : List am_I) (pc : Nat) (ls : List (Option am_V)) (st : List am_V) (M : am_M) : am_lim cls rf len call full pc ls st M = match full[pc]? with
    | some i => am_stp cls rf len call i ls st M (am_lim cls rf len call full (pc + 1)) (am_lim cls rf len call full)
    | none => none := by
  have key : ∀ (pc2 : Nat) (l : List (Option am_V)) (s : List am_V) (m : am_M), (∀ n, am_ex cls rf len call full (n + 1) pc ls st M = am_ex cls rf len call full n pc2 l s m) → am_lim cls rf len call full pc ls st M = am_lim cls rf len call full pc2 l s m := by
    intro pc2 l s m h
    cases ho : am_lim cls rf len call full pc2 l s m with
    | none =>
      refine am_lim_none full fun n => ?_
      cases n with
      | zero => rfl
      | succ n =>
        rw [h]
        cases hq : am_ex cls rf len call full n pc2 l s m with
        | none => rfl
        | some q => rw [am_lim_some full hq] at ho; cases ho
    | some q =>
      obtain ⟨n, hn⟩ := am_lim_ex full ho
      exact am_lim_some full (n := n + 1) (by rw [h, hn])
  cases hi : full[pc]? with
  | none =>
    refine am_lim_none full fun n => ?_
    cases n with
    | zero => rfl
    | succ n => rw [am_ex_succ, hi]
  | some i =>
    dsimp only
    rcases am_tri (cls := cls) (rf := rf) (len := len) (call := call) i ls st M with ⟨o, h1⟩ | ⟨l, s, m, h1⟩ | ⟨t, l, s, m, h1⟩
    · rw [h1]
      cases o with
      | none =>
        refine am_lim_none full fun n => ?_
        cases n with
        | zero => rfl
        | succ n => rw [am_ex_succ, hi]; exact h1 _ _
      | some q => exact am_lim_some full (n := 1) (by rw [am_ex_succ, hi]; exact h1 _ _)
    · rw [h1]; exact key _ _ _ _ fun n => by rw [am_ex_succ, hi]; exact h1 _ _
    · rw [h1]; exact key _ _ _ _ fun n => by rw [am_ex_succ, hi]; exact h1 _ _
theorem am_go_eq (full : List am_I) (stops : List Nat) : ∀ (n : Nat) (pc : Nat) (ls : List (Option am_V)) (st : List am_V) (M : am_M), am_lim cls rf len call full pc ls st M = am_go cls rf len call full stops (am_lim cls rf len call full) n (full.drop pc) pc ls st M := by
  intro n
  induction n with
  | zero => intro pc ls st M; rfl
  | succ n ih =>
    intro pc ls st M
    rw [am_lim_eq]
    by_cases hpc : pc < full.length
    · have e1 : full[pc]? = some full[pc] := List.getElem?_eq_getElem hpc
      have e2 : full.drop pc = full[pc] :: full.drop (pc + 1) := List.drop_eq_getElem_cons hpc
      rw [e1, e2]
      have f1 : (am_lim cls rf len call full (pc + 1)) = (fun ls st M => cond (stops.contains (pc + 1)) (am_lim cls rf len call full (pc + 1) ls st M) (am_go cls rf len call full stops (am_lim cls rf len call full) n (full.drop (pc + 1)) (pc + 1) ls st M)) := by
        funext ls st M
        cases stops.contains (pc + 1) with
        | true => rfl
        | false => exact ih _ _ _ _
      have f2 : (am_lim cls rf len call full) = (fun t ls st M => cond (stops.contains t) (am_lim cls rf len call full t ls st M) (am_go cls rf len call full stops (am_lim cls rf len call full) n (full.drop t) t ls st M)) := by
        funext t ls st M
        cases stops.contains t with
        | true => rfl
        | false => exact ih _ _ _ _
      exact congr (congrArg (fun a b => am_stp cls rf len call full[pc] ls st M a b) f1) f2
    · have e1 : full[pc]? = none := List.getElem?_eq_none (by omega)
      have e2 : full.drop pc = [] := List.drop_eq_nil_iff.mpr (by omega)
      rw [e1, e2]
      rfl
end AM
