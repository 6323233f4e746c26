/-! START: the constructors' contracts -/
theorem bm_pp0 : ∀ ci, ci < 8 → (bm_pp ci).getD 0 0 = 0 := by decide +kernel
theorem bm_nonop : ∀ ci, ci < 8 → ∀ q ∈ bm_code ci, q.1 ≠ .nop := by decide +kernel
theorem bm_cc {b : Bool} {x y : bm_R} {r : Nat × Nat × am_M} (h : cond b x y = some r) : x = some r ∨ y = some r := by
  cases b with
  | true => exact Or.inl h
  | false => exact Or.inr h
theorem bm_mono {call : Nat → List am_V → Nat → Nat → am_M → bm_R} {code : List am_I} (hc : ∀ ci args n z M r, call ci args n z M = some r → n ≤ r.1 ∧ z ≤ r.2.1) : ∀ (f pc : Nat) (ls : List (Option am_V)) (st : List am_V) (n z : Nat) (M : am_M) (res : Nat × Nat × am_M), bm_ex call code f pc ls st n z M = some res → n ≤ res.1 ∧ z ≤ res.2.1 := by
  intro f
  induction f with
  | zero => intro pc ls st n z M res h; exact (bm_no h).elim
  | succ f ih =>
    intro pc ls st n z M res h
    have h : (match code[pc]? with
      | some i => bm_stp call i ls st n z M (bm_ex call code f (pc + 1)) (bm_ex call code f)
      | none => none) = some res := h
    cases hi : code[pc]? with
    | none => rw [hi] at h; exact (bm_no h).elim
    | some ai =>
      rw [hi] at h
      obtain ⟨i, a, b⟩ := ai
      have h : bm_stp call (i, a, b) ls st n z M (bm_ex call code f (pc + 1)) (bm_ex call code f) = some res := h
      have ks := fun {l s n z m} (h : bm_ex call code f (pc + 1) l s n z m = some res) => ih _ _ _ _ _ _ _ h
      have kj := fun {t l s n z m} (h : bm_ex call code f t l s n z m = some res) => ih _ _ _ _ _ _ _ h
      unfold bm_stp at h
      split at h
      · split at h
        · exact ks (bm_cond h).2
        · exact (bm_no h).elim
      · split at h
        · exact ks (bm_cond h).2
        · exact (bm_no h).elim
      · exact ks h
      · split at h
        · exact ks h
        · exact (bm_no h).elim
      · split at h
        · exact (bm_cc h).elim (fun h => ks h) (fun h => kj h)
        · exact (bm_no h).elim
      · exact kj h
      · split at h
        · exact ks h
        · exact (bm_no h).elim
      · split at h
        · exact ks (bm_cond h).2
        · exact (bm_no h).elim
      · split at h
        · exact ks (bm_cond h).2
        · exact ks (bm_cond h).2
        · exact (bm_no h).elim
      · have := ks (bm_cond h).2; omega
      · split at h
        · have := ks (bm_cond h).2; omega
        · exact (bm_no h).elim
      · split at h
        · have := ks (bm_cond h).2; omega
        · exact (bm_no h).elim
      · split at h
        · exact ks (bm_cond h).2
        · exact (bm_no h).elim
      · split at h
        · exact ks (bm_cond h).2
        · exact (bm_no h).elim
      · split at h
        · have h := (bm_cond h).2
          split at h
          · rename_i hcall
            have h1 := hc _ _ _ _ _ _ hcall
            have h2 := ks h
            dsimp only at h1
            omega
          · exact (bm_no h).elim
        · exact (bm_no h).elim
      · split at h
        · cases h; exact ⟨Nat.le_refl _, Nat.le_refl _⟩
        · exact (bm_no h).elim
      · split at h
        · have h := (bm_cond h).2; cases h; exact ⟨Nat.le_refl _, Nat.le_refl _⟩
        · exact (bm_no h).elim
      · exact (bm_no h).elim
theorem bm_run_s {d ci : Nat} {args : List am_V} {n z : Nat} {M : am_M} {r : Nat × Nat × am_M} (h : bm_run (d + 1) ci args n z M = some r) : ∃ a, args = [.inr a] ∧ am_cls a = ci ∧ a < n ∧ bm_ex (bm_run d) (bm_code ci) 400 0 (am_ini (bm_ml ci) args) [] n z M = some r := by
  unfold bm_run at h
  split at h
  · rename_i a
    obtain ⟨h1, h2⟩ := bm_cond h
    obtain ⟨h3, h4⟩ := am_and h1
    exact ⟨a, rfl, Nat.eq_of_beq_eq_true h3, Nat.le_of_ble_eq_true h4, h2⟩
  · exact (bm_no h).elim
theorem bm_run_mono : ∀ (d ci : Nat) (args : List am_V) (n z : Nat) (M : am_M) (r : Nat × Nat × am_M), bm_run d ci args n z M = some r → n ≤ r.1 ∧ z ≤ r.2.1 := by
  intro d
  induction d with
  | zero => intro ci args n z M r h; exact (bm_no h).elim
  | succ d ih =>
    intro ci args n z M r h
    obtain ⟨a, -, -, -, h⟩ := bm_run_s h
    exact bm_mono ih _ _ _ _ _ _ _ _ h
theorem bm_sound {l : Launch} {D : va_G} {ad : Nat → Nat} {cA : Nat → ClassId} {b0 : Nat} (had : ∀ k, k < 199 → ad k = b0 + k) : ∀ d, bm_Cl l D ad cA b0 d (bm_run d) := by
  intro d
  induction d with
  | zero => intro ci args n z M n1 z1 M1 h; exact (bm_no h).elim
  | succ d ih =>
    intro ci args n z M n1 z1 M1 h hci
    have hmono := bm_run_mono _ _ _ _ _ _ _ h
    obtain ⟨a, rfl, hcl, han, h⟩ := bm_run_s h
    refine ⟨a, rfl, hcl, han, hmono, ?_⟩
    obtain ⟨mf1, mf2, mf3, mf4, mf5⟩ := bm_mf_all ci hci
    refine Met.ofW (cc := bm_b ci) (maxL := bm_ml ci) (ret := none) mf1 rfl ?_
    intro p e s m args' below meth c s₁ B hml hvv
    obtain ⟨rfl, hW, hK, hSt⟩ := hvv
    have hb := B.bytes
    have hr := B.returns
    have hlocks := B.notSynchronized
    have hts := atoms_spec (ws := bm_w ci) B.pre
    have hown : s.vm.findClass (bm_y ci).cls = some m.cls := findClass_of_methodNamed B.named
    have hin : meth.name = "<init>" := (name_of_methodNamed B.named B.method).1
    have ha199 : a < 199 := Nat.lt_of_lt_of_le han hW.2.2.1
    have X : bm_Cx p (bm_rm (d + 1) (n1 - n) (z1 - z)) s m [Value.ref (ad a)].toArray c D ad cA b0 n ci (bm_ml ci) (bm_b ci) :=
      ⟨B.exec, hb, hml, hown, fun w hw => hts w (List.mem_cons_of_mem _ hw), hK, hSt, had, by show 1 ≤ d + 1; omega, by show 21 ≤ 40 * (d + 1); omega, hW.2.1⟩
    have hre : bm_Re p l e (bm_rm (d + 1) (n1 - n) (z1 - z)) s m [Value.ref (ad a)].toArray below meth c (MQ below (bm_Qv D ad cA b0 M1 n1) [Value.ref (ad a)].toArray s (n1 - n) (z1 - z) (bm_A b0)) D ad cA b0 n z (bm_b ci) (n1, z1, M1) := by
      intro bp H locs L hW1 hS1 hdg
      exact W.vret B.exec hb hr (fun t ht _ => ⟨⟨(), rfl, trivial, by show bm_Wd D ad cA b0 M1 n1 t.heap; rw [ht]; exact hW1⟩, hS1.F ht⟩) hS1.2.2 hdg
    have hml1 : ([.inr a] : List am_V).length ≤ bm_ml ci := by
      have : ∀ ci, ci < 8 → 1 ≤ bm_ml ci := by decide +kernel
      exact this ci hci
    have hD : bm_DK ci (bm_b ci) (bm_pp ci) (bm_code ci) := bm_decs_at _ _ (bm_ok_all ci hci)
    have k := (bm_exec (C := fun _ _ => 0) (nL := bm_ml ci) (Q := MQ below (bm_Qv D ad cA b0 M1 n1) [Value.ref (ad a)].toArray s (n1 - n) (z1 - z) (bm_A b0)) X (res := (n1, z1, M1)) (Nat.le_refl _) (Nat.le_refl _) (fun _ => hin) hD ih (by show d + 1 ≤ d + 1; omega) (by show 40 * d + 40 ≤ 40 * (d + 1); omega) (fun _ => hre) (fun h8 => by omega) (fun pc x y hq => absurd rfl (bm_nonop ci hci _ (List.mem_of_getElem? hq))) 400 0 _ _ n z M h).2 (am_ini_len hml1) (fun _ q => absurd q List.not_mem_nil)
    have hent := am_entry (ad := ad) (vF := .null) (n := bm_ml ci) (args := [.inr a]) (Or.inl rfl) hml1 (fun v hv => by rw [List.mem_singleton.mp hv]; trivial)
    have emap : ([.inr a] : List am_V).map (am_enc ad .null) = [.ref (ad a)] := by
      show [am_rv ad .null a] = _
      rw [bm_ad had ha199]
    rw [emap] at hent
    have k := k s.heap [] _ hent hW va_S.rf (Nat.le_refl _) (Nat.le_refl _)
    rw [bm_pp0 ci hci, Nat.sub_self, Nat.sub_self] at k
    rw [lg_entry_eq]
    exact k
