/-! SOUND: what the abstract machine runs, the real machine runs -/
theorem am_pp0 : ∀ j, j < 264 → (am_pp j).getD 0 0 = 0 := by decide +kernel
theorem am_nar1 {x : Int} (h : x = 0 ∨ x = 1) : narrow .boolean (.int (Int32.ofInt x)) = .int (Int32.ofInt x) := by
  rcases h with rfl | rfl <;> rfl
theorem am_nar2 {x : Int} (h : 0 ≤ x ∧ x < 65536) : narrow .char (.int (Int32.ofInt x)) = .int (Int32.ofInt x) := by
  have e : Int32.ofInt x = nI x.toNat := by
    show Int32.ofInt x = Int32.ofNat x.toNat
    rw [am_ofNat]
    congr 1
    omega
  rw [e]
  exact (pk_charN (by omega)).1
theorem am_nar3 {x : Int} (h : -128 ≤ x ∧ x < 128) : narrow .byte (.int (Int32.ofInt x)) = .int (Int32.ofInt x) := by
  have key : ∀ n : Nat, n < 256 → (Int32.ofInt ((n : Int) - 128)).toInt8.toInt32 = Int32.ofInt ((n : Int) - 128) := by decide +kernel
  have := key (x + 128).toNat (by omega)
  rw [show (((x + 128).toNat : Nat) : Int) - 128 = x from by omega] at this
  exact congrArg Value.int this
theorem am_sound {l : Launch} {D : va_G} {ad : Nat → Nat} {cA : Nat → ClassId} {vF : Value} {C : am_M} (hinj : ∀ i j, i < 199 → j < 199 → ad i = ad j → i = j) (hF : vF = .null ∨ ∃ x, vF = .ref x) (hD : ∀ j, j < 264 → am_DK (am_ow j) (am_rt j) (am_b j) (am_pp j) (am_code j)) : ∀ d, am_Cl l D ad cA vF C d (am_run d) := by
  intro d
  induction d with
  | zero => intro j args M r M' h; cases h
  | succ d ih =>
    intro j args M r M' h hj hlen hv hM
    have hok := am_run_ok hD (d + 1) M hM j args hv hj r M' h
    have h : cond (am_rcv j args) (am_lim am_cls am_rf am_len (am_run d) (am_code j) 0 (am_ini (am_ml j) args) [] M) none = some (r, M') := h
    obtain ⟨hrcv, h⟩ := am_cond_some h
    obtain ⟨n, hn⟩ := am_lim_ex _ h
    obtain ⟨mf1, mf2, mf3, mf4, mf5, mf6, mf7, mf8⟩ := am_mfa264 j hj
    have hnw : nativeFrameWords "java/lang/System" "arraycopy" 5 + 11 ≤ 40 := by decide +kernel
    have hargs : args.length ≤ am_ml j := by omega
    have core : ∀ (p : Program) (e : Env) (s : State) (m : MethodId) (below : List Frame) (meth : Method) (c : Code) (s₁ : State) (Q : State → Prop), BodyLoose p l (am_y j) (headSpec (am_wj j) (am_rm (d + 1))) (am_b j) (am_ml j) (am_rty (am_rt j)) e s m (args.map (am_enc ad vF)).toArray below meth c s₁ → c.maxLocals = am_ml j → va_P D vwCl (am_ws ad cA M) s.heap → va_K D vwCl (am_tys cA) s → am_St ad vF C s s.heap → am_Re p l e (am_rm (d + 1)) s m (args.map (am_enc ad vF)).toArray below meth c 0 0 Q D ad cA C (am_rt j) (am_b j) (r, M') →
        W p l e (am_rm (d + 1)) s m (args.map (am_enc ad vF)).toArray below meth c s.heap [] 0 0 Q (entryFrame m (args.map (am_enc ad vF)).toArray (am_ml j)) := by
      intro p e s m below meth c s₁ Q B hml hP hK hSt hre
      have hts := atoms_spec (ws := am_wj j) B.pre
      have hown : s.vm.findClass (am_y j).cls = some m.cls := findClass_of_methodNamed B.named
      have X : am_Cx p (am_rm (d + 1)) s m (args.map (am_enc ad vF)).toArray c 0 0 D ad cA vF C (am_ow j) (am_ml j) (am_b j) :=
        ⟨B.exec, B.bytes, hml, by rw [mf6]; exact hown, fun w hw => hts w (List.mem_cons_of_mem _ hw), hK, hSt, hinj, hF, by show 1 ≤ d + 1; omega, by show _ ≤ 40 * (d + 1); omega, by show 21 ≤ 40 * (d + 1); omega, Nat.le_refl _, Nat.le_refl _⟩
      have k := am_exec X (hD j hj) ih (by show d + 1 ≤ d + 1; omega) (by show 40 * d + 40 ≤ 40 * (d + 1); omega) hre n 0 _ _ M hn (am_ini_len hargs) (fun _ q => absurd q List.not_mem_nil) hM s.heap [] _ (am_entry hF hargs hv) hP va_S.rf
      rw [am_pp0 j hj] at k
      rw [lg_entry_eq]
      exact k
    refine ⟨⟨fun h9 => ?_, fun h9 => ?_⟩, hok.2, hok.1, hrcv⟩
    · refine Met.ofW (cc := am_b j) (maxL := am_ml j) (ret := am_rty (am_rt j)) mf1 rfl ?_
      intro p e s m args' below meth c s₁ B hml hvv
      obtain ⟨rfl, hP, hK, hSt⟩ := hvv
      have hb := B.bytes
      have hr := B.returns
      rw [h9] at hr
      have hlocks := B.notSynchronized
      refine core p e s m below meth c s₁ _ B hml hP hK hSt (fun bp H locs L hP1 hS1 _ => ⟨fun h3 => absurd h3 (by omega), fun _ hdg => ?_⟩)
      exact W.vret B.exec hb hr (fun t ht _ => ⟨⟨(), rfl, trivial, by show va_P D vwCl _ t.heap; rw [ht]; exact hP1⟩, hS1.F ht⟩) hS1.2.2 hdg
    · refine Met.ofW (cc := am_b j) (maxL := am_ml j) (ret := am_rty (am_rt j)) mf1 rfl ?_
      intro p e s m args' below meth c s₁ B hml hvv
      obtain ⟨rfl, hP, hK, hSt⟩ := hvv
      have hb := B.bytes
      have hr := B.returns
      have hlocks := B.notSynchronized
      refine core p e s m below meth c s₁ _ B hml hP hK hSt (fun bp H locs L hP1 hS1 _ => ⟨fun h3 hdg hnr => ?_, fun q => absurd q h9⟩)
      have fin : ∀ ty, am_rty (am_rt j) = some ty → narrow ty (.int (Int32.ofInt r)) = .int (Int32.ofInt r) → W p l e (am_rm (d + 1)) s m (args.map (am_enc ad vF)).toArray below meth c H locs 0 0 (MQ below (am_Qi D ad cA r M') (args.map (am_enc ad vF)).toArray s 0 0 (am_A ad)) (F0 m bp L [.int (Int32.ofInt r)]) := by
        intro ty hty hnar
        rw [hty] at hr
        exact W.zret B.exec hb hr hnar (fun t ht _ => ⟨⟨Int32.ofInt r, (), rfl, rfl, by show va_P D vwCl _ t.heap; rw [ht]; exact hP1⟩, hS1.F ht⟩) hS1.2.2 hdg
      revert hnr
      rcases (show am_rt j = 0 ∨ am_rt j = 1 ∨ am_rt j = 2 ∨ am_rt j = 3 from by omega) with q | q | q | q
      · intro _; exact fin .int (by rw [q]; rfl) rfl
      · rw [q]; intro hnr; exact fin .boolean (by rw [q]; rfl) (am_nar1 hnr)
      · rw [q]; intro hnr; exact fin .char (by rw [q]; rfl) (am_nar2 hnr)
      · rw [q]; intro hnr; exact fin .byte (by rw [q]; rfl) (am_nar3 hnr)
