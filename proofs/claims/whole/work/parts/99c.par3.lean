/-! PURE: text: a unit -/
theorem s_unit {k o c : Int} (hk : 0 ≤ k ∧ k < 3) (hc : 0 ≤ c) {A B : am_M} {st : List (Int × Int)} {l : List sTok} (h : sR k o c A B (pFl st) st l) (d d' : Nat) : sO k o c l.length A B st (sTy k false 22) (am_run (d + 2) 176 [.inr 92, .inl 0] A) (am_run (d' + 10) 39 [.inr 186] B) := by
  obtain ⟨q, l', rfl⟩ := sR_hd h
  have hh := h
  obtain ⟨h1, h2, ⟨h3, h3'⟩, h4, h5, h6, h7⟩ := hh
  obtain ⟨q', l2, e, ⟨t1, t2, t3⟩, t4⟩ := h4
  injection e with e1 e2
  subst e1 e2
  obtain ⟨w1, w2⟩ := h5 q List.mem_cons_self
  obtain ⟨⟨k0, k2⟩, k3, k4, k5, k6, k7, k8⟩ := s_kind hk w1
  rw [h3] at t1
  have hlen := sR_len h
  have hst := pFl_le st
  obtain ⟨t, a1, a2, a3, a4, a5, a6⟩ := h1
  rw [List.length_cons] at a2 a4
  rw [e176, c168 d (q := q) (l := l') (n := (pFl st).length + c) ⟨t, a1, by rw [List.length_cons]; exact a2, a3, by rw [List.length_cons]; exact a4, a5, a6⟩, p_b, e39, m0, p_b, t1]
  simp only [p_i0]
  have go : ∀ (v s u : Int), q.1 ≠ 202 → pFl1 (s, u) = [v] → sTy k false 22 [(s, u)] → sO k o c (q :: l').length A B st (sTy k false 22) (am_bnd (am_run (d + 1) 153 [.inr 96, .inl v] A) (fun _ M6 => some (1, (am_upd M6 92 4 (am_wrap ((M6 92 4) + 1)))))) (am_bnd (am_run (d' + 9) 35 [.inr 186, .inl s, .inl u] B) (fun _ M2 => am_bnd (am_run (d' + 9) 32 [.inr 186] M2) (fun _ M3 => some (1, M3)))) := by
    intro v s u n2 hv ht
    have hl' : 1 ≤ l'.length := by
      obtain ⟨x, B', g1, g2, g3⟩ := s_next (q := q) (l := l') ⟨q, l', rfl, ⟨by rw [h3]; exact t1, t2, t3⟩, t4⟩ n2 0
      obtain ⟨y, l3, g4, _⟩ := g3
      rw [g4, List.length_cons]
      omega
    rw [sPut_x h (by omega), p_b, sLy_x h (by omega), p_b]
    have r1 := sLy_R (sPut_R h (c' := c - 1) (by omega) v) s u
    rw [sNx_e r1.1]
    obtain ⟨x, B', g1, g2, g3⟩ := sGo r1 n2 d'
    rw [g1, p_b]
    refine ⟨1, _, B', rfl, rfl, sFA_t (sPut_F A v) (sNx_F _), sFB_t (sLy_F B s u) g2, Or.inl ⟨rfl, [(s, u)], l', ?_, ?_, ht⟩⟩
    · rw [List.length_cons]; omega
    · rw [pFl_app, pFl, pFl, List.append_nil, hv]
      have := sR_c g3 (c' := c) (by omega)
      exact this
  by_cases q2 : q.1 = 200
  · have m2 := k2.mpr q2
    rw [if_pos (show (q.1 : Int) = 200 from q2), if_pos trivial, if_pos (show sMk k q.1 = 2 from m2), if_neg (show ¬ (41 ≤ sMk k q.1 ∧ sMk k q.1 ≤ 54) by omega), p_c (by omega), a1, a5.2.1 q2, t3 q2]
    refine go q.2.1 0 q.2.1 (by omega) ?_ (sTy_num (w2 q2))
    rfl
  · rw [if_neg (show ¬ (q.1 : Int) = 200 from q2), if_pos trivial, if_neg (show ¬ sMk k q.1 = 2 from fun z => q2 (k2.mp z))]
    by_cases q3 : q.1 < 14 ∧ am_iand (am_ishr (sAsk k) q.1) 1 = 1
    · obtain ⟨y1, y2⟩ := k6 q3
      have y3 := k5.mpr q3
      rw [if_pos (show (q.1 : Int) < 14 from q3.1), h2, if_pos (show (am_iand (am_ishr (sAsk k) q.1) 1 : Int) = 1 from q3.2), if_pos y3, if_pos y3, y1, show 41 + q.1 - 40 = q.1 + 1 from by omega, p_w (x := 10000 + q.1) (by omega) (by omega), p_w (x := q.1 + 1) (by omega) (by omega)]
      refine go (10000 + q.1) (q.1 + 1) (B 186 20) (by omega) ?_ (sTy_ask (by omega) y2)
      show (if q.1 + 1 = 0 then [B 186 20] else if q.1 + 1 < 23 then [10000 + (q.1 + 1 - 1)] else if q.1 + 1 = 26 then [B 186 20, 20047] else [20000 + pOpc (q.1 + 1)]) = _
      rw [if_neg (by omega), if_pos (by omega), show q.1 + 1 - 1 = q.1 from by omega]
    · have n5 : ¬ (41 ≤ sMk k q.1 ∧ sMk k q.1 ≤ 54) := fun z => q3 (k5.mp z)
      rw [if_neg n5]
      have bad := sO_bad (c' := c) (n := (q :: l').length) (st' := st) (ty := sTy k false 22) h d (d' + 8) 1
      by_cases q4 : q.1 < 14
      · rw [if_pos (show (q.1 : Int) < 14 from q4), h2, if_neg (show ¬ (am_iand (am_ishr (sAsk k) q.1) 1 : Int) = 1 from fun z => q3 ⟨q4, z⟩)]
        exact bad
      · rw [if_neg (show ¬ (q.1 : Int) < 14 from q4)]
        exact bad
