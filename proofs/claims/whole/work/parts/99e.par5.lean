/-! PURE: text: products and sums -/
def sPk (d : Nat) (x1 x2 : Int) (A' : am_M) (l' : List sTok) (r : am_R) : Prop := (∀ q l2, l' = q :: l2 → q.1 ≠ 42 ∧ q.1 ≠ 47) ∧ ∃ x3 o4, 0 ≤ x3 ∧ x3 ≤ 400 ∧ r = am_L d 175 15 [some (.inr 92), some (.inl x1), some (.inl x2), some (.inl x3), o4] [] A'
theorem s_prod {k o : Int} (hk : 0 ≤ k ∧ k < 3) (d d' : Nat) (x1 x2 : Int) : ∀ (N : Nat) (c : Int) (l : List sTok) (x3 : Int) (o4 o1 o2 : Option am_V) (A B : am_M) (st : List (Int × Int)), l.length ≤ N → 0 ≤ x3 → x3 + l.length ≤ 401 → 0 ≤ c → sR k o c A B (pFl st) st l → sOP k o c (l.length + 1) A B st (sTl k false 21) (sPk (d + 2) x1 x2) (am_L (d + 2) 175 15 [some (.inr 92), some (.inl x1), some (.inl x2), some (.inl x3), o4] [] A) (am_L (d' + 10) 38 5 [some (.inr 186), o1, o2] [] B) := by
  intro N
  induction N with
  | zero =>
    intro c l x3 o4 o1 o2 A B st hN h30 h3 hc h
    obtain ⟨q, l', rfl⟩ := sR_hd h
    rw [List.length_cons] at hN
    omega
  | succ N ih =>
    intro c l x3 o4 o1 o2 A B st hN h30 h3 hc h
    obtain ⟨q, l', rfl⟩ := sR_hd h
    rw [List.length_cons] at hN h3
    obtain ⟨w1, s18, s19, s20, see⟩ := sR_see hk h
    obtain ⟨⟨k0, k2⟩, k3, k4, k5, k6, k7, k8⟩ := s_kind hk w1
    have k42 := k4 42 (by decide) (by decide)
    have k47 := k4 47 (by decide) (by decide)
    have k42 : sMk k q.1 = 142 ↔ q.1 = 42 := k42
    have k47 : sMk k q.1 = 147 ↔ q.1 = 47 := k47
    by_cases q42 : q.1 = 42
    · have m := k42.mpr q42
      rw [e175_15, if_neg (by omega), see, p_b, if_pos (show (q.1 : Int) = 42 from q42), e175_26, see, p_b, if_neg (show ¬ (q.1 : Int) = 47 by omega), sNx_e h.1, e38_5, s18, if_pos (show sMk k q.1 = 142 from m), if_neg (show ¬ sMk k q.1 = 147 by omega), e38_20]
      obtain ⟨x, B1, g1, g2, g3⟩ := sGo h (by omega) (d' + 1)
      rw [g1, p_b, if_pos (show (0 : Int) = 0 from rfl)]
      rcases sO_in (s_unit hk (by omega) g3 d d') with ⟨A2, B2, e1, e2, f1, f2, y1, y2⟩ | ⟨A2, B2, m1, l2, e1, e2, f1, f2, hl2, h2, ht⟩
      · rw [e1, e2, p_b, p_b, if_pos rfl, if_pos rfl]
        exact sOP_no (sFA_t (sNx_F A) f1) (sFB_t g2 f2) rfl rfl y1 y2
      · obtain ⟨A3, B3, z1, z2, z3, z4, z5⟩ := sOp h2 (c' := c) (by omega) hc (s := 25) (by decide) (d + 1) (d' + 9)
        have z1 : am_run (d + 2) 153 [.inr 96, .inl 20042] A2 = some (0, A3) := z1
        rw [e1, e2, p_b, p_b, if_neg (by decide), if_neg (by decide), q42, p_w (x := 20000 + 42) (by omega) (by omega), show (20000 + 42 : Int) = 20042 from rfl, z1, p_b, z2, p_b, p_w (x := x3 + 1) (by omega) (by omega)]
        rw [List.append_assoc] at z5
        have := ih c l2 (x3 + 1) (some (.inl 42)) (some (.inl 0)) o2 A3 B3 _ (by omega) (by omega) (by omega) hc z5
        refine sOP_up (sFA_t (sNx_F A) (sFA_t f1 z3)) (sFB_t g2 (sFB_t f2 z4)) ?_ (fun m hm => sTl_t (sTl_ar (s := 25) ht (by decide)) hm) (fun _ _ _ z => z) this
        rw [List.length_cons]
        omega
    by_cases q47 : q.1 = 47
    · have m := k47.mpr q47
      rw [e175_15, if_neg (by omega), see, p_b, if_neg (show ¬ (q.1 : Int) = 42 from q42), see, p_b, if_pos (show (q.1 : Int) = 47 from q47), e175_26, see, p_b, if_pos (show (q.1 : Int) = 47 from q47), sNx_e h.1, e38_5, s18, if_neg (show ¬ sMk k q.1 = 142 by omega), if_pos (show sMk k q.1 = 147 from m), if_pos (show sMk k q.1 = 147 from m), e38_20]
      obtain ⟨x, B1, g1, g2, g3⟩ := sGo h (by omega) (d' + 1)
      obtain ⟨q2, l2, rfl⟩ := sR_hd g3
      obtain ⟨v1, v18, v19, v20, vsee⟩ := sR_see hk g3
      obtain ⟨⟨j0, j2⟩, _⟩ := s_kind hk v1
      rw [g1, p_b, if_neg (by decide), v18, e176, vsee, p_b]
      by_cases q200 : q2.1 = 200
      · obtain ⟨u1, u2, u3, u4⟩ := v20 q200
        rw [if_pos (show (q2.1 : Int) = 200 from q200), if_neg (by decide), p_c u3, u2, if_pos (show sMk k q2.1 = 2 from j2.mpr q200), u1]
        by_cases q0 : q2.2.1 = 0
        · rw [if_pos q0, if_pos q0]
          obtain ⟨A', B', e1, e2, f1, f2, y1, y2⟩ := sBad g3.1 g3.2.2.2.1 d (d' + 9) 2
          rw [e1, p_b, p_c (Or.inl rfl), p_b, if_pos rfl, e2, p_b, p_c (Or.inl rfl)]
          exact sOP_no (sFA_t (sNx_F A) f1) (sFB_t g2 f2) rfl rfl y1 y2
        · have hlen := sR_len g3
          have hle := pFl_le st
          have nend : l2.length ≥ 1 := by
            obtain ⟨_, B', _, _, y, l3, y4, _⟩ := s_next g3.2.2.2.1 (by omega) 0
            rw [y4, List.length_cons]
            omega
          rw [if_neg q0, if_neg q0, p_c u3, sPut_x g3 (by omega) d, p_b]
          have r1 := sPut_R g3 (c' := c) (by omega) q2.2.1
          rw [sNx_e r1.1]
          obtain ⟨x5, B2, y1, y2, y3⟩ := sGo r1 (by omega) (d' + 1)
          have r2 := sLy_R (sPut_R y3 (c' := c) (by omega) 20047) 26 q2.2.1
          have hlen2 : ((pFl st ++ [q2.2.1]).length : Int) < 400 := by
            rw [List.length_append]
            show (((pFl st).length + 1 : Nat) : Int) < 400
            omega
          have ez : (20000 + q.1) = 20047 := by omega
          rw [p_b, if_neg (by decide), ez, p_w (x := 20047) (by omega) (by omega), sPut_x y3 (by omega) (d + 1), p_b, y1, p_b, sLy_x y3 (by omega) (d' + 9), p_b, p_w (x := x3 + 1) (by omega) (by omega)]
          rw [List.append_assoc] at r2
          have e : pFl st ++ ([q2.2.1] ++ [20047]) = pFl (st ++ [(26, q2.2.1)]) := by
            rw [pFl_app]
            rfl
          rw [e] at r2
          rw [List.length_cons] at hN h3
          have := ih c l2 (x3 + 1) (some (.inl q.1)) (some (.inl 1)) (some (.inl q2.2.1)) _ _ _ (by omega) (by omega) (by omega) hc r2
          refine sOP_up (sFA_t (sNx_F A) (sFA_t (sPut_F _ _) (sFA_t (sNx_F _) (sPut_F _ _)))) (sFB_t g2 (sFB_t y2 (sLy_F _ _ _))) ?_ (fun m hm => sTl_t (sTl_26 (by omega) (by decide)) hm) (fun _ _ _ z => z) this
          rw [List.length_cons, List.length_cons]
          omega
      · rw [if_neg (show ¬ (q2.1 : Int) = 200 from q200), if_neg (by decide), if_neg (show ¬ sMk k q2.1 = 2 from fun z => q200 (j2.mp z))]
        obtain ⟨A', B', e1, e2, f1, f2, y1, y2⟩ := sBad g3.1 g3.2.2.2.1 d (d' + 9) 1
        rw [e1, p_b, p_c (Or.inl rfl), p_b, if_pos rfl, e2, p_b, p_c (Or.inl rfl)]
        exact sOP_no (sFA_t (sNx_F A) f1) (sFB_t g2 f2) rfl rfl y1 y2
    · rw [e38_5, s18, if_neg (show ¬ sMk k q.1 = 142 by omega), if_neg (show ¬ sMk k q.1 = 147 by omega)]
      refine ⟨A, B, sFA_r A, sFB_r B, Or.inr ⟨[], q :: l', by omega, ?_, sTl_0 _ _ _, rfl, ?_, x3, o4, h30, ?_, rfl⟩⟩
      · rw [List.append_nil]
        exact h
      · intro q' l2 e
        injection e with e1 e2
        rw [← e1]
        exact ⟨q42, q47⟩
      · omega
theorem s_term {k o c : Int} (hk : 0 ≤ k ∧ k < 3) (d d' : Nat) {x1 x2 : Int} {o3 o4 : Option am_V} {A B : am_M} {st : List (Int × Int)} {l : List sTok} (hx : x2 ≤ 400) (hc : 0 ≤ c) (h : sR k o c A B (pFl st) st l) : sOP k o c l.length A B st (sTy k false 21) (sPk (d + 2) x1 x2) (am_L (d + 2) 175 4 [some (.inr 92), some (.inl x1), some (.inl x2), o3, o4] [] A) (am_run (d' + 11) 38 [.inr 186] B) := by
  rw [e175_4, if_neg (by omega), e38]
  rcases sO_in (s_unit hk hc h d d') with ⟨A2, B2, e1, e2, f1, f2, y1, y2⟩ | ⟨A2, B2, m1, l2, e1, e2, f1, f2, hl2, h2, ht⟩
  · rw [e1, e2, p_b, p_b, if_pos rfl, if_pos rfl]
    exact sOP_no f1 f2 rfl rfl y1 y2
  · rw [e1, e2, p_b, p_b, if_neg (by decide), if_neg (by decide)]
    have hl : l2.length ≤ 400 := by
      obtain ⟨⟨t, a1, a2, a3, a4, a5, a6⟩, _⟩ := h
      omega
    have := s_prod hk d d' x1 x2 _ c l2 0 o4 none none A2 B2 _ (Nat.le_refl _) (by omega) (by omega) hc h2
    exact sOP_up f1 f2 (by omega) (fun m hm => sTy_l ht hm (by decide)) (fun _ _ _ z => z) this
