/-! PURE: what holds between two calls -/
theorem WF_cg {w w' : Int → Int} (h : ∀ k, 0 ≤ k → k < 285 → w' k = w k) (hw : WF w) : WF w' := by
  have n2 := hw.1.2.1
  refine WF_same hw ⟨h 1 (by omega) (by omega), h 2 (by omega) (by omega), h 276 (by omega) (by omega)⟩ ?_ ?_ ?_ ?_ ?_
  · intro q h0 h1
    unfold pp
    rw [h _ (by omega) (by omega), h _ (by omega) (by omega)]
    exact hw.2.1 q h0 h1
  · refine WFh_same hw.2.2.1 (h _ (by omega) (by omega)) ?_ ?_
    · intro g h0 h1
      exact h _ (by omega) (by omega)
    · intro g h0 h1
      unfold ph
      rw [h _ (by omega) (by omega)]
      exact hw.2.2.1.2.1 g h0 h1
  · intro i f h0 h1 h2 h3
    exact h _ (by omega) (by omega)
  · intro q h0 h1
    exact ⟨fun f k1 k2 => h _ (by omega) (by omega), h _ (by omega) (by omega)⟩
  · intro g h0 h1 f k1 k2
    exact h _ (by omega) (by omega)
/-- the world kept at j of a ring that ends ahead of nx, m long -/
def pKw (nx m j : Int) : Nat := 108 + 13 * ((nx - m + j) % 6).toNat
theorem pKw_W (nx m j : Int) : IsW (pKw nx m j) := by
  unfold pKw IsW
  omega
/-- the last m of c kept worlds -/
def pRing (M : am_M) (nx m c : Int) (B w : Int → Int) : Prop := ∀ j, 0 ≤ j → j < m → WR M (pKw nx m j) (pUn B w (c - m + j)) ∧ WF (pUn B w (c - m + j)) ∧ (0 ≤ B (276 * (c - m + j)) ∧ B (276 * (c - m + j)) ≤ 9999)
def pBook (M : am_M) (a : Nat) (w : Int → Int) : Prop := ∀ j, 0 ≤ j → j < 400 → M a j = w (404 + j)
def pTape (M : am_M) : Prop := M 0 12 = M 186 16 ∧ (0 ≤ M 186 16 ∧ M 186 16 ≤ 400) ∧ ∀ j, 0 ≤ j → j < M 186 16 → M 91 j = M 194 j ∧ 0 ≤ M 194 j ∧ M 194 j ≤ 255
def pImg (M : am_M) : Prop := M 0 10 = M 186 5 ∧ (M 186 5 = 0 ∨ M 186 5 = 1) ∧ (M 186 5 = 1 → WR M 53 (M 188) ∧ WF (M 188) ∧ (0 ≤ M 188 0 ∧ M 188 0 ≤ 9999) ∧ TxW (M 188) ∧ TxR M 66 (M 188) ∧ pBook M 90 (M 188))
def pNow (M : am_M) : Prop := WR M 1 (M 187) ∧ WF (M 187) ∧ (0 ≤ M 187 0 ∧ M 187 0 ≤ 9999) ∧ TxW (M 187) ∧ TxR M 28 (M 187) ∧ pBook M 52 (M 187)
def pKpt (M : am_M) : Prop := M 0 3 = M 186 4 ∧ (0 ≤ M 186 4 ∧ M 186 4 ≤ 6) ∧ (0 ≤ M 0 4 ∧ M 0 4 < 6) ∧ pRing M (M 0 4) (M 186 4) (M 186 4) (M 189) (M 187)
def pFlt (M : am_M) : Prop := M 92 5 = M 186 23 ∧ M 92 6 = M 186 25
def pEnd (M : am_M) : Prop := ∀ k, 3456 ≤ k → M 187 k = 0 ∧ M 188 k = 0
def Inv (C M : am_M) : Prop := pNow M ∧ pKpt M ∧ pImg M ∧ pTape M ∧ pFlt M ∧ pEnd M ∧ ∀ b, 199 ≤ b → M b = C b
/-- what the class's questions may touch -/
def CQ (M M' : am_M) : Prop := ∀ b, (b < 14 ∨ 26 < b) → b ≠ 105 → b ≠ 106 → b ≠ 107 → M' b = M b
theorem CQ_refl (M : am_M) : CQ M M := fun _ _ _ _ _ => rfl
theorem CQ_trans {A B C : am_M} (h1 : CQ A B) (h2 : CQ B C) : CQ A C := fun b hb h5 h6 h7 => (h2 b hb h5 h6 h7).trans (h1 b hb h5 h6 h7)
theorem CA_CQ {A B : am_M} (h : CA 14 A B) : CQ A B := fun b hb h5 h6 _ => h b hb h5 h6
theorem cT_CQ (M : am_M) (F stk : Int → Int) : CQ M (cT M F stk) := fun b _ h5 h6 _ => cT_o ⟨h5, h6⟩
/-- what the model's questions may touch -/
def pMQ (M M' : am_M) : Prop := (∀ b, b ≠ 186 → b ≠ 190 → (b < 195 ∨ 198 < b) → M' b = M b) ∧ ∀ f, f < 27 → M' 186 f = M 186 f
theorem pMQ_refl (M : am_M) : pMQ M M := ⟨fun _ _ _ _ => rfl, fun _ _ => rfl⟩
theorem pMQ_trans {A B C : am_M} (h1 : pMQ A B) (h2 : pMQ B C) : pMQ A C := ⟨fun b h5 h6 h7 => (h2.1 b h5 h6 h7).trans (h1.1 b h5 h6 h7), fun f hf => (h2.2 f hf).trans (h1.2 f hf)⟩
theorem pRing_fr {M M' : am_M} {nx m c : Int} {B w : Int → Int} (h : pRing M nx m c B w) (hf : ∀ b, 108 ≤ b → b < 186 → M' b = M b) : pRing M' nx m c B w := by
  intro j h0 h1
  obtain ⟨a, b, e⟩ := h j h0 h1
  have : 108 ≤ pKw nx m j ∧ pKw nx m j + 12 < 186 := by unfold pKw; omega
  exact ⟨WR_fr a (fun b _ _ => hf b (by omega) (by omega)), b, e⟩
theorem Inv_fr {C M M' : am_M} (h : Inv C M) (hf : ∀ b, (b < 14 ∨ 26 < b) → b ≠ 105 → b ≠ 106 → b ≠ 107 → b ≠ 186 → b ≠ 190 → (b < 195 ∨ 198 < b) → M' b = M b) (hf2 : ∀ f, f < 27 → M' 186 f = M 186 f) : Inv C M' := by
  obtain ⟨⟨a1, a2, a3, a4, a5, a6⟩, ⟨b1, b2, b3, b4⟩, ⟨c1, c2, c3⟩, ⟨d1, d2, d3⟩, ⟨e1, e2⟩, f1, g1⟩ := h
  have g : ∀ b : Nat, (b < 14 ∨ 26 < b) → (b < 105 ∨ 107 < b) → b ≠ 186 → b ≠ 190 → (b < 195 ∨ 198 < b) → M' b = M b := fun b h1 h2 h3 h4 h5 => hf b h1 (by omega) (by omega) (by omega) h3 h4 h5
  have w7 : M' 187 = M 187 := g _ (by omega) (by omega) (by omega) (by omega) (by omega)
  have w8 : M' 188 = M 188 := g _ (by omega) (by omega) (by omega) (by omega) (by omega)
  have w9 : M' 189 = M 189 := g _ (by omega) (by omega) (by omega) (by omega) (by omega)
  have w4 : M' 194 = M 194 := g _ (by omega) (by omega) (by omega) (by omega) (by omega)
  have w0 : M' 0 = M 0 := g _ (by omega) (by omega) (by omega) (by omega) (by omega)
  refine ⟨⟨?_, ?_, ?_, ?_, ?_, ?_⟩, ⟨?_, ?_, ?_, ?_⟩, ⟨?_, ?_, ?_⟩, ⟨?_, ?_, ?_⟩, ⟨?_, ?_⟩, ?_, ?_⟩
  · rw [w7]; exact WR_fr a1 (fun b _ _ => g b (by omega) (by omega) (by omega) (by omega) (by omega))
  · rw [w7]; exact a2
  · rw [w7]; exact a3
  · rw [w7]; exact a4
  · rw [w7]; exact TxR_fr a5 (fun b _ _ => g b (by omega) (by omega) (by omega) (by omega) (by omega))
  · intro j h0 h1
    rw [w7, g 52 (by omega) (by omega) (by omega) (by omega) (by omega)]
    exact a6 j h0 h1
  · rw [w0, hf2 _ (by omega)]; exact b1
  · rw [hf2 _ (by omega)]; exact b2
  · rw [w0]; exact b3
  · rw [w0, hf2 _ (by omega), w9, w7]
    exact pRing_fr b4 (fun b _ _ => g b (by omega) (by omega) (by omega) (by omega) (by omega))
  · rw [w0, hf2 _ (by omega)]; exact c1
  · rw [hf2 _ (by omega)]; exact c2
  · rw [hf2 _ (by omega), w8]
    intro q
    obtain ⟨k1, k2, k3, k4, k5, k6⟩ := c3 q
    refine ⟨WR_fr k1 (fun b _ _ => g b (by omega) (by omega) (by omega) (by omega) (by omega)), k2, k3, k4, TxR_fr k5 (fun b _ _ => g b (by omega) (by omega) (by omega) (by omega) (by omega)), fun j h0 h1 => ?_⟩
    rw [g 90 (by omega) (by omega) (by omega) (by omega) (by omega)]
    exact k6 j h0 h1
  · rw [w0, hf2 _ (by omega)]; exact d1
  · rw [hf2 _ (by omega)]; exact d2
  · rw [hf2 _ (by omega), w4, g 91 (by omega) (by omega) (by omega) (by omega) (by omega)]; exact d3
  · rw [g 92 (by omega) (by omega) (by omega) (by omega) (by omega), hf2 _ (by omega)]; exact e1
  · rw [g 92 (by omega) (by omega) (by omega) (by omega) (by omega), hf2 _ (by omega)]; exact e2
  · intro k hk
    rw [w7, w8]; exact f1 k hk
  · intro b hb
    rw [g b (by omega) (by omega) (by omega) (by omega) (by omega)]
    exact g1 b hb
theorem Inv_CQ {C M M' : am_M} (h : Inv C M) (hq : CQ M M') : Inv C M' := Inv_fr h (fun b h1 h5 h6 h7 _ _ _ => hq b h1 h5 h6 h7) (fun f _ => by rw [hq 186 (by omega) (by omega) (by omega) (by omega)])
theorem Inv_pMQ {C M M' : am_M} (h : Inv C M) (hq : pMQ M M') : Inv C M' := Inv_fr h (fun b _ _ _ _ h1 h2 h3 => hq.1 b h1 h2 h3) hq.2
/-- a call of both: the same answer, and all holds on -/
def Pair (C M : am_M) (j : Nat) (jm : Nat) (args : List am_V) : Prop := pOk (am_run 1000 j (.inr 0 :: args) M) (fun r M1 => pOk (am_run 1000 jm (.inr 186 :: args) M1) (fun r' M2 => r' = r ∧ Inv C M2))
/-- a question: both answer v, whatever is asked of the cells -/
theorem Pair_q {C M : am_M} {j jm : Nat} {args : List am_V} {v : Int} (hI : Inv C M) (hc : pOk (am_run 1000 j (.inr 0 :: args) M) (fun r M1 => r = v ∧ CQ M M1)) (hm : ∀ M1, Inv C M1 → M1 187 = M 187 → pOk (am_run 1000 jm (.inr 186 :: args) M1) (fun r M2 => r = v ∧ pMQ M1 M2)) : Pair C M j jm args := by
  refine pOk_m hc (fun r M1 ⟨h1, h2⟩ => ?_)
  refine pOk_m (hm M1 (Inv_CQ hI h2) (h2 187 (by omega) (by omega) (by omega) (by omega))) (fun r' M2 ⟨h3, h4⟩ => ?_)
  exact ⟨h3.trans h1.symm, Inv_pMQ (Inv_CQ hI h2) h4⟩
