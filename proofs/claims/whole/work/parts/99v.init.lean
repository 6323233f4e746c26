/-! PURE: what holds at the start -/
theorem Inv_0 {C M : am_M} (hz : ∀ b i, b < 199 → b ≠ 92 → b ≠ 186 → M b i = 0) (h92 : ∀ i, i ≠ 6 → M 92 i = 0) (h926 : M 92 6 = -1) (h186 : ∀ i, i ≠ 25 → M 186 i = 0) (h1865 : M 186 25 = -1) (hc : ∀ b, 199 ≤ b → M b = C b) : Inv C M := by
  have w7 : ∀ i, M 187 i = 0 := fun i => hz 187 i (by decide) (by decide) (by decide)
  have w8 : ∀ i, M 188 i = 0 := fun i => hz 188 i (by decide) (by decide) (by decide)
  have wp : ∀ p f, pp (M 187) p f = 0 := fun p f => w7 _
  have wh : ∀ p f, ph (M 187) p f = 0 := fun p f => w7 _
  have z0 : ∀ i, M 0 i = 0 := fun i => hz 0 i (by decide) (by decide) (by decide)
  have lawT : ∀ k, LawT (M 187) k := by
    intro k
    refine ⟨by rw [w7]; omega, fun i i0 i1 => ?_⟩
    rw [w7] at i1
    omega
  have lawR : ∀ a k, a < 92 → LawR M a (M 187) k := by
    intro a k ha
    refine ⟨by rw [w7, hz a 0 (by omega) (by omega) (by omega)], fun i i0 i1 => ?_⟩
    rw [w7] at i1
    omega
  refine ⟨⟨⟨⟨?_, ?_, ?_, ?_, ?_⟩, ?_, ?_, ?_, ?_, ?_⟩, ⟨?_, ?_, ?_, ?_, ?_⟩, ?_, ⟨⟨lawT 0, lawT 1, lawT 2⟩, ?_, ?_, ?_⟩, ⟨⟨lawR 34 0 (by decide), lawR 40 1 (by decide), lawR 46 2 (by decide)⟩, ⟨?_, ?_⟩, ?_, ?_⟩, ?_⟩, ⟨?_, ?_, ?_, ?_⟩, ⟨?_, ?_, ?_⟩, ⟨?_, ?_, ?_⟩, ⟨?_, ?_⟩, ?_, hc⟩
  · rw [w7, hz 1 0 (by decide) (by decide) (by decide)]
  · rw [w7, hz 1 1 (by decide) (by decide) (by decide)]
  · rw [w7, hz 1 2 (by decide) (by decide) (by decide)]
  · rw [w7, hz 1 3 (by decide) (by decide) (by decide)]
  · rw [w7, hz 1 4 (by decide) (by decide) (by decide)]
  · intro p p0 p1
    rw [wp, wp, wp, w7, hz 2 p (by decide) (by decide) (by decide), hz 3 p (by decide) (by decide) (by decide), hz 4 p (by decide) (by decide) (by decide), hz 5 p (by decide) (by decide) (by decide)]
    exact ⟨rfl, rfl, rfl, rfl⟩
  · intro p s p0 p1
    rw [w7] at p1
    omega
  · intro h h0 h1
    rw [wh, wh, wh, wh, wh, hz 7 h (by decide) (by decide) (by decide), hz 9 h (by decide) (by decide) (by decide), hz 10 h (by decide) (by decide) (by decide), hz 11 h (by decide) (by decide) (by decide), hz 12 h (by decide) (by decide) (by decide)]
    exact ⟨rfl, rfl, rfl, rfl, rfl⟩
  · intro h k h0 h1 k0 k1
    rw [wh, hz 8 _ (by decide) (by decide) (by decide)]
  · intro k k0 k1
    rw [w7, hz 13 _ (by decide) (by decide) (by decide)]
  · unfold WFn
    rw [w7, w7, w7]
    omega
  · intro p p0 p1
    rw [wp, wp]
    omega
  · refine ⟨fun h h0 h1 => ?_, fun h h0 h1 => ?_, fun h g h0 h1 => ?_⟩
    · rw [w7] at h1
      omega
    · rw [wh]
      omega
    · rw [w7] at h1
      omega
  · intro i i0 i1
    rw [w7] at i1
    omega
  · exact ⟨fun p p0 p1 => ⟨fun f f0 f1 => wp p f, w7 _⟩, fun h h0 h1 f f0 f1 => wh h f⟩
  · rw [w7]
    omega
  · rw [w7]
    omega
  · rw [w7]
    omega
  · intro i i0 i1
    rw [w7] at i1
    omega
  · rw [w7, hz 30 0 (by decide) (by decide) (by decide)]
  · intro i j i0 i1
    rw [w7] at i1
    omega
  · rw [w7, hz 32 0 (by decide) (by decide) (by decide)]
  · intro i j i0 i1
    rw [w7] at i1
    omega
  · intro j j0 j1
    rw [w7, hz 52 j (by decide) (by decide) (by decide)]
  · rw [z0, h186 4 (by decide)]
  · rw [h186 4 (by decide)]
    omega
  · rw [z0]
    omega
  · rw [h186 4 (by decide)]
    intro j j0 j1
    omega
  · rw [z0, h186 5 (by decide)]
  · exact Or.inl (h186 5 (by decide))
  · intro h
    rw [h186 5 (by decide)] at h
    exact absurd h (by decide)
  · rw [z0, h186 16 (by decide)]
  · rw [h186 16 (by decide)]
    omega
  · rw [h186 16 (by decide)]
    intro j j0 j1
    omega
  · rw [h92 5 (by decide), h186 23 (by decide)]
  · rw [h926, h1865]
  · intro k hk
    exact ⟨w7 k, w8 k⟩
