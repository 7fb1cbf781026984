/-! both readers from the start to the end (a draft: not yet compiled; sim_all of pure14, as in tells_alike of pure17) -/
theorem sim_run {T D Q K R S X : RwF} {n : Int} (hn : 0 ≤ n) (hX : ∀ j : Nat, j < 660 → j ≠ 4 → xI X j = 0) : CMP n (cRun T n D Q K R S) (mRun T n X) := by
  have hq := rsk_le (T := T) (n := n) (p := 0) hn
  have hs : Sim n (rsk T n 0, 0, 0, 0, 0, 0, D, Q, K, R, S) (rsk T n 0, 0, X) := by
    have z0 : xI X 0 = 0 := hX 0 (by omega) (by omega)
    have z1 : xI X 1 = 0 := hX 1 (by omega) (by omega)
    have z2 : xI X 2 = 0 := hX 2 (by omega) (by omega)
    unfold Sim
    simp only [z0, z1, z2]
    refine ⟨trivial, hq.2, trivial, trivial, trivial, trivial, trivial, by omega, by omega, by omega, ?_, ?_, ?_, ?_, ?_, ?_⟩
    · intro r hr; exact absurd hr (by simp)
    · intro r q hr; exact absurd hr (by simp)
    · intro r hr; exact absurd hr (by simp)
    · intro r h1 _; exact hX _ (by omega) (by omega)
    · intro r hr; exact absurd hr (by simp)
    · intro r hr; exact absurd hr (by simp)
  unfold cRun mRun
  by_cases hlt : rsk T n 0 < n
  · rw [if_pos hlt, if_pos hlt]
    exact sim_all 401 hs hq.1
  · rw [if_neg hlt, if_neg hlt]
    exact Or.inl ⟨rfl, hs⟩
