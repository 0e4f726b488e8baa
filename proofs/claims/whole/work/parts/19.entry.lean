/-! The constructors, the entry of a grammar -/
theorem in_X (p0 : Int32) {hi : Nat} (h1 : 1 ≤ hi) (hh : hi < 100) : ∃ N, 1 ≤ N ∧ N ≤ hi ∧ (∀ post : Int32 → Prop, post (nI N) → wpX_clamp post p0 1 (nI hi)) ∧ ∀ P : Int32 → Prop, P (nI N) → ((1 ≤ p0 → (p0 ≤ nI hi → P p0) ∧ (¬ p0 ≤ nI hi → P (nI hi))) ∧ (¬ 1 ≤ p0 → P 1)) := by
  obtain ⟨N, a, b, c⟩ := in_c p0 h1 hh
  exact ⟨N, a, b, fun post H => c post H, c⟩
theorem i_vc0 (k0 k1 : Int32) : wpX_init (fun u => wpY_init (fun v => i_Rel 2 u v) k0 k1) k0 k1 := by
  obtain ⟨N, hN1, hN6, hNX, hN⟩ := in_X k0 (hi := 6) (by decide) (by decide)
  obtain ⟨T, hT1, hT4, hTX, hT⟩ := in_X k1 (hi := 4) (by decide) (by decide)
  sorry
theorem i_vc_rule {k : Nat} {u : SX} {v : SY} (I : i_Rel k u v) (hk : k + 2 ≤ 1026) (v1 : Int32) : wpX_rule (fun r u' => wpY_rule (fun r' v' => r' = r ∧ i_Rel (k + 2) u' v') v v1) u v1 := by
  have I' := i_up I
  obtain ⟨xN, xT, xB, xR, xS, xE, xL, xA, xG, xC, xF, aL, aN, aS, aR, aM, aK, aT, aE⟩ := u
  obtain ⟨yN, yT, yB, yR, yS, yW, yG, yH, yK, yI, bL, bS, bN, bY, bW, bM, bK, bR, gL, gS, gN, gY, kL, kS, kN, kY, bI, bD, bP, bQ, bC, bX⟩ := v
  obtain ⟨N, T, g, ⟨⟨rfl, rfl, hN1, hN6⟩, ⟨rfl, rfl, hT1, hT4⟩, ⟨rfl, rfl⟩, ⟨rfl, rfl⟩, hX, hY, hE⟩, hP⟩ := I
  have h8 := hY.1
  have h12 := hY.2.1
  rcases hP with ⟨⟨rfl, rfl⟩, rfl, ⟨rfl, rfl⟩, hR⟩ | ⟨L, m, kd, tx, ⟨rfl, rfl⟩, ⟨rfl, rfl⟩, hX2, hY2, hA, ⟨rfl, rfl, hL⟩, hT', hW, rfl, rfl, rfl, rfl⟩
  · refine br_t rfl ?_
    rcases pk_ix v1 (n := N) (by omega) with h | h | ⟨a, ha, rfl⟩
    · exact br_t h (br_t rfl (br_t h ⟨rfl, I'⟩))
    · have h0 : ¬ v1 < 0 := Int32.not_lt.mpr (Int32.le_trans (nI_pos' (by omega)) h)
      have hn : ¬ v1 < nI N := Int32.not_lt.mpr h
      exact br_f h0 (br_f hn (br_t rfl (br_f h0 (br_f hn ⟨rfl, I'⟩))))
    · have h0 : ¬ nI a < 0 := nI_pos (by omega)
      have hn : nI a < nI N := nI_lt ha (by omega)
      refine br_f h0 (br_t hn (pk_lt g.1 8 (fun z => ?_) (fun z => ?_) rfl rfl (by omega) (by decide)))
      · sorry
      · sorry
  · exact br_f (by decide) (br_f (by decide) ⟨rfl, I'⟩)
