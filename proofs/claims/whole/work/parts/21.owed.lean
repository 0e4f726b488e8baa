/-! The owed statements -/
theorem i_vc_build {k : Nat} {u : SX} {v : SY} (I : i_Rel k u v) (hk : k + 2 ≤ 1026) : wpX_build (fun r u' => wpY_build (fun r' v' => r' = r ∧ i_Rel (k + 2) u' v') v) u := by
  have I' := i_up I
  obtain ⟨xN, xT, xB, xR, xS, xE, xL, xA, xG, xC, xF, aL, aN, aS, aR, aM, aK, aT, aE⟩ := u
  obtain ⟨yN, yT, yB, yR, yS, yW, yG, yH, yK, yI, bL, bS, bN, bY, bW, bM, bK, bR, gL, gS, gN, gY, kL, kS, kN, kY, bI, bD, bP, bQ, bC, bX⟩ := v
  obtain ⟨N, T, g, ⟨⟨rfl, rfl, hN1, hN6⟩, ⟨rfl, rfl, hT1, hT4⟩, ⟨rfl, rfl⟩, ⟨rfl, rfl⟩, hX, hY, hE⟩, hP⟩ := I
  have h8 := hY.1
  have h12 := hY.2.1
  rcases hP with ⟨⟨rfl, rfl⟩, rfl, ⟨rfl, rfl⟩, hR⟩ | ⟨L, m, kd, tx, ⟨rfl, rfl⟩, ⟨rfl, rfl⟩, hX2, hY2, hA, ⟨rfl, rfl, hL⟩, hT', hW, rfl, rfl, rfl, rfl⟩
  · unfold wpX_build
    have hlt : ∀ a, a < N → mt_N (ws_W (ed_E g g.1) N) a < 6 := fun a ha => by have := mt_lt (R := ws_W (ed_E g g.1) N) (a := a); omega
    refine br_t rfl (xr_F hN6 h8 hX hE hR fun q hq => xm_S hN6 hq fun q2 hq2 => xk_F (m := mt_N (ws_W (ed_E g g.1) N)) hN6 h8 hX hE (fun a ha => ⟨hq2 a ha, hlt a ha⟩) fun q3 hq3 => xw_R (m := mt_N (ws_W (ed_E g g.1) N)) (kd := fun a => kn_K g (mt_N (ws_W (ed_E g g.1) N)) (mt_N (ws_W (ed_E g g.1) N) a)) hN6 h8 h12 hE (fun a ha => ⟨hq2 a ha, hlt a ha⟩) (fun a ha => ⟨hq3 a ha, kn_le⟩) hX fun l n t hI => ?_)
    refine xq_A (L := 0) (tx := fun _ => 0) (by decide) hT4 hI.1 hI.2 (fun i hi => absurd hi (Nat.not_lt_zero i)) fun aT' e' hT' => ?_
    refine yt_B hN6 hY hE rfl fun c p q' l' s n' y h1 h2 h3 => ⟨rfl, N, T, g, ⟨⟨rfl, rfl, hN1, hN6⟩, ⟨rfl, rfl, hT1, hT4⟩, ⟨rfl, rfl⟩, ⟨rfl, rfl⟩, hI.1, hY, hE⟩, Or.inr ⟨0, _, _, fun _ => 0, ⟨rfl, rfl⟩, ⟨rfl, rfl⟩, hI.2, h3, fun a ha => ⟨hq2 a ha, h1 a ha, hlt a ha, hq3 a ha, h2 a ha, kn_le⟩, ⟨rfl, rfl, by decide⟩, fun i hi => absurd hi (Nat.not_lt_zero i), fun i hi => absurd hi (Nat.not_lt_zero i), rfl, rfl, rfl, rfl⟩⟩
  · exact br_f (by decide) (br_f (by decide) ⟨rfl, I'⟩)
theorem ow_txt {L t : Nat} {tx : Nat → Nat} {b : Nat → Int32} (h : ∀ i, i < L → b i = nI (tx i) ∧ tx i < 4) (ht : t < 4) : ∀ i, i < L + 1 → upd b L (nI t) i = nI (if i = L then t else tx i) ∧ (if i = L then t else tx i) < 4 := by
  intro i hi
  by_cases z : i = L
  · subst z; rw [pk_us, if_pos rfl]; exact ⟨rfl, ht⟩
  · rw [pk_un z, if_neg z]; exact h i (by omega)
theorem i_vc_feed {k : Nat} {u : SX} {v : SY} (I : i_Rel k u v) (hk : k + 2 ≤ 1026) (v1 : Int32) : wpX_feed (fun r u' => wpY_feed (fun r' v' => r' = r ∧ i_Rel (k + 2) u' v') v v1) u v1 := by
  have I' := i_up I
  obtain ⟨xN, xT, xB, xR, xS, xE, xL, xA, xG, xC, xF, aL, aN, aS, aR, aM, aK, aT, aE⟩ := u
  obtain ⟨yN, yT, yB, yR, yS, yW, yG, yH, yK, yI, bL, bS, bN, bY, bW, bM, bK, bR, gL, gS, gN, gY, kL, kS, kN, kY, bI, bD, bP, bQ, bC, bX⟩ := v
  obtain ⟨N, T, g, ⟨⟨rfl, rfl, hN1, hN6⟩, ⟨rfl, rfl, hT1, hT4⟩, ⟨rfl, rfl⟩, ⟨rfl, rfl⟩, hX, hY, hE⟩, hP⟩ := I
  have h8 := hY.1
  have h12 := hY.2.1
  rcases hP with ⟨⟨rfl, rfl⟩, rfl, ⟨rfl, rfl⟩, hR⟩ | ⟨L, m, kd, tx, ⟨rfl, rfl⟩, ⟨rfl, rfl⟩, hX2, hY2, hA, ⟨rfl, rfl, hL⟩, hT', hW, rfl, rfl, rfl, rfl⟩
  · exact br_t rfl (br_t rfl ⟨rfl, I'⟩)
  · unfold wpX_feed
    refine br_f (by decide) ?_
    rcases pk_ix v1 (n := T) (by omega) with h | h | ⟨t, ht, rfl⟩
    · exact br_t h (br_f (by decide) (br_t h ⟨rfl, I'⟩))
    · have h0 : ¬ v1 < 0 := Int32.not_lt.mpr (Int32.le_trans (nI_pos' (by omega)) h)
      have hn : ¬ v1 < nI T := Int32.not_lt.mpr h
      exact br_f h0 (br_f hn (br_f (by decide) (br_f h0 (br_f hn ⟨rfl, I'⟩))))
    · have h0 : ¬ nI t < 0 := nI_pos (by omega)
      have hn : nI t < nI T := nI_lt ht (by omega)
      refine br_f h0 (br_t hn (pk_lt L 12 (fun z => ⟨vp_in_nI (by omega) (by decide), nm_r (e' := upd aT L (nI t)) (by rw [nI_clamp (by omega)]) (nm_r (nI_1 L) ?_)⟩) (fun z => ?_) rfl rfl (by omega) (by decide)))
      · refine xq_A (L := L + 1) (tx := fun i => if i = L then t else tx i) (by omega) hT4 hX hX2 (ow_txt hT' (by omega)) fun aT' e' hT'' => ?_
        refine br_f (by decide) (br_f h0 (br_t hn (br_t (nI_lt (b := 12) z (by decide)) ⟨vp_in_nI (by omega) (by decide), nm_r (e' := upd bW L (nI t)) (by rw [nI_clamp (by omega)]) (nm_r (nI_1 L) ⟨rfl, N, T, g, ⟨⟨rfl, rfl, hN1, hN6⟩, ⟨rfl, rfl, hT1, hT4⟩, ⟨rfl, rfl⟩, ⟨rfl, rfl⟩, hX, hY, hE⟩, Or.inr ⟨L + 1, m, kd, _, ⟨rfl, rfl⟩, ⟨rfl, rfl⟩, hX2, hY2, hA, ⟨rfl, rfl, by omega⟩, hT'', ow_txt hW (by omega), rfl, rfl, rfl, rfl⟩⟩)⟩)))
      · exact br_f (by decide) (br_f h0 (br_t hn (br_f (nI_nlt (b := 12) z (by omega)) ⟨rfl, I'⟩)))
theorem i_vc_clearInput {k : Nat} {u : SX} {v : SY} (I : i_Rel k u v) (hk : k + 2 ≤ 1026) : wpX_clearInput (fun r u' => wpY_clearInput (fun r' v' => r' = r ∧ i_Rel (k + 2) u' v') v) u := by
  have I' := i_up I
  obtain ⟨xN, xT, xB, xR, xS, xE, xL, xA, xG, xC, xF, aL, aN, aS, aR, aM, aK, aT, aE⟩ := u
  obtain ⟨yN, yT, yB, yR, yS, yW, yG, yH, yK, yI, bL, bS, bN, bY, bW, bM, bK, bR, gL, gS, gN, gY, kL, kS, kN, kY, bI, bD, bP, bQ, bC, bX⟩ := v
  obtain ⟨N, T, g, ⟨⟨rfl, rfl, hN1, hN6⟩, ⟨rfl, rfl, hT1, hT4⟩, ⟨rfl, rfl⟩, ⟨rfl, rfl⟩, hX, hY, hE⟩, hP⟩ := I
  have h8 := hY.1
  have h12 := hY.2.1
  rcases hP with ⟨⟨rfl, rfl⟩, rfl, ⟨rfl, rfl⟩, hR⟩ | ⟨L, m, kd, tx, ⟨rfl, rfl⟩, ⟨rfl, rfl⟩, hX2, hY2, hA, ⟨rfl, rfl, hL⟩, hT', hW, rfl, rfl, rfl, rfl⟩
  · exact br_t rfl (br_t rfl ⟨rfl, I'⟩)
  · unfold wpX_clearInput
    refine br_f (by decide) ?_
    refine xq_A (L := 0) (tx := fun _ => 0) (by decide) hT4 hX hX2 (fun i hi => absurd hi (Nat.not_lt_zero i)) fun aT' e' hT'' => ?_
    exact br_f (by decide) ⟨rfl, N, T, g, ⟨⟨rfl, rfl, hN1, hN6⟩, ⟨rfl, rfl, hT1, hT4⟩, ⟨rfl, rfl⟩, ⟨rfl, rfl⟩, hX, hY, hE⟩, Or.inr ⟨0, m, kd, fun _ => 0, ⟨rfl, rfl⟩, ⟨rfl, rfl⟩, hX2, hY2, hA, ⟨rfl, rfl, by decide⟩, fun i hi => absurd hi (Nat.not_lt_zero i), fun i hi => absurd hi (Nat.not_lt_zero i), rfl, rfl, rfl, rfl⟩⟩
theorem i_vc_ruleCount {k : Nat} {u : SX} {v : SY} (I : i_Rel k u v) (hk : k + 2 ≤ 1026) : wpX_ruleCount (fun r => wpY_ruleCount (fun r' => r' = r ∧ i_Rel (k + 2) u v) v) u := by
  have I' := i_up I
  obtain ⟨xN, xT, xB, xR, xS, xE, xL, xA, xG, xC, xF, aL, aN, aS, aR, aM, aK, aT, aE⟩ := u
  obtain ⟨yN, yT, yB, yR, yS, yW, yG, yH, yK, yI, bL, bS, bN, bY, bW, bM, bK, bR, gL, gS, gN, gY, kL, kS, kN, kY, bI, bD, bP, bQ, bC, bX⟩ := v
  obtain ⟨N, T, g, ⟨⟨rfl, rfl, hN1, hN6⟩, ⟨rfl, rfl, hT1, hT4⟩, ⟨rfl, rfl⟩, ⟨rfl, rfl⟩, hX, hY, hE⟩, hP⟩ := I
  have h8 := hY.1
  have h12 := hY.2.1
  rcases hP with ⟨⟨rfl, rfl⟩, rfl, ⟨rfl, rfl⟩, hR⟩ | ⟨L, m, kd, tx, ⟨rfl, rfl⟩, ⟨rfl, rfl⟩, hX2, hY2, hA, ⟨rfl, rfl, hL⟩, hT', hW, rfl, rfl, rfl, rfl⟩
  · exact ⟨rfl, I'⟩
  · exact ⟨rfl, I'⟩
theorem i_vc_inputLength {k : Nat} {u : SX} {v : SY} (I : i_Rel k u v) (hk : k + 2 ≤ 1026) : wpX_inputLength (fun r => wpY_inputLength (fun r' => r' = r ∧ i_Rel (k + 2) u v) v) u := by
  have I' := i_up I
  obtain ⟨xN, xT, xB, xR, xS, xE, xL, xA, xG, xC, xF, aL, aN, aS, aR, aM, aK, aT, aE⟩ := u
  obtain ⟨yN, yT, yB, yR, yS, yW, yG, yH, yK, yI, bL, bS, bN, bY, bW, bM, bK, bR, gL, gS, gN, gY, kL, kS, kN, kY, bI, bD, bP, bQ, bC, bX⟩ := v
  obtain ⟨N, T, g, ⟨⟨rfl, rfl, hN1, hN6⟩, ⟨rfl, rfl, hT1, hT4⟩, ⟨rfl, rfl⟩, ⟨rfl, rfl⟩, hX, hY, hE⟩, hP⟩ := I
  have h8 := hY.1
  have h12 := hY.2.1
  rcases hP with ⟨⟨rfl, rfl⟩, rfl, ⟨rfl, rfl⟩, hR⟩ | ⟨L, m, kd, tx, ⟨rfl, rfl⟩, ⟨rfl, rfl⟩, hX2, hY2, hA, ⟨rfl, rfl, hL⟩, hT', hW, rfl, rfl, rfl, rfl⟩
  · exact ⟨rfl, I'⟩
  · exact ⟨rfl, I'⟩
theorem i_vc_setOf {k : Nat} {u : SX} {v : SY} (I : i_Rel k u v) (hk : k + 2 ≤ 1026) (v1 : Int32) : wpX_setOf (fun r => wpY_setOf (fun r' => r' = r ∧ i_Rel (k + 2) u v) v v1) u v1 := by
  have I' := i_up I
  obtain ⟨xN, xT, xB, xR, xS, xE, xL, xA, xG, xC, xF, aL, aN, aS, aR, aM, aK, aT, aE⟩ := u
  obtain ⟨yN, yT, yB, yR, yS, yW, yG, yH, yK, yI, bL, bS, bN, bY, bW, bM, bK, bR, gL, gS, gN, gY, kL, kS, kN, kY, bI, bD, bP, bQ, bC, bX⟩ := v
  obtain ⟨N, T, g, ⟨⟨rfl, rfl, hN1, hN6⟩, ⟨rfl, rfl, hT1, hT4⟩, ⟨rfl, rfl⟩, ⟨rfl, rfl⟩, hX, hY, hE⟩, hP⟩ := I
  have h8 := hY.1
  have h12 := hY.2.1
  rcases hP with ⟨⟨rfl, rfl⟩, rfl, ⟨rfl, rfl⟩, hR⟩ | ⟨L, m, kd, tx, ⟨rfl, rfl⟩, ⟨rfl, rfl⟩, hX2, hY2, hA, ⟨rfl, rfl, hL⟩, hT', hW, rfl, rfl, rfl, rfl⟩
  · exact br_t rfl (br_t rfl ⟨rfl, I'⟩)
  · refine br_f (by decide) ?_
    rcases pk_ix v1 (n := N) (by omega) with h | h | ⟨a, ha, rfl⟩
    · exact br_t h (br_f (by decide) (br_t h ⟨rfl, I'⟩))
    · have h0 : ¬ v1 < 0 := Int32.not_lt.mpr (Int32.le_trans (nI_pos' (by omega)) h)
      have hn : ¬ v1 < nI N := Int32.not_lt.mpr h
      exact br_f h0 (br_f hn (br_f (by decide) (br_f h0 (br_f hn ⟨rfl, I'⟩))))
    · have h0 : ¬ nI a < 0 := nI_pos (by omega)
      have hn : nI a < nI N := nI_lt ha (by omega)
      have ha' := hA a ha
      refine br_f h0 (br_t hn ⟨vp_in_nI (by omega) (by decide), br_f (by decide) (br_f h0 (br_t hn ⟨vp_in_nI (by omega) (by decide), ?_, I'⟩))⟩)
      rw [nI_clamp (by omega), ha'.1, ha'.2.1]
theorem i_vc_setKind {k : Nat} {u : SX} {v : SY} (I : i_Rel k u v) (hk : k + 2 ≤ 1026) (v1 : Int32) : wpX_setKind (fun r => wpY_setKind (fun r' => r' = r ∧ i_Rel (k + 2) u v) v v1) u v1 := by
  have I' := i_up I
  obtain ⟨xN, xT, xB, xR, xS, xE, xL, xA, xG, xC, xF, aL, aN, aS, aR, aM, aK, aT, aE⟩ := u
  obtain ⟨yN, yT, yB, yR, yS, yW, yG, yH, yK, yI, bL, bS, bN, bY, bW, bM, bK, bR, gL, gS, gN, gY, kL, kS, kN, kY, bI, bD, bP, bQ, bC, bX⟩ := v
  obtain ⟨N, T, g, ⟨⟨rfl, rfl, hN1, hN6⟩, ⟨rfl, rfl, hT1, hT4⟩, ⟨rfl, rfl⟩, ⟨rfl, rfl⟩, hX, hY, hE⟩, hP⟩ := I
  have h8 := hY.1
  have h12 := hY.2.1
  rcases hP with ⟨⟨rfl, rfl⟩, rfl, ⟨rfl, rfl⟩, hR⟩ | ⟨L, m, kd, tx, ⟨rfl, rfl⟩, ⟨rfl, rfl⟩, hX2, hY2, hA, ⟨rfl, rfl, hL⟩, hT', hW, rfl, rfl, rfl, rfl⟩
  · exact br_t rfl (br_t rfl ⟨rfl, I'⟩)
  · refine br_f (by decide) ?_
    rcases pk_ix v1 (n := N) (by omega) with h | h | ⟨a, ha, rfl⟩
    · exact br_t h (br_f (by decide) (br_t h ⟨rfl, I'⟩))
    · have h0 : ¬ v1 < 0 := Int32.not_lt.mpr (Int32.le_trans (nI_pos' (by omega)) h)
      have hn : ¬ v1 < nI N := Int32.not_lt.mpr h
      exact br_f h0 (br_f hn (br_f (by decide) (br_f h0 (br_f hn ⟨rfl, I'⟩))))
    · have h0 : ¬ nI a < 0 := nI_pos (by omega)
      have hn : nI a < nI N := nI_lt ha (by omega)
      have ha' := hA a ha
      refine br_f h0 (br_t hn ⟨vp_in_nI (by omega) (by decide), br_f (by decide) (br_f h0 (br_t hn ⟨vp_in_nI (by omega) (by decide), ?_, I'⟩))⟩)
      rw [nI_clamp (by omega), ha'.2.2.2.1, ha'.2.2.2.2.1]
theorem i_vc_selfEmbedding {k : Nat} {u : SX} {v : SY} (I : i_Rel k u v) (hk : k + 2 ≤ 1026) : wpX_selfEmbedding (fun r => wpY_selfEmbedding (fun r' => r' = r ∧ i_Rel (k + 2) u v) v) u := by
  have I' := i_up I
  obtain ⟨xN, xT, xB, xR, xS, xE, xL, xA, xG, xC, xF, aL, aN, aS, aR, aM, aK, aT, aE⟩ := u
  obtain ⟨yN, yT, yB, yR, yS, yW, yG, yH, yK, yI, bL, bS, bN, bY, bW, bM, bK, bR, gL, gS, gN, gY, kL, kS, kN, kY, bI, bD, bP, bQ, bC, bX⟩ := v
  obtain ⟨N, T, g, ⟨⟨rfl, rfl, hN1, hN6⟩, ⟨rfl, rfl, hT1, hT4⟩, ⟨rfl, rfl⟩, ⟨rfl, rfl⟩, hX, hY, hE⟩, hP⟩ := I
  have h8 := hY.1
  have h12 := hY.2.1
  rcases hP with ⟨⟨rfl, rfl⟩, rfl, ⟨rfl, rfl⟩, hR⟩ | ⟨L, m, kd, tx, ⟨rfl, rfl⟩, ⟨rfl, rfl⟩, hX2, hY2, hA, ⟨rfl, rfl, hL⟩, hT', hW, rfl, rfl, rfl, rfl⟩
  · exact br_t rfl (br_t rfl ⟨rfl, I'⟩)
  · exact br_f (by decide) ⟨N + 1, rd_xs hN6 (fun a ha => ⟨(hA a ha).2.2.2.1, (hA a ha).2.2.2.2.2⟩) (br_f (by decide) ⟨N + 1, rd_ys hN6 (fun a ha => ⟨(hA a ha).2.2.2.2.1, (hA a ha).2.2.2.2.2⟩) ⟨rfl, I'⟩ N 0 (by omega) (fun a h => absurd h (Nat.not_lt_zero a))⟩) N 0 (by omega) (fun a h => absurd h (Nat.not_lt_zero a))⟩
theorem i_vc_transformedRuleCount {k : Nat} {u : SX} {v : SY} (I : i_Rel k u v) (hk : k + 2 ≤ 1026) : wpX_transformedRuleCount (fun r => wpY_transformedRuleCount (fun r' => r' = r ∧ i_Rel (k + 2) u v) v) u := by
  have I' := i_up I
  obtain ⟨xN, xT, xB, xR, xS, xE, xL, xA, xG, xC, xF, aL, aN, aS, aR, aM, aK, aT, aE⟩ := u
  obtain ⟨yN, yT, yB, yR, yS, yW, yG, yH, yK, yI, bL, bS, bN, bY, bW, bM, bK, bR, gL, gS, gN, gY, kL, kS, kN, kY, bI, bD, bP, bQ, bC, bX⟩ := v
  obtain ⟨N, T, g, ⟨⟨rfl, rfl, hN1, hN6⟩, ⟨rfl, rfl, hT1, hT4⟩, ⟨rfl, rfl⟩, ⟨rfl, rfl⟩, hX, hY, hE⟩, hP⟩ := I
  have h8 := hY.1
  have h12 := hY.2.1
  rcases hP with ⟨⟨rfl, rfl⟩, rfl, ⟨rfl, rfl⟩, hR⟩ | ⟨L, m, kd, tx, ⟨rfl, rfl⟩, ⟨rfl, rfl⟩, hX2, hY2, hA, ⟨rfl, rfl, hL⟩, hT', hW, rfl, rfl, rfl, rfl⟩
  · exact br_t rfl (br_t rfl ⟨rfl, I'⟩)
  · have e : nI (8 + (gz_C g m kd N).1) - 8 = nI (gz_C g m kd N).1 := by
      rw [show (8 : Int32) = nI 8 from rfl, pk_sub (by omega), Nat.add_sub_cancel_left]
    refine br_f (by decide) ?_
    rw [e]
    exact br_f (by decide) ⟨g.1 + 1, rd_13 hN6 hY hE (fun a ha => ⟨(hA a ha).2.1, (hA a ha).2.2.1⟩) (fun a ha => ⟨(hA a ha).2.2.2.2.1, (hA a ha).2.2.2.2.2⟩) ⟨rfl, I'⟩ g.1 0 (by omega)⟩
theorem i_vc_approxAccepts {k : Nat} {u : SX} {v : SY} (I : i_Rel k u v) (hk : k + 2 ≤ 1026) : wpX_approxAccepts (fun r => wpY_approxAccepts (fun r' v' => r' = r ∧ i_Rel (k + 2) u v') v) u := by
  have I' := i_up I
  obtain ⟨xN, xT, xB, xR, xS, xE, xL, xA, xG, xC, xF, aL, aN, aS, aR, aM, aK, aT, aE⟩ := u
  obtain ⟨yN, yT, yB, yR, yS, yW, yG, yH, yK, yI, bL, bS, bN, bY, bW, bM, bK, bR, gL, gS, gN, gY, kL, kS, kN, kY, bI, bD, bP, bQ, bC, bX⟩ := v
  obtain ⟨N, T, g, ⟨⟨rfl, rfl, hN1, hN6⟩, ⟨rfl, rfl, hT1, hT4⟩, ⟨rfl, rfl⟩, ⟨rfl, rfl⟩, hX, hY, hE⟩, hP⟩ := I
  have h8 := hY.1
  have h12 := hY.2.1
  rcases hP with ⟨⟨rfl, rfl⟩, rfl, ⟨rfl, rfl⟩, hR⟩ | ⟨L, m, kd, tx, ⟨rfl, rfl⟩, ⟨rfl, rfl⟩, hX2, hY2, hA, ⟨rfl, rfl, hL⟩, hT', hW, rfl, rfl, rfl, rfl⟩
  · exact br_t rfl (br_t rfl ⟨rfl, I'⟩)
  · refine br_f (by decide) (bz_br rfl (fun z => ?_) (fun z => ?_))
    · exact yg_acc hL hW hY2 fun _ _ _ _ _ _ _ _ _ _ => ⟨bz_f z, I'⟩
    · exact yg_acc hL hW hY2 fun _ _ _ _ _ _ _ _ _ _ => ⟨bz_t z, I'⟩
theorem i_vc_grammarAccepts {k : Nat} {u : SX} {v : SY} (I : i_Rel k u v) (hk : k + 2 ≤ 1026) : wpX_grammarAccepts (fun r => wpY_grammarAccepts (fun r' v' => r' = r ∧ i_Rel (k + 2) u v') v) u := by
  have I' := i_up I
  obtain ⟨xN, xT, xB, xR, xS, xE, xL, xA, xG, xC, xF, aL, aN, aS, aR, aM, aK, aT, aE⟩ := u
  obtain ⟨yN, yT, yB, yR, yS, yW, yG, yH, yK, yI, bL, bS, bN, bY, bW, bM, bK, bR, gL, gS, gN, gY, kL, kS, kN, kY, bI, bD, bP, bQ, bC, bX⟩ := v
  obtain ⟨N, T, g, ⟨⟨rfl, rfl, hN1, hN6⟩, ⟨rfl, rfl, hT1, hT4⟩, ⟨rfl, rfl⟩, ⟨rfl, rfl⟩, hX, hY, hE⟩, hP⟩ := I
  have h8 := hY.1
  have h12 := hY.2.1
  rcases hP with ⟨⟨rfl, rfl⟩, rfl, ⟨rfl, rfl⟩, hR⟩ | ⟨L, m, kd, tx, ⟨rfl, rfl⟩, ⟨rfl, rfl⟩, hX2, hY2, hA, ⟨rfl, rfl, hL⟩, hT', hW, rfl, rfl, rfl, rfl⟩
  · exact br_t rfl (br_t rfl ⟨rfl, I'⟩)
  · refine br_f (by decide) (bz_br rfl (fun z => ?_) (fun z => ?_))
    · exact yg_gra hL hW hY fun _ _ _ _ _ _ _ _ _ _ => ⟨bz_f z, I'⟩
    · exact yg_gra hL hW hY fun _ _ _ _ _ _ _ _ _ _ => ⟨bz_t z, I'⟩
theorem i_vc_approxLive {k : Nat} {u : SX} {v : SY} (I : i_Rel k u v) (hk : k + 2 ≤ 1026) : wpX_approxLive (fun r => wpY_approxLive (fun r' v' => r' = r ∧ i_Rel (k + 2) u v') v) u := by
  have I' := i_up I
  obtain ⟨xN, xT, xB, xR, xS, xE, xL, xA, xG, xC, xF, aL, aN, aS, aR, aM, aK, aT, aE⟩ := u
  obtain ⟨yN, yT, yB, yR, yS, yW, yG, yH, yK, yI, bL, bS, bN, bY, bW, bM, bK, bR, gL, gS, gN, gY, kL, kS, kN, kY, bI, bD, bP, bQ, bC, bX⟩ := v
  obtain ⟨N, T, g, ⟨⟨rfl, rfl, hN1, hN6⟩, ⟨rfl, rfl, hT1, hT4⟩, ⟨rfl, rfl⟩, ⟨rfl, rfl⟩, hX, hY, hE⟩, hP⟩ := I
  have h8 := hY.1
  have h12 := hY.2.1
  rcases hP with ⟨⟨rfl, rfl⟩, rfl, ⟨rfl, rfl⟩, hR⟩ | ⟨L, m, kd, tx, ⟨rfl, rfl⟩, ⟨rfl, rfl⟩, hX2, hY2, hA, ⟨rfl, rfl, hL⟩, hT', hW, rfl, rfl, rfl, rfl⟩
  · exact br_t rfl (br_t rfl ⟨rfl, I'⟩)
  · refine br_f (by decide) (bz_br rfl (fun z => ?_) (fun z => ?_))
    · exact yg_live hL hW hY2 fun _ _ _ _ _ _ _ _ _ _ _ _ => ⟨bz_f z, I'⟩
    · exact yg_live hL hW hY2 fun _ _ _ _ _ _ _ _ _ _ _ _ => ⟨bz_t z, I'⟩
theorem i_vc_nextMask {k : Nat} {u : SX} {v : SY} (I : i_Rel k u v) (hk : k + 2 ≤ 1026) : wpX_nextMask (fun r => wpY_nextMask (fun r' v' => r' = r ∧ i_Rel (k + 2) u v') v) u := by
  have I' := i_up I
  obtain ⟨xN, xT, xB, xR, xS, xE, xL, xA, xG, xC, xF, aL, aN, aS, aR, aM, aK, aT, aE⟩ := u
  obtain ⟨yN, yT, yB, yR, yS, yW, yG, yH, yK, yI, bL, bS, bN, bY, bW, bM, bK, bR, gL, gS, gN, gY, kL, kS, kN, kY, bI, bD, bP, bQ, bC, bX⟩ := v
  obtain ⟨N, T, g, ⟨⟨rfl, rfl, hN1, hN6⟩, ⟨rfl, rfl, hT1, hT4⟩, ⟨rfl, rfl⟩, ⟨rfl, rfl⟩, hX, hY, hE⟩, hP⟩ := I
  have h8 := hY.1
  have h12 := hY.2.1
  rcases hP with ⟨⟨rfl, rfl⟩, rfl, ⟨rfl, rfl⟩, hR⟩ | ⟨L, m, kd, tx, ⟨rfl, rfl⟩, ⟨rfl, rfl⟩, hX2, hY2, hA, ⟨rfl, rfl, hL⟩, hT', hW, rfl, rfl, rfl, rfl⟩
  · exact br_t rfl (br_t rfl ⟨rfl, I'⟩)
  · exact br_f (by decide) (yg_mask hT4 hL hW hY2 fun _ _ _ _ _ _ _ _ _ _ _ _ => ⟨rfl, I'⟩)
