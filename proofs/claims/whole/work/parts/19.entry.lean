/-! The constructors, the entry of a grammar -/
theorem in_X (p0 : Int32) {hi : Nat} (h1 : 1 ≤ hi) (hh : hi < 100) : ∃ N, 1 ≤ N ∧ N ≤ hi ∧ (∀ post : Int32 → Prop, post (nI N) → wpX_clamp post p0 1 (nI hi)) ∧ ∀ P : Int32 → Prop, P (nI N) → ((1 ≤ p0 → (p0 ≤ nI hi → P p0) ∧ (¬ p0 ≤ nI hi → P (nI hi))) ∧ (¬ 1 ≤ p0 → P 1)) := by
  obtain ⟨N, a, b, c⟩ := in_c p0 h1 hh
  exact ⟨N, a, b, fun post H => c post H, c⟩
theorem in_R (N T k : Nat) (hN1 : 1 ≤ N) (hN6 : N ≤ 6) (hT1 : 1 ≤ T) (hT4 : T ≤ 4) : i_Rel k (nI N, nI T, 0, 0, 0, 8, 0, 0, 0, 0, 0, (fun _ => 0), (fun _ => 0), (fun _ => 0), (fun _ => 0), (fun _ => 0), (fun _ => 0), (fun _ => 0), (fun _ => 0)) (nI N, nI T, 0, 0, 0, 0, 0, 0, 0, 0, (fun _ => 0), (fun _ => 0), (fun _ => 0), (fun _ => 0), (fun _ => 0), (fun _ => 0), (fun _ => 0), (fun _ => 0), (fun _ => 0), (fun _ => 0), (fun _ => 0), (fun _ => 0), (fun _ => 0), (fun _ => 0), (fun _ => 0), (fun _ => 0), (fun _ => 0), (fun _ => 0), (fun _ => 0), (fun _ => 0), (fun _ => 0), (fun _ => 0)) :=
  ⟨N, T, (0, fun _ => 0, fun _ => 0, fun _ _ => 0), ⟨⟨rfl, rfl, hN1, hN6⟩, ⟨rfl, rfl, hT1, hT4⟩, ⟨rfl, rfl⟩, ⟨rfl, rfl⟩, ⟨by decide, fun r hr => absurd hr (Nat.not_lt_zero r)⟩, ⟨Nat.zero_le _, Nat.zero_le _, fun r hr => absurd hr (Nat.not_lt_zero r)⟩, fun r hr => absurd hr (Nat.not_lt_zero r)⟩, Or.inl ⟨⟨rfl, rfl⟩, rfl, ⟨rfl, rfl⟩, fun _ _ => rfl⟩⟩
theorem i_vc0 (k0 k1 : Int32) : wpX_init (fun u => wpY_init (fun v => i_Rel 2 u v) k0 k1) k0 k1 := by
  obtain ⟨N, hN1, hN6, hNX, hN⟩ := in_X k0 (hi := 6) (by decide) (by decide)
  obtain ⟨T, hT1, hT4, hTX, hT⟩ := in_X k1 (hi := 4) (by decide) (by decide)
  unfold wpX_init
  refine hNX _ (hTX _ ?_)
  unfold wpY_init
  refine hN (fun z => wY_init_204 _ k1 z _ _ _ _ _ _ _ _ _ _ _ _ _ _ _ _ _ _ _ _ _ _ _ _ _ _ _ _ _ _ _ _) ?_
  unfold wY_init_204
  exact hT (fun z => i_Rel 2 (nI N, nI T, 0, 0, 0, 8, 0, 0, 0, 0, 0, (fun _ => 0), (fun _ => 0), (fun _ => 0), (fun _ => 0), (fun _ => 0), (fun _ => 0), (fun _ => 0), (fun _ => 0)) (nI N, z, _)) (in_R N T 2 hN1 hN6 hT1 hT4)
theorem i_vc_rule {k : Nat} {u : SX} {v : SY} (I : i_Rel k u v) (hk : k + 2 ≤ 1026) (v1 : Int32) : wpX_rule (fun r u' => wpY_rule (fun r' v' => r' = r ∧ i_Rel (k + 2) u' v') v v1) u v1 := by
  have I' := i_up I
  obtain ⟨xN, xT, xB, xR, xS, xE, xL, xA, xG, xC, xF, aL, aN, aS, aR, aM, aK, aT, aE⟩ := u
  obtain ⟨yN, yT, yB, yR, yS, yW, yG, yH, yK, yI, bL, bS, bN, bY, bW, bM, bK, bR, gL, gS, gN, gY, kL, kS, kN, kY, bI, bD, bP, bQ, bC, bX⟩ := v
  obtain ⟨N, T, g, ⟨⟨rfl, rfl, hN1, hN6⟩, ⟨rfl, rfl, hT1, hT4⟩, ⟨rfl, rfl⟩, ⟨rfl, rfl⟩, hX, hY, hE⟩, hP⟩ := I
  have h8 := hY.1
  have h12 := hY.2.1
  rcases hP with ⟨⟨rfl, rfl⟩, rfl, ⟨rfl, rfl⟩, hR⟩ | ⟨L, m, kd, tx, ⟨rfl, rfl⟩, ⟨rfl, rfl⟩, hX2, hY2, hA, ⟨rfl, rfl, hL⟩, hT', hW, rfl, rfl, rfl, rfl⟩
  · refine br_t rfl ?_
    rcases pk_ix v1 (n := N) (by omega) with h | h | ⟨a, ha, rfl⟩
    · exact br_t h (br_t rfl (br_t h ⟨rfl, I'⟩))
    · have h0 : ¬ v1 < 0 := Int32.not_lt.mpr (Int32.le_trans (nI_pos' (by omega)) h)
      have hn : ¬ v1 < nI N := Int32.not_lt.mpr h
      exact br_f h0 (br_f hn (br_t rfl (br_f h0 (br_f hn ⟨rfl, I'⟩))))
    · have h0 : ¬ nI a < 0 := nI_pos (by omega)
      have hn : nI a < nI N := nI_lt ha (by omega)
      refine br_f h0 (br_t hn (pk_lt g.1 8 (fun z => ?_) (fun z => ?_) rfl rfl (by omega) (by decide)))
      · have hne : ¬ nI g.1 = 8 := fun y => by
          have := (nI_eq (a := g.1) (b := 8) (by omega) (by decide)).mp y
          omega
        refine ⟨vp_in_nI (by omega) (by decide), nm_r (e' := upd aL g.1 (nI a)) (by rw [nI_clamp (by omega)]) ⟨vp_in_nI (by omega) (by decide), nm_r (e' := upd aN g.1 0) (by rw [nI_clamp (by omega)]) (nm_r (nI_1 g.1) ?_)⟩⟩
        refine br_t rfl (br_f h0 (br_t hn (br_f hne ⟨vp_in_nI z (by decide), nm_r (e' := upd bL g.1 (nI a)) (by rw [nI_clamp (by omega)]) ⟨vp_in_nI z (by decide), nm_r (e' := upd bS g.1 (nI (sr_S g.2.2.1 g.1))) (by rw [nI_clamp (by omega)]) ⟨vp_in_nI z (by decide), nm_r (e' := upd bN g.1 0) (by rw [nI_clamp (by omega)]) (nm_r (nI_1 g.1) ?_)⟩⟩⟩)))
        refine ⟨rfl, N, T, gm_st g a, ⟨⟨rfl, rfl, hN1, hN6⟩, ⟨rfl, rfl, hT1, hT4⟩, ⟨rfl, rfl⟩, ⟨congrArg nI sr_st'.symm, congrArg nI sr_st'.symm⟩, ?_, ?_, gw_Est hE ha⟩, Or.inl ⟨⟨rfl, rfl⟩, rfl, ⟨rfl, rfl⟩, hR⟩⟩
        · exact gw_Xst hX (by rw [Nat.zero_add]) (by omega) (by omega)
        · exact gw_Yst hY rfl rfl (by omega) z
      · have e8 : nI g.1 = 8 := by
          have : g.1 = 8 := by omega
          rw [this]; rfl
        exact br_t rfl (br_f h0 (br_t hn (br_t e8 ⟨rfl, I'⟩)))
  · exact br_f (by decide) (br_f (by decide) ⟨rfl, I'⟩)
theorem cd_12 : ∀ t, t < 4 → (-1) - nI t = cd_Y (12 + t) := by decide +kernel
section ens
variable {xN xT xB xR xS xE xL xA xG xC xF : Int32} {aL aN aS aR aM aK aT aE : Nat → Int32}
variable {yN yT yB yR yS yW yG yH yK yI : Int32} {bL bS bN bY bW bM bK bR gL gS gN gY kL kS kN kY bI bD bP bQ bC bX : Nat → Int32}
theorem en_S {k N T : Nat} {g : gm_G} (hN1 : 1 ≤ N) (hN6 : N ≤ 6) (hT1 : 1 ≤ T) (hT4 : T ≤ 4) (hX : gw_X 0 g aL aN aS) (hY : gw_Y 8 12 g bL bS bN bY) (hE : gw_E N g) (hR : ∀ a, a < 6 → aR a = 0) (v1 code inr : Int32) (B c : Nat) (hB : B ≤ 6) (hs : ∀ t, t < B → c + t < N ∨ (12 ≤ c + t ∧ c + t < 16)) (hin : (∃ t, t < B ∧ v1 = nI t ∧ code = cd_Y (c + t) ∧ inr = 1) ∨ ((v1 < 0 ∨ nI B ≤ v1) ∧ inr = 0)) :
    ∃ (r : Int32) (u' : SX) (v' : SY), i_Rel (k + 2) u' v' ∧ (∀ post : Int32 → SX → Prop, post r u' → wpX_enterSymbol post (nI N, nI T, 0, nI g.1, nI (sr_S g.2.2.1 g.1), nI 8, nI 0, xA, xG, xC, xF, aL, aN, aS, aR, aM, aK, aT, aE) v1 (nI B) (nI c)) ∧ (∀ post : Int32 → SY → Prop, post r v' → wpY_addSym post (nI N, nI T, 0, nI g.1, nI (sr_S g.2.2.1 g.1), nI 0, yG, yH, yK, yI, bL, bS, bN, bY, bW, bM, bK, bR, gL, gS, gN, gY, kL, kS, kN, kY, bI, bD, bP, bQ, bC, bX) code inr) := by
  have h8 := hY.1
  have h12 := hY.2.1
  have I0 : i_Rel (k + 2) (nI N, nI T, 0, nI g.1, nI (sr_S g.2.2.1 g.1), nI 8, nI 0, xA, xG, xC, xF, aL, aN, aS, aR, aM, aK, aT, aE) (nI N, nI T, 0, nI g.1, nI (sr_S g.2.2.1 g.1), nI 0, yG, yH, yK, yI, bL, bS, bN, bY, bW, bM, bK, bR, gL, gS, gN, gY, kL, kS, kN, kY, bI, bD, bP, bQ, bC, bX) :=
    ⟨N, T, g, ⟨⟨rfl, rfl, hN1, hN6⟩, ⟨rfl, rfl, hT1, hT4⟩, ⟨rfl, rfl⟩, ⟨rfl, rfl⟩, hX, hY, hE⟩, Or.inl ⟨⟨rfl, rfl⟩, rfl, ⟨rfl, rfl⟩, hR⟩⟩
  rcases Nat.eq_zero_or_pos g.1 with h0 | h0
  · have e0 : nI g.1 = 0 := by rw [h0]; rfl
    exact ⟨-4, _, _, I0, fun post H => br_t rfl (br_t e0 H), fun post H => br_t rfl (br_t e0 H)⟩
  have hne : ¬ nI g.1 = 0 := nI_ne0 h0 (by omega)
  obtain ⟨q, hq⟩ : ∃ q, g.1 = q + 1 := ⟨g.1 - 1, by omega⟩
  have eq : nI g.1 - 1 = nI q := by rw [hq]; exact nI_pred q
  rcases hin with ⟨t, ht, rfl, rfl, rfl⟩ | ⟨ho, rfl⟩
  · have n1 : ¬ (1 : Int32) = 0 := by decide
    have p0 : ¬ nI t < 0 := nI_pos (by omega)
    have pB : nI t < nI B := nI_lt ht (by omega)
    obtain ⟨x1, x2, x3, x4, x5⟩ := gw_X0 hX (r := q) (by omega)
    obtain ⟨y1, y2, y3, y4, y5⟩ := hY.2.2 q (by omega)
    have eN : aN (nI q).toNatClampNeg = nI (g.2.2.1 q) := by rw [nI_clamp (by omega)]; exact x3
    have eN' : bN (nI q).toNatClampNeg = nI (g.2.2.1 q) := by rw [nI_clamp (by omega)]; exact y4
    rcases Nat.lt_or_ge (g.2.2.1 q) 4 with z | z
    · have f4 : ¬ (4 : Int32) ≤ nI (g.2.2.1 q) := nI_ge (b := 4) z (by decide)
      rcases Nat.lt_or_ge (sr_S g.2.2.1 g.1) 12 with w | w
      · have fS : nI (sr_S g.2.2.1 g.1) < 12 := nI_lt (b := 12) w (by decide)
        have hs16 : c + t < 16 := by have := hs t ht; omega
        refine ⟨nI (g.2.2.1 q + 1), (nI N, nI T, 0, nI g.1, nI (sr_S g.2.2.1 g.1 + 1), nI 8, nI 0, xA, xG, xC, xF, aL, upd aN q (nI (g.2.2.1 q + 1)), upd aS (q * 5 + g.2.2.1 q) (nI (c + t)), aR, aM, aK, aT, aE), (nI N, nI T, 0, nI g.1, nI (sr_S g.2.2.1 g.1 + 1), nI 0, yG, yH, yK, yI, bL, bS, upd bN q (nI (g.2.2.1 q + 1)), upd bY (sr_S g.2.2.1 g.1) (cd_Y (c + t)), bW, bM, bK, bR, gL, gS, gN, gY, kL, kS, kN, kY, bI, bD, bP, bQ, bC, bX), ?_, fun post H => ?_, fun post H => ?_⟩
        · refine ⟨N, T, gm_pu g (c + t), ⟨⟨rfl, rfl, hN1, hN6⟩, ⟨rfl, rfl, hT1, hT4⟩, ⟨rfl, rfl⟩, ⟨congrArg nI (sr_pu' hq).symm, congrArg nI (sr_pu' hq).symm⟩, ?_, ?_, gw_Epu hE hq z (hs t ht)⟩, Or.inl ⟨⟨rfl, rfl⟩, rfl, ⟨rfl, rfl⟩, hR⟩⟩
          · exact gw_Xpu hX hq (by rw [Nat.zero_add]) rfl hs16 (by omega)
          · exact gw_Ypu hY hq rfl rfl hs16 w
        · refine br_t rfl (br_f hne (br_f p0 (br_t pB (nm_r eq ⟨vp_in_nI (by omega) (by decide), br_f (by rw [eN]; exact f4) (br_t fS ?_)⟩))))
          rw [nI_add]
          refine xa_S (l := g.2.2.1 q) (by omega) (by omega) x3 (nm_r (nI_1 _) ⟨vp_in_nI (by omega) (by decide), ?_⟩)
          rw [nI_clamp (by omega), pk_us]
          exact H
        · refine br_t rfl (br_f hne (br_f n1 (nm_r eq ⟨vp_in_nI (by omega) (by decide), br_f (by rw [eN']; exact f4) (br_t fS ⟨vp_in_nI w (by decide), nm_r (e' := upd bY (sr_S g.2.2.1 g.1) (cd_Y (c + t))) (by rw [nI_clamp (by omega)]) (nm_r (nI_1 _) ⟨vp_in_nI (by omega) (by decide), vp_in_nI (by omega) (by decide), nm_r (e' := upd bN q (nI (g.2.2.1 q + 1))) (by rw [eN', nI_clamp (by omega), nI_1]) ⟨vp_in_nI (by omega) (by decide), ?_⟩⟩)⟩)⟩)))
          rw [nI_clamp (by omega), pk_us]
          exact H
      · have fS : ¬ nI (sr_S g.2.2.1 g.1) < 12 := nI_nlt (b := 12) w (by omega)
        exact ⟨-3, _, _, I0, fun post H => br_t rfl (br_f hne (br_f p0 (br_t pB (nm_r eq ⟨vp_in_nI (by omega) (by decide), br_f (by rw [eN]; exact f4) (br_f fS H)⟩)))), fun post H => br_t rfl (br_f hne (br_f n1 (nm_r eq ⟨vp_in_nI (by omega) (by decide), br_f (by rw [eN']; exact f4) (br_f fS H)⟩)))⟩
    · have f4 : (4 : Int32) ≤ nI (g.2.2.1 q) := nI_le (a := 4) z (by omega)
      exact ⟨-3, _, _, I0, fun post H => br_t rfl (br_f hne (br_f p0 (br_t pB (nm_r eq ⟨vp_in_nI (by omega) (by decide), br_t (by rw [eN]; exact f4) H⟩)))), fun post H => br_t rfl (br_f hne (br_f n1 (nm_r eq ⟨vp_in_nI (by omega) (by decide), br_t (by rw [eN']; exact f4) H⟩)))⟩
  · refine ⟨-2, _, _, I0, fun post H => br_t rfl (br_f hne ?_), fun post H => br_t rfl (br_f hne (br_t rfl H))⟩
    rcases ho with h | h
    · exact br_t h H
    · exact br_f (Int32.not_lt.mpr (Int32.le_trans (nI_pos' (by omega)) h)) (br_f (Int32.not_lt.mpr h) H)
end ens
theorem i_vc_terminal {k : Nat} {u : SX} {v : SY} (I : i_Rel k u v) (hk : k + 2 ≤ 1026) (v1 : Int32) : wpX_terminal (fun r u' => wpY_terminal (fun r' v' => r' = r ∧ i_Rel (k + 2) u' v') v v1) u v1 := by
  have I' := i_up I
  obtain ⟨xN, xT, xB, xR, xS, xE, xL, xA, xG, xC, xF, aL, aN, aS, aR, aM, aK, aT, aE⟩ := u
  obtain ⟨yN, yT, yB, yR, yS, yW, yG, yH, yK, yI, bL, bS, bN, bY, bW, bM, bK, bR, gL, gS, gN, gY, kL, kS, kN, kY, bI, bD, bP, bQ, bC, bX⟩ := v
  obtain ⟨N, T, g, ⟨⟨rfl, rfl, hN1, hN6⟩, ⟨rfl, rfl, hT1, hT4⟩, ⟨rfl, rfl⟩, ⟨rfl, rfl⟩, hX, hY, hE⟩, hP⟩ := I
  have h8 := hY.1
  have h12 := hY.2.1
  rcases hP with ⟨⟨rfl, rfl⟩, rfl, ⟨rfl, rfl⟩, hR⟩ | ⟨L, m, kd, tx, ⟨rfl, rfl⟩, ⟨rfl, rfl⟩, hX2, hY2, hA, ⟨rfl, rfl, hL⟩, hT', hW, rfl, rfl, rfl, rfl⟩
  · rcases pk_ix v1 (n := T) (by omega) with h | h | ⟨t, ht, rfl⟩
    · obtain ⟨r, u', v', J, hx, hy⟩ := en_S (k := k) (xA := xA) (xG := xG) (xC := xC) (xF := xF) (aM := aM) (aK := aK) (aT := aT) (aE := aE) (yG := yG) (yH := yH) (yK := yK) (yI := yI) (bW := bW) (bM := bM) (bK := bK) (bR := bR) (gL := gL) (gS := gS) (gN := gN) (gY := gY) (kL := kL) (kS := kS) (kN := kN) (kY := kY) (bI := bI) (bD := bD) (bP := bP) (bQ := bQ) (bC := bC) (bX := bX) hN1 hN6 hT1 hT4 hX hY hE hR v1 ((-1) - v1) 0 T 12 (by omega) (fun t ht => Or.inr ⟨by omega, by omega⟩) (Or.inr ⟨Or.inl h, rfl⟩)
      obtain ⟨_, _, _, _, _, _, _, _, _, _, _, _, _, _, _, _, _, _, _⟩ := u'
      obtain ⟨_, _, _, _, _, _, _, _, _, _, _, _, _, _, _, _, _, _, _, _, _, _, _, _, _, _, _, _, _, _, _, _⟩ := v'
      unfold wpX_terminal
      refine hx _ ?_
      dsimp only
      unfold wpY_terminal
      refine br_t h ?_
      unfold wY_terminal_20 wY_terminal_21
      exact hy _ ⟨rfl, J⟩
    · obtain ⟨r, u', v', J, hx, hy⟩ := en_S (k := k) (xA := xA) (xG := xG) (xC := xC) (xF := xF) (aM := aM) (aK := aK) (aT := aT) (aE := aE) (yG := yG) (yH := yH) (yK := yK) (yI := yI) (bW := bW) (bM := bM) (bK := bK) (bR := bR) (gL := gL) (gS := gS) (gN := gN) (gY := gY) (kL := kL) (kS := kS) (kN := kN) (kY := kY) (bI := bI) (bD := bD) (bP := bP) (bQ := bQ) (bC := bC) (bX := bX) hN1 hN6 hT1 hT4 hX hY hE hR v1 ((-1) - v1) 0 T 12 (by omega) (fun t ht => Or.inr ⟨by omega, by omega⟩) (Or.inr ⟨Or.inr h, rfl⟩)
      obtain ⟨_, _, _, _, _, _, _, _, _, _, _, _, _, _, _, _, _, _, _⟩ := u'
      obtain ⟨_, _, _, _, _, _, _, _, _, _, _, _, _, _, _, _, _, _, _, _, _, _, _, _, _, _, _, _, _, _, _, _⟩ := v'
      unfold wpX_terminal
      refine hx _ ?_
      dsimp only
      unfold wpY_terminal
      refine br_f (Int32.not_lt.mpr (Int32.le_trans (nI_pos' (by omega)) h)) (br_t h ?_)
      unfold wY_terminal_20 wY_terminal_21
      exact hy _ ⟨rfl, J⟩
    · obtain ⟨r, u', v', J, hx, hy⟩ := en_S (k := k) (xA := xA) (xG := xG) (xC := xC) (xF := xF) (aM := aM) (aK := aK) (aT := aT) (aE := aE) (yG := yG) (yH := yH) (yK := yK) (yI := yI) (bW := bW) (bM := bM) (bK := bK) (bR := bR) (gL := gL) (gS := gS) (gN := gN) (gY := gY) (kL := kL) (kS := kS) (kN := kN) (kY := kY) (bI := bI) (bD := bD) (bP := bP) (bQ := bQ) (bC := bC) (bX := bX) hN1 hN6 hT1 hT4 hX hY hE hR (nI t) ((-1) - nI t) 1 T 12 (by omega) (fun t ht => Or.inr ⟨by omega, by omega⟩) (Or.inl ⟨t, ht, rfl, cd_12 t (by omega), rfl⟩)
      obtain ⟨_, _, _, _, _, _, _, _, _, _, _, _, _, _, _, _, _, _, _⟩ := u'
      obtain ⟨_, _, _, _, _, _, _, _, _, _, _, _, _, _, _, _, _, _, _, _, _, _, _, _, _, _, _, _, _, _, _, _⟩ := v'
      unfold wpX_terminal
      refine hx _ ?_
      dsimp only
      unfold wpY_terminal
      refine br_f (nI_pos (by omega)) (br_f (nI_ge ht (by omega)) ?_)
      unfold wY_terminal_21
      exact hy _ ⟨rfl, J⟩
  · have bad : ∀ z0 z1, wpY_addSym (fun r' v' => r' = -1 ∧ i_Rel (k + 2) (nI N, nI T, 1, nI g.1, nI (sr_S g.2.2.1 g.1), nI (8 + (gz_C g m kd N).1), nI L, bz_I (dv_D (gz_C g m kd N).1 (gz_C g m kd N).2.1 (gz_C g m kd N).2.2.1 (gz_C g m kd N).2.2.2 (tm_s false tx L) 0 0 L), bz_I (dv_D g.1 g.2.1 g.2.2.1 g.2.2.2 (tm_s false tx L) 0 0 L), bz_I (dv_D (gz_C g m kd N).1 (gz_C g m kd N).2.1 (gz_C g m kd N).2.2.1 (gz_C g m kd N).2.2.2 (tm_s true tx L) 0 0 L), fo_M (dq_P (gz_C g m kd N).1 (gz_C g m kd N).2.1 (gz_C g m kd N).2.2.1 (gz_C g m kd N).2.2.2 tx L) T, aL, aN, aS, aR, aM, aK, aT, aE) v') (nI N, nI T, 1, nI g.1, nI (sr_S g.2.2.1 g.1), nI L, nI (gz_C g m kd N).1, yH, yK, yI, bL, bS, bN, bY, bW, bM, bK, bR, gL, gS, gN, gY, kL, kS, kN, kY, bI, bD, bP, bQ, bC, bX) z1 z0 := fun z0 z1 => br_f (by decide) ⟨rfl, I'⟩
    refine br_f (by decide) ?_
    by_cases h1 : v1 < 0
    · exact br_t h1 (bad _ _)
    · by_cases h2 : nI T ≤ v1
      · exact br_f h1 (br_t h2 (bad _ _))
      · exact br_f h1 (br_f h2 (bad _ _))
theorem i_vc_nonterminal {k : Nat} {u : SX} {v : SY} (I : i_Rel k u v) (hk : k + 2 ≤ 1026) (v1 : Int32) : wpX_nonterminal (fun r u' => wpY_nonterminal (fun r' v' => r' = r ∧ i_Rel (k + 2) u' v') v v1) u v1 := by
  have I' := i_up I
  obtain ⟨xN, xT, xB, xR, xS, xE, xL, xA, xG, xC, xF, aL, aN, aS, aR, aM, aK, aT, aE⟩ := u
  obtain ⟨yN, yT, yB, yR, yS, yW, yG, yH, yK, yI, bL, bS, bN, bY, bW, bM, bK, bR, gL, gS, gN, gY, kL, kS, kN, kY, bI, bD, bP, bQ, bC, bX⟩ := v
  obtain ⟨N, T, g, ⟨⟨rfl, rfl, hN1, hN6⟩, ⟨rfl, rfl, hT1, hT4⟩, ⟨rfl, rfl⟩, ⟨rfl, rfl⟩, hX, hY, hE⟩, hP⟩ := I
  have h8 := hY.1
  have h12 := hY.2.1
  rcases hP with ⟨⟨rfl, rfl⟩, rfl, ⟨rfl, rfl⟩, hR⟩ | ⟨L, m, kd, tx, ⟨rfl, rfl⟩, ⟨rfl, rfl⟩, hX2, hY2, hA, ⟨rfl, rfl, hL⟩, hT', hW, rfl, rfl, rfl, rfl⟩
  · rcases pk_ix v1 (n := N) (by omega) with h | h | ⟨t, ht, rfl⟩
    · obtain ⟨r, u', v', J, hx, hy⟩ := en_S (k := k) (xA := xA) (xG := xG) (xC := xC) (xF := xF) (aM := aM) (aK := aK) (aT := aT) (aE := aE) (yG := yG) (yH := yH) (yK := yK) (yI := yI) (bW := bW) (bM := bM) (bK := bK) (bR := bR) (gL := gL) (gS := gS) (gN := gN) (gY := gY) (kL := kL) (kS := kS) (kN := kN) (kY := kY) (bI := bI) (bD := bD) (bP := bP) (bQ := bQ) (bC := bC) (bX := bX) hN1 hN6 hT1 hT4 hX hY hE hR v1 v1 0 N 0 hN6 (fun t ht => Or.inl (by omega)) (Or.inr ⟨Or.inl h, rfl⟩)
      obtain ⟨_, _, _, _, _, _, _, _, _, _, _, _, _, _, _, _, _, _, _⟩ := u'
      obtain ⟨_, _, _, _, _, _, _, _, _, _, _, _, _, _, _, _, _, _, _, _, _, _, _, _, _, _, _, _, _, _, _, _⟩ := v'
      unfold wpX_nonterminal
      refine hx _ ?_
      dsimp only
      unfold wpY_nonterminal
      refine br_t h ?_
      unfold wY_nonterminal_18 wY_nonterminal_19
      exact hy _ ⟨rfl, J⟩
    · obtain ⟨r, u', v', J, hx, hy⟩ := en_S (k := k) (xA := xA) (xG := xG) (xC := xC) (xF := xF) (aM := aM) (aK := aK) (aT := aT) (aE := aE) (yG := yG) (yH := yH) (yK := yK) (yI := yI) (bW := bW) (bM := bM) (bK := bK) (bR := bR) (gL := gL) (gS := gS) (gN := gN) (gY := gY) (kL := kL) (kS := kS) (kN := kN) (kY := kY) (bI := bI) (bD := bD) (bP := bP) (bQ := bQ) (bC := bC) (bX := bX) hN1 hN6 hT1 hT4 hX hY hE hR v1 v1 0 N 0 hN6 (fun t ht => Or.inl (by omega)) (Or.inr ⟨Or.inr h, rfl⟩)
      obtain ⟨_, _, _, _, _, _, _, _, _, _, _, _, _, _, _, _, _, _, _⟩ := u'
      obtain ⟨_, _, _, _, _, _, _, _, _, _, _, _, _, _, _, _, _, _, _, _, _, _, _, _, _, _, _, _, _, _, _, _⟩ := v'
      unfold wpX_nonterminal
      refine hx _ ?_
      dsimp only
      unfold wpY_nonterminal
      refine br_f (Int32.not_lt.mpr (Int32.le_trans (nI_pos' (by omega)) h)) (br_t h ?_)
      unfold wY_nonterminal_18 wY_nonterminal_19
      exact hy _ ⟨rfl, J⟩
    · obtain ⟨r, u', v', J, hx, hy⟩ := en_S (k := k) (xA := xA) (xG := xG) (xC := xC) (xF := xF) (aM := aM) (aK := aK) (aT := aT) (aE := aE) (yG := yG) (yH := yH) (yK := yK) (yI := yI) (bW := bW) (bM := bM) (bK := bK) (bR := bR) (gL := gL) (gS := gS) (gN := gN) (gY := gY) (kL := kL) (kS := kS) (kN := kN) (kY := kY) (bI := bI) (bD := bD) (bP := bP) (bQ := bQ) (bC := bC) (bX := bX) hN1 hN6 hT1 hT4 hX hY hE hR (nI t) (nI t) 1 N 0 hN6 (fun t ht => Or.inl (by omega)) (Or.inl ⟨t, ht, rfl, by rw [Nat.zero_add, cd_n (by omega)], rfl⟩)
      obtain ⟨_, _, _, _, _, _, _, _, _, _, _, _, _, _, _, _, _, _, _⟩ := u'
      obtain ⟨_, _, _, _, _, _, _, _, _, _, _, _, _, _, _, _, _, _, _, _, _, _, _, _, _, _, _, _, _, _, _, _⟩ := v'
      unfold wpX_nonterminal
      refine hx _ ?_
      dsimp only
      unfold wpY_nonterminal
      refine br_f (nI_pos (by omega)) (br_f (nI_ge ht (by omega)) ?_)
      unfold wY_nonterminal_19
      exact hy _ ⟨rfl, J⟩
  · have bad : ∀ z0 z1, wpY_addSym (fun r' v' => r' = -1 ∧ i_Rel (k + 2) (nI N, nI T, 1, nI g.1, nI (sr_S g.2.2.1 g.1), nI (8 + (gz_C g m kd N).1), nI L, bz_I (dv_D (gz_C g m kd N).1 (gz_C g m kd N).2.1 (gz_C g m kd N).2.2.1 (gz_C g m kd N).2.2.2 (tm_s false tx L) 0 0 L), bz_I (dv_D g.1 g.2.1 g.2.2.1 g.2.2.2 (tm_s false tx L) 0 0 L), bz_I (dv_D (gz_C g m kd N).1 (gz_C g m kd N).2.1 (gz_C g m kd N).2.2.1 (gz_C g m kd N).2.2.2 (tm_s true tx L) 0 0 L), fo_M (dq_P (gz_C g m kd N).1 (gz_C g m kd N).2.1 (gz_C g m kd N).2.2.1 (gz_C g m kd N).2.2.2 tx L) T, aL, aN, aS, aR, aM, aK, aT, aE) v') (nI N, nI T, 1, nI g.1, nI (sr_S g.2.2.1 g.1), nI L, nI (gz_C g m kd N).1, yH, yK, yI, bL, bS, bN, bY, bW, bM, bK, bR, gL, gS, gN, gY, kL, kS, kN, kY, bI, bD, bP, bQ, bC, bX) z1 z0 := fun z0 z1 => br_f (by decide) ⟨rfl, I'⟩
    refine br_f (by decide) ?_
    by_cases h1 : v1 < 0
    · exact br_t h1 (bad _ _)
    · by_cases h2 : nI N ≤ v1
      · exact br_f h1 (br_t h2 (bad _ _))
      · exact br_f h1 (br_f h2 (bad _ _))
