/-! Y: the questions, from tables that hold a grammar -/
section ygs
variable {yN yT yB yR yS yW yG yH yK yI : Int32} {bL bS bN bY bW bM bK bR gL gS gN gY kL kS kN kY bI bD bP bQ bC bX : Nat → Int32}
variable {L T : Nat} {g : gm_G} {tx : Nat → Nat}
theorem yg_1 {post : SY → Prop} (hg : gw_Y 32 32 g gL gS gN gY) (H : ∀ k1 k2 k3 k4, gy_R g.1 k1 k2 k3 k4 (sr_S g.2.2.1) g.2.1 g.2.2.1 g.2.2.2 → post (yN, yT, yB, yR, yS, yW, nI g.1, yH, nI g.1, yI, bL, bS, bN, bY, bW, bM, bK, bR, gL, gS, gN, gY, k1, k2, k3, k4, bI, bD, bP, bQ, bC, bX)) : wpY_loadGrammar post (yN, yT, yB, yR, yS, yW, nI g.1, yH, yK, yI, bL, bS, bN, bY, bW, bM, bK, bR, gL, gS, gN, gY, kL, kS, kN, kY, bI, bD, bP, bQ, bC, bX) 1 :=
  br_f (by decide) ⟨32 + 1, yl_211 (fun k1 k2 k3 k4 h1 h2 h3 h4 => H k1 k2 k3 k4 (gw_Yk hg (by decide) (by decide) (fun r hr => ⟨h1 r hr, h2 r hr, h3 r hr⟩) h4)) 32 0 kL kS kN kY (by omega) (fun r _ h => absurd h (Nat.not_lt_zero r)) (fun r _ h => absurd h (Nat.not_lt_zero r)) (fun r _ h => absurd h (Nat.not_lt_zero r)) (fun r _ h => absurd h (Nat.not_lt_zero r))⟩
theorem yg_0 {post : SY → Prop} (hg : gw_Y 8 12 g bL bS bN bY) (H : ∀ k1 k2 k3 k4, gy_R g.1 k1 k2 k3 k4 (sr_S g.2.2.1) g.2.1 g.2.2.1 g.2.2.2 → post (yN, yT, yB, nI g.1, yS, yW, yG, yH, nI g.1, yI, bL, bS, bN, bY, bW, bM, bK, bR, gL, gS, gN, gY, k1, k2, k3, k4, bI, bD, bP, bQ, bC, bX)) : wpY_loadGrammar post (yN, yT, yB, nI g.1, yS, yW, yG, yH, yK, yI, bL, bS, bN, bY, bW, bM, bK, bR, gL, gS, gN, gY, kL, kS, kN, kY, bI, bD, bP, bQ, bC, bX) 0 :=
  br_t rfl ⟨32 + 1, yl_210 (fun k1 k2 k3 k4 h1 h2 h3 h4 => H k1 k2 k3 k4 (gw_Yk hg (by decide) (by decide) (fun r hr => ⟨h1 r hr, h2 r hr, h3 r hr⟩) h4)) 32 0 kL kS kN kY (by omega) (fun r _ h => absurd h (Nat.not_lt_zero r)) (fun r _ h => absurd h (Nat.not_lt_zero r)) (fun r _ h => absurd h (Nat.not_lt_zero r)) (fun r _ h => absurd h (Nat.not_lt_zero r))⟩
theorem yg_acc {post : Int32 → SY → Prop} (hL : L ≤ 12) (hW : ∀ p, p < L → bW p = nI (tx p) ∧ tx p < 4) (hg : gw_Y 32 32 g gL gS gN gY)
    (H : ∀ yK yI kL kS kN kY bI bD bC bX, post (bz_I (dv_D g.1 g.2.1 g.2.2.1 g.2.2.2 (tm_s false tx L) 0 0 L)) (yN, yT, 1, yR, yS, nI L, nI g.1, yH, yK, yI, bL, bS, bN, bY, bW, bM, bK, bR, gL, gS, gN, gY, kL, kS, kN, kY, bI, bD, bP, bQ, bC, bX)) : wpY_approxAccepts post (yN, yT, 1, yR, yS, nI L, nI g.1, yH, yK, yI, bL, bS, bN, bY, bW, bM, bK, bR, gL, gS, gN, gY, kL, kS, kN, kY, bI, bD, bP, bQ, bC, bX) := by
  unfold wpY_approxAccepts
  refine br_f (by decide) (yg_1 hg fun k1 k2 k3 k4 hk => yl_I hL hW fun b hb => ye_D (by omega) hk hb fun d c x hd => ⟨vp_in_nI (by omega) (by decide), ?_⟩)
  have e : d (nI L).toNatClampNeg = bz_I (dv_D g.1 g.2.1 g.2.2.1 g.2.2.2 (tm_s false tx L) 0 0 L) := by
    have := hd 0 0 L (by decide) (Nat.zero_le L) (Nat.le_refl L)
    rw [show 0 * 196 + 0 * 14 + L = L from by omega] at this
    rw [nI_clamp (by omega)]
    exact this
  rw [e]
  exact ⟨(bz_n _).1, H _ _ _ _ _ _ _ _ _ _⟩
theorem yg_gra {post : Int32 → SY → Prop} (hL : L ≤ 12) (hW : ∀ p, p < L → bW p = nI (tx p) ∧ tx p < 4) (hg : gw_Y 8 12 g bL bS bN bY)
    (H : ∀ yK yI kL kS kN kY bI bD bC bX, post (bz_I (dv_D g.1 g.2.1 g.2.2.1 g.2.2.2 (tm_s false tx L) 0 0 L)) (yN, yT, 1, nI g.1, yS, nI L, yG, yH, yK, yI, bL, bS, bN, bY, bW, bM, bK, bR, gL, gS, gN, gY, kL, kS, kN, kY, bI, bD, bP, bQ, bC, bX)) : wpY_grammarAccepts post (yN, yT, 1, nI g.1, yS, nI L, yG, yH, yK, yI, bL, bS, bN, bY, bW, bM, bK, bR, gL, gS, gN, gY, kL, kS, kN, kY, bI, bD, bP, bQ, bC, bX) := by
  unfold wpY_grammarAccepts
  refine br_f (by decide) (yg_0 hg fun k1 k2 k3 k4 hk => yl_I hL hW fun b hb => ye_D (by omega) hk hb fun d c x hd => ⟨vp_in_nI (by omega) (by decide), ?_⟩)
  have e : d (nI L).toNatClampNeg = bz_I (dv_D g.1 g.2.1 g.2.2.1 g.2.2.2 (tm_s false tx L) 0 0 L) := by
    have := hd 0 0 L (by decide) (Nat.zero_le L) (Nat.le_refl L)
    rw [show 0 * 196 + 0 * 14 + L = L from by omega] at this
    rw [nI_clamp (by omega)]
    exact this
  rw [e]
  exact ⟨(bz_n _).1, H _ _ _ _ _ _ _ _ _ _⟩
theorem yg_live {post : Int32 → SY → Prop} (hL : L ≤ 12) (hW : ∀ p, p < L → bW p = nI (tx p) ∧ tx p < 4) (hg : gw_Y 32 32 g gL gS gN gY)
    (H : ∀ yK yI kL kS kN kY bI bD bP bQ bC bX, post (bz_I (dv_D g.1 g.2.1 g.2.2.1 g.2.2.2 (tm_s true tx L) 0 0 L)) (yN, yT, 1, yR, yS, nI L, nI g.1, yH, yK, yI, bL, bS, bN, bY, bW, bM, bK, bR, gL, gS, gN, gY, kL, kS, kN, kY, bI, bD, bP, bQ, bC, bX)) : wpY_approxLive post (yN, yT, 1, yR, yS, nI L, nI g.1, yH, yK, yI, bL, bS, bN, bY, bW, bM, bK, bR, gL, gS, gN, gY, kL, kS, kN, kY, bI, bD, bP, bQ, bC, bX) := by
  unfold wpY_approxLive
  refine br_f (by decide) (yg_1 hg fun k1 k2 k3 k4 hk => yl_I hL hW fun b hb => ye_D (by omega) hk hb fun d c x hd => yp_P hk fun q hq => yz_P (by omega) hk hd hq hb fun p c' x' hp => ?_)
  dsimp only
  rw [hp]
  exact ⟨(bz_n _).1, H _ _ _ _ _ _ _ _ _ _ _ _⟩
theorem yg_22 {post : Int32 → SY → Prop} {n : Nat} {st lh ln : Nat → Nat} {sy : Nat → Nat → Nat} (hT : T ≤ 4) (hL : L ≤ 12) (hW : ∀ p, p < L → bW p = nI (tx p) ∧ tx p < 4) (hk : gy_R n kL kS kN kY st lh ln sy) (hq : ya_R bQ 12 (pd_D n lh ln sy))
    (H : ∀ yI bI bD bP bC bX, post (fo_M (dq_P n lh ln sy tx L) T) (yN, nI T, yB, yR, yS, nI L, yG, yH, nI n, yI, bL, bS, bN, bY, bW, bM, bK, bR, gL, gS, gN, gY, kL, kS, kN, kY, bI, bD, bP, bQ, bC, bX)) :
    ∀ d t yI bI bD bP bC bX, t + d = T → wY_nextMask_22 post (d + 1) (fo_M (dq_P n lh ln sy tx L) t) (nI t) yN (nI T) yB yR yS (nI L) yG yH (nI n) yI bL bS bN bY bW bM bK bR gL gS gN gY kL kS kN kY bI bD bP bQ bC bX := by
  intro d
  induction d with
  | zero =>
    intro t yI bI bD bP bC bX ht
    have e : t = T := by omega
    subst e
    exact br_t (nI_le (Nat.le_refl _) (by omega)) (H _ _ _ _ _ _)
  | succ d ih =>
    intro t yI bI bD bP bC bX ht
    refine br_f (nI_ge (by omega) (by omega)) (yl_J (t := t) (by omega) hL hW fun b hb => ye_D (L := L + 1) (tx := fun p => if p = L then t else tx p) (by omega) hk hb fun e c x he => yz_P (L := L + 1) (tx := fun p => if p = L then t else tx p) (by omega) hk he hq hb fun p c' x' hp => ?_)
    refine bz_br (P := dq_P n lh ln sy tx L t) hp (fun z => ?_) (fun z => ?_)
    · have := ih (t + 1) (nI (L + 1)) b e p c' x' (by omega)
      rw [fo_f z] at this
      exact nm_r (nI_1 t) this
    · have := ih (t + 1) (nI (L + 1)) b e p c' x' (by omega)
      rw [fo_t z] at this
      exact nm_e (nm_r (nI_1 t) this)
theorem yg_mask {post : Int32 → SY → Prop} (hT : T ≤ 4) (hL : L ≤ 12) (hW : ∀ p, p < L → bW p = nI (tx p) ∧ tx p < 4) (hg : gw_Y 32 32 g gL gS gN gY)
    (H : ∀ yK yI kL kS kN kY bI bD bP bQ bC bX, post (fo_M (dq_P g.1 g.2.1 g.2.2.1 g.2.2.2 tx L) T) (yN, nI T, 1, yR, yS, nI L, nI g.1, yH, yK, yI, bL, bS, bN, bY, bW, bM, bK, bR, gL, gS, gN, gY, kL, kS, kN, kY, bI, bD, bP, bQ, bC, bX)) : wpY_nextMask post (yN, nI T, 1, yR, yS, nI L, nI g.1, yH, yK, yI, bL, bS, bN, bY, bW, bM, bK, bR, gL, gS, gN, gY, kL, kS, kN, kY, bI, bD, bP, bQ, bC, bX) := by
  unfold wpY_nextMask
  refine br_f (by decide) (yg_1 hg fun k1 k2 k3 k4 hk => yp_P hk fun q hq => ⟨T + 1, ?_⟩)
  exact yg_22 hT hL hW hk hq (fun _ _ _ _ _ _ => H _ _ _ _ _ _ _ _ _ _ _ _) T 0 _ _ _ _ _ _ (by omega)
end ygs
