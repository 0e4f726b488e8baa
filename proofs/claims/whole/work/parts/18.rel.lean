/-! The relation -/
def ir_C (N T : Nat) (g : gm_G) (xN xT xR xS : Int32) (aL aN aS : Nat → Int32) (yN yT yR yS : Int32) (bL bS bN bY : Nat → Int32) : Prop :=
  (xN = nI N ∧ yN = nI N ∧ 1 ≤ N ∧ N ≤ 6) ∧ (xT = nI T ∧ yT = nI T ∧ 1 ≤ T ∧ T ≤ 4) ∧ (xR = nI g.1 ∧ yR = nI g.1) ∧ (xS = nI (sr_S g.2.2.1 g.1) ∧ yS = nI (sr_S g.2.2.1 g.1)) ∧ gw_X 0 g aL aN aS ∧ gw_Y 8 12 g bL bS bN bY ∧ gw_E N g
def ir_E (xB xE xL : Int32) (aR : Nat → Int32) (yB yW : Int32) : Prop :=
  (xB = 0 ∧ yB = 0) ∧ xE = nI 8 ∧ (xL = nI 0 ∧ yW = nI 0) ∧ ∀ a, a < 6 → aR a = 0
def ir_B (N T L : Nat) (g : gm_G) (m kd tx : Nat → Nat) (xB xE xL xA xG xC xF : Int32) (aL aN aS aM aK aT : Nat → Int32) (yB yW yG : Int32) (bW bM bK gL gS gN gY : Nat → Int32) : Prop :=
  (xB = 1 ∧ yB = 1) ∧ (xE = nI (8 + (gz_C g m kd N).1) ∧ yG = nI (gz_C g m kd N).1) ∧ gw_X 8 (gz_C g m kd N) aL aN aS ∧ gw_Y 32 32 (gz_C g m kd N) gL gS gN gY ∧ (∀ a, a < N → aM a = nI (m a) ∧ bM a = nI (m a) ∧ m a < 6 ∧ aK a = nI (kd a) ∧ bK a = nI (kd a) ∧ kd a ≤ 3) ∧ (xL = nI L ∧ yW = nI L ∧ L ≤ 12) ∧ (∀ i, i < L → aT i = nI (tx i) ∧ tx i < 4) ∧ (∀ i, i < L → bW i = nI (tx i) ∧ tx i < 4) ∧
  xG = bz_I (dv_D g.1 g.2.1 g.2.2.1 g.2.2.2 (tm_s false tx L) 0 0 L) ∧ xA = bz_I (dv_D (gz_C g m kd N).1 (gz_C g m kd N).2.1 (gz_C g m kd N).2.2.1 (gz_C g m kd N).2.2.2 (tm_s false tx L) 0 0 L) ∧ xC = bz_I (dv_D (gz_C g m kd N).1 (gz_C g m kd N).2.1 (gz_C g m kd N).2.2.1 (gz_C g m kd N).2.2.2 (tm_s true tx L) 0 0 L) ∧ xF = fo_M (dq_P (gz_C g m kd N).1 (gz_C g m kd N).2.1 (gz_C g m kd N).2.2.1 (gz_C g m kd N).2.2.2 tx L) T
def i_Rel (_ : Nat) (u : SX) (v : SY) : Prop := match u, v with
  | (xN, xT, xB, xR, xS, xE, xL, xA, xG, xC, xF, aL, aN, aS, aR, aM, aK, aT, aE), (yN, yT, yB, yR, yS, yW, yG, yH, yK, yI, bL, bS, bN, bY, bW, bM, bK, bR, gL, gS, gN, gY, kL, kS, kN, kY, bI, bD, bP, bQ, bC, bX) => ∃ (N T : Nat) (g : gm_G), ir_C N T g xN xT xR xS aL aN aS yN yT yR yS bL bS bN bY ∧ (ir_E xB xE xL aR yB yW ∨ ∃ (L : Nat) (m kd tx : Nat → Nat), ir_B N T L g m kd tx xB xE xL xA xG xC xF aL aN aS aM aK aT yB yW yG bW bM bK gL gS gN gY)
theorem i_up {k : Nat} {u : SX} {v : SY} (h : i_Rel k u v) : i_Rel (k + 2) u v := h
theorem in_c (p0 : Int32) {hi : Nat} (h1 : 1 ≤ hi) (hh : hi < 100) : ∃ N, 1 ≤ N ∧ N ≤ hi ∧ ∀ P : Int32 → Prop, P (nI N) → ((1 ≤ p0 → (p0 ≤ nI hi → P p0) ∧ (¬ p0 ≤ nI hi → P (nI hi))) ∧ (¬ 1 ≤ p0 → P 1)) := by
  by_cases h : 1 ≤ p0
  · have hn : ¬ p0 < 0 := Int32.not_lt.mpr (Int32.le_trans (by decide) h)
    obtain ⟨j, hj, rfl⟩ := nI_of hn
    have hj1 : 1 ≤ j := (nI_leI (a := 1) (by decide) hj).mp h
    rcases Nat.lt_or_ge hi j with z | z
    · exact ⟨hi, h1, Nat.le_refl hi, fun P hP => br_t h (br_f (nI_ge z hj) hP)⟩
    · exact ⟨j, hj1, z, fun P hP => br_t h (br_t (nI_le z (by omega)) hP)⟩
  · exact ⟨1, Nat.le_refl 1, h1, fun P hP => br_f h hP⟩
