/-! What is asked and answered without a word problem -/
section rds
variable {xN xT xB xR xS xE xL xA xG xC xF : Int32} {aL aN aS aR aM aK aT aE : Nat → Int32}
variable {yN yT yB yR yS yW yG yH yK yI : Int32} {bL bS bN bY bW bM bK bR gL gS gN gY kL kS kN kY bI bD bP bQ bC bX : Nat → Int32}
variable {N : Nat} {g h : gm_G} {m kd : Nat → Nat}
theorem rd_xs {post : Int32 → Prop} (hN : N ≤ 6) (hK : ∀ a, a < N → aK a = nI (kd a) ∧ kd a ≤ 3) (H : post (bz_I (∃ a, a < N ∧ kd a = 3))) :
    ∀ d a, a + d = N → (∀ a', a' < a → kd a' ≠ 3) → wX_selfEmbedding_11 post (nI N) xT xB xR xS xE xL xA xG xC xF aL aN aS aR aM aK aT aE (d + 1) (nI a) := by
  intro d
  induction d with
  | zero =>
    intro a ha hn
    rw [bz_f (P := ∃ a, a < N ∧ kd a = 3) (fun ⟨a', h1, h2⟩ => hn a' (by omega) h2)] at H
    exact br_t (nI_le (by omega) (by omega)) H
  | succ d ih =>
    intro a ha hn
    have hk := hK a (by omega)
    refine br_f (nI_ge (by omega) (by omega)) ⟨vp_in_nI (by omega) (by decide), pk_eq (kd a) 3 (fun z => ?_) (fun z => nm_r (nI_1 a) (ih (a + 1) (by omega) fun a' h' => ?_)) (by rw [nI_clamp (by omega)]; exact hk.1) rfl (by omega) (by decide)⟩
    · exact bz_p1 H ⟨a, by omega, z⟩
    · by_cases y : a' = a
      · subst y; exact z
      · exact hn a' (by omega)
theorem rd_ys {post : Int32 → Prop} (hN : N ≤ 6) (hK : ∀ a, a < N → bK a = nI (kd a) ∧ kd a ≤ 3) (H : post (bz_I (∃ a, a < N ∧ kd a = 3))) :
    ∀ d a, a + d = N → (∀ a', a' < a → kd a' ≠ 3) → wY_selfEmbedding_11 post (nI N) yT yB yR yS yW yG yH yK yI bL bS bN bY bW bM bK bR gL gS gN gY kL kS kN kY bI bD bP bQ bC bX (d + 1) (nI a) := by
  intro d
  induction d with
  | zero =>
    intro a ha hn
    rw [bz_f (P := ∃ a, a < N ∧ kd a = 3) (fun ⟨a', h1, h2⟩ => hn a' (by omega) h2)] at H
    exact br_t (nI_le (by omega) (by omega)) H
  | succ d ih =>
    intro a ha hn
    have hk := hK a (by omega)
    refine br_f (nI_ge (by omega) (by omega)) ⟨vp_in_nI (by omega) (by decide), pk_eq (kd a) 3 (fun z => ?_) (fun z => nm_r (nI_1 a) (ih (a + 1) (by omega) fun a' h' => ?_)) (by rw [nI_clamp (by omega)]; exact hk.1) rfl (by omega) (by decide)⟩
    · exact bz_p1 H ⟨a, by omega, z⟩
    · by_cases y : a' = a
      · subst y; exact z
      · exact hn a' (by omega)
theorem gz_n {r : Nat} (z : ¬ kd (g.2.1 r) = 3) : ∀ k, (gz_p g m kd r h k).1 = h.1 + 1 := by
  intro k
  induction k with
  | zero => rfl
  | succ k ih =>
    rw [gz_pf (fun y => z y.1)]
    exact ih
theorem rd_47 {post : Int32 → Prop} {J13 : Int32 → Int32 → Prop} {r : Nat} (hN : N ≤ 6) (hg : gw_Y 8 12 g bL bS bN bY) (hE : gw_E N g) (hm : sn_R N m bM) (hr : r < g.1) (hk3 : kd (g.2.1 r) = 3)
    (hJ : J13 (nI (gz_p g m kd r h (g.2.2.1 r)).1) (nI (r + 1))) :
    ∀ d k, k + d = g.2.2.1 r → wY_transformedRuleCount_47 post J13 (nI r) yN yT yB yR yS yW yG yH yK yI bL bS bN bY bW bM bK bR gL gS gN gY kL kS kN kY bI bD bP bQ bC bX (d + 1) (nI (gz_p g m kd r h k).1) (nI k) := by
  obtain ⟨h1, h2, h3, h4, h5⟩ := hg.2.2 r hr
  obtain ⟨e1, e2, e3⟩ := hE r hr
  have h8 := hg.1
  have eN : bN (nI r).toNatClampNeg = nI (g.2.2.1 r) := by rw [nI_clamp (by omega)]; exact h4
  intro d
  induction d with
  | zero =>
    intro k hk
    have e : k = g.2.2.1 r := by omega
    subst e
    exact ⟨vp_in_nI (by omega) (by decide), br_t (by rw [eN]; exact nI_le (Nat.le_refl _) (by omega)) (nm_r (nI_1 r) hJ)⟩
  | succ d ih =>
    intro k hk
    have := ih (k + 1) (by omega)
    refine ⟨vp_in_nI (by omega) (by decide), br_f (by rw [eN]; exact nI_ge (by omega) (by omega)) (yk_I hN hg hE hm hr (by omega) (bz_br rfl (fun z => ?_) (fun z => ?_)))⟩
    · rw [gz_pf (fun y => z y.2)] at this
      exact nm_r (nI_1 k) this
    · rw [gz_pt ⟨hk3, z⟩] at this
      exact nm_r (nI_1 _) (nm_r (nI_1 k) this)
theorem gz_f1 {r : Nat} : (gz_f g kd r h).1 = h.1 := by
  rcases Classical.em (kd (g.2.1 r) = 3) with z | z
  · rw [gz_ft z]; rfl
  · rw [gz_ff z]
theorem rd_83 {post : Int32 → Prop} (hN : N ≤ 6) (hK : ∀ a, a < N → bK a = nI (kd a) ∧ kd a ≤ 3) (H : post (nI (gz_C g m kd N).1)) :
    ∀ d a, a + d = N → wY_transformedRuleCount_83 post (nI N) yT yB yR yS yW yG yH yK yI bL bS bN bY bW bM bK bR gL gS gN gY kL kS kN kY bI bD bP bQ bC bX (d + 1) (nI (gz_C g m kd a).1) (nI a) := by
  intro d
  induction d with
  | zero =>
    intro a ha
    have e : a = N := by omega
    subst e
    exact br_t (nI_le (Nat.le_refl _) (by omega)) H
  | succ d ih =>
    intro a ha
    have hk := hK a (by omega)
    have := ih (a + 1) (by omega)
    refine br_f (nI_ge (by omega) (by omega)) ⟨vp_in_nI (by omega) (by decide), pk_eq (kd a) 3 (fun z => ?_) (fun z => ?_) (by rw [nI_clamp (by omega)]; exact hk.1) rfl (by omega) (by decide)⟩
    · rw [gz_Ct z] at this
      exact nm_r (nI_1 _) (nm_r (nI_1 a) this)
    · rw [gz_Cf z] at this
      exact nm_r (nI_1 a) this
theorem rd_13 {post : Int32 → Prop} (hN : N ≤ 6) (hg : gw_Y 8 12 g bL bS bN bY) (hE : gw_E N g) (hm : sn_R N m bM) (hK : ∀ a, a < N → bK a = nI (kd a) ∧ kd a ≤ 3) (H : post (nI (gz_C g m kd N).1)) :
    ∀ d r, r + d = g.1 → wY_transformedRuleCount_13 post (nI N) yT yB (nI g.1) yS yW yG yH yK yI bL bS bN bY bW bM bK bR gL gS gN gY kL kS kN kY bI bD bP bQ bC bX (d + 1) (nI (gz_B g m kd r).1) (nI r) := by
  have h8 := hg.1
  intro d
  induction d with
  | zero =>
    intro r hr
    have e : r = g.1 := by omega
    subst e
    exact br_t (nI_le (Nat.le_refl _) (by omega)) ⟨N + 1, rd_83 hN hK H N 0 (by omega)⟩
  | succ d ih =>
    intro r hr
    obtain ⟨h1, h2, h3, h4, h5⟩ := hg.2.2 r (by omega)
    obtain ⟨e1, e2, e3⟩ := hE r (by omega)
    have hk := hK (g.2.1 r) e1
    have eL : bL (nI r).toNatClampNeg = nI (g.2.1 r) := by rw [nI_clamp (by omega)]; exact h1
    have := ih (r + 1) (by omega)
    rw [show gz_B g m kd (r + 1) = gz_f g kd r (gz_p g m kd r (gz_B g m kd r) (g.2.2.1 r)) from rfl, gz_f1] at this
    refine br_f (nI_ge (by omega) (by omega)) ⟨vp_in_nI (by omega) (by decide), pk_in (g.2.1 r) 6 (by omega) eL, pk_eq (kd (g.2.1 r)) 3 (fun z => ?_) (fun z => ?_) (by rw [eL, nI_clamp (by omega)]; exact hk.1) rfl (by omega) (by decide)⟩
    · exact nm_r (nI_1 _) ⟨g.2.2.1 r + 1, rd_47 (h := gz_B g m kd r) hN hg hE hm (by omega) z this (g.2.2.1 r) 0 (by omega)⟩
    · rw [gz_n z] at this
      exact nm_r (nI_1 _) (nm_r (nI_1 r) this)
end rds
