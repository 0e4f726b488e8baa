/-! Y: build -/
section ybs
variable {yN yT yB yR yS yW yG yH yK yI : Int32} {bL bS bN bY bW bM bK bR gL gS gN gY kL kS kN kY bI bD bP bQ bC bX : Nat → Int32}
variable {N : Nat} {g h : gm_G} {m kd : Nat → Nat}
theorem ys_st {post : SY → Prop} {a : Nat} (ha : a < 12) (hl : h.1 < 32) (hg : gw_Y 32 32 h gL gS gN gY) (H : ∀ l s n, gw_Y 32 32 (gm_st h a) l s n gY → post (yN, yT, yB, yR, yS, yW, nI (h.1 + 1), nI (sr_S h.2.2.1 h.1), yK, yI, bL, bS, bN, bY, bW, bM, bK, bR, l, s, n, gY, kL, kS, kN, kY, bI, bD, bP, bQ, bC, bX)) : wpY_startG post (yN, yT, yB, yR, yS, yW, nI h.1, nI (sr_S h.2.2.1 h.1), yK, yI, bL, bS, bN, bY, bW, bM, bK, bR, gL, gS, gN, gY, kL, kS, kN, kY, bI, bD, bP, bQ, bC, bX) (nI a) := by
  refine br_t (nI_lt (b := 32) hl (by decide)) ⟨vp_in_nI hl (by decide), nm_r (e' := upd gL h.1 (nI a)) (by rw [nI_clamp (by omega)]) ⟨vp_in_nI hl (by decide), nm_r (e' := upd gS h.1 (nI (sr_S h.2.2.1 h.1))) (by rw [nI_clamp (by omega)]) ⟨vp_in_nI hl (by decide), nm_r (e' := upd gN h.1 0) (by rw [nI_clamp (by omega)]) (nm_r (nI_1 h.1) (H _ _ _ (gw_Yst hg rfl rfl ha hl)))⟩⟩⟩
theorem ys_pu {post : SY → Prop} {t q : Nat} {p0 : Int32} (hp : p0 = cd_Y t) (hq : h.1 = q + 1) (ht : t < 16) (hs : sr_S h.2.2.1 h.1 < 32) (hg : gw_Y 32 32 h gL gS gN gY) (H : ∀ n y, gw_Y 32 32 (gm_pu h t) gL gS n y → post (yN, yT, yB, yR, yS, yW, nI h.1, nI (sr_S h.2.2.1 h.1 + 1), yK, yI, bL, bS, bN, bY, bW, bM, bK, bR, gL, gS, n, y, kL, kS, kN, kY, bI, bD, bP, bQ, bC, bX)) : wpY_pushG post (yN, yT, yB, yR, yS, yW, nI h.1, nI (sr_S h.2.2.1 h.1), yK, yI, bL, bS, bN, bY, bW, bM, bK, bR, gL, gS, gN, gY, kL, kS, kN, kY, bI, bD, bP, bQ, bC, bX) p0 := by
  subst hp
  have h32 := hg.1
  have eq : nI h.1 - 1 = nI q := by rw [hq]; exact nI_pred q
  have eN := (hg.2.2 q (by omega)).2.2.2.1
  refine br_f (nI_ne0 (by omega) (by omega)) (br_t (nI_lt (b := 32) hs (by decide)) ⟨vp_in_nI hs (by decide), nm_r (e' := upd gY (sr_S h.2.2.1 h.1) (cd_Y t)) (by rw [nI_clamp (by omega)]) (nm_r (nI_1 _) ⟨pk_in q 32 (by omega) eq, pk_in q 32 (by omega) eq, nm_r (e' := upd gN q (nI (h.2.2.1 q + 1))) (by rw [eq, nI_clamp (by omega), eN, nI_1]) (H _ _ (gw_Ypu hg hq rfl rfl ht hs))⟩)⟩)
theorem yb_465 {post : Int32 → SY → Prop} (hN : N ≤ 6) (hm : ∀ a, a < N → bM a = nI (m a) ∧ m a < 6) (H : post (nI (cn (fun a => m a = a) N)) (nI N, yT, yB, yR, yS, yW, yG, yH, yK, yI, bL, bS, bN, bY, bW, bM, bK, bR, gL, gS, gN, gY, kL, kS, kN, kY, bI, bD, bP, bQ, bC, bX)) :
    ∀ d a, a + d = N → wY_build_465 post (nI N) yT yB yR yS yW yG yH yK yI bL bS bN bY bW bM bK bR gL gS gN gY kL kS kN kY bI bD bP bQ bC bX (d + 1) (nI (cn (fun a => m a = a) a)) (nI a) := by
  intro d
  induction d with
  | zero =>
    intro a ha
    have e : a = N := by omega
    subst e
    exact br_t (nI_le (Nat.le_refl _) (by omega)) H
  | succ d ih =>
    intro a ha
    have hv := hm a (by omega)
    have := ih (a + 1) (by omega)
    refine br_f (nI_ge (by omega) (by omega)) ⟨vp_in_nI (by omega) (by decide), pk_eq (m a) a (fun z => ?_) (fun z => ?_) (by rw [nI_clamp (by omega)]; exact hv.1) rfl (by have := hv.2; omega) (by omega)⟩
    · rw [cn, b01_t z] at this
      exact nm_r (nI_1 _) (nm_r (nI_1 a) this)
    · rw [cn, b01_f z] at this
      exact nm_r (nI_1 a) this
theorem yb_429 {post : Int32 → SY → Prop} (hN : N ≤ 6) (hm : sn_R N m bM) (hK : ∀ a, a < N → bK a = nI (kd a) ∧ kd a ≤ 3) (h20 : g.1 + sr_S g.2.2.1 g.1 ≤ 20)
    (H : ∀ l s n y, gw_Y 32 32 (gz_C g m kd N) l s n y → post (nI (cn (fun a => m a = a) N)) (nI N, yT, yB, yR, yS, yW, nI (gz_C g m kd N).1, nI (sr_S (gz_C g m kd N).2.2.1 (gz_C g m kd N).1), yK, yI, bL, bS, bN, bY, bW, bM, bK, bR, l, s, n, y, kL, kS, kN, kY, bI, bD, bP, bQ, bC, bX)) :
    ∀ d a gL gS gN gY, a + d = N → gw_Y 32 32 (gz_C g m kd a) gL gS gN gY → wY_build_429 post (d + 1) (nI a) (nI N) yT yB yR yS yW (nI (gz_C g m kd a).1) (nI (sr_S (gz_C g m kd a).2.2.1 (gz_C g m kd a).1)) yK yI bL bS bN bY bW bM bK bR gL gS gN gY kL kS kN kY bI bD bP bQ bC bX := by
  intro d
  induction d with
  | zero =>
    intro a gL gS gN gY ha hg
    have e : a = N := by omega
    subst e
    exact br_t (nI_le (Nat.le_refl _) (by omega)) ⟨a + 1, yb_465 hN hm (H gL gS gN gY hg) a 0 (by omega)⟩
  | succ d ih =>
    intro a gL gS gN gY ha hg
    have hk := hK a (by omega)
    have hz := (gz_Cz (g := g) (m := m) (kd := kd) a).1
    refine br_f (nI_ge (by omega) (by omega)) ⟨vp_in_nI (by omega) (by decide), pk_eq (kd a) 3 (fun z => ?_) (fun z => ?_) (by rw [nI_clamp (by omega)]; exact hk.1) rfl (by omega) (by decide)⟩
    · rw [xw_6]
      refine ys_st (by omega) (by omega) hg fun l s n hg' => ?_
      have := ih (a + 1) l s n gY (by omega)
      rw [gz_Ct z, sr_st'] at this
      exact nm_r (nI_1 a) (this hg')
    · have := ih (a + 1) gL gS gN gY (by omega)
      rw [gz_Cf z] at this
      exact nm_r (nI_1 a) (this hg)
theorem yb_338 {post : Int32 → SY → Prop} {J316 : Int32 → Int32 → Int32 → Int32 → Int32 → Int32 → Int32 → Int32 → Int32 → Int32 → Int32 → (Nat → Int32) → (Nat → Int32) → (Nat → Int32) → (Nat → Int32) → (Nat → Int32) → (Nat → Int32) → (Nat → Int32) → (Nat → Int32) → (Nat → Int32) → (Nat → Int32) → (Nat → Int32) → (Nat → Int32) → (Nat → Int32) → (Nat → Int32) → (Nat → Int32) → (Nat → Int32) → (Nat → Int32) → (Nat → Int32) → (Nat → Int32) → (Nat → Int32) → (Nat → Int32) → (Nat → Int32) →  Prop} {r : Nat} (hN : N ≤ 6) (hg : gw_Y 8 12 g bL bS bN bY) (hE : gw_E N g) (hm : sn_R N m bM) (hK : ∀ a, a < N → bK a = nI (kd a) ∧ kd a ≤ 3) (hr : r < g.1) (hz : h.1 + g.2.2.1 r < 24) (hzs : sr_S h.2.2.1 h.1 + g.2.2.1 r < 24)
    (hJ : ∀ l s n y, gw_Y 32 32 (gz_f g kd r (gz_p g m kd r h (g.2.2.1 r))) l s n y → J316 (nI (r + 1)) yN yT yB yR yS yW (nI (gz_f g kd r (gz_p g m kd r h (g.2.2.1 r))).1) (nI (sr_S (gz_f g kd r (gz_p g m kd r h (g.2.2.1 r))).2.2.1 (gz_f g kd r (gz_p g m kd r h (g.2.2.1 r))).1)) yK yI bL bS bN bY bW bM bK bR l s n y kL kS kN kY bI bD bP bQ bC bX) :
    ∀ d k gL gS gN gY, k + d = g.2.2.1 r → gw_Y 32 32 (gz_p g m kd r h k) gL gS gN gY → wY_build_338 post J316 (nI r) (nI (g.2.1 r)) (d + 1) (nI k) yN yT yB yR yS yW (nI (gz_p g m kd r h k).1) (nI (sr_S (gz_p g m kd r h k).2.2.1 (gz_p g m kd r h k).1)) yK yI bL bS bN bY bW bM bK bR gL gS gN gY kL kS kN kY bI bD bP bQ bC bX := by
  obtain ⟨h1, h2, h3, h4, h5⟩ := hg.2.2 r hr
  obtain ⟨e1, e2, e3⟩ := hE r hr
  have h8 := hg.1
  have h12 := hg.2.1
  have hsm := sr_m (ln := g.2.2.1) hr
  have hk3 := hK (g.2.1 r) e1
  have eN : bN (nI r).toNatClampNeg = nI (g.2.2.1 r) := by rw [nI_clamp (by omega)]; exact h4
  have eS : ∀ k, bS (nI r).toNatClampNeg + nI k = nI (sr_S g.2.2.1 r + k) := fun k => by rw [nI_clamp (by omega), h3, nI_add]
  intro d
  induction d with
  | zero =>
    intro k gL gS gN gY hk hgy
    have e : k = g.2.2.1 r := by omega
    subst e
    obtain ⟨q, q1, q2, q3, q4⟩ := gz_pz (g := g) (m := m) (kd := kd) (r := r) (h := h) (g.2.2.1 r)
    refine ⟨vp_in_nI (by omega) (by decide), br_t (by rw [eN]; exact nI_le (Nat.le_refl _) (by omega)) ⟨vp_in_nI (by omega) (by decide), pk_eq (kd (g.2.1 r)) 3 (fun z => ?_) (fun z => ?_) (by rw [nI_clamp (by omega)]; exact hk3.1) rfl (by omega) (by decide)⟩⟩
    · rw [xw_6]
      refine ys_pu (t := 6 + g.2.1 r) (cd_n (by omega)).symm q1 (by omega) (by omega) hgy fun n y hgy' => ?_
      have := hJ gL gS n y
      rw [gz_ft z, sr_pu' q1] at this
      exact nm_r (nI_1 r) (this hgy')
    · have := hJ gL gS gN gY
      rw [gz_ff z] at this
      exact nm_r (nI_1 r) (this hgy)
  | succ d ih =>
    intro k gL gS gN gY hk hgy
    obtain ⟨q, q1, q2, q3, q4⟩ := gz_pz (g := g) (m := m) (kd := kd) (r := r) (h := h) k
    have hs := h5 k (by omega)
    refine ⟨vp_in_nI (by omega) (by decide), br_f (by rw [eN]; exact nI_ge (by omega) (by omega)) ⟨vp_in_nI (by omega) (by decide), pk_in (sr_S g.2.2.1 r + k) 12 (by omega) (eS k), nm_r (e' := cd_Y (g.2.2.2 r k)) (by rw [eS, nI_clamp (by omega)]; exact hs.1) ?_⟩⟩
    refine ys_pu rfl q1 hs.2 (by omega) hgy fun n y hgy' => ⟨vp_in_nI (by omega) (by decide), ?_⟩
    have no : ¬ (kd (g.2.1 r) = 3 ∧ mb_P g m r k) → wY_build_338 post J316 (nI r) (nI (g.2.1 r)) (d + 1) (nI (k + 1)) yN yT yB yR yS yW (nI (gz_p g m kd r h k).1) (nI (sr_S (gz_p g m kd r h k).2.2.1 (gz_p g m kd r h k).1 + 1)) yK yI bL bS bN bY bW bM bK bR gL gS n y kL kS kN kY bI bD bP bQ bC bX := fun z => by
      have := ih (k + 1) gL gS n y (by omega)
      rw [gz_pf z, sr_pu' q1] at this
      exact this hgy'
    refine pk_eq (kd (g.2.1 r)) 3 (fun z => ?_) (fun z => nm_r (nI_1 k) (no fun w => z w.1)) (by rw [nI_clamp (by omega)]; exact hk3.1) rfl (by omega) (by decide)
    refine yk_I hN hg hE hm hr (by omega) (bz_br rfl (fun z2 => nm_r (nI_1 k) (no fun w => z2 w.2)) (fun z2 => ?_))
    have h6 := z2.1
    rw [cd_n (by omega : g.2.2.2 r k < 12), xw_6]
    rw [← sr_pu' (s := g.2.2.2 r k) q1]
    refine ys_st (h := gm_pu (gz_p g m kd r h k) (g.2.2.2 r k)) (by omega) (by show (gz_p g m kd r h k).1 < 32; omega) hgy' fun l s n' hgy'' => ?_
    have := ih (k + 1) l s n' y (by omega)
    rw [gz_pt ⟨z, z2⟩, sr_st'] at this
    exact nm_r (nI_1 k) (this hgy'')
theorem yb_316 {post : Int32 → SY → Prop} (hN : N ≤ 6) (hg : gw_Y 8 12 g bL bS bN bY) (hE : gw_E N g) (hm : sn_R N m bM) (hK : ∀ a, a < N → bK a = nI (kd a) ∧ kd a ≤ 3)
    (H : ∀ l s n y, gw_Y 32 32 (gz_C g m kd N) l s n y → post (nI (cn (fun a => m a = a) N)) (nI N, yT, yB, nI g.1, yS, yW, nI (gz_C g m kd N).1, nI (sr_S (gz_C g m kd N).2.2.1 (gz_C g m kd N).1), yK, yI, bL, bS, bN, bY, bW, bM, bK, bR, l, s, n, y, kL, kS, kN, kY, bI, bD, bP, bQ, bC, bX)) :
    ∀ d r gL gS gN gY, r + d = g.1 → gw_Y 32 32 (gz_B g m kd r) gL gS gN gY → wY_build_316 post (d + 1) (nI r) (nI N) yT yB (nI g.1) yS yW (nI (gz_B g m kd r).1) (nI (sr_S (gz_B g m kd r).2.2.1 (gz_B g m kd r).1)) yK yI bL bS bN bY bW bM bK bR gL gS gN gY kL kS kN kY bI bD bP bQ bC bX := by
  have h8 := hg.1
  have h12 := hg.2.1
  intro d
  induction d with
  | zero =>
    intro r gL gS gN gY hr hgy
    have e : r = g.1 := by omega
    subst e
    exact br_t (nI_le (Nat.le_refl _) (by omega)) ⟨N + 1, yb_429 hN hm hK (by omega) H N 0 gL gS gN gY (by omega) hgy⟩
  | succ d ih =>
    intro r gL gS gN gY hr hgy
    obtain ⟨h1, h2, h3, h4, h5⟩ := hg.2.2 r (by omega)
    have hz := gz_Bz (g := g) (m := m) (kd := kd) r
    have hsm := sr_m (ln := g.2.2.1) (r := r) (n := g.1) (by omega)
    refine br_f (nI_ge (by omega) (by omega)) ⟨vp_in_nI (by omega) (by decide), nm_r (e' := nI (g.2.1 r)) (by rw [nI_clamp (by omega)]; exact h1) ?_⟩
    refine ys_st h2 (by omega) hgy fun l s n hgy' => ⟨g.2.2.1 r + 1, ?_⟩
    have := yb_338 (post := post) (h := gz_B g m kd r) hN hg hE hm hK (by omega) (by omega) (by omega) (fun l s n y hgy'' => ih (r + 1) l s n y (by omega) hgy'') (g.2.2.1 r) 0 l s n gY (by omega) hgy'
    rw [show gz_p g m kd r (gz_B g m kd r) 0 = gm_st (gz_B g m kd r) (g.2.1 r) from rfl, sr_st'] at this
    exact this
theorem yb_274 {post : Int32 → SY → Prop} (hN : N ≤ 6) (hg : gw_Y 8 12 g bL bS bN bY) (hE : gw_E N g) (hm : sn_R N m bM)
    (H : ∀ q l s n y, (∀ a, a < N → q a = nI (kn_K g m (m a))) → gw_Y 32 32 (gz_C g m (fun a => kn_K g m (m a)) N) l s n y → post (nI (cn (fun a => m a = a) N)) (nI N, yT, yB, nI g.1, yS, yW, nI (gz_C g m (fun a => kn_K g m (m a)) N).1, nI (sr_S (gz_C g m (fun a => kn_K g m (m a)) N).2.2.1 (gz_C g m (fun a => kn_K g m (m a)) N).1), yK, yI, bL, bS, bN, bY, bW, bM, q, bR, l, s, n, y, kL, kS, kN, kY, bI, bD, bP, bQ, bC, bX)) :
    ∀ d a q, a + d = N → (∀ a', a' < a → q a' = nI (kn_K g m (m a'))) → wY_build_274 post (nI N) yT yB (nI g.1) yS yW yG yH yK yI (d + 1) (nI a) bL bS bN bY bW bM q bR gL gS gN gY kL kS kN kY bI bD bP bQ bC bX := by
  have h8 := hg.1
  intro d
  induction d with
  | zero =>
    intro a q ha hq
    have e : a = N := by omega
    subst e
    refine br_t (nI_le (Nat.le_refl _) (by omega)) ⟨g.1 + 1, yb_316 (kd := fun a => kn_K g m (m a)) hN hg hE hm (fun a ha => ⟨hq a ha, kn_le⟩) (fun l s n y hgy => H q l s n y hq hgy) g.1 0 gL gS gN gY (by omega) ⟨Nat.zero_le _, Nat.zero_le _, fun r hr => absurd hr (Nat.not_lt_zero r)⟩⟩
  | succ d ih =>
    intro a q ha hq
    have m2 := hm a (by omega)
    refine br_f (nI_ge (by omega) (by omega)) ⟨vp_in_nI (by omega) (by decide), ?_⟩
    rw [nI_clamp (by omega), m2.1]
    refine yk_K m2.2 hN hg hE hm ⟨vp_in_nI (by omega) (by decide), nm_r (e' := upd q a (nI (kn_K g m (m a)))) rfl (nm_r (nI_1 a) (ih (a + 1) _ (by omega) fun a' h => ?_))⟩
    by_cases z : a' = a
    · subst z; rw [pk_us]
    · rw [pk_un z]; exact hq a' (by omega)
/-- Y's reach holds a relation -/
def ry_R (b : Nat → Int32) (R : Nat → Nat → Prop) : Prop := ∀ a c, a < 6 → c < 6 → b (a * 6 + c) = bz_I (R a c)
theorem ry_ix (a b : Nat) : nI a * 6 + nI b = nI (a * 6 + b) := by
  rw [show (6 : Int32) = nI 6 from rfl, pk_mul, nI_add]
theorem yb_210 {post : Int32 → SY → Prop} {J193 : Int32 → (Nat → Int32) → (Nat → Int32) → (Nat → Int32) → (Nat → Int32) → (Nat → Int32) → (Nat → Int32) → (Nat → Int32) → (Nat → Int32) → (Nat → Int32) → (Nat → Int32) → (Nat → Int32) → (Nat → Int32) → (Nat → Int32) → (Nat → Int32) → (Nat → Int32) → (Nat → Int32) → (Nat → Int32) → (Nat → Int32) → (Nat → Int32) → (Nat → Int32) → (Nat → Int32) → (Nat → Int32) →  Prop} {R : Nat → Nat → Prop} {a : Nat} (ha : a < 6) (hR : ry_R bR R)
    (hJ : ∀ q, (∀ a', a' < a + 1 → q a' = nI (mt_N R a')) → J193 (nI (a + 1)) bL bS bN bY bW q bK bR gL gS gN gY kL kS kN kY bI bD bP bQ bC bX) :
    ∀ d b q, b + d = a → (∀ a', a' < a → q a' = nI (mt_N R a')) → q a = nI (mt_f R a b) → wY_build_210 post J193 (nI a) yN yT yB yR yS yW yG yH yK yI (d + 1) (nI b) bL bS bN bY bW q bK bR gL gS gN gY kL kS kN kY bI bD bP bQ bC bX := by
  intro d
  induction d with
  | zero =>
    intro b q hb hq hqa
    have e : b = a := by omega
    subst e
    refine br_t (nI_le (Nat.le_refl _) (by omega)) (nm_r (nI_1 b) (hJ q fun a' h => ?_))
    by_cases z : a' = b
    · subst z; exact hqa
    · exact hq a' (by omega)
  | succ d ih =>
    intro b q hb hq hqa
    have hle := mt_le (R := R) (a := a) b (by omega)
    have no : ¬ (mt_f R a b = a ∧ R a b ∧ R b a) → wY_build_210 post J193 (nI a) yN yT yB yR yS yW yG yH yK yI (d + 1) (nI (b + 1)) bL bS bN bY bW q bK bR gL gS gN gY kL kS kN kY bI bD bP bQ bC bX := fun z => ih (b + 1) q (by omega) hq (by rw [mt_n z]; exact hqa)
    refine br_f (nI_ge (by omega) (by omega)) ⟨vp_in_nI (by omega) (by decide), pk_eq (mt_f R a b) a (fun z => ⟨pk_in (a * 6 + b) 36 (by omega) (ry_ix a b), ?_⟩) (fun z => nm_r (nI_1 b) (no fun w => z w.1)) (by rw [nI_clamp (by omega)]; exact hqa) rfl (by omega) (by omega)⟩
    refine bz_br (by rw [ry_ix, nI_clamp (by omega)]; exact hR a b ha (by omega)) (fun z1 => nm_r (nI_1 b) (no fun w => z1 w.2.1)) (fun z1 => ⟨pk_in (b * 6 + a) 36 (by omega) (ry_ix b a), ?_⟩)
    refine bz_br (by rw [ry_ix, nI_clamp (by omega)]; exact hR b a (by omega) ha) (fun z2 => nm_r (nI_1 b) (no fun w => z2 w.2.2)) (fun z2 => ⟨vp_in_nI (by omega) (by decide), nm_r (e' := upd q a (nI b)) (by rw [nI_clamp (by omega)]) (nm_r (nI_1 b) (ih (b + 1) _ (by omega) (fun a' h => by rw [pk_un (by omega)]; exact hq a' h) (by rw [pk_us, mt_t ⟨z, z1, z2⟩])))⟩)
theorem yb_193 {post : Int32 → SY → Prop} {R : Nat → Nat → Prop} (hN : N ≤ 6) (hg : gw_Y 8 12 g bL bS bN bY) (hE : gw_E N g) (hR : ry_R bR R) (hm : m = mt_N R)
    (H : ∀ p q l s n y, (∀ a, a < N → p a = nI (m a)) → (∀ a, a < N → q a = nI (kn_K g m (m a))) → gw_Y 32 32 (gz_C g m (fun a => kn_K g m (m a)) N) l s n y → post (nI (cn (fun a => m a = a) N)) (nI N, yT, yB, nI g.1, yS, yW, nI (gz_C g m (fun a => kn_K g m (m a)) N).1, nI (sr_S (gz_C g m (fun a => kn_K g m (m a)) N).2.2.1 (gz_C g m (fun a => kn_K g m (m a)) N).1), yK, yI, bL, bS, bN, bY, bW, p, q, bR, l, s, n, y, kL, kS, kN, kY, bI, bD, bP, bQ, bC, bX)) :
    ∀ d a p, a + d = N → (∀ a', a' < a → p a' = nI (m a')) → wY_build_193 post (nI N) yT yB (nI g.1) yS yW yG yH yK yI (d + 1) (nI a) bL bS bN bY bW p bK bR gL gS gN gY kL kS kN kY bI bD bP bQ bC bX := by
  subst hm
  intro d
  induction d with
  | zero =>
    intro a p ha hp
    have e : a = N := by omega
    subst e
    exact br_t (nI_le (Nat.le_refl _) (by omega)) ⟨a + 1, yb_274 hN hg hE (fun a' h => ⟨hp a' h, by have := mt_lt (R := R) (a := a'); omega⟩) (fun q l s n y h1 h2 => H p q l s n y hp h1 h2) a 0 bK (by omega) (fun a' h => absurd h (Nat.not_lt_zero a'))⟩
  | succ d ih =>
    intro a p ha hp
    refine br_f (nI_ge (by omega) (by omega)) ⟨vp_in_nI (by omega) (by decide), nm_r (e' := upd p a (nI a)) (by rw [nI_clamp (by omega)]) ⟨a + 1, yb_210 (R := R) (by omega) hR (fun q hq => ih (a + 1) q (by omega) hq) a 0 _ (by omega) (fun a' h => by rw [pk_un (by omega)]; exact hp a' h) (by rw [pk_us]; rfl)⟩⟩
end ybs
