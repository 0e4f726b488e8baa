/-! Y: reached; the whole of build -/
/-- the stages within one middle: cells below c are a stage further -/
def ry_V (E : Nat → Nat → Prop) (k c a b : Nat) : Prop := (a * 6 + b < c ∧ ws_W E (k + 1) a b) ∨ (c ≤ a * 6 + b ∧ ws_W E k a b)
theorem ry_Vm {E : Nat → Nat → Prop} {k c a : Nat} : ry_V E k c a k ↔ ws_W E k a k :=
  ⟨fun h => h.elim (fun y => ws_c.mp y.2) (fun y => y.2), fun h => by
    rcases Nat.lt_or_ge (a * 6 + k) c with z | z
    · exact Or.inl ⟨z, ws_c.mpr h⟩
    · exact Or.inr ⟨z, h⟩⟩
theorem ry_Vr {E : Nat → Nat → Prop} {k c b : Nat} : ry_V E k c k b ↔ ws_W E k k b :=
  ⟨fun h => h.elim (fun y => ws_r.mp y.2) (fun y => y.2), fun h => by
    rcases Nat.lt_or_ge (k * 6 + b) c with z | z
    · exact Or.inl ⟨z, ws_r.mpr h⟩
    · exact Or.inr ⟨z, h⟩⟩
theorem ry_Vs {E : Nat → Nat → Prop} {k c a b : Nat} : ry_V E k (c + 1) a b ↔ (ry_V E k c a b ∨ (a * 6 + b = c ∧ ws_W E k a k ∧ ws_W E k k b)) := by
  constructor
  · rintro (⟨h1, h2⟩ | ⟨h1, h2⟩)
    · rcases Nat.lt_or_ge (a * 6 + b) c with z | z
      · exact Or.inl (Or.inl ⟨z, h2⟩)
      · rcases h2 with h2 | h2
        · exact Or.inl (Or.inr ⟨z, h2⟩)
        · exact Or.inr ⟨by omega, h2⟩
    · exact Or.inl (Or.inr ⟨by omega, h2⟩)
  · rintro ((⟨h1, h2⟩ | ⟨h1, h2⟩) | ⟨h1, h2⟩)
    · exact Or.inl ⟨by omega, h2⟩
    · rcases Nat.lt_or_ge c (a * 6 + b) with z | z
      · exact Or.inr ⟨z, h2⟩
      · exact Or.inl ⟨by omega, Or.inl h2⟩
    · exact Or.inl ⟨by omega, Or.inr h2⟩
theorem ry_V36 {E : Nat → Nat → Prop} {k a b : Nat} (ha : a < 6) (hb : b < 6) : ry_V E k 36 a b ↔ ry_V E (k + 1) 0 a b :=
  ⟨fun h => h.elim (fun y => Or.inr ⟨Nat.zero_le _, y.2⟩) (fun y => by omega), fun h => h.elim (fun y => absurd y.1 (Nat.not_lt_zero _)) (fun y => Or.inl ⟨by omega, y.2⟩)⟩
theorem ry_c {b : Nat → Int32} {R R' : Nat → Nat → Prop} (h : ry_R b R) (e : ∀ a c, a < 6 → c < 6 → (R a c ↔ R' a c)) : ry_R b R' := fun a c ha hc => (h a c ha hc).trans (bz_c (e a c ha hc))
theorem ry_u {b : Nat → Int32} {R : Nat → Nat → Prop} {i j : Nat} (h : ry_R b R) (hj : j < 6) : ry_R (upd b (i * 6 + j) 1) (fun a c => R a c ∨ (a = i ∧ c = j)) := by
  intro a c ha hc
  by_cases z : a * 6 + c = i * 6 + j
  · have e1 : a = i := by omega
    have e2 : c = j := by omega
    rw [z, pk_us, bz_t (Or.inr ⟨e1, e2⟩)]
  · rw [pk_un z, h a c ha hc]
    exact bz_c ⟨Or.inl, fun y => y.elim id fun ⟨x, w⟩ => by subst x w; exact absurd rfl z⟩
section yts
variable {yN yT yB yR yS yW yG yH yK yI : Int32} {bL bS bN bY bW bM bK bR gL gS gN gY kL kS kN kY bI bD bP bQ bC bX : Nat → Int32}
variable {N : Nat} {g : gm_G} {m : Nat → Nat} {E : Nat → Nat → Prop}
theorem yt_117 {post : Int32 → SY → Prop} (H : ∀ q, ry_R q (ws_W E 6) → ∃ n, wY_build_193 post yN yT yB yR yS yW yG yH yK yI n 0 bL bS bN bY bW bM bK q gL gS gN gY kL kS kN kY bI bD bP bQ bC bX) :
    ∀ d p q, p + d = 216 → ry_R q (ry_V E (p / 36) (p % 36)) → wY_build_117 post yN yT yB yR yS yW yG yH yK yI (d + 1) (nI p) bL bS bN bY bW bM bK q gL gS gN gY kL kS kN kY bI bD bP bQ bC bX := by
  intro d
  induction d with
  | zero =>
    intro p q hp hq
    have e : p = 216 := by omega
    subst e
    exact br_t (nI_le (a := 216) (Nat.le_refl _) (by decide)) (H q (ry_c hq fun a c _ _ => ⟨fun y => y.elim (fun w => absurd w.1 (Nat.not_lt_zero _)) (fun w => w.2), fun y => Or.inr ⟨Nat.zero_le _, y⟩⟩))
  | succ d ih =>
    intro p q hp hq
    have hk : p / 36 < 6 := by omega
    have hi : p / 6 % 6 < 6 := by omega
    have hj : p % 6 < 6 := by omega
    have hc : p / 6 % 6 * 6 + p % 6 = p % 36 := by omega
    have st : ∀ q', ry_R q' (ry_V E (p / 36) (p % 36 + 1)) → wY_build_117 post yN yT yB yR yS yW yG yH yK yI (d + 1) (nI (p + 1)) bL bS bN bY bW bM bK q' gL gS gN gY kL kS kN kY bI bD bP bQ bC bX := by
      intro q' hq'
      refine ih (p + 1) q' (by omega) ?_
      rcases Nat.lt_or_ge (p % 36) 35 with z | z
      · rw [show (p + 1) / 36 = p / 36 from by omega, show (p + 1) % 36 = p % 36 + 1 from by omega]
        exact hq'
      · rw [show (p + 1) / 36 = p / 36 + 1 from by omega, show (p + 1) % 36 = 0 from by omega]
        rw [show p % 36 + 1 = 36 from by omega] at hq'
        exact ry_c hq' fun a c ha hc => ry_V36 ha hc
    have no : ¬ (ws_W E (p / 36) (p / 6 % 6) (p / 36) ∧ ws_W E (p / 36) (p / 36) (p % 6)) → ry_R q (ry_V E (p / 36) (p % 36 + 1)) := fun z => ry_c hq fun a c ha hc' => by
      refine Iff.trans ⟨Or.inl, fun y => y.elim id fun w => ?_⟩ ry_Vs.symm
      have e1 : a = p / 6 % 6 := by omega
      have e2 : c = p % 6 := by omega
      subst e1 e2
      exact absurd w.2 z
    refine br_f (nI_ge (b := 216) (by omega) (by decide)) ⟨by decide, nm_r (e' := nI (p / 36)) (pk_div (d := 36) (by omega) (by decide) (by decide)) ⟨by decide, by decide, nm_r (e' := nI (p / 6 % 6)) (by rw [show (nI p / 6 : Int32) = nI (p / 6) from pk_div (d := 6) (by omega) (by decide) (by decide)]; exact pk_rem (d := 6) (by omega) (by decide) (by decide)) ⟨by decide, nm_r (e' := nI (p % 6)) (pk_rem (d := 6) (by omega) (by decide) (by decide)) ⟨pk_in (p / 6 % 6 * 6 + p / 36) 36 (by omega) (ry_ix _ _), ?_⟩⟩⟩⟩
    refine bz_br (P := ws_W E (p / 36) (p / 6 % 6) (p / 36)) (by rw [ry_ix, nI_clamp (by omega), hq _ _ hi hk]; exact bz_c ry_Vm) (fun z => nm_r (nI_1 p) (st q (no fun w => z w.1))) (fun z => ⟨pk_in (p / 36 * 6 + p % 6) 36 (by omega) (ry_ix _ _), ?_⟩)
    refine bz_br (P := ws_W E (p / 36) (p / 36) (p % 6)) (by rw [ry_ix, nI_clamp (by omega), hq _ _ hk hj]; exact bz_c ry_Vr) (fun z2 => nm_r (nI_1 p) (st q (no fun w => z2 w.2))) (fun z2 => ⟨pk_in (p / 6 % 6 * 6 + p % 6) 36 (by omega) (ry_ix _ _), nm_r (e' := upd q (p / 6 % 6 * 6 + p % 6) 1) (by rw [ry_ix, nI_clamp (by omega)]; rfl) (nm_r (nI_1 p) (st _ (ry_c (ry_u hq hj) fun a c ha hc' => Iff.trans (or_congr Iff.rfl ?_) ry_Vs.symm)))⟩)
    constructor
    · rintro ⟨e1, e2⟩
      subst e1 e2
      exact ⟨hc, z, z2⟩
    · rintro ⟨e, _⟩
      exact ⟨by omega, by omega⟩
theorem yt_52 {post : Int32 → SY → Prop} {J42 : Int32 → (Nat → Int32) → (Nat → Int32) → (Nat → Int32) → (Nat → Int32) → (Nat → Int32) → (Nat → Int32) → (Nat → Int32) → (Nat → Int32) → (Nat → Int32) → (Nat → Int32) → (Nat → Int32) → (Nat → Int32) → (Nat → Int32) → (Nat → Int32) → (Nat → Int32) → (Nat → Int32) → (Nat → Int32) → (Nat → Int32) → (Nat → Int32) → (Nat → Int32) → (Nat → Int32) → (Nat → Int32) →  Prop} {r : Nat} (hN : N ≤ 6) (hg : gw_Y 8 12 g bL bS bN bY) (hE : gw_E N g) (hr : r < g.1)
    (hJ : ∀ q, ry_R q (ed_E g (r + 1)) → J42 (nI (r + 1)) bL bS bN bY bW bM bK q gL gS gN gY kL kS kN kY bI bD bP bQ bC bX) :
    ∀ d k q, k + d = g.2.2.1 r → ry_R q (fun a b => ed_E g r a b ∨ (g.2.1 r = a ∧ b < 12 ∧ ∃ k', k' < k ∧ g.2.2.2 r k' = b)) → wY_build_52 post J42 (nI r) yN yT yB yR yS yW yG yH yK yI (d + 1) (nI k) bL bS bN bY bW bM bK q gL gS gN gY kL kS kN kY bI bD bP bQ bC bX := by
  obtain ⟨h1, h2, h3, h4, h5⟩ := hg.2.2 r hr
  obtain ⟨e1, e2, e3⟩ := hE r hr
  have h8 := hg.1
  have h12 := hg.2.1
  have hsm := sr_m (ln := g.2.2.1) hr
  have eN : bN (nI r).toNatClampNeg = nI (g.2.2.1 r) := by rw [nI_clamp (by omega)]; exact h4
  have eL : bL (nI r).toNatClampNeg = nI (g.2.1 r) := by rw [nI_clamp (by omega)]; exact h1
  have eS : ∀ k, bS (nI r).toNatClampNeg + nI k = nI (sr_S g.2.2.1 r + k) := fun k => by rw [nI_clamp (by omega), h3, nI_add]
  intro d
  induction d with
  | zero =>
    intro k q hk hq
    refine ⟨vp_in_nI (by omega) (by decide), br_t (by rw [eN]; exact nI_le (by omega) (by omega)) (nm_r (nI_1 r) (hJ q (ry_c hq fun a b ha hb => ?_)))⟩
    constructor
    · rintro (⟨r', k', x1, x2⟩ | ⟨x1, x2, k', x3, x4⟩)
      · exact ⟨r', k', by omega, x2⟩
      · exact ⟨r, k', by omega, by omega, x1, x4, x2⟩
    · rintro ⟨r', k', x1, x2, x3, x4, x5⟩
      rcases Nat.lt_or_ge r' r with z | z
      · exact Or.inl ⟨r', k', z, x2, x3, x4, x5⟩
      · have e : r' = r := by omega
        subst e
        exact Or.inr ⟨x3, x5, k', by omega, x4⟩
  | succ d ih =>
    intro k q hk hq
    have hs := h5 k (by omega)
    refine ⟨vp_in_nI (by omega) (by decide), br_f (by rw [eN]; exact nI_ge (by omega) (by omega)) ⟨vp_in_nI (by omega) (by decide), pk_in (sr_S g.2.2.1 r + k) 12 (by omega) (eS k), nm_r (e' := cd_Y (g.2.2.2 r k)) (by rw [eS, nI_clamp (by omega)]; exact hs.1) ?_⟩⟩
    rcases Nat.lt_or_ge (g.2.2.2 r k) 12 with z | z
    · have hsN : g.2.2.2 r k < N := by rcases e3 k (by omega) with y | y <;> omega
      rw [cd_n z]
      refine br_f (nI_pos (by omega)) (br_f (nI_ge (b := 6) (by omega) (by decide)) ⟨vp_in_nI (by omega) (by decide), pk_in (g.2.1 r * 6 + g.2.2.2 r k) 36 (by omega) (by rw [eL, ry_ix]), nm_r (e' := upd q (g.2.1 r * 6 + g.2.2.2 r k) 1) (by rw [eL, ry_ix, nI_clamp (by omega)]; rfl) (nm_r (nI_1 k) (ih (k + 1) _ (by omega) (ry_c (ry_u hq (by omega)) fun a b ha hb => ?_)))⟩)
      constructor
      · rintro ((x | ⟨x1, x2, k', x3, x4⟩) | ⟨x1, x2⟩)
        · exact Or.inl x
        · exact Or.inr ⟨x1, x2, k', by omega, x4⟩
        · exact Or.inr ⟨x1.symm, by omega, k, by omega, x2.symm⟩
      · rintro (x | ⟨x1, x2, k', x3, x4⟩)
        · exact Or.inl (Or.inl x)
        · rcases Nat.lt_or_ge k' k with w | w
          · exact Or.inl (Or.inr ⟨x1, x2, k', w, x4⟩)
          · have e : k' = k := by omega
            subst e
            exact Or.inr ⟨x1.symm, x4.symm⟩
    · refine br_t (cd_t1 _ hs.2 z) (nm_r (nI_1 k) (ih (k + 1) q (by omega) (ry_c hq fun a b ha hb => or_congr Iff.rfl (and_congr Iff.rfl ?_))))
      constructor
      · rintro ⟨x2, k', x3, x4⟩
        exact ⟨x2, k', by omega, x4⟩
      · rintro ⟨x2, k', x3, x4⟩
        rcases Nat.lt_or_ge k' k with y | y
        · exact ⟨x2, k', y, x4⟩
        · have e : k' = k := by omega
          subst e
          omega
theorem yt_42 {post : Int32 → SY → Prop} (hN : N ≤ 6) (hg : gw_Y 8 12 g bL bS bN bY) (hE : gw_E N g) (H : ∀ q, ry_R q (ws_W (ed_E g g.1) 6) → ∃ n, wY_build_193 post yN yT yB (nI g.1) yS yW yG yH yK yI n 0 bL bS bN bY bW bM bK q gL gS gN gY kL kS kN kY bI bD bP bQ bC bX) :
    ∀ d r q, r + d = g.1 → ry_R q (ed_E g r) → wY_build_42 post yN yT yB (nI g.1) yS yW yG yH yK yI (d + 1) (nI r) bL bS bN bY bW bM bK q gL gS gN gY kL kS kN kY bI bD bP bQ bC bX := by
  have h8 := hg.1
  intro d
  induction d with
  | zero =>
    intro r q hr hq
    have e : r = g.1 := by omega
    subst e
    exact br_t (nI_le (Nat.le_refl _) (by omega)) ⟨216 + 1, yt_117 H 216 0 q (by omega) (ry_c hq fun a b _ _ => ⟨fun y => Or.inr ⟨Nat.zero_le _, y⟩, fun y => y.elim (fun w => absurd w.1 (Nat.not_lt_zero _)) (fun w => w.2)⟩)⟩
  | succ d ih =>
    intro r q hr hq
    exact br_f (nI_ge (by omega) (by omega)) ⟨g.2.2.1 r + 1, yt_52 hN hg hE (by omega) (fun q' hq' => ih (r + 1) q' (by omega) hq') (g.2.2.1 r) 0 q (by omega) (ry_c hq fun a b ha hb => ⟨Or.inl, fun x => x.elim id fun ⟨_, _, k', y, _⟩ => absurd y (Nat.not_lt_zero k')⟩)⟩
theorem yt_21 {post : Int32 → SY → Prop} (hN : N ≤ 6) (hg : gw_Y 8 12 g bL bS bN bY) (hE : gw_E N g) (H : ∀ q, ry_R q (ws_W (ed_E g g.1) 6) → ∃ n, wY_build_193 post yN yT yB (nI g.1) yS yW yG yH yK yI n 0 bL bS bN bY bW bM bK q gL gS gN gY kL kS kN kY bI bD bP bQ bC bX) :
    ∀ d p q, p + d = 36 → (∀ c, c < p → q c = 0) → wY_build_21 post yN yT yB (nI g.1) yS yW yG yH yK yI (d + 1) (nI p) bL bS bN bY bW bM bK q gL gS gN gY kL kS kN kY bI bD bP bQ bC bX := by
  have h8 := hg.1
  intro d
  induction d with
  | zero =>
    intro p q hp hq
    have e : p = 36 := by omega
    subst e
    refine br_t (nI_le (a := 36) (Nat.le_refl _) (by decide)) ⟨g.1 + 1, yt_42 hN hg hE H g.1 0 q (by omega) fun a c ha hc => ?_⟩
    rw [hq _ (by omega), bz_f]
    exact fun ⟨r, k, x, _⟩ => Nat.not_lt_zero r x
  | succ d ih =>
    intro p q hp hq
    refine br_f (nI_ge (b := 36) (by omega) (by decide)) ⟨vp_in_nI (by omega) (by decide), nm_r (e' := upd q p 0) (by rw [nI_clamp (by omega)]; rfl) (nm_r (nI_1 p) (ih (p + 1) _ (by omega) fun c hc => ?_))⟩
    by_cases z : c = p
    · subst z; exact pk_us
    · rw [pk_un z]; exact hq c (by omega)
theorem ed_bd (hE : gw_E N g) (hN : N ≤ 12) : ∀ a b, ed_E g g.1 a b → a < N ∧ b < N := by
  rintro a b ⟨r, k, h1, h2, h3, h4, h5⟩
  obtain ⟨e1, e2, e3⟩ := hE r h1
  have := e3 k h2
  omega
theorem yt_B {post : Int32 → SY → Prop} (hN : N ≤ 6) (hg : gw_Y 8 12 g bL bS bN bY) (hE : gw_E N g) (hm : m = mt_N (ws_W (ed_E g g.1) N))
    (H : ∀ c p q l s n y, (∀ a, a < N → p a = nI (m a)) → (∀ a, a < N → q a = nI (kn_K g m (m a))) → gw_Y 32 32 (gz_C g m (fun a => kn_K g m (m a)) N) l s n y → post (nI (cn (fun a => m a = a) N)) (nI N, yT, 1, nI g.1, yS, 0, nI (gz_C g m (fun a => kn_K g m (m a)) N).1, nI (sr_S (gz_C g m (fun a => kn_K g m (m a)) N).2.2.1 (gz_C g m (fun a => kn_K g m (m a)) N).1), yK, yI, bL, bS, bN, bY, bW, p, q, c, l, s, n, y, kL, kS, kN, kY, bI, bD, bP, bQ, bC, bX)) : wpY_build post (nI N, yT, 0, nI g.1, yS, yW, yG, yH, yK, yI, bL, bS, bN, bY, bW, bM, bK, bR, gL, gS, gN, gY, kL, kS, kN, kY, bI, bD, bP, bQ, bC, bX) := by
  have et : ws_W (ed_E g g.1) 6 = ws_W (ed_E g g.1) N := funext fun a => funext fun b => propext (by
    have := ws_top (ed_bd hE (by omega)) a b (6 - N)
    rw [show N + (6 - N) = 6 from by omega] at this
    exact this)
  refine br_t rfl ⟨36 + 1, yt_21 hN hg hE (fun q hq => ⟨N + 1, ?_⟩) 36 0 bR (by omega) (fun c h => absurd h (Nat.not_lt_zero c))⟩
  rw [et] at hq
  exact yb_193 hN hg hE hq hm (fun p q' l s n y h1 h2 h3 => H q p q' l s n y h1 h2 h3) N 0 bM (by omega) (fun a h => absurd h (Nat.not_lt_zero a))
end yts
