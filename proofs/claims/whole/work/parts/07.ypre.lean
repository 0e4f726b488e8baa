/-! Y: what derives some string; what may begin here and go beyond the end -/
section yps
variable {yN yT yB yR yS yW yG yH yK yI : Int32} {bL bS bN bY bW bM bK bR gL gS gN gY kL kS kN kY bI bD bP bQ bC bX : Nat → Int32}
variable {n L i r : Nat} {tx st lh ln : Nat → Nat} {sy : Nat → Nat → Nat} {P : Nat → Prop}
def yp_A (ln : Nat → Nat) (sy : Nat → Nat → Nat) (P : Nat → Prop) (r k : Nat) : Prop := ∀ k', k ≤ k' → k' < ln r → sy r k' < 12 → P (sy r k')
theorem yp_2 {post : Int32 → Prop} (hg : gy_R n kL kS kN kY st lh ln sy) (hr : r < n) (hP : ya_R bQ 12 P) :
    ∀ d k, k + d = ln r → post (bz_I (yp_A ln sy P r k)) → wY_allProd_2 post (nI r) yN yT yB yR yS yW yG yH yK yI bL bS bN bY bW bM bK bR gL gS gN gY kL kS kN kY bI bD bP bQ bC bX (d + 1) (nI k) := by
  obtain ⟨hn, hg⟩ := hg
  obtain ⟨_, _, hS, hN, hl, hY⟩ := hg r hr
  have eN : kN (nI r).toNatClampNeg = nI (ln r) := by rw [nI_clamp (by omega)]; exact hN
  have eS : ∀ k, kS (nI r).toNatClampNeg + nI k = nI (st r + k) := fun k => by rw [nI_clamp (by omega), hS, nI_add]
  intro d
  induction d with
  | zero =>
    intro k hk H
    rw [bz_t (P := yp_A ln sy P r k) (fun k' h1 h2 _ => by omega)] at H
    exact ⟨vp_in_nI (by omega) (by decide), br_t (by rw [eN]; exact nI_le (by omega) (by omega)) H⟩
  | succ d ih =>
    intro k hk H
    have hs := hY k (by omega)
    refine ⟨vp_in_nI (by omega) (by decide), br_f (by rw [eN]; exact nI_ge (by omega) (by omega)) ⟨vp_in_nI (by omega) (by decide), pk_in (st r + k) 32 (by omega) (eS k), nm_r (e' := cd_Y (sy r k)) (by rw [eS, nI_clamp (by omega)]; exact hs.1) ?_⟩⟩
    have nx : (sy r k < 12 → P (sy r k)) → wY_allProd_2 post (nI r) yN yT yB yR yS yW yG yH yK yI bL bS bN bY bW bM bK bR gL gS gN gY kL kS kN kY bI bD bP bQ bC bX (d + 1) (nI (k + 1)) := fun z =>
      ih (k + 1) (by omega) (by
        rw [bz_c (Q := yp_A ln sy P r k)]
        · exact H
        · refine ⟨fun h k' h1 h2 h3 => ?_, fun h k' h1 h2 h3 => h k' (by omega) h2 h3⟩
          rcases Nat.lt_or_ge k k' with y | y
          · exact h k' y h2 h3
          · have e : k' = k := by omega
            subst e
            exact z h3)
    rcases Nat.lt_or_ge (sy r k) 12 with z | z
    · rw [cd_n z]
      refine br_f (nI_pos (by omega)) (br_f (nI_ge (b := 12) z (by decide)) ⟨vp_in_nI z (by decide), bz_br (by rw [nI_clamp (by omega)]; exact hP _ z) (fun y => ?_) (fun y => nm_r (nI_1 k) (nx fun _ => y))⟩)
      exact bz_p0 H (fun h => y (h k (Nat.le_refl k) (by omega) z))
    · exact br_t (cd_t1 _ hs.2 z) (nm_r (nI_1 k) (nx fun h => by omega))
theorem yp_L {post : Int32 → Prop} {k : Nat} (hg : gy_R n kL kS kN kY st lh ln sy) (hr : r < n) (hP : ya_R bQ 12 P) (hk : k ≤ ln r) (H : post (bz_I (yp_A ln sy P r k))) : wpY_allProd post (yN, yT, yB, yR, yS, yW, yG, yH, yK, yI, bL, bS, bN, bY, bW, bM, bK, bR, gL, gS, gN, gY, kL, kS, kN, kY, bI, bD, bP, bQ, bC, bX) (nI r) (nI k) :=
  ⟨ln r - k + 1, yp_2 hg hr hP (ln r - k) k (by omega) H⟩
theorem yp_33 {post : SY → Prop} {J23 : Int32 → (Nat → Int32) → (Nat → Int32) → (Nat → Int32) → (Nat → Int32) → (Nat → Int32) → (Nat → Int32) → (Nat → Int32) → (Nat → Int32) → (Nat → Int32) → (Nat → Int32) → (Nat → Int32) → (Nat → Int32) → (Nat → Int32) → (Nat → Int32) → (Nat → Int32) → (Nat → Int32) → (Nat → Int32) → (Nat → Int32) → (Nat → Int32) → (Nat → Int32) → (Nat → Int32) → (Nat → Int32) →  Prop} (x1 : Int32) {P0 : Nat → Prop} (hg : gy_R n kL kS kN kY st lh ln sy)
    (hJ0 : ∀ q P, ya_R q 12 P → (∀ a, P a → pd_D n lh ln sy a) → (∀ r, r < n → yp_A ln sy P r 0 → P (lh r)) → post (yN, yT, yB, yR, yS, yW, yG, yH, nI n, yI, bL, bS, bN, bY, bW, bM, bK, bR, gL, gS, gN, gY, kL, kS, kN, kY, bI, bD, bP, q, bC, bX))
    (hJ1 : ∀ q P, ya_R q 12 P → (∀ a, P a → pd_D n lh ln sy a) → cn P0 12 < cn P 12 → J23 (x1 + 1) bL bS bN bY bW bM bK bR gL gS gN gY kL kS kN kY bI bD bP q bC bX) :
    ∀ w r q P x2, r + w = n → ya_R q 12 P → (∀ a, P a → pd_D n lh ln sy a) → ((x2 = 0 ∧ P = P0 ∧ ∀ r', r' < r → yp_A ln sy P r' 0 → P (lh r')) ∨ (x2 = 1 ∧ cn P0 12 < cn P 12)) →
      wY_computeProd_33 post J23 x1 yN yT yB yR yS yW yG yH (nI n) yI (w + 1) x2 (nI r) bL bS bN bY bW bM bK bR gL gS gN gY kL kS kN kY bI bD bP q bC bX := by
  have hn := hg.1
  intro w
  induction w with
  | zero =>
    intro r q P x2 hr hq hs hx
    have e : r = n := by omega
    subst e
    refine br_t (nI_le (Nat.le_refl _) (by omega)) ?_
    rcases hx with ⟨h, he, h2⟩ | ⟨h, h2⟩
    · subst h; exact br_t rfl (hJ0 q P hq hs h2)
    · subst h; exact br_f (by decide) (nm_e (hJ1 q P hq hs h2))
  | succ w ih =>
    intro r q P x2 hr hq hs hx
    have hl := hg.2 r (by omega)
    have h12 := hl.2.1
    have eL : kL (nI r).toNatClampNeg = nI (lh r) := by rw [nI_clamp (by omega)]; exact hl.1
    refine br_f (nI_ge (by omega) (by omega)) ⟨vp_in_nI (by omega) (by decide), pk_in (lh r) 12 h12 eL, ?_⟩
    refine bz_br (P := P (lh r)) (by rw [eL, nI_clamp (by omega)]; exact hq _ h12) (fun z => ?_) (fun z => ?_)
    · refine yp_L (k := 0) hg (by omega) hq (Nat.zero_le _) (bz_br rfl (fun z2 => ?_) (fun z2 => ⟨vp_in_nI (by omega) (by decide), pk_in (lh r) 12 h12 eL, nm_r (e' := upd q (lh r) 1) (by rw [eL, nI_clamp (by omega)]; rfl) ?_⟩))
      · refine nm_r (nI_1 r) (ih (r + 1) q P x2 (by omega) hq hs (hx.imp (fun h => ⟨h.1, h.2.1, fun r' hr' => ?_⟩) id))
        rcases Nat.lt_or_ge r' r with y | y
        · exact h.2.2 r' y
        · have e : r' = r := by omega
          subst e
          exact fun hp => absurd hp z2
      · have hcn : cn P 12 < cn (fun a => P a ∨ a = lh r) 12 := cn_lt (a := lh r) z (Or.inr rfl) (fun _ _ h => Or.inl h) h12
        refine nm_r (nI_1 r) (ih (r + 1) _ (fun a => P a ∨ a = lh r) 1 (by omega) (ya_u hq (lh r)) ?_ (Or.inr ⟨rfl, ?_⟩))
        · rintro a (h | h)
          · exact hs a h
          · subst h
            exact pd_cl (by omega) fun k hk h => hs _ (z2 k (Nat.zero_le k) hk h)
        · rcases hx with h | h
          · rw [← h.2.1]; exact hcn
          · exact Nat.lt_trans h.2 hcn
    · refine nm_r (nI_1 r) (ih (r + 1) q P x2 (by omega) hq hs (hx.imp (fun h => ⟨h.1, h.2.1, fun r' hr' => ?_⟩) id))
      rcases Nat.lt_or_ge r' r with y | y
      · exact h.2.2 r' y
      · have e : r' = r := by omega
        subst e
        exact fun _ => z
theorem yp_23 {post : SY → Prop} (hg : gy_R n kL kS kN kY st lh ln sy) (H : ∀ q, ya_R q 12 (pd_D n lh ln sy) → post (yN, yT, yB, yR, yS, yW, yG, yH, nI n, yI, bL, bS, bN, bY, bW, bM, bK, bR, gL, gS, gN, gY, kL, kS, kN, kY, bI, bD, bP, q, bC, bX)) :
    ∀ w p q P, p + w = 13 → ya_R q 12 P → (∀ a, P a → pd_D n lh ln sy a) → p ≤ cn P 12 → wY_computeProd_23 post yN yT yB yR yS yW yG yH (nI n) yI (w + 1) (nI p) bL bS bN bY bW bM bK bR gL gS gN gY kL kS kN kY bI bD bP q bC bX := by
  intro w
  induction w with
  | zero =>
    intro p q P hp hq hs hc
    have := cn_le P 12
    omega
  | succ w ih =>
    intro p q P hp hq hs hc
    refine br_f (nI_ge (b := 13) (by omega) (by decide)) ⟨n + 1, yp_33 (P0 := P) (nI p) hg (fun q' P' hq' hs' hc' => H q' (ya_c hq' fun a _ => ⟨hs' a, fun d => d P' fun r hr h => hc' r hr fun k _ h2 h3 => h k h2 h3⟩)) (fun q' P' hq' hs' hc' => ?_) n 0 q P 0 (by omega) hq hs (Or.inl ⟨rfl, rfl, fun r' hr' => absurd hr' (Nat.not_lt_zero r')⟩)⟩
    rw [nI_1]
    exact ih (p + 1) q' P' (by omega) hq' hs' (by omega)
theorem yp_2c {post : SY → Prop} (hg : gy_R n kL kS kN kY st lh ln sy) (H : ∀ q, ya_R q 12 (pd_D n lh ln sy) → post (yN, yT, yB, yR, yS, yW, yG, yH, nI n, yI, bL, bS, bN, bY, bW, bM, bK, bR, gL, gS, gN, gY, kL, kS, kN, kY, bI, bD, bP, q, bC, bX)) :
    ∀ w p q, p + w = 12 → (∀ a, a < p → q a = 0) → wY_computeProd_2 post yN yT yB yR yS yW yG yH (nI n) yI (w + 1) (nI p) bL bS bN bY bW bM bK bR gL gS gN gY kL kS kN kY bI bD bP q bC bX := by
  intro w
  induction w with
  | zero =>
    intro p q hp hq
    have e : p = 12 := by omega
    subst e
    exact br_t (nI_le (a := 12) (Nat.le_refl _) (by decide)) ⟨13 + 1, yp_23 hg H 13 0 q (fun _ => False) (by omega) (ya_0 hq fun _ _ z => z) (fun _ h => h.elim) (Nat.zero_le _)⟩
  | succ w ih =>
    intro p q hp hq
    refine br_f (nI_ge (b := 12) (by omega) (by decide)) ⟨vp_in_nI (by omega) (by decide), nm_r (e' := upd q p 0) (by rw [nI_clamp (by omega)]; rfl) (nm_r (nI_1 p) (ih (p + 1) _ (by omega) fun a ha => ?_))⟩
    by_cases z : a = p
    · subst z; exact pk_us
    · rw [pk_un z]; exact hq a (by omega)
theorem yp_P {post : SY → Prop} (hg : gy_R n kL kS kN kY st lh ln sy) (H : ∀ q, ya_R q 12 (pd_D n lh ln sy) → post (yN, yT, yB, yR, yS, yW, yG, yH, nI n, yI, bL, bS, bN, bY, bW, bM, bK, bR, gL, gS, gN, gY, kL, kS, kN, kY, bI, bD, bP, q, bC, bX)) : wpY_computeProd post (yN, yT, yB, yR, yS, yW, yG, yH, nI n, yI, bL, bS, bN, bY, bW, bM, bK, bR, gL, gS, gN, gY, kL, kS, kN, kY, bI, bD, bP, bQ, bC, bX) :=
  ⟨12 + 1, yp_2c hg H 12 0 bQ (by omega) (fun a ha => absurd ha (Nat.not_lt_zero a))⟩
end yps
/-- pre holds a relation -/
def yq_R (L : Nat) (b : Nat → Int32) (P : Nat → Nat → Prop) : Prop := ∀ a i, a < 12 → i ≤ L → b (a * 14 + i) = bz_I (P a i)
section yqs
variable {yN yT yB yR yS yW yG yH yK yI : Int32} {bL bS bN bY bW bM bK bR gL gS gN gY kL kS kN kY bI bD bP bQ bC bX : Nat → Int32}
variable {n L i r : Nat} {tx st lh ln : Nat → Nat} {sy : Nat → Nat → Nat} {P : Nat → Nat → Prop}
theorem yq_S {post : Int32 → Prop} {s p : Nat} (hL : L ≤ 13) (hp : p ≤ L) (hs : s < 16) (hP : yq_R L bP P) (hI : ∀ p, p < L → bI p = nI (tx p) ∧ tx p < 4) (H : post (bz_I (pf_S tx L P s p))) : wpY_symPrefix post (yN, yT, yB, yR, yS, yW, yG, yH, yK, nI L, bL, bS, bN, bY, bW, bM, bK, bR, gL, gS, gN, gY, kL, kS, kN, kY, bI, bD, bP, bQ, bC, bX) (cd_Y s) (nI p) := by
  rcases Nat.lt_or_ge s 12 with z | z
  · refine br_t (cd_n3 s z) ?_
    rw [cd_n z]
    refine br_f (nI_ge (b := 12) z (by decide)) ⟨pk_in (s * 14 + p) 168 (by omega) (xp_ix s p), bz_br (by rw [xp_ix, nI_clamp (by omega)]; exact hP s p z hp) (fun y => ?_) (fun y => ?_)⟩
    · exact bz_p0 H (fun h => h.elim (fun w => by omega) (fun w => y w.2))
    · exact bz_p1 H (Or.inr ⟨z, y⟩)
  · refine br_f (cd_t3 s hs z) (pk_eq p L (fun e => ?_) (fun e => ?_))
    · exact bz_p1 H (Or.inl ⟨z, Or.inl e⟩)
    · have hI' := hI p (by omega)
      obtain ⟨M, rfl⟩ : ∃ M, L = M + 1 := ⟨L - 1, by omega⟩
      refine pk_eq p M (fun e2 => ⟨vp_in_nI (by omega) (by decide), pk_eq (tx p) (s - 12) (fun e3 => ?_) (fun e3 => ?_) (by rw [nI_clamp (by omega)]; exact hI'.1) (cd_t2 s hs z) (by omega) (by omega)⟩) (fun e2 => ?_) rfl (nI_pred M)
      · exact bz_p1 H (Or.inl ⟨z, Or.inr ⟨by omega, e3⟩⟩)
      · exact bz_p0 H (fun h => h.elim (fun w => w.2.elim e (fun y => e3 y.2)) (fun w => by omega))
      · exact bz_p0 H (fun h => h.elim (fun w => w.2.elim e (fun y => by omega)) (fun w => by omega))
/-- at place k of rule r, position p: from here on the text's end is passed -/
def yq_X (n : Nat) (lh ln : Nat → Nat) (sy : Nat → Nat → Nat) (tx : Nat → Nat) (L : Nat) (P : Nat → Nat → Prop) (r i k p : Nat) : Prop :=
  dv_P (fun k => dv_St (dv_D n lh ln sy (tm_s false tx L)) (tm_s false tx L) (sy r k)) i k p ∧ p ≤ L ∧ pf_S tx L P (sy r k) p ∧ yp_A ln sy (pd_D n lh ln sy) r (k + 1)
theorem yq_58 {post : Int32 → SY → Prop} {J30 : Int32 → Int32 → Int32 → Int32 → Int32 → Int32 → Int32 → Int32 → Int32 → Int32 → Int32 → (Nat → Int32) → (Nat → Int32) → (Nat → Int32) → (Nat → Int32) → (Nat → Int32) → (Nat → Int32) → (Nat → Int32) → (Nat → Int32) → (Nat → Int32) → (Nat → Int32) → (Nat → Int32) → (Nat → Int32) → (Nat → Int32) → (Nat → Int32) → (Nat → Int32) → (Nat → Int32) → (Nat → Int32) → (Nat → Int32) → (Nat → Int32) → (Nat → Int32) → (Nat → Int32) → (Nat → Int32) →  Prop} {k : Nat} (hL : L ≤ 13) (hi : i ≤ L) (hg : gy_R n kL kS kN kY st lh ln sy) (hr : r < n) (hk : k < ln r) (hD : yd_R L bD (dv_D n lh ln sy (tm_s false tx L))) (hQ : ya_R bQ 12 (pd_D n lh ln sy)) (hP : yq_R L bP P) (hI : ∀ p, p < L → bI p = nI (tx p) ∧ tx p < 4)
    (hC : ya_R bC 14 (fun p => dv_P (fun k => dv_St (dv_D n lh ln sy (tm_s false tx L)) (tm_s false tx L) (sy r k)) i k p ∧ p ≤ L))
    (hY : (∃ p, yq_X n lh ln sy tx L P r i k p) → post 1 (yN, yT, yB, yR, yS, yW, yG, yH, yK, nI L, bL, bS, bN, bY, bW, bM, bK, bR, gL, gS, gN, gY, kL, kS, kN, kY, bI, bD, bP, bQ, bC, bX))
    (hN : (∀ p, ¬ yq_X n lh ln sy tx L P r i k p) → ∀ c x, ya_R c 14 (fun p => dv_P (fun k => dv_St (dv_D n lh ln sy (tm_s false tx L)) (tm_s false tx L) (sy r k)) i (k + 1) p ∧ p ≤ L) → J30 (nI (k + 1)) yN yT yB yR yS yW yG yH yK (nI L) bL bS bN bY bW bM bK bR gL gS gN gY kL kS kN kY bI bD bP bQ c x) :
    ∀ w p, p + w = L + 1 → i ≤ p → (∀ p', p' < p → ¬ yq_X n lh ln sy tx L P r i k p') → wY_rulePrefix_58 post J30 (nI r) (nI i) (nI k) (cd_Y (sy r k)) yN yT yB yR yS yW yG yH yK (nI L) bL bS bN bY bW bM bK bR gL gS gN gY kL kS kN kY bI bD bP bQ bC bX (w + 1) (nI p) := by
  have hs := ((hg.2 r hr).2.2.2.2.2 k hk).2
  have hDle : ∀ a i j, dv_D n lh ln sy (tm_s false tx L) a i j → i ≤ j := fun a i j => dv_D_le tm_le
  have hkn := (hg.2 r hr).2.2.2.2.1
  intro w
  induction w with
  | zero =>
    intro p hp hip hx
    refine br_t (nI_lt (by omega) (by omega)) (yv_A hi (Nat.le_refl L) hL hs hD hDle hI hC fun c x hc => nm_r (nI_1 k) (hN (fun p' h => hx p' (by have := h.2.1; omega) h) c x (ya_c hc fun q _ => ?_)))
    exact yr_s hDle tm_le (fun k m q s => dv_St_le hDle tm_le s) (fun _ _ => Iff.rfl) (fun m hm => ⟨And.left, fun h => ⟨h, hm⟩⟩)
  | succ w ih =>
    intro p hp hip hx
    have nx : ¬ yq_X n lh ln sy tx L P r i k p → wY_rulePrefix_58 post J30 (nI r) (nI i) (nI k) (cd_Y (sy r k)) yN yT yB yR yS yW yG yH yK (nI L) bL bS bN bY bW bM bK bR gL gS gN gY kL kS kN kY bI bD bP bQ bC bX (w + 1) (nI (p + 1)) := fun z =>
      ih (p + 1) (by omega) (by omega) fun p' hp' => by
        rcases Nat.lt_or_ge p' p with y | y
        · exact hx p' y
        · have e : p' = p := by omega
          subst e
          exact z
    have hCp : bC p = bz_I (dv_P (fun k => dv_St (dv_D n lh ln sy (tm_s false tx L)) (tm_s false tx L) (sy r k)) i k p ∧ p ≤ L) := hC p (by omega)
    refine br_f (nI_nlt (by omega) (by omega)) ⟨vp_in_nI (by omega) (by decide), bz_br ((congrArg bC (nI_clamp (by omega))).trans hCp) (fun z => nm_r (nI_1 p) (nx fun h => z ⟨h.1, h.2.1⟩)) (fun z => ?_)⟩
    refine yq_S hL (by omega) hs hP hI (bz_br rfl (fun z2 => nm_r (nI_1 p) (nx fun h => z2 h.2.2.1)) (fun z2 => ?_))
    rw [nI_1 k]
    refine yp_L hg hr hQ hk (bz_br rfl (fun z3 => nm_r (nI_1 p) (nx fun h => z3 h.2.2.2)) (fun z3 => hY ⟨p, z.1, z.2, z2, z3⟩))
theorem yq_30 {post : Int32 → SY → Prop} (hL : L ≤ 13) (hi : i ≤ L) (hg : gy_R n kL kS kN kY st lh ln sy) (hr : r < n) (hD : yd_R L bD (dv_D n lh ln sy (tm_s false tx L))) (hQ : ya_R bQ 12 (pd_D n lh ln sy)) (hP : yq_R L bP P) (hI : ∀ p, p < L → bI p = nI (tx p) ∧ tx p < 4)
    (H : ∀ c x, post (bz_I (pf_R n lh ln sy tx L P r i)) (yN, yT, yB, yR, yS, yW, yG, yH, yK, nI L, bL, bS, bN, bY, bW, bM, bK, bR, gL, gS, gN, gY, kL, kS, kN, kY, bI, bD, bP, bQ, c, x)) :
    ∀ d k c x, k + d = ln r → (∀ k' p, k' < k → ¬ yq_X n lh ln sy tx L P r i k' p) → ya_R c 14 (fun p => dv_P (fun k => dv_St (dv_D n lh ln sy (tm_s false tx L)) (tm_s false tx L) (sy r k)) i k p ∧ p ≤ L) → wY_rulePrefix_30 post (nI r) (nI i) (d + 1) (nI k) yN yT yB yR yS yW yG yH yK (nI L) bL bS bN bY bW bM bK bR gL gS gN gY kL kS kN kY bI bD bP bQ c x := by
  have hn := hg.1
  obtain ⟨_, _, hS, hN, hl, hY⟩ := hg.2 r hr
  have eN : kN (nI r).toNatClampNeg = nI (ln r) := by rw [nI_clamp (by omega)]; exact hN
  have eS : ∀ k, kS (nI r).toNatClampNeg + nI k = nI (st r + k) := fun k => by rw [nI_clamp (by omega), hS, nI_add]
  intro d
  induction d with
  | zero =>
    intro k c x hk hx hc
    have e : k = ln r := by omega
    subst e
    have hv : c (nI L).toNatClampNeg = bz_I (pf_R n lh ln sy tx L P r i) := by
      rw [nI_clamp (by omega), hc L (by omega)]
      exact bz_c ⟨fun h => Or.inl h.1, fun h => h.elim (fun y => ⟨y, Nat.le_refl L⟩) fun ⟨k, p, h1, h2, h3, h4, h5⟩ => absurd ⟨h2, h3, h4, fun k' a b c => h5 k' a b c⟩ (hx k p h1)⟩
    refine ⟨vp_in_nI (by omega) (by decide), br_t (by rw [eN]; exact nI_le (Nat.le_refl _) (by omega)) ⟨vp_in_nI (by omega) (by decide), ?_⟩⟩
    rw [hv]
    exact ⟨(bz_n _).1, H c x⟩
  | succ d ih =>
    intro k c x hk hx hc
    have hs := hY k (by omega)
    refine ⟨vp_in_nI (by omega) (by decide), br_f (by rw [eN]; exact nI_ge (by omega) (by omega)) ⟨vp_in_nI (by omega) (by decide), pk_in (st r + k) 32 (by omega) (eS k), nm_r (e' := cd_Y (sy r k)) (by rw [eS, nI_clamp (by omega)]; exact hs.1) ⟨L + 1 - i + 1, ?_⟩⟩⟩
    have yes : (∃ p, yq_X n lh ln sy tx L P r i k p) → post 1 (yN, yT, yB, yR, yS, yW, yG, yH, yK, nI L, bL, bS, bN, bY, bW, bM, bK, bR, gL, gS, gN, gY, kL, kS, kN, kY, bI, bD, bP, bQ, c, x) := by
      rintro ⟨p, h⟩
      have := H c x
      rw [bz_t (P := pf_R n lh ln sy tx L P r i) (Or.inr ⟨k, p, by omega, h.1, h.2.1, h.2.2.1, fun k' a b c => h.2.2.2 k' a b c⟩)] at this
      exact this
    refine yq_58 hL hi hg hr (by omega) hD hQ hP hI hc yes (fun h c' x' hc' => ih (k + 1) c' x' (by omega) (fun k' p hk' => ?_) hc') (L + 1 - i) i (by omega) (Nat.le_refl i) (fun p' hp' h => ?_)
    · rcases Nat.lt_or_ge k' k with y | y
      · exact hx k' p y
      · have e : k' = k := by omega
        subst e
        exact h p
    · have := dv_P_le (fun k m q s => dv_St_le (fun a i j => dv_D_le tm_le) tm_le s) _ _ h.1
      omega
theorem yq_2 {post : Int32 → SY → Prop} (hL : L ≤ 13) (hi : i ≤ L) (hg : gy_R n kL kS kN kY st lh ln sy) (hr : r < n) (hD : yd_R L bD (dv_D n lh ln sy (tm_s false tx L))) (hQ : ya_R bQ 12 (pd_D n lh ln sy)) (hP : yq_R L bP P) (hI : ∀ p, p < L → bI p = nI (tx p) ∧ tx p < 4)
    (H : ∀ c x, post (bz_I (pf_R n lh ln sy tx L P r i)) (yN, yT, yB, yR, yS, yW, yG, yH, yK, nI L, bL, bS, bN, bY, bW, bM, bK, bR, gL, gS, gN, gY, kL, kS, kN, kY, bI, bD, bP, bQ, c, x)) :
    ∀ d p c, p + d = 14 → (∀ q, q < p → c q = 0) → wY_rulePrefix_2 post (nI r) (nI i) yN yT yB yR yS yW yG yH yK (nI L) (d + 1) (nI p) bL bS bN bY bW bM bK bR gL gS gN gY kL kS kN kY bI bD bP bQ c bX := by
  intro d
  induction d with
  | zero =>
    intro p c hp hc
    have e : p = 14 := by omega
    subst e
    refine br_t (nI_le (a := 14) (Nat.le_refl _) (by decide)) ⟨vp_in_nI (by omega) (by decide), nm_r (e' := upd c i 1) (by rw [nI_clamp (by omega)]; rfl) ⟨ln r + 1, yq_30 hL hi hg hr hD hQ hP hI H (ln r) 0 _ bX (by omega) (fun k' p h => absurd h (Nat.not_lt_zero k')) ?_⟩⟩
    refine ya_c (ya_u (P := fun _ => False) (ya_0 hc fun _ _ z => z) i) fun q _ => ?_
    constructor
    · rintro (h | h)
      · exact h.elim
      · subst h; exact ⟨rfl, hi⟩
    · rintro ⟨h, _⟩
      exact Or.inr h.symm
  | succ d ih =>
    intro p c hp hc
    refine br_f (nI_ge (b := 14) (by omega) (by decide)) ⟨vp_in_nI (by omega) (by decide), nm_r (e' := upd c p 0) (by rw [nI_clamp (by omega)]; rfl) (nm_r (nI_1 p) (ih (p + 1) _ (by omega) fun q hq => ?_))⟩
    by_cases z : q = p
    · subst z; exact pk_us
    · rw [pk_un z]; exact hc q (by omega)
theorem yq_P {post : Int32 → SY → Prop} (hL : L ≤ 13) (hi : i ≤ L) (hg : gy_R n kL kS kN kY st lh ln sy) (hr : r < n) (hD : yd_R L bD (dv_D n lh ln sy (tm_s false tx L))) (hQ : ya_R bQ 12 (pd_D n lh ln sy)) (hP : yq_R L bP P) (hI : ∀ p, p < L → bI p = nI (tx p) ∧ tx p < 4)
    (H : ∀ c x, post (bz_I (pf_R n lh ln sy tx L P r i)) (yN, yT, yB, yR, yS, yW, yG, yH, yK, nI L, bL, bS, bN, bY, bW, bM, bK, bR, gL, gS, gN, gY, kL, kS, kN, kY, bI, bD, bP, bQ, c, x)) : wpY_rulePrefix post (yN, yT, yB, yR, yS, yW, yG, yH, yK, nI L, bL, bS, bN, bY, bW, bM, bK, bR, gL, gS, gN, gY, kL, kS, kN, kY, bI, bD, bP, bQ, bC, bX) (nI r) (nI i) :=
  ⟨14 + 1, yq_2 hL hi hg hr hD hQ hP hI H 14 0 bC (by omega) (fun q hq => absurd hq (Nat.not_lt_zero q))⟩
end yqs
