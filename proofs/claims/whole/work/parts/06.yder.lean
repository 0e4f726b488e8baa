/-! Y: the spans -/
section yds
variable {yN yT yB yR yS yW yG yH yK yI : Int32} {bL bS bN bY bW bM bK bR gL gS gN gY kL kS kN kY bI bD bP bQ bC bX : Nat → Int32}
variable {n L i j : Nat} {tx st lh ln : Nat → Nat} {sy : Nat → Nat → Nat} {E0 : Nat → Nat → Nat → Prop}
/-- rule r adds nothing at the span from i to j -/
def ye_c (lh ln : Nat → Nat) (sy : Nat → Nat → Nat) (T E : Nat → Nat → Nat → Prop) (i j r : Nat) : Prop := dv_P (fun k => dv_St E T (sy r k)) i (ln r) j → E (lh r) i j
/-- the invariant of a span's passes -/
def ye_I (n L : Nat) (lh ln : Nat → Nat) (sy : Nat → Nat → Nat) (T : Nat → Nat → Nat → Prop) (E0 : Nat → Nat → Nat → Prop) (i j : Nat) (d : Nat → Int32) (E : Nat → Nat → Nat → Prop) : Prop :=
  yd_R L d E ∧ (∀ a m q, E a m q → dv_D n lh ln sy T a m q) ∧ (∀ a m q, ¬ (m = i ∧ q = j) → (E a m q ↔ E0 a m q))
theorem ye_u {E : Nat → Nat → Nat → Prop} {a : Nat} (hL : L ≤ 13) (ha : a < 12) (hi : i ≤ L) (hj : j ≤ L) (hD : yd_R L bD E) : yd_R L (upd bD (a * 196 + i * 14 + j) 1) (fun b m q => E b m q ∨ (b = a ∧ m = i ∧ q = j)) := by
  intro b m q hb hm hq
  by_cases z : b * 196 + m * 14 + q = a * 196 + i * 14 + j
  · have e1 : b = a := by omega
    have e2 : m = i := by omega
    have e3 : q = j := by omega
    rw [z, pk_us, bz_t (Or.inr ⟨e1, e2, e3⟩)]
  · rw [pk_un z, hD b m q hb hm hq]
    exact bz_c ⟨Or.inl, fun h => h.elim id fun ⟨x, y, w⟩ => by subst x y w; exact absurd rfl z⟩
theorem ye_14 {post : SY → Prop} {J2 : Int32 → Int32 → Int32 → Int32 → Int32 → Int32 → Int32 → Int32 → Int32 → Int32 → Int32 → (Nat → Int32) → (Nat → Int32) → (Nat → Int32) → (Nat → Int32) → (Nat → Int32) → (Nat → Int32) → (Nat → Int32) → (Nat → Int32) → (Nat → Int32) → (Nat → Int32) → (Nat → Int32) → (Nat → Int32) → (Nat → Int32) → (Nat → Int32) → (Nat → Int32) → (Nat → Int32) → (Nat → Int32) → (Nat → Int32) → (Nat → Int32) → (Nat → Int32) → (Nat → Int32) → (Nat → Int32) →  Prop} (x3 : Int32) {Ep : Nat → Nat → Nat → Prop} (hij : i ≤ j) (hj : j ≤ L) (hL : L ≤ 13) (hg : gy_R n kL kS kN kY st lh ln sy) (hI : ∀ p, p < L → bI p = nI (tx p) ∧ tx p < 4)
    (hJ0 : ∀ d E c x, ye_I n L lh ln sy (tm_s false tx L) E0 i j d E → (∀ r, r < n → ye_c lh ln sy (tm_s false tx L) E i j r) → post (yN, yT, yB, yR, yS, yW, yG, yH, nI n, nI L, bL, bS, bN, bY, bW, bM, bK, bR, gL, gS, gN, gY, kL, kS, kN, kY, bI, d, bP, bQ, c, x))
    (hJ1 : ∀ d E c x, ye_I n L lh ln sy (tm_s false tx L) E0 i j d E → cn (fun a => Ep a i j) 12 < cn (fun a => E a i j) 12 → J2 (x3 + 1) yN yT yB yR yS yW yG yH (nI n) (nI L) bL bS bN bY bW bM bK bR gL gS gN gY kL kS kN kY bI d bP bQ c x) :
    ∀ w r d E c x x4, r + w = n → ye_I n L lh ln sy (tm_s false tx L) E0 i j d E → ((x4 = 0 ∧ E = Ep ∧ ∀ r', r' < r → ye_c lh ln sy (tm_s false tx L) E i j r') ∨ (x4 = 1 ∧ cn (fun a => Ep a i j) 12 < cn (fun a => E a i j) 12)) →
      wY_fillSpan_14 post J2 (nI i) (nI j) x3 (w + 1) x4 (nI r) yN yT yB yR yS yW yG yH (nI n) (nI L) bL bS bN bY bW bM bK bR gL gS gN gY kL kS kN kY bI d bP bQ c x := by
  have hn := hg.1
  intro w
  induction w with
  | zero =>
    intro r d E c x x4 hr hE hx
    have e : r = n := by omega
    subst e
    refine br_t (nI_le (Nat.le_refl _) (by omega)) ?_
    rcases hx with ⟨h, he, h2⟩ | ⟨h, h2⟩
    · subst h; exact br_t rfl (hJ0 d E c x hE h2)
    · subst h; exact br_f (by decide) (nm_e (hJ1 d E c x hE h2))
  | succ w ih =>
    intro r d E c x x4 hr hE hx
    have hl := hg.2 r (by omega)
    have h12 := hl.2.1
    obtain ⟨hD, hs, ha⟩ := hE
    have hle : ∀ a i j, E a i j → i ≤ j := fun a i j h => dv_D_le tm_le (hs a i j h)
    refine br_f (nI_ge (by omega) (by omega)) ⟨vp_in_nI (by omega) (by decide), nm_r (e' := nI (lh r * 196 + i * 14 + j)) (by rw [nI_clamp (by omega), hl.1, yd_ix]) ⟨vp_in_nI (by omega) (by decide), ?_⟩⟩
    refine bz_br (P := E (lh r) i j) (by rw [nI_clamp (by omega)]; exact hD (lh r) i j h12 (by omega) hj) (fun z => ?_) (fun z => ?_)
    · refine yr_R hij hj hL hg (by omega) hD hle hI fun c' x' => bz_br rfl (fun z2 => ?_) (fun z2 => ⟨vp_in_nI (by omega) (by decide), nm_r (e' := upd d (lh r * 196 + i * 14 + j) 1) (by rw [nI_clamp (by omega)]; rfl) ?_⟩)
      · refine nm_r (nI_1 r) (ih (r + 1) d E c' x' x4 (by omega) ⟨hD, hs, ha⟩ (hx.imp (fun h => ⟨h.1, h.2.1, fun r' hr' => ?_⟩) id))
        rcases Nat.lt_or_ge r' r with y | y
        · exact h.2.2 r' y
        · have e : r' = r := by omega
          subst e
          exact fun hp => absurd hp z2
      · have hcn : cn (fun a => E a i j) 12 < cn (fun a => E a i j ∨ (a = lh r ∧ i = i ∧ j = j)) 12 := cn_lt (a := lh r) z (Or.inr ⟨rfl, rfl, rfl⟩) (fun _ _ h => Or.inl h) h12
        refine nm_r (nI_1 r) (ih (r + 1) _ (fun b m q => E b m q ∨ (b = lh r ∧ m = i ∧ q = j)) c' x' 1 (by omega) ⟨ye_u hL h12 (by omega) hj hD, ?_, ?_⟩ (Or.inr ⟨rfl, ?_⟩))
        · rintro a m q (h | ⟨h1, h2, h3⟩)
          · exact hs a m q h
          · subst h1 h2 h3
            exact dv_cl r m q (by omega) (dv_P_mono _ _ (fun k m q _ => dv_St_mono (fun _ y => hs _ _ _ y) (fun _ t => t)) z2)
        · intro a m q h
          refine Iff.trans ⟨fun y => y.elim id fun y => absurd y.2 h, Or.inl⟩ (ha a m q h)
        · rcases hx with h | h
          · rw [← h.2.1]; exact hcn
          · exact Nat.lt_trans h.2 hcn
    · refine nm_r (nI_1 r) (ih (r + 1) d E c x x4 (by omega) ⟨hD, hs, ha⟩ (hx.imp (fun h => ⟨h.1, h.2.1, fun r' hr' => ?_⟩) id))
      rcases Nat.lt_or_ge r' r with y | y
      · exact h.2.2 r' y
      · have e : r' = r := by omega
        subst e
        exact fun _ => z
theorem ye_2 {post : SY → Prop} (hij : i ≤ j) (hj : j ≤ L) (hL : L ≤ 13) (hg : gy_R n kL kS kN kY st lh ln sy) (hI : ∀ p, p < L → bI p = nI (tx p) ∧ tx p < 4)
    (hJ0 : ∀ d E c x, ye_I n L lh ln sy (tm_s false tx L) E0 i j d E → (∀ r, r < n → ye_c lh ln sy (tm_s false tx L) E i j r) → post (yN, yT, yB, yR, yS, yW, yG, yH, nI n, nI L, bL, bS, bN, bY, bW, bM, bK, bR, gL, gS, gN, gY, kL, kS, kN, kY, bI, d, bP, bQ, c, x)) :
    ∀ w p d E c x, p + w = 13 → ye_I n L lh ln sy (tm_s false tx L) E0 i j d E → p ≤ cn (fun a => E a i j) 12 →
      wY_fillSpan_2 post (nI i) (nI j) (w + 1) (nI p) yN yT yB yR yS yW yG yH (nI n) (nI L) bL bS bN bY bW bM bK bR gL gS gN gY kL kS kN kY bI d bP bQ c x := by
  intro w
  induction w with
  | zero =>
    intro p d E c x hp hE hc
    have := cn_le (fun a => E a i j) 12
    omega
  | succ w ih =>
    intro p d E c x hp hE hc
    refine br_f (nI_ge (b := 13) (by omega) (by decide)) ⟨n + 1, ye_14 (Ep := E) (nI p) hij hj hL hg hI hJ0 (fun d' E' c' x' hE' hc' => ?_) n 0 d E c x 0 (by omega) hE (Or.inl ⟨rfl, rfl, fun r' hr' => absurd hr' (Nat.not_lt_zero r')⟩)⟩
    rw [nI_1]
    exact ih (p + 1) d' E' c' x' (by omega) hE' (by omega)
theorem ye_F {post : SY → Prop} (hij : i ≤ j) (hj : j ≤ L) (hL : L ≤ 13) (hg : gy_R n kL kS kN kY st lh ln sy) (hI : ∀ p, p < L → bI p = nI (tx p) ∧ tx p < 4) (hE : ye_I n L lh ln sy (tm_s false tx L) E0 i j bD E0)
    (hJ0 : ∀ d E c x, ye_I n L lh ln sy (tm_s false tx L) E0 i j d E → (∀ r, r < n → ye_c lh ln sy (tm_s false tx L) E i j r) → post (yN, yT, yB, yR, yS, yW, yG, yH, nI n, nI L, bL, bS, bN, bY, bW, bM, bK, bR, gL, gS, gN, gY, kL, kS, kN, kY, bI, d, bP, bQ, c, x)) : wpY_fillSpan post (yN, yT, yB, yR, yS, yW, yG, yH, nI n, nI L, bL, bS, bN, bY, bW, bM, bK, bR, gL, gS, gN, gY, kL, kS, kN, kY, bI, bD, bP, bQ, bC, bX) (nI i) (nI j) :=
  ⟨13 + 1, ye_2 hij hj hL hg hI hJ0 13 0 bD E0 bC bX (by omega) hE (Nat.zero_le _)⟩
/-- closed at every span that comes before (l, i): shorter, or as long and further left -/
def ye_B (n L : Nat) (lh ln : Nat → Nat) (sy : Nat → Nat → Nat) (T : Nat → Nat → Nat → Prop) (l i : Nat) (d : Nat → Int32) (E : Nat → Nat → Nat → Prop) : Prop :=
  yd_R L d E ∧ (∀ a m q, E a m q → dv_D n lh ln sy T a m q) ∧ ∀ m q, m ≤ q → q ≤ L → (q < m + l ∨ (q = m + l ∧ m < i)) → ∀ r, r < n → ye_c lh ln sy T E m q r
theorem ye_st {d d' : Nat → Int32} {E E' : Nat → Nat → Nat → Prop} {l : Nat} (hB : ye_B n L lh ln sy (tm_s false tx L) l i d E) (hI : ye_I n L lh ln sy (tm_s false tx L) E i (i + l) d' E') (hc : ∀ r, r < n → ye_c lh ln sy (tm_s false tx L) E' i (i + l) r) : ye_B n L lh ln sy (tm_s false tx L) l (i + 1) d' E' := by
  obtain ⟨_, _, hB⟩ := hB
  obtain ⟨hD, hs, ha⟩ := hI
  refine ⟨hD, hs, fun m q hm hq h r hr => ?_⟩
  by_cases z : m = i ∧ q = i + l
  · obtain ⟨z1, z2⟩ := z
    subst z1 z2
    exact hc r hr
  · intro hp
    have mo : ∀ k m q, dv_St E' (tm_s false tx L) (sy r k) m q → m ≤ q := fun k m q s => dv_St_le (fun a i j h => dv_D_le tm_le (hs a i j h)) tm_le s
    refine (ha _ m q z).mpr (hB m q hm hq (by omega) r hr ?_)
    refine dv_P_mono _ _ (fun k m' q' _ s => ?_) (dv_P_in mo (ln r) q hp (Nat.le_refl q))
    exact dv_St_mono (fun _ y => (ha _ m' q' (fun w => by have := s.2.1; have := s.2.2.2; omega)).mp y) (fun _ t => t) s.1
theorem ye_fin {d : Nat → Int32} {E : Nat → Nat → Nat → Prop} (hB : ye_B n L lh ln sy (tm_s false tx L) (L + 1) 0 d E) : yd_R L d (dv_D n lh ln sy (tm_s false tx L)) := by
  obtain ⟨hD, hs, hc⟩ := hB
  have key : ∀ a i j, dv_D n lh ln sy (tm_s false tx L) a i j → i ≤ L → E a i j := by
    intro a i j dd
    refine dd (fun a i j => i ≤ L → E a i j) (fun r i j hr h hi => ?_)
    have mo : ∀ k m q, dv_St E (tm_s false tx L) (sy r k) m q → m ≤ q := fun k m q s => dv_St_le (fun a i j h => dv_D_le tm_le (hs a i j h)) tm_le s
    obtain ⟨h1, h2⟩ := dv_P_up (L := L) (Q' := fun k => dv_St E (tm_s false tx L) (sy r k)) (fun k m q hm s => by
      rcases s with ⟨z, b⟩ | ⟨z, b⟩
      · exact ⟨Or.inl ⟨z, b hm⟩, dv_D_bd tm_bd (hs _ _ _ (b hm)) hm⟩
      · exact ⟨Or.inr ⟨z, b⟩, tm_bd _ _ _ b⟩) hi (ln r) j h
    exact hc i j (dv_P_le mo _ _ h1) h2 (Or.inl (by omega)) r hr h1
  intro a i j ha hi hj
  exact (hD a i j ha hi hj).trans (bz_c ⟨hs a i j, fun x => key a i j x hi⟩)
theorem ye_34 {post : SY → Prop} {J24 : Int32 → Int32 → Int32 → Int32 → Int32 → Int32 → Int32 → Int32 → Int32 → Int32 → Int32 → (Nat → Int32) → (Nat → Int32) → (Nat → Int32) → (Nat → Int32) → (Nat → Int32) → (Nat → Int32) → (Nat → Int32) → (Nat → Int32) → (Nat → Int32) → (Nat → Int32) → (Nat → Int32) → (Nat → Int32) → (Nat → Int32) → (Nat → Int32) → (Nat → Int32) → (Nat → Int32) → (Nat → Int32) → (Nat → Int32) → (Nat → Int32) → (Nat → Int32) → (Nat → Int32) → (Nat → Int32) →  Prop} {l : Nat} (hl : l ≤ L) (hL : L ≤ 13) (hg : gy_R n kL kS kN kY st lh ln sy) (hI : ∀ p, p < L → bI p = nI (tx p) ∧ tx p < 4)
    (hJ : ∀ d E c x, ye_B n L lh ln sy (tm_s false tx L) (l + 1) 0 d E → J24 (nI (l + 1)) yN yT yB yR yS yW yG yH (nI n) (nI L) bL bS bN bY bW bM bK bR gL gS gN gY kL kS kN kY bI d bP bQ c x) :
    ∀ w i d E c x, i + l + w = L + 1 → ye_B n L lh ln sy (tm_s false tx L) l i d E → wY_computeDer_34 post J24 (nI l) (w + 1) (nI i) yN yT yB yR yS yW yG yH (nI n) (nI L) bL bS bN bY bW bM bK bR gL gS gN gY kL kS kN kY bI d bP bQ c x := by
  intro w
  induction w with
  | zero =>
    intro i d E c x hi hB
    refine br_t (by rw [nI_add]; exact nI_lt (by omega) (by omega)) (nm_r (nI_1 l) (hJ d E c x ⟨hB.1, hB.2.1, fun m q hm hq h r hr => hB.2.2 m q hm hq ?_ r hr⟩))
    omega
  | succ w ih =>
    intro i d E c x hi hB
    refine br_f (by rw [nI_add]; exact nI_nlt (by omega) (by omega)) ?_
    rw [nI_add]
    refine ye_F (E0 := E) (by omega) (by omega) hL hg hI ⟨hB.1, hB.2.1, fun _ _ _ _ => Iff.rfl⟩ fun d' E' c' x' hE' hc' => nm_r (nI_1 i) (ih (i + 1) d' E' c' x' (by omega) (ye_st hB hE' hc'))
theorem ye_24 {post : SY → Prop} (hL : L ≤ 13) (hg : gy_R n kL kS kN kY st lh ln sy) (hI : ∀ p, p < L → bI p = nI (tx p) ∧ tx p < 4)
    (H : ∀ d c x, yd_R L d (dv_D n lh ln sy (tm_s false tx L)) → post (yN, yT, yB, yR, yS, yW, yG, yH, nI n, nI L, bL, bS, bN, bY, bW, bM, bK, bR, gL, gS, gN, gY, kL, kS, kN, kY, bI, d, bP, bQ, c, x)) :
    ∀ w l d E c x, l + w = L + 1 → ye_B n L lh ln sy (tm_s false tx L) l 0 d E → wY_computeDer_24 post (w + 1) (nI l) yN yT yB yR yS yW yG yH (nI n) (nI L) bL bS bN bY bW bM bK bR gL gS gN gY kL kS kN kY bI d bP bQ c x := by
  intro w
  induction w with
  | zero =>
    intro l d E c x hl hB
    have e : l = L + 1 := by omega
    subst e
    exact br_t (nI_lt (by omega) (by omega)) (H d c x (ye_fin hB))
  | succ w ih =>
    intro l d E c x hl hB
    exact br_f (nI_nlt (by omega) (by omega)) ⟨L + 1 - l + 1, ye_34 (by omega) hL hg hI (fun d' E' c' x' hB' => ih (l + 1) d' E' c' x' (by omega) hB') (L + 1 - l) 0 d E c x (by omega) hB⟩
theorem ye_2c {post : SY → Prop} (hL : L ≤ 13) (hg : gy_R n kL kS kN kY st lh ln sy) (hI : ∀ p, p < L → bI p = nI (tx p) ∧ tx p < 4)
    (H : ∀ d c x, yd_R L d (dv_D n lh ln sy (tm_s false tx L)) → post (yN, yT, yB, yR, yS, yW, yG, yH, nI n, nI L, bL, bS, bN, bY, bW, bM, bK, bR, gL, gS, gN, gY, kL, kS, kN, kY, bI, d, bP, bQ, c, x)) :
    ∀ w p d, p + w = 2352 → (∀ q, q < p → d q = 0) → wY_computeDer_2 post yN yT yB yR yS yW yG yH (nI n) (nI L) (w + 1) (nI p) bL bS bN bY bW bM bK bR gL gS gN gY kL kS kN kY bI d bP bQ bC bX := by
  intro w
  induction w with
  | zero =>
    intro p d hp hd
    have e : p = 2352 := by omega
    subst e
    refine br_t (nI_le (a := 2352) (Nat.le_refl _) (by decide)) ⟨L + 1 + 1, ye_24 hL hg hI H (L + 1) 0 d (fun _ _ _ => False) bC bX (by omega) ⟨fun a i j ha hi hj => ?_, fun _ _ _ h => h.elim, fun m q hm hq h => by omega⟩⟩
    rw [hd _ (by omega), bz_f id]
  | succ w ih =>
    intro p d hp hd
    refine br_f (nI_ge (b := 2352) (by omega) (by decide)) ⟨vp_in_nI (by omega) (by decide), nm_r (e' := upd d p 0) (by rw [nI_clamp (by omega)]; rfl) (nm_r (nI_1 p) (ih (p + 1) _ (by omega) fun q hq => ?_))⟩
    by_cases z : q = p
    · subst z; exact pk_us
    · rw [pk_un z]; exact hd q (by omega)
theorem ye_D {post : SY → Prop} (hL : L ≤ 13) (hg : gy_R n kL kS kN kY st lh ln sy) (hI : ∀ p, p < L → bI p = nI (tx p) ∧ tx p < 4)
    (H : ∀ d c x, yd_R L d (dv_D n lh ln sy (tm_s false tx L)) → post (yN, yT, yB, yR, yS, yW, yG, yH, nI n, nI L, bL, bS, bN, bY, bW, bM, bK, bR, gL, gS, gN, gY, kL, kS, kN, kY, bI, d, bP, bQ, c, x)) : wpY_computeDer post (yN, yT, yB, yR, yS, yW, yG, yH, nI n, nI L, bL, bS, bN, bY, bW, bM, bK, bR, gL, gS, gN, gY, kL, kS, kN, kY, bI, bD, bP, bQ, bC, bX) :=
  ⟨2352 + 1, ye_2c hL hg hI H 2352 0 bD (by omega) (fun q hq => absurd hq (Nat.not_lt_zero q))⟩
end yds
