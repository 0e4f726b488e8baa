/-! Y: pre, the loads, the four questions -/
section yzs
variable {yN yT yB yR yS yW yG yH yK yI : Int32} {bL bS bN bY bW bM bK bR gL gS gN gY kL kS kN kY bI bD bP bQ bC bX : Nat → Int32}
variable {n L i : Nat} {tx st lh ln : Nat → Nat} {sy : Nat → Nat → Nat} {P0 : Nat → Nat → Prop}
def yz_I (n L : Nat) (lh ln : Nat → Nat) (sy : Nat → Nat → Nat) (tx : Nat → Nat) (P0 : Nat → Nat → Prop) (i : Nat) (b : Nat → Int32) (P : Nat → Nat → Prop) : Prop :=
  yq_R L b P ∧ (∀ a p, P a p → dv_D n lh ln sy (tm_s true tx L) a p L) ∧ (∀ a p, p ≠ i → (P a p ↔ P0 a p))
theorem yz_u {P : Nat → Nat → Prop} {a : Nat} (hL : L ≤ 13) (hi : i ≤ L) (hP : yq_R L bP P) : yq_R L (upd bP (a * 14 + i) 1) (fun b p => P b p ∨ (b = a ∧ p = i)) := by
  intro b p hb hp
  by_cases z : b * 14 + p = a * 14 + i
  · have e1 : b = a := by omega
    have e2 : p = i := by omega
    rw [z, pk_us, bz_t (Or.inr ⟨e1, e2⟩)]
  · rw [pk_un z, hP b p hb hp]
    exact bz_c ⟨Or.inl, fun h => h.elim id fun ⟨x, y⟩ => by subst x y; exact absurd rfl z⟩
theorem yz_13 {post : SY → Prop} {J2 : Int32 → Int32 → Int32 → Int32 → Int32 → Int32 → Int32 → Int32 → Int32 → Int32 → Int32 → (Nat → Int32) → (Nat → Int32) → (Nat → Int32) → (Nat → Int32) → (Nat → Int32) → (Nat → Int32) → (Nat → Int32) → (Nat → Int32) → (Nat → Int32) → (Nat → Int32) → (Nat → Int32) → (Nat → Int32) → (Nat → Int32) → (Nat → Int32) → (Nat → Int32) → (Nat → Int32) → (Nat → Int32) → (Nat → Int32) → (Nat → Int32) → (Nat → Int32) → (Nat → Int32) → (Nat → Int32) →  Prop} (x2 : Int32) {Pp : Nat → Nat → Prop} (hL : L ≤ 13) (hi : i ≤ L) (hg : gy_R n kL kS kN kY st lh ln sy) (hD : yd_R L bD (dv_D n lh ln sy (tm_s false tx L))) (hQ : ya_R bQ 12 (pd_D n lh ln sy)) (hI : ∀ p, p < L → bI p = nI (tx p) ∧ tx p < 4)
    (hJ0 : ∀ b P c x, yz_I n L lh ln sy tx P0 i b P → (∀ r, r < n → pf_R n lh ln sy tx L P r i → P (lh r) i) → post (yN, yT, yB, yR, yS, yW, yG, yH, nI n, nI L, bL, bS, bN, bY, bW, bM, bK, bR, gL, gS, gN, gY, kL, kS, kN, kY, bI, bD, b, bQ, c, x))
    (hJ1 : ∀ b P c x, yz_I n L lh ln sy tx P0 i b P → cn (fun a => Pp a i) 12 < cn (fun a => P a i) 12 → J2 (x2 + 1) yN yT yB yR yS yW yG yH (nI n) (nI L) bL bS bN bY bW bM bK bR gL gS gN gY kL kS kN kY bI bD b bQ c x) :
    ∀ w r b P c x x3, r + w = n → yz_I n L lh ln sy tx P0 i b P → ((x3 = 0 ∧ P = Pp ∧ ∀ r', r' < r → pf_R n lh ln sy tx L P r' i → P (lh r') i) ∨ (x3 = 1 ∧ cn (fun a => Pp a i) 12 < cn (fun a => P a i) 12)) →
      wY_fillPre_13 post J2 (nI i) x2 (w + 1) x3 (nI r) yN yT yB yR yS yW yG yH (nI n) (nI L) bL bS bN bY bW bM bK bR gL gS gN gY kL kS kN kY bI bD b bQ c x := by
  have hn := hg.1
  intro w
  induction w with
  | zero =>
    intro r b P c x x3 hr hE hx
    have e : r = n := by omega
    subst e
    refine br_t (nI_le (Nat.le_refl _) (by omega)) ?_
    rcases hx with ⟨h, he, h2⟩ | ⟨h, h2⟩
    · subst h; exact br_t rfl (hJ0 b P c x hE h2)
    · subst h; exact br_f (by decide) (nm_e (hJ1 b P c x hE h2))
  | succ w ih =>
    intro r b P c x x3 hr hE hx
    have hl := hg.2 r (by omega)
    have h12 := hl.2.1
    obtain ⟨hP, hs, ha⟩ := hE
    refine br_f (nI_ge (by omega) (by omega)) ⟨vp_in_nI (by omega) (by decide), nm_r (e' := nI (lh r * 14 + i)) (by rw [nI_clamp (by omega), hl.1, xp_ix]) ⟨vp_in_nI (by omega) (by decide), ?_⟩⟩
    refine bz_br (P := P (lh r) i) (by rw [nI_clamp (by omega)]; exact hP (lh r) i h12 hi) (fun z => ?_) (fun z => ?_)
    · refine yq_P (P := P) hL hi hg (by omega) hD hQ hP hI fun c' x' => bz_br rfl (fun z2 => ?_) (fun z2 => ⟨vp_in_nI (by omega) (by decide), nm_r (e' := upd b (lh r * 14 + i) 1) (by rw [nI_clamp (by omega)]; rfl) ?_⟩)
      · refine nm_r (nI_1 r) (ih (r + 1) b P c' x' x3 (by omega) ⟨hP, hs, ha⟩ (hx.imp (fun h => ⟨h.1, h.2.1, fun r' hr' => ?_⟩) id))
        rcases Nat.lt_or_ge r' r with y | y
        · exact h.2.2 r' y
        · have e : r' = r := by omega
          subst e
          exact fun hp => absurd hp z2
      · have hcn : cn (fun a => P a i) 12 < cn (fun a => P a i ∨ (a = lh r ∧ i = i)) 12 := cn_lt (a := lh r) z (Or.inr ⟨rfl, rfl⟩) (fun _ _ h => Or.inl h) h12
        refine nm_r (nI_1 r) (ih (r + 1) _ (fun b p => P b p ∨ (b = lh r ∧ p = i)) c' x' 1 (by omega) ⟨yz_u hL hi hP, ?_, ?_⟩ (Or.inr ⟨rfl, ?_⟩))
        · rintro a p (h | ⟨h1, h2⟩)
          · exact hs a p h
          · subst h1 h2
            exact pf_so (by omega) (fun a p _ _ h => hs a p h) z2
        · intro a p h
          exact Iff.trans ⟨fun y => y.elim id fun y => absurd y.2 h, Or.inl⟩ (ha a p h)
        · rcases hx with h | h
          · rw [← h.2.1]; exact hcn
          · exact Nat.lt_trans h.2 hcn
    · refine nm_r (nI_1 r) (ih (r + 1) b P c x x3 (by omega) ⟨hP, hs, ha⟩ (hx.imp (fun h => ⟨h.1, h.2.1, fun r' hr' => ?_⟩) id))
      rcases Nat.lt_or_ge r' r with y | y
      · exact h.2.2 r' y
      · have e : r' = r := by omega
        subst e
        exact fun _ => z
theorem yz_2 {post : SY → Prop} (hL : L ≤ 13) (hi : i ≤ L) (hg : gy_R n kL kS kN kY st lh ln sy) (hD : yd_R L bD (dv_D n lh ln sy (tm_s false tx L))) (hQ : ya_R bQ 12 (pd_D n lh ln sy)) (hI : ∀ p, p < L → bI p = nI (tx p) ∧ tx p < 4)
    (hJ0 : ∀ b P c x, yz_I n L lh ln sy tx P0 i b P → (∀ r, r < n → pf_R n lh ln sy tx L P r i → P (lh r) i) → post (yN, yT, yB, yR, yS, yW, yG, yH, nI n, nI L, bL, bS, bN, bY, bW, bM, bK, bR, gL, gS, gN, gY, kL, kS, kN, kY, bI, bD, b, bQ, c, x)) :
    ∀ w p b P c x, p + w = 13 → yz_I n L lh ln sy tx P0 i b P → p ≤ cn (fun a => P a i) 12 → wY_fillPre_2 post (nI i) (w + 1) (nI p) yN yT yB yR yS yW yG yH (nI n) (nI L) bL bS bN bY bW bM bK bR gL gS gN gY kL kS kN kY bI bD b bQ c x := by
  intro w
  induction w with
  | zero =>
    intro p b P c x hp hE hc
    have := cn_le (fun a => P a i) 12
    omega
  | succ w ih =>
    intro p b P c x hp hE hc
    refine br_f (nI_ge (b := 13) (by omega) (by decide)) ⟨n + 1, yz_13 (Pp := P) (nI p) hL hi hg hD hQ hI hJ0 (fun b' P' c' x' hE' hc' => ?_) n 0 b P c x 0 (by omega) hE (Or.inl ⟨rfl, rfl, fun r' hr' => absurd hr' (Nat.not_lt_zero r')⟩)⟩
    rw [nI_1]
    exact ih (p + 1) b' P' c' x' (by omega) hE' (by omega)
theorem yz_F {post : SY → Prop} (hL : L ≤ 13) (hi : i ≤ L) (hg : gy_R n kL kS kN kY st lh ln sy) (hD : yd_R L bD (dv_D n lh ln sy (tm_s false tx L))) (hQ : ya_R bQ 12 (pd_D n lh ln sy)) (hI : ∀ p, p < L → bI p = nI (tx p) ∧ tx p < 4) (hE : yz_I n L lh ln sy tx P0 i bP P0)
    (hJ0 : ∀ b P c x, yz_I n L lh ln sy tx P0 i b P → (∀ r, r < n → pf_R n lh ln sy tx L P r i → P (lh r) i) → post (yN, yT, yB, yR, yS, yW, yG, yH, nI n, nI L, bL, bS, bN, bY, bW, bM, bK, bR, gL, gS, gN, gY, kL, kS, kN, kY, bI, bD, b, bQ, c, x)) : wpY_fillPre post (yN, yT, yB, yR, yS, yW, yG, yH, nI n, nI L, bL, bS, bN, bY, bW, bM, bK, bR, gL, gS, gN, gY, kL, kS, kN, kY, bI, bD, bP, bQ, bC, bX) (nI i) :=
  ⟨13 + 1, yz_2 hL hi hg hD hQ hI hJ0 13 0 bP P0 bC bX (by omega) hE (Nat.zero_le _)⟩
theorem yz_mo {P P' : Nat → Nat → Prop} {r : Nat} (h : ∀ a p, i ≤ p → P a p → P' a p) (hp : pf_R n lh ln sy tx L P r i) : pf_R n lh ln sy tx L P' r i := by
  refine hp.imp id fun ⟨k, p, h1, h2, h3, h4, h5⟩ => ⟨k, p, h1, h2, h3, h4.imp id fun ⟨y, z⟩ => ⟨y, h _ _ ?_ z⟩, h5⟩
  exact dv_P_le (fun k m q s => dv_St_le (fun a i j => dv_D_le tm_le) tm_le s) _ _ h2
theorem yz_27 {post : SY → Prop} (hL : L ≤ 13) (hg : gy_R n kL kS kN kY st lh ln sy) (hD : yd_R L bD (dv_D n lh ln sy (tm_s false tx L))) (hQ : ya_R bQ 12 (pd_D n lh ln sy)) (hI : ∀ p, p < L → bI p = nI (tx p) ∧ tx p < 4)
    (H : ∀ b c x, b 0 = bz_I (dv_D n lh ln sy (tm_s true tx L) 0 0 L) → post (yN, yT, yB, yR, yS, yW, yG, yH, nI n, nI L, bL, bS, bN, bY, bW, bM, bK, bR, gL, gS, gN, gY, kL, kS, kN, kY, bI, bD, b, bQ, c, x)) :
    ∀ s b P c x, s ≤ L + 1 → yq_R L b P → (∀ a p, P a p → dv_D n lh ln sy (tm_s true tx L) a p L) → (∀ i, s ≤ i → i ≤ L → ∀ r, r < n → pf_R n lh ln sy tx L P r i → P (lh r) i) → wY_computePre_27 post (s + 1) (nI s + (-1)) yN yT yB yR yS yW yG yH (nI n) (nI L) bL bS bN bY bW bM bK bR gL gS gN gY kL kS kN kY bI bD b bQ c x := by
  intro s
  induction s with
  | zero =>
    intro b P c x _ hP hs hc
    refine br_t (by decide) (H b c x ((hP 0 0 (by decide) (Nat.zero_le L)).trans (bz_c ⟨hs 0 0, fun d => pf_co (fun r i hr hi h => hc i (Nat.zero_le i) hi r hr h) d (Nat.zero_le L)⟩)))
  | succ s ih =>
    intro b P c x hsL hP hs hc
    rw [pk_m1]
    refine br_f (nI_pos (by omega)) (yz_F (P0 := P) hL (by omega) hg hD hQ hI ⟨hP, hs, fun _ _ _ => Iff.rfl⟩ fun b' P' c' x' hE hc' => nm_e (ih b' P' c' x' (by omega) hE.1 hE.2.1 fun i h1 h2 r hr h => ?_))
    rcases Nat.lt_or_ge s i with z | z
    · exact (hE.2.2 _ i (by omega)).mpr (hc i z h2 r hr (yz_mo (fun a p hp y => (hE.2.2 a p (by omega)).mp y) h))
    · have e : i = s := by omega
      subst e
      exact hc' r hr h
theorem yz_2c {post : SY → Prop} (hL : L ≤ 13) (hg : gy_R n kL kS kN kY st lh ln sy) (hD : yd_R L bD (dv_D n lh ln sy (tm_s false tx L))) (hQ : ya_R bQ 12 (pd_D n lh ln sy)) (hI : ∀ p, p < L → bI p = nI (tx p) ∧ tx p < 4)
    (H : ∀ b c x, b 0 = bz_I (dv_D n lh ln sy (tm_s true tx L) 0 0 L) → post (yN, yT, yB, yR, yS, yW, yG, yH, nI n, nI L, bL, bS, bN, bY, bW, bM, bK, bR, gL, gS, gN, gY, kL, kS, kN, kY, bI, bD, b, bQ, c, x)) :
    ∀ w p b, p + w = 168 → (∀ q, q < p → b q = 0) → wY_computePre_2 post yN yT yB yR yS yW yG yH (nI n) (nI L) (w + 1) (nI p) bL bS bN bY bW bM bK bR gL gS gN gY kL kS kN kY bI bD b bQ bC bX := by
  intro w
  induction w with
  | zero =>
    intro p b hp hb
    have e : p = 168 := by omega
    subst e
    have := yz_27 hL hg hD hQ hI H (L + 1) b (fun _ _ => False) bC bX (Nat.le_refl _) (fun a i ha hi => by rw [hb _ (by omega), bz_f id]) (fun _ _ h => h.elim) (fun i h1 h2 => by omega)
    rw [pk_m1] at this
    exact br_t (nI_le (a := 168) (Nat.le_refl _) (by decide)) ⟨_, this⟩
  | succ w ih =>
    intro p b hp hb
    refine br_f (nI_ge (b := 168) (by omega) (by decide)) ⟨vp_in_nI (by omega) (by decide), nm_r (e' := upd b p 0) (by rw [nI_clamp (by omega)]; rfl) (nm_r (nI_1 p) (ih (p + 1) _ (by omega) fun q hq => ?_))⟩
    by_cases z : q = p
    · subst z; exact pk_us
    · rw [pk_un z]; exact hb q (by omega)
theorem yz_P {post : SY → Prop} (hL : L ≤ 13) (hg : gy_R n kL kS kN kY st lh ln sy) (hD : yd_R L bD (dv_D n lh ln sy (tm_s false tx L))) (hQ : ya_R bQ 12 (pd_D n lh ln sy)) (hI : ∀ p, p < L → bI p = nI (tx p) ∧ tx p < 4)
    (H : ∀ b c x, b 0 = bz_I (dv_D n lh ln sy (tm_s true tx L) 0 0 L) → post (yN, yT, yB, yR, yS, yW, yG, yH, nI n, nI L, bL, bS, bN, bY, bW, bM, bK, bR, gL, gS, gN, gY, kL, kS, kN, kY, bI, bD, b, bQ, c, x)) : wpY_computePre post (yN, yT, yB, yR, yS, yW, yG, yH, nI n, nI L, bL, bS, bN, bY, bW, bM, bK, bR, gL, gS, gN, gY, kL, kS, kN, kY, bI, bD, bP, bQ, bC, bX) :=
  ⟨168 + 1, yz_2c hL hg hD hQ hI H 168 0 bP (by omega) (fun q hq => absurd hq (Nat.not_lt_zero q))⟩
end yzs
section yls
variable {yN yT yB yR yS yW yG yH yK yI : Int32} {bL bS bN bY bW bM bK bR gL gS gN gY kL kS kN kY bI bD bP bQ bC bX : Nat → Int32}
variable {L : Nat} {tx : Nat → Nat}
/-- the text loaded: w, and one token more where e is some -/
theorem yl_10 {post : SY → Prop} (x1 : Int32) (hL : L ≤ 12) (hW : ∀ p, p < L → bW p = nI (tx p) ∧ tx p < 4) (H0 : x1 < 0 → ∀ b, (∀ p, p < L → b p = nI (tx p) ∧ tx p < 4) → post (yN, yT, yB, yR, yS, nI L, yG, yH, yK, nI L, bL, bS, bN, bY, bW, bM, bK, bR, gL, gS, gN, gY, kL, kS, kN, kY, b, bD, bP, bQ, bC, bX)) (H1 : ¬ x1 < 0 → ∀ b, (∀ p, p < L → b p = nI (tx p) ∧ tx p < 4) → post (yN, yT, yB, yR, yS, nI L, yG, yH, yK, nI (L + 1), bL, bS, bN, bY, bW, bM, bK, bR, gL, gS, gN, gY, kL, kS, kN, kY, upd b L x1, bD, bP, bQ, bC, bX)) :
    ∀ w p b, p + w = L → (∀ q, q < p → b q = nI (tx q) ∧ tx q < 4) → wY_loadInput_10 post x1 yN yT yB yR yS (nI L) yG yH yK (nI L) (w + 1) (nI p) bL bS bN bY bW bM bK bR gL gS gN gY kL kS kN kY b bD bP bQ bC bX := by
  intro w
  induction w with
  | zero =>
    intro p b hp hb
    have e : p = L := by omega
    subst e
    refine br_t (nI_le (Nat.le_refl _) (by omega)) (br_c (fun z => H0 z b hb) (fun z => ⟨vp_in_nI (by omega) (by decide), nm_r (e' := upd b p x1) (by rw [nI_clamp (by omega)]) (nm_r (nI_1 p) (H1 z b hb))⟩))
  | succ w ih =>
    intro p b hp hb
    have hv := hW p (by omega)
    refine br_f (nI_ge (by omega) (by omega)) ⟨vp_in_nI (by omega) (by decide), vp_in_nI (by omega) (by decide), nm_r (e' := upd b p (nI (tx p))) (by rw [nI_clamp (by omega), hv.1]) (nm_r (nI_1 p) (ih (p + 1) _ (by omega) fun q hq => ?_))⟩
    by_cases z : q = p
    · subst z; rw [pk_us]; exact ⟨rfl, hv.2⟩
    · rw [pk_un z]; exact hb q (by omega)
theorem yl_I {post : SY → Prop} (hL : L ≤ 12) (hW : ∀ p, p < L → bW p = nI (tx p) ∧ tx p < 4) (H : ∀ b, (∀ p, p < L → b p = nI (tx p) ∧ tx p < 4) → post (yN, yT, yB, yR, yS, nI L, yG, yH, yK, nI L, bL, bS, bN, bY, bW, bM, bK, bR, gL, gS, gN, gY, kL, kS, kN, kY, b, bD, bP, bQ, bC, bX)) : wpY_loadInput post (yN, yT, yB, yR, yS, nI L, yG, yH, yK, yI, bL, bS, bN, bY, bW, bM, bK, bR, gL, gS, gN, gY, kL, kS, kN, kY, bI, bD, bP, bQ, bC, bX) (-1) :=
  ⟨L + 1, yl_10 (-1) hL hW (fun _ => H) (fun z => absurd (by decide) z) L 0 bI (by omega) (fun q hq => absurd hq (Nat.not_lt_zero q))⟩
theorem yl_J {post : SY → Prop} {t : Nat} (ht : t < 4) (hL : L ≤ 12) (hW : ∀ p, p < L → bW p = nI (tx p) ∧ tx p < 4) (H : ∀ b, (∀ p, p < L + 1 → b p = nI (if p = L then t else tx p) ∧ (if p = L then t else tx p) < 4) → post (yN, yT, yB, yR, yS, nI L, yG, yH, yK, nI (L + 1), bL, bS, bN, bY, bW, bM, bK, bR, gL, gS, gN, gY, kL, kS, kN, kY, b, bD, bP, bQ, bC, bX)) : wpY_loadInput post (yN, yT, yB, yR, yS, nI L, yG, yH, yK, yI, bL, bS, bN, bY, bW, bM, bK, bR, gL, gS, gN, gY, kL, kS, kN, kY, bI, bD, bP, bQ, bC, bX) (nI t) := by
  refine ⟨L + 1, yl_10 (nI t) hL hW (fun z => absurd z (nI_pos (by omega))) (fun _ b hb => H _ fun p hp => ?_) L 0 bI (by omega) (fun q hq => absurd hq (Nat.not_lt_zero q))⟩
  by_cases z : p = L
  · subst z; rw [pk_us, if_pos rfl]; exact ⟨rfl, ht⟩
  · rw [pk_un z, if_neg z]; exact hb p (by omega)
theorem yl_131 {post : SY → Prop} {J21 : Int32 → (Nat → Int32) → (Nat → Int32) → (Nat → Int32) → (Nat → Int32) → (Nat → Int32) → (Nat → Int32) → (Nat → Int32) → (Nat → Int32) → (Nat → Int32) → (Nat → Int32) → (Nat → Int32) → (Nat → Int32) → (Nat → Int32) → (Nat → Int32) → (Nat → Int32) → (Nat → Int32) → (Nat → Int32) → (Nat → Int32) → (Nat → Int32) → (Nat → Int32) → (Nat → Int32) → (Nat → Int32) →  Prop} {p : Nat} {z0 : Int32} (hp : p < 32) (H : ∀ y, (p < 12 → y = bY p) → J21 (nI (p + 1)) bL bS bN bY bW bM bK bR gL gS gN gY kL kS (upd kN p z0) (upd kY p y) bI bD bP bQ bC bX) : wY_loadGrammar_131 post J21 0 (nI p) z0 (nI p) yN yT yB yR yS yW yG yH yK yI bL bS bN bY bW bM bK bR gL gS gN gY kL kS kN kY bI bD bP bQ bC bX := by
  refine ⟨vp_in_nI hp (by decide), nm_r (e' := upd kN p z0) (by rw [nI_clamp (by omega)]) (br_t rfl (pk_le 12 p (fun z => ⟨vp_in_nI hp (by decide), nm_r (e' := upd kY p 0) (by rw [nI_clamp (by omega)]) (nm_r (nI_1 p) (H 0 fun y => by omega))⟩) (fun z => ⟨vp_in_nI z (by decide), vp_in_nI hp (by decide), nm_r (e' := upd kY p (bY p)) (by rw [nI_clamp (by omega)]) (nm_r (nI_1 p) (H _ fun _ => rfl))⟩)))⟩
theorem yl_96 {post : SY → Prop} {J21 : Int32 → (Nat → Int32) → (Nat → Int32) → (Nat → Int32) → (Nat → Int32) → (Nat → Int32) → (Nat → Int32) → (Nat → Int32) → (Nat → Int32) → (Nat → Int32) → (Nat → Int32) → (Nat → Int32) → (Nat → Int32) → (Nat → Int32) → (Nat → Int32) → (Nat → Int32) → (Nat → Int32) → (Nat → Int32) → (Nat → Int32) → (Nat → Int32) → (Nat → Int32) → (Nat → Int32) → (Nat → Int32) →  Prop} {p : Nat} {z0 : Int32} (hp : p < 32) (H : ∀ a y, (p < 8 → a = bN p) → (p < 12 → y = bY p) → J21 (nI (p + 1)) bL bS bN bY bW bM bK bR gL gS gN gY kL (upd kS p z0) (upd kN p a) (upd kY p y) bI bD bP bQ bC bX) : wY_loadGrammar_96 post J21 0 (nI p) z0 (nI p) yN yT yB yR yS yW yG yH yK yI bL bS bN bY bW bM bK bR gL gS gN gY kL kS kN kY bI bD bP bQ bC bX := by
  refine ⟨vp_in_nI hp (by decide), nm_r (e' := upd kS p z0) (by rw [nI_clamp (by omega)]) (br_t rfl (pk_le 8 p (fun z => yl_131 hp fun y hy => H 0 y (fun w => by omega) hy) (fun z => ⟨vp_in_nI z (by decide), yl_131 hp fun y hy => H _ y (fun _ => by rw [nI_clamp (by omega)]) hy⟩)))⟩
theorem yl_61 {post : SY → Prop} {J21 : Int32 → (Nat → Int32) → (Nat → Int32) → (Nat → Int32) → (Nat → Int32) → (Nat → Int32) → (Nat → Int32) → (Nat → Int32) → (Nat → Int32) → (Nat → Int32) → (Nat → Int32) → (Nat → Int32) → (Nat → Int32) → (Nat → Int32) → (Nat → Int32) → (Nat → Int32) → (Nat → Int32) → (Nat → Int32) → (Nat → Int32) → (Nat → Int32) → (Nat → Int32) → (Nat → Int32) → (Nat → Int32) →  Prop} {p : Nat} {z0 : Int32} (hp : p < 32) (H : ∀ b a y, (p < 8 → b = bS p) → (p < 8 → a = bN p) → (p < 12 → y = bY p) → J21 (nI (p + 1)) bL bS bN bY bW bM bK bR gL gS gN gY (upd kL p z0) (upd kS p b) (upd kN p a) (upd kY p y) bI bD bP bQ bC bX) : wY_loadGrammar_61 post J21 0 (nI p) z0 (nI p) yN yT yB yR yS yW yG yH yK yI bL bS bN bY bW bM bK bR gL gS gN gY kL kS kN kY bI bD bP bQ bC bX := by
  refine ⟨vp_in_nI hp (by decide), nm_r (e' := upd kL p z0) (by rw [nI_clamp (by omega)]) (br_t rfl (pk_le 8 p (fun z => yl_96 hp fun a y ha hy => H 0 a y (fun w => by omega) ha hy) (fun z => ⟨vp_in_nI z (by decide), yl_96 hp fun a y ha hy => H _ a y (fun _ => by rw [nI_clamp (by omega)]) ha hy⟩)))⟩
theorem yl_u {k f : Nat → Int32} {p c : Nat} {x : Int32} (h : ∀ r, r < c → r < p → k r = f r) (hx : p < c → x = f p) : ∀ r, r < c → r < p + 1 → upd k p x r = f r := by
  intro r hr h1
  by_cases z : r = p
  · subst z; rw [pk_us]; exact hx hr
  · rw [pk_un z]; exact h r hr (by omega)
theorem yl_210 {post : SY → Prop}
    (H : ∀ k1 k2 k3 k4, (∀ r, r < 8 → k1 r = bL r) → (∀ r, r < 8 → k2 r = bS r) → (∀ r, r < 8 → k3 r = bN r) → (∀ r, r < 12 → k4 r = bY r) → post (yN, yT, yB, yR, yS, yW, yG, yH, yK, yI, bL, bS, bN, bY, bW, bM, bK, bR, gL, gS, gN, gY, k1, k2, k3, k4, bI, bD, bP, bQ, bC, bX)) :
    ∀ w p kL kS kN kY, p + w = 32 → (∀ r, r < 8 → r < p → kL r = bL r) → (∀ r, r < 8 → r < p → kS r = bS r) → (∀ r, r < 8 → r < p → kN r = bN r) → (∀ r, r < 12 → r < p → kY r = bY r) → wY_loadGrammar_21 post 0 yN yT yB yR yS yW yG yH yK yI (w + 1) (nI p) bL bS bN bY bW bM bK bR gL gS gN gY kL kS kN kY bI bD bP bQ bC bX := by
  intro w
  induction w with
  | zero =>
    intro p kL kS kN kY hp h1 h2 h3 h4
    have e : p = 32 := by omega
    subst e
    exact br_t (nI_le (a := 32) (Nat.le_refl _) (by decide)) (H kL kS kN kY (fun r hr => h1 r hr (by omega)) (fun r hr => h2 r hr (by omega)) (fun r hr => h3 r hr (by omega)) (fun r hr => h4 r hr (by omega)))
  | succ w ih =>
    intro p kL kS kN kY hp h1 h2 h3 h4
    refine br_f (nI_ge (b := 32) (by omega) (by decide)) (br_t rfl (pk_le 8 p (fun z => yl_61 (by omega) fun b a y hb ha hy => ih (p + 1) _ _ _ _ (by omega) (yl_u h1 fun w => by omega) (yl_u h2 hb) (yl_u h3 ha) (yl_u h4 hy)) (fun z => ⟨vp_in_nI z (by decide), yl_61 (by omega) fun b a y hb ha hy => ih (p + 1) _ _ _ _ (by omega) (yl_u h1 fun _ => by rw [nI_clamp (by omega)]) (yl_u h2 hb) (yl_u h3 ha) (yl_u h4 hy)⟩)))
theorem yl_211 {post : SY → Prop}
    (H : ∀ k1 k2 k3 k4, (∀ r, r < 32 → k1 r = gL r) → (∀ r, r < 32 → k2 r = gS r) → (∀ r, r < 32 → k3 r = gN r) → (∀ r, r < 32 → k4 r = gY r) → post (yN, yT, yB, yR, yS, yW, yG, yH, yK, yI, bL, bS, bN, bY, bW, bM, bK, bR, gL, gS, gN, gY, k1, k2, k3, k4, bI, bD, bP, bQ, bC, bX)) :
    ∀ w p kL kS kN kY, p + w = 32 → (∀ r, r < 32 → r < p → kL r = gL r) → (∀ r, r < 32 → r < p → kS r = gS r) → (∀ r, r < 32 → r < p → kN r = gN r) → (∀ r, r < 32 → r < p → kY r = gY r) → wY_loadGrammar_21 post 1 yN yT yB yR yS yW yG yH yK yI (w + 1) (nI p) bL bS bN bY bW bM bK bR gL gS gN gY kL kS kN kY bI bD bP bQ bC bX := by
  intro w
  induction w with
  | zero =>
    intro p kL kS kN kY hp h1 h2 h3 h4
    have e : p = 32 := by omega
    subst e
    exact br_t (nI_le (a := 32) (Nat.le_refl _) (by decide)) (H kL kS kN kY (fun r hr => h1 r hr hr) (fun r hr => h2 r hr hr) (fun r hr => h3 r hr hr) (fun r hr => h4 r hr hr))
  | succ w ih =>
    intro p kL kS kN kY hp h1 h2 h3 h4
    have hp' : p < 32 := by omega
    have v : vp_in (nI p) 32 := vp_in_nI hp' (by decide)
    have n1 : ¬ (1 : Int32) = 0 := by decide
    refine br_f (nI_ge (b := 32) (by omega) (by decide)) (br_f n1 ⟨v, v, nm_r (e' := upd kL p (gL p)) (by rw [nI_clamp (by omega)]) (br_f n1 ⟨v, v, nm_r (e' := upd kS p (gS p)) (by rw [nI_clamp (by omega)]) (br_f n1 ⟨v, v, nm_r (e' := upd kN p (gN p)) (by rw [nI_clamp (by omega)]) (br_f n1 ⟨v, v, nm_r (e' := upd kY p (gY p)) (by rw [nI_clamp (by omega)]) (nm_r (nI_1 p) ?_)⟩)⟩)⟩)⟩)
    exact ih (p + 1) _ _ _ _ (by omega) (yl_u h1 fun _ => rfl) (yl_u h2 fun _ => rfl) (yl_u h3 fun _ => rfl) (yl_u h4 fun _ => rfl)
end yls
