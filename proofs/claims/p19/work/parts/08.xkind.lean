/-! X: members, kinds -/
section xks
variable {xN xT xB xR xS xE xL xA xG xC xF : Int32} {aL aN aS aR aM aK aT aE : Nat → Int32}
variable {N r : Nat} {g : gm_G} {m : Nat → Nat}
theorem xk_I {post : Int32 → Prop} {k : Nat} (hN : N ≤ 6) (h8 : g.1 ≤ 8) (hg : gw_X 0 g aL aN aS) (hE : gw_E N g) (hm : sn_R N m aM) (hr : r < g.1) (hk : k < g.2.2.1 r) (H : post (bz_I (mb_P g m r k))) : wpX_isMember post (xN, xT, xB, xR, xS, xE, xL, xA, xG, xC, xF, aL, aN, aS, aR, aM, aK, aT, aE) (nI r) (nI k) := by
  obtain ⟨h1, h2, h3, h4, h5⟩ := gw_X0 hg hr
  obtain ⟨e1, e2, e3⟩ := hE r hr
  have eL : aL (nI r).toNatClampNeg = nI (g.2.1 r) := by rw [nI_clamp (by omega)]; exact h1
  have hs := h5 k hk
  have hsN := e3 k hk
  refine ⟨pk_in (r * 5 + k) 170 (by omega) (xp_ix5 r k), nm_r (e' := nI (g.2.2.2 r k)) (by rw [xp_ix5, nI_clamp (by omega)]; exact hs.1) (pk_le 6 (g.2.2.2 r k) (fun z => ?_) (fun z => ?_) rfl rfl (by decide) (by omega))⟩
  · exact bz_p0 H (fun y => by have := y.1; omega)
  · have m1 := hm (g.2.2.2 r k) (by omega)
    have m2 := hm (g.2.1 r) e1
    refine ⟨vp_in_nI z (by decide), vp_in_nI (by omega) (by decide), pk_in (g.2.1 r) 6 (by omega) eL, pk_eq (m (g.2.2.2 r k)) (m (g.2.1 r)) (fun y => ?_) (fun y => ?_) (by rw [nI_clamp (by omega)]; exact m1.1) (by rw [eL, nI_clamp (by omega)]; exact m2.1) (by have := m1.2; omega) (by have := m2.2; omega)⟩
    · exact bz_p1 H ⟨z, y⟩
    · exact bz_p0 H (fun w => y w.2)
theorem xk_4 {post : Int32 → Prop} (hN : N ≤ 6) (h8 : g.1 ≤ 8) (hg : gw_X 0 g aL aN aS) (hE : gw_E N g) (hm : sn_R N m aM) (hr : r < g.1) (H : post (nI (mb_c g m r (g.2.2.1 r)))) :
    ∀ d k, k + d = g.2.2.1 r → wX_countMembers_4 post (nI r) xN xT xB xR xS xE xL xA xG xC xF aL aN aS aR aM aK aT aE (d + 1) (nI (mb_c g m r k)) (nI k) := by
  obtain ⟨h1, h2, h3, h4, h5⟩ := gw_X0 hg hr
  have eN : aN (nI r).toNatClampNeg = nI (g.2.2.1 r) := by rw [nI_clamp (by omega)]; exact h3
  intro d
  induction d with
  | zero =>
    intro k hk
    have e : k = g.2.2.1 r := by omega
    subst e
    exact ⟨vp_in_nI (by omega) (by decide), br_t (by rw [eN]; exact nI_le (Nat.le_refl _) (by omega)) H⟩
  | succ d ih =>
    intro k hk
    have := ih (k + 1) (by omega)
    refine ⟨vp_in_nI (by omega) (by decide), br_f (by rw [eN]; exact nI_ge (by omega) (by omega)) (xk_I hN h8 hg hE hm hr (by omega) (bz_br rfl (fun z => ?_) (fun z => ?_)))⟩
    · rw [mb_f z] at this
      exact nm_r (nI_1 k) this
    · rw [mb_t z] at this
      exact nm_r (nI_1 _) (nm_r (nI_1 k) this)
theorem xk_C {post : Int32 → Prop} (hN : N ≤ 6) (h8 : g.1 ≤ 8) (hg : gw_X 0 g aL aN aS) (hE : gw_E N g) (hm : sn_R N m aM) (hr : r < g.1) (H : post (nI (mb_c g m r (g.2.2.1 r)))) : wpX_countMembers post (xN, xT, xB, xR, xS, xE, xL, xA, xG, xC, xF, aL, aN, aS, aR, aM, aK, aT, aE) (nI r) :=
  ⟨g.2.2.1 r + 1, xk_4 hN h8 hg hE hm hr H (g.2.2.1 r) 0 (by omega)⟩
theorem xk_87 {post : Int32 → Prop} {J10 : Int32 → Int32 → Int32 → Int32 → Prop} {x1 x2 z0 : Int32} {Q : Prop} (hN : N ≤ 6) (h8 : g.1 ≤ 8) (hg : gw_X 0 g aL aN aS) (hE : gw_E N g) (hm : sn_R N m aM) (hr : r < g.1) (hc : 0 < mb_c g m r (g.2.2.1 r))
    (hJ : J10 x2 z0 (bz_I (Q ∧ mb_c g m r (g.2.2.1 r) = 1 ∧ mb_P g m r 0)) (nI (r + 1))) : wX_kindOfSet_87 post J10 x1 x2 (bz_I Q) (nI r) (nI (mb_c g m r (g.2.2.1 r))) z0 xN xT xB xR xS xE xL xA xG xC xF aL aN aS aR aM aK aT aE := by
  obtain ⟨h1, h2, h3, h4, h5⟩ := gw_X0 hg hr
  have hle := mb_le (g := g) (m := m) (r := r) (k := g.2.2.1 r)
  have no : ¬ (Q ∧ mb_c g m r (g.2.2.1 r) = 1 ∧ mb_P g m r 0) → J10 x2 z0 0 (nI (r + 1)) := fun z => by rw [bz_f z] at hJ; exact hJ
  refine bz_br rfl (fun z => nm_r (nI_1 r) (no fun y => z y.1)) (fun z => pk_eq (mb_c g m r (g.2.2.1 r)) 1 (fun z2 => ?_) (fun z2 => nm_r (nI_1 r) (no fun y => z2 y.2.1)) rfl rfl (by omega) (by decide))
  refine xk_I (k := 0) hN h8 hg hE hm hr (mb_p hc) (bz_br rfl (fun z3 => nm_r (nI_1 r) (no fun y => z3 y.2.2)) (fun z3 => ?_))
  rw [bz_t (P := Q ∧ mb_c g m r (g.2.2.1 r) = 1 ∧ mb_P g m r 0) ⟨z, z2, z3⟩] at hJ
  exact nm_r (nI_1 r) hJ
theorem xk_45 {post : Int32 → Prop} {J10 : Int32 → Int32 → Int32 → Int32 → Prop} {x1 x2 : Int32} {Q1 Q2 : Prop} (hN : N ≤ 6) (h8 : g.1 ≤ 8) (hg : gw_X 0 g aL aN aS) (hE : gw_E N g) (hm : sn_R N m aM) (hr : r < g.1) (hc : 0 < mb_c g m r (g.2.2.1 r))
    (hJ : J10 0 (bz_I (Q1 ∧ mb_c g m r (g.2.2.1 r) = 1 ∧ mb_P g m r (g.2.2.1 r - 1))) (bz_I (Q2 ∧ mb_c g m r (g.2.2.1 r) = 1 ∧ mb_P g m r 0)) (nI (r + 1))) : wX_kindOfSet_45 post J10 x1 x2 (bz_I Q1) (bz_I Q2) (nI r) (nI (mb_c g m r (g.2.2.1 r))) xN xT xB xR xS xE xL xA xG xC xF aL aN aS aR aM aK aT aE := by
  obtain ⟨h1, h2, h3, h4, h5⟩ := gw_X0 hg hr
  have hle := mb_le (g := g) (m := m) (r := r) (k := g.2.2.1 r)
  have eN : aN (nI r).toNatClampNeg = nI (g.2.2.1 r) := by rw [nI_clamp (by omega)]; exact h3
  have no : ¬ (Q1 ∧ mb_c g m r (g.2.2.1 r) = 1 ∧ mb_P g m r (g.2.2.1 r - 1)) → wX_kindOfSet_86 post J10 x1 0 (bz_I Q2) (nI r) (nI (mb_c g m r (g.2.2.1 r))) xN xT xB xR xS xE xL xA xG xC xF aL aN aS aR aM aK aT aE := fun z => by
    rw [bz_f z] at hJ
    exact xk_87 hN h8 hg hE hm hr hc hJ
  refine br_f (nI_nle hc (by omega)) (bz_br rfl (fun z => no fun y => z y.1) (fun z => pk_eq (mb_c g m r (g.2.2.1 r)) 1 (fun z2 => ⟨vp_in_nI (by omega) (by decide), ?_⟩) (fun z2 => no fun y => z2 y.2.1) rfl rfl (by omega) (by decide)))
  rw [eN]
  have hp := mb_p hc
  obtain ⟨l, hl⟩ : ∃ l, g.2.2.1 r = l + 1 := ⟨g.2.2.1 r - 1, by omega⟩
  have e1 : nI (g.2.2.1 r) - 1 = nI (g.2.2.1 r - 1) := by rw [hl, nI_pred]; rfl
  rw [e1]
  refine xk_I (k := g.2.2.1 r - 1) hN h8 hg hE hm hr (by omega) (bz_br rfl (fun z3 => no fun y => z3 y.2.2) (fun z3 => ?_))
  rw [bz_t (P := Q1 ∧ mb_c g m r (g.2.2.1 r) = 1 ∧ mb_P g m r (g.2.2.1 r - 1)) ⟨z, z2, z3⟩] at hJ
  exact xk_87 hN h8 hg hE hm hr hc hJ
theorem xk_10 {post : Int32 → Prop} {s : Nat} (hs : s < 6) (hN : N ≤ 6) (h8 : g.1 ≤ 8) (hg : gw_X 0 g aL aN aS) (hE : gw_E N g) (hm : sn_R N m aM) (H : post (nI (kn_K g m s))) :
    ∀ d r, r + d = g.1 → wX_kindOfSet_10 post (nI s) xN xT xB (nI g.1) xS xE xL xA xG xC xF aL aN aS aR aM aK aT aE (d + 1) (bz_I (¬ kn_A g m s r)) (bz_I (kn_R g m s r)) (bz_I (kn_L g m s r)) (nI r) := by
  intro d
  induction d with
  | zero =>
    intro r hr
    have e : r = g.1 := by omega
    subst e
    refine br_t (nI_le (Nat.le_refl _) (by omega)) (bz_br rfl (fun z => ?_) (fun z => ?_))
    · have z := Classical.byContradiction z
      refine bz_br rfl (fun z1 => bz_br rfl (fun z2 => ?_) (fun z2 => ?_)) (fun z1 => ?_)
      · rw [kn_3 z z1 z2] at H; exact H
      · rw [kn_2 z z1 z2] at H; exact H
      · rw [kn_1 z z1] at H; exact H
    · rw [kn_0 z] at H; exact H
  | succ d ih =>
    intro r hr
    obtain ⟨h1, h2, h3, h4, h5⟩ := gw_X0 hg (r := r) (by omega)
    obtain ⟨e1, e2, e3⟩ := hE r (by omega)
    have m2 := hm (g.2.1 r) e1
    have eL : aL (nI r).toNatClampNeg = nI (g.2.1 r) := by rw [nI_clamp (by omega)]; exact h1
    have ih' := ih (r + 1) (by omega)
    have no : ¬ (m (g.2.1 r) = s ∧ 0 < mb_c g m r (g.2.2.1 r)) → wX_kindOfSet_45 post (wX_kindOfSet_10 post (nI s) xN xT xB (nI g.1) xS xE xL xA xG xC xF aL aN aS aR aM aK aT aE (d + 1)) (nI s) (bz_I (¬ kn_A g m s r)) (bz_I (kn_R g m s r)) (bz_I (kn_L g m s r)) (nI r) 0 xN xT xB (nI g.1) xS xE xL xA xG xC xF aL aN aS aR aM aK aT aE := fun z => by
      rw [bz_c (P := ¬ kn_A g m s (r + 1)) (Q := ¬ kn_A g m s r) (not_congr (kn_As.trans ⟨fun y => y.elim id fun w => absurd w z, Or.inl⟩)), bz_c (P := kn_R g m s (r + 1)) (Q := kn_R g m s r) (kn_Rs.trans ⟨And.left, fun y => ⟨y, fun w1 w2 => absurd ⟨w1, w2⟩ z⟩⟩), bz_c (P := kn_L g m s (r + 1)) (Q := kn_L g m s r) (kn_Ls.trans ⟨And.left, fun y => ⟨y, fun w1 w2 => absurd ⟨w1, w2⟩ z⟩⟩)] at ih'
      exact br_t (by decide) (nm_r (nI_1 r) ih')
    refine br_f (nI_ge (by omega) (by omega)) ⟨vp_in_nI (by omega) (by decide), pk_in (g.2.1 r) 6 (by omega) eL, pk_eq (m (g.2.1 r)) s (fun z => ?_) (fun z => no fun y => z y.1) (by rw [eL, nI_clamp (by omega)]; exact m2.1) rfl (by have := m2.2; omega) (by omega)⟩
    refine xk_C hN h8 hg hE hm (by omega) ?_
    rcases Nat.eq_zero_or_pos (mb_c g m r (g.2.2.1 r)) with y | y
    · rw [y]; exact no fun w => by have := w.2; omega
    · refine xk_45 hN h8 hg hE hm (by omega) y ?_
      rw [bz_f (P := ¬ kn_A g m s (r + 1)) (fun w => w (kn_As.mpr (Or.inr ⟨z, y⟩))), bz_c (P := kn_R g m s (r + 1)) (kn_Rs.trans (and_congr Iff.rfl ⟨fun w => w z y, fun w _ _ => w⟩)), bz_c (P := kn_L g m s (r + 1)) (kn_Ls.trans (and_congr Iff.rfl ⟨fun w => w z y, fun w _ _ => w⟩))] at ih'
      exact ih'
theorem xk_K {post : Int32 → Prop} {s : Nat} (hs : s < 6) (hN : N ≤ 6) (h8 : g.1 ≤ 8) (hg : gw_X 0 g aL aN aS) (hE : gw_E N g) (hm : sn_R N m aM) (H : post (nI (kn_K g m s))) : wpX_kindOfSet post (xN, xT, xB, nI g.1, xS, xE, xL, xA, xG, xC, xF, aL, aN, aS, aR, aM, aK, aT, aE) (nI s) := by
  have := xk_10 (xN := xN) (xT := xT) (xB := xB) (xS := xS) (xE := xE) (xL := xL) (xA := xA) (xG := xG) (xC := xC) (xF := xF) (aR := aR) (aK := aK) (aT := aT) (aE := aE) hs hN h8 hg hE hm H g.1 0 (by omega)
  rw [bz_t (P := ¬ kn_A g m s 0) kn_A0, bz_t (P := kn_R g m s 0) kn_R0, bz_t (P := kn_L g m s 0) kn_L0] at this
  exact ⟨g.1 + 1, this⟩
theorem xk_2 {post : St2 → Prop} (hN : N ≤ 6) (h8 : g.1 ≤ 8) (hg : gw_X 0 g aL aN aS) (hE : gw_E N g) (hm : sn_R N m aM) (H : ∀ q, (∀ a, a < N → q a = nI (kn_K g m (m a))) → post (nI N, xT, xB, nI g.1, xS, xE, xL, xA, xG, xC, xF, aL, aN, aS, aR, aM, q, aT, aE)) :
    ∀ d a q, a + d = N → (∀ a', a' < a → q a' = nI (kn_K g m (m a'))) → wX_findKinds_2 post (nI N) xT xB (nI g.1) xS xE xL xA xG xC xF (d + 1) (nI a) aL aN aS aR aM q aT aE := by
  intro d
  induction d with
  | zero =>
    intro a q ha hq
    have e : a = N := by omega
    subst e
    exact br_t (nI_le (Nat.le_refl _) (by omega)) (H q hq)
  | succ d ih =>
    intro a q ha hq
    have m2 := hm a (by omega)
    refine br_f (nI_ge (by omega) (by omega)) ⟨vp_in_nI (by omega) (by decide), ?_⟩
    rw [nI_clamp (by omega), m2.1]
    refine xk_K m2.2 hN h8 hg hE hm ⟨vp_in_nI (by omega) (by decide), nm_r (e' := upd q a (nI (kn_K g m (m a)))) rfl (nm_r (nI_1 a) (ih (a + 1) _ (by omega) fun a' h => ?_))⟩
    by_cases z : a' = a
    · subst z; rw [pk_us]
    · rw [pk_un z]; exact hq a' (by omega)
theorem xk_F {post : St2 → Prop} (hN : N ≤ 6) (h8 : g.1 ≤ 8) (hg : gw_X 0 g aL aN aS) (hE : gw_E N g) (hm : sn_R N m aM) (H : ∀ q, (∀ a, a < N → q a = nI (kn_K g m (m a))) → post (nI N, xT, xB, nI g.1, xS, xE, xL, xA, xG, xC, xF, aL, aN, aS, aR, aM, q, aT, aE)) : wpX_findKinds post (nI N, xT, xB, nI g.1, xS, xE, xL, xA, xG, xC, xF, aL, aN, aS, aR, aM, aK, aT, aE) :=
  ⟨N + 1, xk_2 hN h8 hg hE hm H N 0 aK (by omega) (fun a h => absurd h (Nat.not_lt_zero a))⟩
end xks
