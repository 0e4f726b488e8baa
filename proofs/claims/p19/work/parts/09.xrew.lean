/-! X: the rewritten grammar -/
def xw_I (g h : gm_G) (aL aN aS : Nat → Int32) : Prop := gw_X 0 g aL aN aS ∧ gw_X 8 h aL aN aS
theorem xw_6 (a : Nat) : (6 : Int32) + nI a = nI (6 + a) := nI_add 6 a
section xws
variable {xN xT xB xR xS xE xL xA xG xC xF : Int32} {aL aN aS aR aM aK aT aE : Nat → Int32}
variable {N r : Nat} {g h : gm_G} {m kd : Nat → Nat}
theorem xa_S {post : St2 → Prop} {q l : Nat} {p1 : Int32} (hq : q < 34) (hl : l ≤ 4) (eN : aN q = nI l) (H : post (xN, xT, xB, xR, xS, xE, xL, xA, xG, xC, xF, aL, upd aN q (nI (l + 1)), upd aS (q * 5 + l) p1, aR, aM, aK, aT, aE)) : wpX_appendSymbol post (xN, xT, xB, xR, xS, xE, xL, xA, xG, xC, xF, aL, aN, aS, aR, aM, aK, aT, aE) (nI q) p1 := by
  have eN' : aN (nI q).toNatClampNeg = nI l := by rw [nI_clamp (by omega)]; exact eN
  refine ⟨vp_in_nI hq (by decide), pk_in (q * 5 + l) 170 (by omega) (by rw [eN', xp_ix5]), nm_r (e' := upd aS (q * 5 + l) p1) (by rw [eN', xp_ix5, nI_clamp (by omega)]) ⟨vp_in_nI hq (by decide), vp_in_nI hq (by decide), nm_r (e' := upd aN q (nI (l + 1))) (by rw [eN', nI_clamp (by omega), nI_1]) H⟩⟩
theorem xw_st {post : St2 → Prop} {a : Nat} (h8 : g.1 ≤ 8) (ha : a < 12) (hl : h.1 < 26) (hI : xw_I g h aL aN aS) (H : ∀ l n, xw_I g (gm_st h a) l n aS → post (xN, xT, xB, xR, xS, nI (8 + (h.1 + 1)), xL, xA, xG, xC, xF, l, n, aS, aR, aM, aK, aT, aE)) : wpX_startRewritten post (xN, xT, xB, xR, xS, nI (8 + h.1), xL, xA, xG, xC, xF, aL, aN, aS, aR, aM, aK, aT, aE) (nI a) := by
  refine ⟨vp_in_nI (by omega) (by decide), nm_r (e' := upd aL (8 + h.1) (nI a)) (by rw [nI_clamp (by omega)]) ⟨vp_in_nI (by omega) (by decide), nm_r (e' := upd aN (8 + h.1) 0) (by rw [nI_clamp (by omega)]) (nm_r (e' := nI (8 + (h.1 + 1))) (nI_1 (8 + h.1)) (H _ _ ⟨?_, gw_Xst hI.2 rfl ha (by omega)⟩))⟩⟩
  exact gw_Xfr hI.1 h8 (fun r hr => ⟨pk_un (by omega), pk_un (by omega)⟩) (fun _ _ => rfl)
theorem xw_pu {post : St2 → Prop} {s q : Nat} (h8 : g.1 ≤ 8) (hq : h.1 = q + 1) (hs : s < 16) (h4 : h.2.2.1 q ≤ 4) (hI : xw_I g h aL aN aS) (H : ∀ n t, xw_I g (gm_pu h s) aL n t → post (xN, xT, xB, xR, xS, nI (8 + h.1), xL, xA, xG, xC, xF, aL, n, t, aR, aM, aK, aT, aE)) : wpX_appendSymbol post (xN, xT, xB, xR, xS, nI (8 + h.1), xL, xA, xG, xC, xF, aL, aN, aS, aR, aM, aK, aT, aE) (nI (8 + h.1) - 1) (nI s) := by
  have e0 : nI (8 + h.1) - 1 = nI (8 + q) := by rw [hq]; exact nI_pred (8 + q)
  have h34 := hI.2.1
  have eN := (hI.2.2 q (by omega)).2.2.1
  rw [e0]
  refine xa_S (by omega) h4 eN (H _ _ ⟨gw_Xfr hI.1 h8 (fun r hr => ⟨rfl, pk_un (by omega)⟩) (fun c hc => pk_un (by omega)), gw_Xpu hI.2 hq rfl rfl hs h4⟩)
theorem xw_19 {post : St2 → Prop} (hN : N ≤ 6) (h8 : g.1 ≤ 8) (hE : gw_E N g) (hm : sn_R N m aM) (hr : r < g.1) (hk3 : kd (g.2.1 r) = 3) (hz : h.1 + g.2.2.1 r < 24)
    (H : ∀ l n t, xw_I g (gz_f g kd r (gz_p g m kd r h (g.2.2.1 r))) l n t → post (xN, xT, xB, xR, xS, nI (8 + (gz_f g kd r (gz_p g m kd r h (g.2.2.1 r))).1), xL, xA, xG, xC, xF, l, n, t, aR, aM, aK, aT, aE)) :
    ∀ d k aL aN aS, k + d = g.2.2.1 r → xw_I g (gz_p g m kd r h k) aL aN aS → wX_splitRule_19 post (nI r) (nI (g.2.2.1 r)) (d + 1) (nI k) xN xT xB xR xS (nI (8 + (gz_p g m kd r h k).1)) xL xA xG xC xF aL aN aS aR aM aK aT aE := by
  obtain ⟨e1, e2, e3⟩ := hE r hr
  intro d
  induction d with
  | zero =>
    intro k aL aN aS hk hI
    have e : k = g.2.2.1 r := by omega
    subst e
    obtain ⟨q, q1, q2, q3, _⟩ := gz_pz (g := g) (m := m) (kd := kd) (r := r) (h := h) (g.2.2.1 r)
    have eL : aL (nI r).toNatClampNeg = nI (g.2.1 r) := by rw [nI_clamp (by omega)]; exact (gw_X0 hI.1 hr).1
    refine br_t (nI_le (Nat.le_refl _) (by omega)) ⟨vp_in_nI (by omega) (by decide), ?_⟩
    rw [eL, xw_6]
    rw [gz_ft hk3] at H
    exact xw_pu h8 q1 (by omega) (by omega) hI fun n t hI' => H aL n t hI'
  | succ d ih =>
    intro k aL aN aS hk hI
    obtain ⟨q, q1, q2, q3, _⟩ := gz_pz (g := g) (m := m) (kd := kd) (r := r) (h := h) k
    have hs := (gw_X0 hI.1 hr).2.2.2.2 k (by omega)
    refine br_f (nI_ge (by omega) (by omega)) ⟨pk_in (r * 5 + k) 170 (by omega) (xp_ix5 r k), nm_r (e' := nI (g.2.2.2 r k)) (by rw [xp_ix5, nI_clamp (by omega)]; exact hs.1) ?_⟩
    refine xw_pu h8 q1 hs.2 (by omega) hI fun n t hI' => xk_I hN h8 hI'.1 hE hm hr (by omega) (bz_br rfl (fun z => ?_) (fun z => ?_))
    · have := ih (k + 1) aL n t (by omega)
      rw [gz_pf (fun y => z y.2)] at this
      exact nm_r (nI_1 k) (this hI')
    · rw [xw_6]
      refine xw_st (h := gm_pu (gz_p g m kd r h k) (g.2.2.2 r k)) h8 (by have := z.1; omega) (by show (gz_p g m kd r h k).1 < 26; omega) hI' fun l n' hI'' => ?_
      have := ih (k + 1) l n' t (by omega)
      rw [gz_pt ⟨hk3, z⟩] at this
      exact nm_r (nI_1 k) (this hI'')
theorem xw_S {post : St2 → Prop} (hN : N ≤ 6) (h8 : g.1 ≤ 8) (hE : gw_E N g) (hm : sn_R N m aM) (hr : r < g.1) (hk3 : kd (g.2.1 r) = 3) (hz : h.1 + g.2.2.1 r < 24) (hI : xw_I g h aL aN aS)
    (H : ∀ l n t, xw_I g (gz_f g kd r (gz_p g m kd r h (g.2.2.1 r))) l n t → post (xN, xT, xB, xR, xS, nI (8 + (gz_f g kd r (gz_p g m kd r h (g.2.2.1 r))).1), xL, xA, xG, xC, xF, l, n, t, aR, aM, aK, aT, aE)) : wpX_splitRule post (xN, xT, xB, xR, xS, nI (8 + h.1), xL, xA, xG, xC, xF, aL, aN, aS, aR, aM, aK, aT, aE) (nI r) := by
  obtain ⟨h1, h2, h3, h4, h5⟩ := gw_X0 hI.1 hr
  refine ⟨vp_in_nI (by omega) (by decide), nm_r (e' := nI (g.2.2.1 r)) (by rw [nI_clamp (by omega)]; exact h3) ⟨vp_in_nI (by omega) (by decide), ?_⟩⟩
  rw [nI_clamp (by omega), h1]
  exact xw_st h8 h2 (by omega) hI fun l n hI' => ⟨g.2.2.1 r + 1, xw_19 hN h8 hE hm hr hk3 hz H (g.2.2.1 r) 0 l n aS (by omega) hI'⟩
theorem xw_c19 {post : St2 → Prop} (h8 : g.1 ≤ 8) (hE : gw_E N g) (hr : r < g.1) (hk3 : ¬ kd (g.2.1 r) = 3) (hz : h.1 + g.2.2.1 r < 24)
    (H : ∀ l n t, xw_I g (gz_f g kd r (gz_p g m kd r h (g.2.2.1 r))) l n t → post (xN, xT, xB, xR, xS, nI (8 + (gz_f g kd r (gz_p g m kd r h (g.2.2.1 r))).1), xL, xA, xG, xC, xF, l, n, t, aR, aM, aK, aT, aE)) :
    ∀ d k aL aN aS, k + d = g.2.2.1 r → xw_I g (gz_p g m kd r h k) aL aN aS → wX_copyRule_19 post (nI r) (nI (g.2.2.1 r)) (d + 1) (nI k) xN xT xB xR xS (nI (8 + (gz_p g m kd r h k).1)) xL xA xG xC xF aL aN aS aR aM aK aT aE := by
  obtain ⟨e1, e2, e3⟩ := hE r hr
  intro d
  induction d with
  | zero =>
    intro k aL aN aS hk hI
    have e : k = g.2.2.1 r := by omega
    subst e
    rw [gz_ff hk3] at H
    exact br_t (nI_le (Nat.le_refl _) (by omega)) (H aL aN aS hI)
  | succ d ih =>
    intro k aL aN aS hk hI
    obtain ⟨q, q1, q2, q3, _⟩ := gz_pz (g := g) (m := m) (kd := kd) (r := r) (h := h) k
    have hs := (gw_X0 hI.1 hr).2.2.2.2 k (by omega)
    refine br_f (nI_ge (by omega) (by omega)) ⟨pk_in (r * 5 + k) 170 (by omega) (xp_ix5 r k), ?_⟩
    rw [xp_ix5, nI_clamp (by omega), hs.1]
    refine xw_pu h8 q1 hs.2 (by omega) hI fun n t hI' => ?_
    have := ih (k + 1) aL n t (by omega)
    rw [gz_pf (fun y => hk3 y.1)] at this
    exact nm_r (nI_1 k) (this hI')
theorem xw_C {post : St2 → Prop} (h8 : g.1 ≤ 8) (hE : gw_E N g) (hr : r < g.1) (hk3 : ¬ kd (g.2.1 r) = 3) (hz : h.1 + g.2.2.1 r < 24) (hI : xw_I g h aL aN aS)
    (H : ∀ l n t, xw_I g (gz_f g kd r (gz_p g m kd r h (g.2.2.1 r))) l n t → post (xN, xT, xB, xR, xS, nI (8 + (gz_f g kd r (gz_p g m kd r h (g.2.2.1 r))).1), xL, xA, xG, xC, xF, l, n, t, aR, aM, aK, aT, aE)) : wpX_copyRule post (xN, xT, xB, xR, xS, nI (8 + h.1), xL, xA, xG, xC, xF, aL, aN, aS, aR, aM, aK, aT, aE) (nI r) := by
  obtain ⟨h1, h2, h3, h4, h5⟩ := gw_X0 hI.1 hr
  refine ⟨vp_in_nI (by omega) (by decide), nm_r (e' := nI (g.2.2.1 r)) (by rw [nI_clamp (by omega)]; exact h3) ⟨vp_in_nI (by omega) (by decide), ?_⟩⟩
  rw [nI_clamp (by omega), h1]
  exact xw_st h8 h2 (by omega) hI fun l n hI' => ⟨g.2.2.1 r + 1, xw_c19 h8 hE hr hk3 hz H (g.2.2.1 r) 0 l n aS (by omega) hI'⟩
theorem xw_46 {post : St2 → Prop} (hN : N ≤ 6) (h8 : g.1 ≤ 8) (h12 : sr_S g.2.2.1 g.1 ≤ 12) (hK : ∀ a, a < N → aK a = nI (kd a) ∧ kd a ≤ 3)
    (H : ∀ l n t, xw_I g (gz_C g m kd N) l n t → post (nI N, xT, xB, xR, xS, nI (8 + (gz_C g m kd N).1), xL, xA, xG, xC, xF, l, n, t, aR, aM, aK, aT, aE)) :
    ∀ d a aL aN aS, a + d = N → xw_I g (gz_C g m kd a) aL aN aS → wX_rewrite_46 post (d + 1) (nI a) (nI N) xT xB xR xS (nI (8 + (gz_C g m kd a).1)) xL xA xG xC xF aL aN aS aR aM aK aT aE := by
  intro d
  induction d with
  | zero =>
    intro a aL aN aS ha hI
    have e : a = N := by omega
    subst e
    exact br_t (nI_le (Nat.le_refl _) (by omega)) (H aL aN aS hI)
  | succ d ih =>
    intro a aL aN aS ha hI
    have hk := hK a (by omega)
    have hz := (gz_Cz (g := g) (m := m) (kd := kd) a).1
    refine br_f (nI_ge (by omega) (by omega)) ⟨vp_in_nI (by omega) (by decide), pk_eq (kd a) 3 (fun z => ?_) (fun z => ?_) (by rw [nI_clamp (by omega)]; exact hk.1) rfl (by omega) (by decide)⟩
    · rw [xw_6]
      refine xw_st h8 (by omega) (by omega) hI fun l n hI' => ?_
      have := ih (a + 1) l n aS (by omega)
      rw [gz_Ct z] at this
      exact nm_r (nI_1 a) (this hI')
    · have := ih (a + 1) aL aN aS (by omega)
      rw [gz_Cf z] at this
      exact nm_r (nI_1 a) (this hI)
theorem xw_2 {post : St2 → Prop} (hN : N ≤ 6) (h8 : g.1 ≤ 8) (h12 : sr_S g.2.2.1 g.1 ≤ 12) (hE : gw_E N g) (hm : sn_R N m aM) (hK : ∀ a, a < N → aK a = nI (kd a) ∧ kd a ≤ 3)
    (H : ∀ l n t, xw_I g (gz_C g m kd N) l n t → post (nI N, xT, xB, nI g.1, xS, nI (8 + (gz_C g m kd N).1), xL, xA, xG, xC, xF, l, n, t, aR, aM, aK, aT, aE)) :
    ∀ d r aL aN aS, r + d = g.1 → xw_I g (gz_B g m kd r) aL aN aS → wX_rewrite_2 post (d + 1) (nI r) (nI N) xT xB (nI g.1) xS (nI (8 + (gz_B g m kd r).1)) xL xA xG xC xF aL aN aS aR aM aK aT aE := by
  intro d
  induction d with
  | zero =>
    intro r aL aN aS hr hI
    have e : r = g.1 := by omega
    subst e
    exact br_t (nI_le (Nat.le_refl _) (by omega)) ⟨N + 1, xw_46 hN h8 h12 hK H N 0 aL aN aS (by omega) hI⟩
  | succ d ih =>
    intro r aL aN aS hr hI
    obtain ⟨h1, h2, h3, h4, h5⟩ := gw_X0 hI.1 (r := r) (by omega)
    obtain ⟨e1, e2, e3⟩ := hE r (by omega)
    have hk := hK (g.2.1 r) e1
    have hz := (gz_Bz (g := g) (m := m) (kd := kd) r).1
    have hsm := sr_m (ln := g.2.2.1) (r := r) (n := g.1) (by omega)
    have eL : aL (nI r).toNatClampNeg = nI (g.2.1 r) := by rw [nI_clamp (by omega)]; exact h1
    refine br_f (nI_ge (by omega) (by omega)) ⟨vp_in_nI (by omega) (by decide), pk_in (g.2.1 r) 6 (by omega) eL, pk_eq (kd (g.2.1 r)) 3 (fun z => ?_) (fun z => ?_) (by rw [eL, nI_clamp (by omega)]; exact hk.1) rfl (by omega) (by decide)⟩
    · exact xw_S hN h8 hE hm (by omega) z (by omega) hI fun l n t hI' => nm_r (nI_1 r) (ih (r + 1) l n t (by omega) hI')
    · exact xw_C (m := m) h8 hE (by omega) z (by omega) hI fun l n t hI' => nm_r (nI_1 r) (ih (r + 1) l n t (by omega) hI')
theorem gz_X8 {aL aN aS : Nat → Int32} : gw_X 8 (gz_B g m kd 0) aL aN aS := ⟨by show 8 + 0 ≤ 34; decide, fun r hr => absurd hr (Nat.not_lt_zero r)⟩
theorem xw_R {post : St2 → Prop} (hN : N ≤ 6) (h8 : g.1 ≤ 8) (h12 : sr_S g.2.2.1 g.1 ≤ 12) (hE : gw_E N g) (hm : sn_R N m aM) (hK : ∀ a, a < N → aK a = nI (kd a) ∧ kd a ≤ 3) (hg : gw_X 0 g aL aN aS)
    (H : ∀ l n t, xw_I g (gz_C g m kd N) l n t → post (nI N, xT, xB, nI g.1, xS, nI (8 + (gz_C g m kd N).1), xL, xA, xG, xC, xF, l, n, t, aR, aM, aK, aT, aE)) : wpX_rewrite post (nI N, xT, xB, nI g.1, xS, nI 8, xL, xA, xG, xC, xF, aL, aN, aS, aR, aM, aK, aT, aE) :=
  ⟨g.1 + 1, xw_2 hN h8 h12 hE hm hK H g.1 0 aL aN aS (by omega) ⟨hg, gz_X8⟩⟩
end xws
