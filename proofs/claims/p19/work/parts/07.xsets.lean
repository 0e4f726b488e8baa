/-! X: reached, names, kinds -/
theorem gw_X0 {g : gm_G} {aL aN aS : Nat → Int32} (h : gw_X 0 g aL aN aS) {r : Nat} (hr : r < g.1) : aL r = nI (g.2.1 r) ∧ g.2.1 r < 12 ∧ aN r = nI (g.2.2.1 r) ∧ g.2.2.1 r ≤ 5 ∧ ∀ k, k < g.2.2.1 r → aS (r * 5 + k) = nI (g.2.2.2 r k) ∧ g.2.2.2 r k < 16 := by
  have := h.2 r hr
  rw [Nat.zero_add] at this
  exact this
/-- X's masks hold a relation -/
def rr_X (N : Nat) (aR : Nat → Int32) (R : Nat → Nat → Prop) : Prop := ∀ a, a < N → ∀ b, b < 32 → (bt (aR a) b = true ↔ R a b)
section xbs
variable {xN xT xB xR xS xE xL xA xG xC xF : Int32} {aL aN aS aR aM aK aT aE : Nat → Int32}
variable {N : Nat} {g : gm_G}
theorem xr_12 {post : St2 → Prop} {J2 : Int32 → (Nat → Int32) → (Nat → Int32) → (Nat → Int32) → (Nat → Int32) → (Nat → Int32) → (Nat → Int32) → (Nat → Int32) → (Nat → Int32) →  Prop} {r : Nat} (hN : N ≤ 6) (h8 : g.1 ≤ 8) (hg : gw_X 0 g aL aN aS) (hE : gw_E N g) (hr : r < g.1)
    (hJ : ∀ q, rr_X N q (ed_E g (r + 1)) → J2 (nI (r + 1)) aL aN aS q aM aK aT aE) :
    ∀ d k q, k + d = g.2.2.1 r → rr_X N q (fun a b => ed_E g r a b ∨ (g.2.1 r = a ∧ b < 12 ∧ ∃ k', k' < k ∧ g.2.2.2 r k' = b)) → wX_findReached_12 post J2 (nI r) xN xT xB xR xS xE xL xA xG xC xF (d + 1) (nI k) aL aN aS q aM aK aT aE := by
  obtain ⟨h1, h2, h3, h4, h5⟩ := gw_X0 hg hr
  obtain ⟨e1, e2, e3⟩ := hE r hr
  have eN : aN (nI r).toNatClampNeg = nI (g.2.2.1 r) := by rw [nI_clamp (by omega)]; exact h3
  have eL : aL (nI r).toNatClampNeg = nI (g.2.1 r) := by rw [nI_clamp (by omega)]; exact h1
  intro d
  induction d with
  | zero =>
    intro k q hk hq
    refine ⟨vp_in_nI (by omega) (by decide), br_t (by rw [eN]; exact nI_le (by omega) (by omega)) (nm_r (nI_1 r) (hJ q fun a ha b hb => Iff.trans (hq a ha b hb) ?_))⟩
    constructor
    · rintro (⟨r', k', x1, x2⟩ | ⟨x1, x2, k', x3, x4⟩)
      · exact ⟨r', k', by omega, x2⟩
      · exact ⟨r, k', by omega, by omega, x1, x4, x2⟩
    · rintro ⟨r', k', x1, x2, x3, x4, x5⟩
      rcases Nat.lt_or_ge r' r with z | z
      · exact Or.inl ⟨r', k', z, x2, x3, x4, x5⟩
      · have e : r' = r := by omega
        subst e
        exact Or.inr ⟨x3, x5, k', by omega, x4⟩
  | succ d ih =>
    intro k q hk hq
    have hs := h5 k (by omega)
    refine ⟨vp_in_nI (by omega) (by decide), br_f (by rw [eN]; exact nI_ge (by omega) (by omega)) ⟨pk_in (r * 5 + k) 170 (by omega) (xp_ix5 r k), nm_r (e' := nI (g.2.2.2 r k)) (by rw [xp_ix5, nI_clamp (by omega)]; exact hs.1) ?_⟩⟩
    refine pk_le 12 (g.2.2.2 r k) (fun z => nm_r (nI_1 k) (ih (k + 1) q (by omega) fun a ha b hb => Iff.trans (hq a ha b hb) (or_congr Iff.rfl (and_congr Iff.rfl ?_)))) (fun z => ?_) rfl rfl (by decide) (by omega)
    · constructor
      · rintro ⟨x2, k', x3, x4⟩
        exact ⟨x2, k', by omega, x4⟩
      · rintro ⟨x2, k', x3, x4⟩
        rcases Nat.lt_or_ge k' k with y | y
        · exact ⟨x2, k', y, x4⟩
        · have e : k' = k := by omega
          subst e
          omega
    · have hsN : g.2.2.2 r k < N := by rcases e3 k (by omega) with y | y <;> omega
      refine ⟨vp_in_nI (by omega) (by decide), pk_in (g.2.1 r) 6 (by omega) eL, pk_in (g.2.1 r) 6 (by omega) eL, nm_r (e' := upd q (g.2.1 r) (q (g.2.1 r) ||| ((1 : Int32) <<< (nI (g.2.2.2 r k) &&& 31)))) (by rw [eL, nI_clamp (by omega)]) (nm_r (nI_1 k) (ih (k + 1) _ (by omega) fun a ha b hb => ?_))⟩
      by_cases y : a = g.2.1 r
      · subst y
        rw [pk_us, xb_os (by omega) hb, hq _ ha b hb]
        constructor
        · rintro ((x | ⟨x1, x2, k', x3, x4⟩) | x)
          · exact Or.inl x
          · exact Or.inr ⟨x1, x2, k', by omega, x4⟩
          · exact Or.inr ⟨rfl, by omega, k, by omega, x⟩
        · rintro (x | ⟨x1, x2, k', x3, x4⟩)
          · exact Or.inl (Or.inl x)
          · rcases Nat.lt_or_ge k' k with w | w
            · exact Or.inl (Or.inr ⟨x1, x2, k', w, x4⟩)
            · have e : k' = k := by omega
              subst e
              exact Or.inr x4
      · rw [pk_un y, hq a ha b hb]
        exact ⟨fun x => x.imp id fun w => absurd w.1.symm y, fun x => x.imp id fun w => absurd w.1.symm y⟩
theorem xr_rc {post : Int32 → Prop} {a b : Nat} {R : Prop} (ha : a < 6) (hb : b < 32) (hR : bt (aR a) b = true ↔ R) (H : post (bz_I R)) : wpX_reaches post (xN, xT, xB, xR, xS, xE, xL, xA, xG, xC, xF, aL, aN, aS, aR, aM, aK, aT, aE) (nI a) (nI b) := by
  refine ⟨vp_in_nI ha (by decide), ek_if (d := R) (by rw [nI_clamp (by omega)]; exact Iff.trans (xb_t hb _) hR) (fun z => ?_) (fun z => ?_)⟩
  · exact bz_p1 H z
  · exact bz_p0 H z
theorem xr_80 {post : St2 → Prop} {J70 : Int32 → (Nat → Int32) → (Nat → Int32) → (Nat → Int32) → (Nat → Int32) → (Nat → Int32) → (Nat → Int32) → (Nat → Int32) → (Nat → Int32) →  Prop} {k : Nat} {E : Nat → Nat → Prop} (hN : N ≤ 6) (hk : k < N)
    (hJ : ∀ q, rr_X N q (ws_W E (k + 1)) → J70 (nI (k + 1)) aL aN aS q aM aK aT aE) :
    ∀ d a q, a + d = N → rr_X N q (fun a' b => (a' < a ∧ ws_W E (k + 1) a' b) ∨ (a ≤ a' ∧ ws_W E k a' b)) → wX_findReached_80 post J70 (nI k) (nI N) xT xB xR xS xE xL xA xG xC xF (d + 1) (nI a) aL aN aS q aM aK aT aE := by
  intro d
  induction d with
  | zero =>
    intro a q ha hq
    refine br_t (nI_le (by omega) (by omega)) (nm_r (nI_1 k) (hJ q fun a' ha' b hb => Iff.trans (hq a' ha' b hb) ?_))
    exact ⟨fun x => x.elim (fun y => y.2) (fun y => by omega), fun x => Or.inl ⟨by omega, x⟩⟩
  | succ d ih =>
    intro a q ha hq
    have hrow : ∀ b, b < 32 → (bt (q a) b = true ↔ ws_W E k a b) := fun b hb => Iff.trans (hq a (by omega) b hb) ⟨fun x => x.elim (fun y => by omega) (fun y => y.2), fun x => Or.inr ⟨Nat.le_refl a, x⟩⟩
    have hmid : ∀ b, b < 32 → (bt (q k) b = true ↔ ws_W E k k b) := fun b hb => Iff.trans (hq k hk b hb) ⟨fun x => x.elim (fun y => ws_r.mp y.2) (fun y => y.2), fun x => by
      rcases Nat.lt_or_ge k a with z | z
      · exact Or.inl ⟨z, ws_r.mpr x⟩
      · exact Or.inr ⟨z, x⟩⟩
    have step : ∀ q', (∀ b, b < 32 → (bt (q' a) b = true ↔ ws_W E (k + 1) a b)) → (∀ a', a' ≠ a → q' a' = q a') → rr_X N q' (fun a' b => (a' < a + 1 ∧ ws_W E (k + 1) a' b) ∨ (a + 1 ≤ a' ∧ ws_W E k a' b)) := by
      intro q' h1 h2 a' ha' b hb
      by_cases z : a' = a
      · subst z
        exact Iff.trans (h1 b hb) ⟨fun x => Or.inl ⟨by omega, x⟩, fun x => x.elim (fun y => y.2) (fun y => by omega)⟩
      · rw [h2 a' z]
        refine Iff.trans (hq a' ha' b hb) (or_congr (and_congr ?_ Iff.rfl) (and_congr ?_ Iff.rfl)) <;> omega
    refine br_f (nI_ge (by omega) (by omega)) (xr_rc (by omega) (by omega) (hrow k (by omega)) (bz_br rfl (fun z => nm_r (nI_1 a) (ih (a + 1) q (by omega) (step q (fun b hb => Iff.trans (hrow b hb) ⟨Or.inl, fun x => x.elim id fun y => absurd y.1 z⟩) fun _ _ => rfl))) (fun z => ?_)))
    refine ⟨vp_in_nI (by omega) (by decide), vp_in_nI (by omega) (by decide), vp_in_nI (by omega) (by decide), nm_r (e' := upd q a (q a ||| q k)) (by rw [nI_clamp (by omega), nI_clamp (by omega)]) (nm_r (nI_1 a) (ih (a + 1) _ (by omega) (step _ (fun b hb => ?_) fun a' h => pk_un h)))⟩
    rw [pk_us, xb_or, hrow b hb, hmid b hb]
    exact ⟨fun x => x.imp id fun y => ⟨z, y⟩, fun x => x.imp id fun y => y.2⟩
theorem xr_70 {post : St2 → Prop} {E : Nat → Nat → Prop} (hN : N ≤ 6) (H : ∀ q, rr_X N q (ws_W E N) → post (nI N, xT, xB, xR, xS, xE, xL, xA, xG, xC, xF, aL, aN, aS, q, aM, aK, aT, aE)) :
    ∀ d k q, k + d = N → rr_X N q (ws_W E k) → wX_findReached_70 post (nI N) xT xB xR xS xE xL xA xG xC xF (d + 1) (nI k) aL aN aS q aM aK aT aE := by
  intro d
  induction d with
  | zero =>
    intro k q hk hq
    have e : k = N := by omega
    subst e
    exact br_t (nI_le (Nat.le_refl _) (by omega)) (H q hq)
  | succ d ih =>
    intro k q hk hq
    exact br_f (nI_ge (by omega) (by omega)) ⟨N + 1, xr_80 hN (by omega) (fun q' hq' => ih (k + 1) q' (by omega) hq') N 0 q (by omega) (fun a ha b hb => Iff.trans (hq a ha b hb) ⟨fun x => Or.inr ⟨Nat.zero_le a, x⟩, fun x => x.elim (fun y => absurd y.1 (Nat.not_lt_zero a)) (fun y => y.2)⟩)⟩
theorem xr_2 {post : St2 → Prop} (hN : N ≤ 6) (h8 : g.1 ≤ 8) (hg : gw_X 0 g aL aN aS) (hE : gw_E N g) (H : ∀ q, rr_X N q (ws_W (ed_E g g.1) N) → post (nI N, xT, xB, nI g.1, xS, xE, xL, xA, xG, xC, xF, aL, aN, aS, q, aM, aK, aT, aE)) :
    ∀ d r q, r + d = g.1 → rr_X N q (ed_E g r) → wX_findReached_2 post (nI N) xT xB (nI g.1) xS xE xL xA xG xC xF (d + 1) (nI r) aL aN aS q aM aK aT aE := by
  intro d
  induction d with
  | zero =>
    intro r q hr hq
    have e : r = g.1 := by omega
    subst e
    exact br_t (nI_le (Nat.le_refl _) (by omega)) ⟨N + 1, xr_70 hN H N 0 q (by omega) hq⟩
  | succ d ih =>
    intro r q hr hq
    exact br_f (nI_ge (by omega) (by omega)) ⟨g.2.2.1 r + 1, xr_12 hN h8 hg hE (by omega) (fun q' hq' => ih (r + 1) q' (by omega) hq') (g.2.2.1 r) 0 q (by omega) (fun a ha b hb => Iff.trans (hq a ha b hb) ⟨Or.inl, fun x => x.elim id fun ⟨_, _, k', y, _⟩ => absurd y (Nat.not_lt_zero k')⟩)⟩
theorem xr_F {post : St2 → Prop} (hN : N ≤ 6) (h8 : g.1 ≤ 8) (hg : gw_X 0 g aL aN aS) (hE : gw_E N g) (h0 : ∀ a, a < 6 → aR a = 0) (H : ∀ q, rr_X N q (ws_W (ed_E g g.1) N) → post (nI N, xT, xB, nI g.1, xS, xE, xL, xA, xG, xC, xF, aL, aN, aS, q, aM, aK, aT, aE)) : wpX_findReached post (nI N, xT, xB, nI g.1, xS, xE, xL, xA, xG, xC, xF, aL, aN, aS, aR, aM, aK, aT, aE) :=
  ⟨g.1 + 1, xr_2 hN h8 hg hE H g.1 0 aR (by omega) fun a ha b hb => by
    rw [h0 a (by omega), b_0]
    exact ⟨fun x => absurd x (by decide), fun ⟨r, k, x, _⟩ => absurd x (Nat.not_lt_zero r)⟩⟩
theorem xm_2 {post : Int32 → Prop} {R : Nat → Nat → Prop} {a : Nat} (hN : N ≤ 6) (ha : a < N) (hR : rr_X N aR R) (H : post (nI (mt_N R a))) :
    ∀ d b, b + d = a → mt_f R a b = a → wX_smallestMate_2 post (nI a) xN xT xB xR xS xE xL xA xG xC xF aL aN aS aR aM aK aT aE (d + 1) (nI b) := by
  intro d
  induction d with
  | zero =>
    intro b hb hm
    have e : b = a := by omega
    subst e
    unfold mt_N at H
    rw [hm] at H
    exact br_t (nI_le (Nat.le_refl _) (by omega)) H
  | succ d ih =>
    intro b hb hm
    have nx : ¬ (R a b ∧ R b a) → wX_smallestMate_2 post (nI a) xN xT xB xR xS xE xL xA xG xC xF aL aN aS aR aM aK aT aE (d + 1) (nI (b + 1)) := fun z => ih (b + 1) (by omega) (by rw [mt_n (fun y => z y.2)]; exact hm)
    refine br_f (nI_ge (by omega) (by omega)) (xr_rc (by omega) (by omega) (hR a ha b (by omega)) (bz_br rfl (fun z => nm_r (nI_1 b) (nx fun y => z y.1)) (fun z => ?_)))
    refine xr_rc (by omega) (by omega) (hR b (by omega) a (by omega)) (bz_br rfl (fun z2 => nm_r (nI_1 b) (nx fun y => z2 y.2)) (fun z2 => ?_))
    rw [mt_fst (by omega) ⟨hm, z, z2⟩] at H
    exact H
theorem xm_M {post : Int32 → Prop} {R : Nat → Nat → Prop} {a : Nat} (hN : N ≤ 6) (ha : a < N) (hR : rr_X N aR R) (H : post (nI (mt_N R a))) : wpX_smallestMate post (xN, xT, xB, xR, xS, xE, xL, xA, xG, xC, xF, aL, aN, aS, aR, aM, aK, aT, aE) (nI a) :=
  ⟨a + 1, xm_2 hN ha hR H a 0 (by omega) rfl⟩
theorem mt_lt {R : Nat → Nat → Prop} {a : Nat} : mt_N R a ≤ a := mt_le a (Nat.le_refl a)
theorem xm_4 {post : Int32 → St2 → Prop} {R : Nat → Nat → Prop} (hN : N ≤ 6) (hR : rr_X N aR R) (H : ∀ q, (∀ a, a < N → q a = nI (mt_N R a)) → post (nI (cn (fun a => mt_N R a = a) N)) (nI N, xT, xB, xR, xS, xE, xL, xA, xG, xC, xF, aL, aN, aS, aR, q, aK, aT, aE)) :
    ∀ d a q, a + d = N → (∀ a', a' < a → q a' = nI (mt_N R a')) → wX_nameSets_4 post (nI N) xT xB xR xS xE xL xA xG xC xF (d + 1) (nI (cn (fun a => mt_N R a = a) a)) (nI a) aL aN aS aR q aK aT aE := by
  intro d
  induction d with
  | zero =>
    intro a q ha hq
    have e : a = N := by omega
    subst e
    exact br_t (nI_le (Nat.le_refl _) (by omega)) (H q hq)
  | succ d ih =>
    intro a q ha hq
    have hm := mt_lt (R := R) (a := a)
    have hq' : ∀ a', a' < a + 1 → upd q a (nI (mt_N R a)) a' = nI (mt_N R a') := fun a' h => by
      by_cases z : a' = a
      · subst z; rw [pk_us]
      · rw [pk_un z]; exact hq a' (by omega)
    have := ih (a + 1) _ (by omega) hq'
    refine br_f (nI_ge (by omega) (by omega)) (xm_M hN (by omega) hR ⟨vp_in_nI (by omega) (by decide), nm_r (e' := upd q a (nI (mt_N R a))) (by rw [nI_clamp (by omega)]) ⟨vp_in_nI (by omega) (by decide), pk_eq (mt_N R a) a (fun z => ?_) (fun z => ?_) (by rw [nI_clamp (by omega), pk_us]) rfl⟩⟩)
    · rw [cn, b01_t z] at this
      exact nm_r (nI_1 _) (nm_r (nI_1 a) this)
    · rw [cn, b01_f z] at this
      exact nm_r (nI_1 a) this
theorem xm_S {post : Int32 → St2 → Prop} {R : Nat → Nat → Prop} (hN : N ≤ 6) (hR : rr_X N aR R) (H : ∀ q, (∀ a, a < N → q a = nI (mt_N R a)) → post (nI (cn (fun a => mt_N R a = a) N)) (nI N, xT, xB, xR, xS, xE, xL, xA, xG, xC, xF, aL, aN, aS, aR, q, aK, aT, aE)) : wpX_nameSets post (nI N, xT, xB, xR, xS, xE, xL, xA, xG, xC, xF, aL, aN, aS, aR, aM, aK, aT, aE) :=
  ⟨N + 1, xm_4 hN hR H N 0 aM (by omega) (fun a h => absurd h (Nat.not_lt_zero a))⟩
/-- names: below 6 -/
def sn_R (N : Nat) (m : Nat → Nat) (aM : Nat → Int32) : Prop := ∀ a, a < N → aM a = nI (m a) ∧ m a < 6
end xbs
