/-! Y: members, kinds -/
section yks
variable {yN yT yB yR yS yW yG yH yK yI : Int32} {bL bS bN bY bW bM bK bR gL gS gN gY kL kS kN kY bI bD bP bQ bC bX : Nat → Int32}
variable {N r : Nat} {g : gm_G} {m : Nat → Nat}
theorem yk_I {post : Int32 → Prop} {k : Nat} (hN : N ≤ 6) (hg : gw_Y 8 12 g bL bS bN bY) (hE : gw_E N g) (hm : sn_R N m bM) (hr : r < g.1) (hk : k < g.2.2.1 r) (H : post (bz_I (mb_P g m r k))) : wpY_member post (yN, yT, yB, yR, yS, yW, yG, yH, yK, yI, bL, bS, bN, bY, bW, bM, bK, bR, gL, gS, gN, gY, kL, kS, kN, kY, bI, bD, bP, bQ, bC, bX) (nI r) (nI k) := by
  obtain ⟨h1, h2, h3, h4, h5⟩ := hg.2.2 r hr
  obtain ⟨e1, e2, e3⟩ := hE r hr
  have h8 := hg.1
  have h12 := hg.2.1
  have hsm := sr_m (ln := g.2.2.1) hr
  have eL : bL (nI r).toNatClampNeg = nI (g.2.1 r) := by rw [nI_clamp (by omega)]; exact h1
  have hs := h5 k hk
  have hsN := e3 k hk
  refine ⟨vp_in_nI (by omega) (by decide), nm_r (e' := nI (sr_S g.2.2.1 r + k)) (by rw [nI_clamp (by omega), h3, nI_add]) (br_f (nI_pos (by omega)) (br_t (nI_lt (b := 12) (by omega) (by decide)) ⟨vp_in_nI (by omega) (by decide), nm_r (e' := cd_Y (g.2.2.2 r k)) (by rw [nI_clamp (by omega)]; exact hs.1) ?_⟩))⟩
  rcases Nat.lt_or_ge (g.2.2.2 r k) 12 with z | z
  · rw [cd_n z]
    refine br_f (nI_pos (by omega)) (br_t (nI_lt (b := 6) (by omega) (by decide)) ?_)
    have m1 := hm (g.2.2.2 r k) (by omega)
    have m2 := hm (g.2.1 r) e1
    refine ⟨vp_in_nI (by omega) (by decide), vp_in_nI (by omega) (by decide), pk_in (g.2.1 r) 6 (by omega) eL, pk_eq (m (g.2.2.2 r k)) (m (g.2.1 r)) (fun y => ?_) (fun y => ?_) (by rw [nI_clamp (by omega)]; exact m1.1) (by rw [eL, nI_clamp (by omega)]; exact m2.1) (by have := m1.2; omega) (by have := m2.2; omega)⟩
    · exact bz_p1 H ⟨by omega, y⟩
    · exact bz_p0 H (fun w => y w.2)
  · refine br_t (cd_t1 _ hs.2 z) ?_
    exact bz_p0 H (fun y => by have := y.1; omega)
theorem yk_133 {post : Int32 → Prop} {J10 : Int32 → Int32 → Int32 → Int32 → Prop} {x1 x2 x3 : Int32} {c : Nat} {Q F : Prop} (hc : c < 100) (hJ : J10 x2 x3 (bz_I (Q ∧ (0 < c → c = 1 ∧ F))) (nI (r + 1))) : wY_computeKind_133 post J10 x1 x2 x3 (bz_I Q) (nI r) (nI c) (bz_I F) yN yT yB yR yS yW yG yH yK yI bL bS bN bY bW bM bK bR gL gS gN gY kL kS kN kY bI bD bP bQ bC bX := by
  have no : ¬ (Q ∧ (0 < c → c = 1 ∧ F)) → J10 x2 x3 0 (nI (r + 1)) := fun z => by rw [bz_f z] at hJ; exact hJ
  have ye : (0 < c → c = 1 ∧ F) → J10 x2 x3 (bz_I Q) (nI (r + 1)) := fun z => by rw [bz_c ⟨And.left, fun y => ⟨y, z⟩⟩] at hJ; exact hJ
  refine pk_lt 1 c (fun z => nm_r (nI_1 r) (no fun y => by have := (y.2 (by omega)).1; omega)) (fun z => ?_) rfl rfl (by decide) (by omega)
  refine pk_eq c 1 (fun z2 => bz_br rfl (fun z3 => nm_r (nI_1 r) (no fun y => z3 (y.2 (by omega)).2)) (fun z3 => nm_r (nI_1 r) (ye fun _ => ⟨z2, z3⟩))) (fun z2 => nm_r (nI_1 r) (ye fun y => by omega)) rfl rfl (by omega) (by decide)
theorem yk_114 {post : Int32 → Prop} {J10 : Int32 → Int32 → Int32 → Int32 → Prop} {x1 x2 : Int32} {c : Nat} {Q1 Q2 F1 F2 : Prop} (hc : c < 100) (hJ : J10 x2 (bz_I (Q1 ∧ (0 < c → c = 1 ∧ F1))) (bz_I (Q2 ∧ (0 < c → c = 1 ∧ F2))) (nI (r + 1))) : wY_computeKind_114 post J10 x1 x2 (bz_I Q1) (bz_I Q2) (nI r) (nI c) (bz_I F2) (bz_I F1) yN yT yB yR yS yW yG yH yK yI bL bS bN bY bW bM bK bR gL gS gN gY kL kS kN kY bI bD bP bQ bC bX := by
  have no : ¬ (Q1 ∧ (0 < c → c = 1 ∧ F1)) → wY_computeKind_131 post J10 x1 x2 (bz_I Q2) (nI r) (nI c) (bz_I F2) yN yT yB yR yS yW yG yH yK yI bL bS bN bY bW bM bK bR gL gS gN gY kL kS kN kY bI bD bP bQ bC bX := fun z => by
    rw [bz_f z] at hJ
    exact yk_133 hc hJ
  have ye : (0 < c → c = 1 ∧ F1) → wY_computeKind_133 post J10 x1 x2 (bz_I Q1) (bz_I Q2) (nI r) (nI c) (bz_I F2) yN yT yB yR yS yW yG yH yK yI bL bS bN bY bW bM bK bR gL gS gN gY kL kS kN kY bI bD bP bQ bC bX := fun z => by
    rw [bz_c (Q := Q1) ⟨And.left, fun y => ⟨y, z⟩⟩] at hJ
    exact yk_133 hc hJ
  refine pk_lt 1 c (fun z => no fun y => by have := (y.2 (by omega)).1; omega) (fun z => ?_) rfl rfl (by decide) (by omega)
  exact pk_eq c 1 (fun z2 => bz_br rfl (fun z3 => no fun y => z3 (y.2 (by omega)).2) (fun z3 => ye fun _ => ⟨z2, z3⟩)) (fun z2 => ye fun y => by omega) rfl rfl (by omega) (by decide)
theorem yk_50 {post : Int32 → Prop} {J10 : Int32 → Int32 → Int32 → Int32 → Prop} {x1 : Int32} {Q0 Q1 Q2 : Prop} (hN : N ≤ 6) (hg : gw_Y 8 12 g bL bS bN bY) (hE : gw_E N g) (hm : sn_R N m bM) (hr : r < g.1)
    (hJ : J10 (bz_I (Q0 ∨ 0 < mb_c g m r (g.2.2.1 r))) (bz_I (Q1 ∧ (0 < mb_c g m r (g.2.2.1 r) → mb_c g m r (g.2.2.1 r) = 1 ∧ mb_P g m r (g.2.2.1 r - 1)))) (bz_I (Q2 ∧ (0 < mb_c g m r (g.2.2.1 r) → mb_c g m r (g.2.2.1 r) = 1 ∧ mb_P g m r 0))) (nI (r + 1))) :
    ∀ d k, k + d = g.2.2.1 r → wY_computeKind_50 post J10 x1 (bz_I Q0) (bz_I Q1) (bz_I Q2) (nI r) yN yT yB yR yS yW yG yH yK yI bL bS bN bY bW bM bK bR gL gS gN gY kL kS kN kY bI bD bP bQ bC bX (d + 1) (nI (mb_c g m r k)) (bz_I (0 < k ∧ mb_P g m r 0)) (bz_I (k = g.2.2.1 r ∧ 0 < k ∧ mb_P g m r (g.2.2.1 r - 1))) (nI k) := by
  obtain ⟨h1, h2, h3, h4, h5⟩ := hg.2.2 r hr
  obtain ⟨e1, e2, e3⟩ := hE r hr
  have h8 := hg.1
  have eN : bN (nI r).toNatClampNeg = nI (g.2.2.1 r) := by rw [nI_clamp (by omega)]; exact h4
  intro d
  induction d with
  | zero =>
    intro k hk
    have e : k = g.2.2.1 r := by omega
    subst e
    have hle := mb_le (g := g) (m := m) (r := r) (k := g.2.2.1 r)
    have imp : ∀ {F : Prop} {G : Prop}, (0 < g.2.2.1 r → (F ↔ G)) → ∀ Q, ((Q ∧ (0 < mb_c g m r (g.2.2.1 r) → mb_c g m r (g.2.2.1 r) = 1 ∧ F)) ↔ (Q ∧ (0 < mb_c g m r (g.2.2.1 r) → mb_c g m r (g.2.2.1 r) = 1 ∧ G))) :=
      fun h Q => and_congr Iff.rfl (imp_congr_right fun y => and_congr Iff.rfl (h (mb_p y)))
    rw [bz_c (imp (F := mb_P g m r (g.2.2.1 r - 1)) (G := g.2.2.1 r = g.2.2.1 r ∧ 0 < g.2.2.1 r ∧ mb_P g m r (g.2.2.1 r - 1)) (fun y => ⟨fun w => ⟨rfl, y, w⟩, fun w => w.2.2⟩) Q1), bz_c (imp (F := mb_P g m r 0) (G := 0 < g.2.2.1 r ∧ mb_P g m r 0) (fun y => ⟨fun w => ⟨y, w⟩, fun w => w.2⟩) Q2)] at hJ
    refine ⟨vp_in_nI (by omega) (by decide), br_t (by rw [eN]; exact nI_le (Nat.le_refl _) (by omega)) (pk_le (mb_c g m r (g.2.2.1 r)) 0 (fun z => ?_) (fun z => ?_) rfl rfl (by omega) (by decide))⟩
    · rw [bz_c (P := Q0 ∨ 0 < mb_c g m r (g.2.2.1 r)) (Q := Q0) ⟨fun y => y.elim id fun w => by omega, Or.inl⟩] at hJ
      exact yk_114 (by omega) hJ
    · rw [bz_t (P := Q0 ∨ 0 < mb_c g m r (g.2.2.1 r)) (Or.inr z)] at hJ
      exact yk_114 (by omega) hJ
  | succ d ih =>
    intro k hk
    have ih' := ih (k + 1) (by omega)
    refine ⟨vp_in_nI (by omega) (by decide), br_f (by rw [eN]; exact nI_ge (by omega) (by omega)) (yk_I hN hg hE hm hr (by omega) (bz_br rfl (fun z => nm_r (nI_1 k) ?_) (fun z => nm_r (e' := nI (mb_c g m r (k + 1))) (by rw [nI_1, mb_t z]) ?_)))⟩
    · rw [mb_f z, bz_c (P := 0 < k + 1 ∧ mb_P g m r 0) (Q := 0 < k ∧ mb_P g m r 0) ⟨fun y => ⟨Nat.pos_of_ne_zero fun w => by subst w; exact z y.2, y.2⟩, fun y => ⟨by omega, y.2⟩⟩, bz_f (P := k + 1 = g.2.2.1 r ∧ 0 < k + 1 ∧ mb_P g m r (g.2.2.1 r - 1)) (fun y => z (by have := y.2.2; rw [← y.1] at this; exact this))] at ih'
      rw [bz_f (P := k = g.2.2.1 r ∧ 0 < k ∧ mb_P g m r (g.2.2.1 r - 1)) (fun y => by omega)]
      exact ih'
    · have h84 : wY_computeKind_84 post J10 (wY_computeKind_50 post J10 x1 (bz_I Q0) (bz_I Q1) (bz_I Q2) (nI r) yN yT yB yR yS yW yG yH yK yI bL bS bN bY bW bM bK bR gL gS gN gY kL kS kN kY bI bD bP bQ bC bX (d + 1)) x1 (bz_I Q0) (bz_I Q1) (bz_I Q2) (nI r) (nI (mb_c g m r (k + 1))) (bz_I (0 < k + 1 ∧ mb_P g m r 0)) (bz_I (k = g.2.2.1 r ∧ 0 < k ∧ mb_P g m r (g.2.2.1 r - 1))) (nI k) yN yT yB yR yS yW yG yH yK yI bL bS bN bY bW bM bK bR gL gS gN gY kL kS kN kY bI bD bP bQ bC bX := by
        obtain ⟨l, hl⟩ : ∃ l, g.2.2.1 r = l + 1 := ⟨g.2.2.1 r - 1, by omega⟩
        refine ⟨vp_in_nI (by omega) (by decide), pk_eq k l (fun w => ?_) (fun w => ?_) rfl (by rw [eN, hl, nI_pred]) (by omega) (by omega)⟩
        · rw [bz_t (P := k + 1 = g.2.2.1 r ∧ 0 < k + 1 ∧ mb_P g m r (g.2.2.1 r - 1)) ⟨by omega, by omega, by rw [show g.2.2.1 r - 1 = k from by omega]; exact z⟩] at ih'
          exact nm_r (nI_1 k) ih'
        · rw [bz_f (P := k + 1 = g.2.2.1 r ∧ 0 < k + 1 ∧ mb_P g m r (g.2.2.1 r - 1)) (fun y => by omega)] at ih'
          rw [bz_f (P := k = g.2.2.1 r ∧ 0 < k ∧ mb_P g m r (g.2.2.1 r - 1)) (fun y => by omega)]
          exact nm_r (nI_1 k) ih'
      refine pk_eq k 0 (fun w => ?_) (fun w => ?_) rfl rfl (by omega) (by decide)
      · rw [bz_t (P := 0 < k + 1 ∧ mb_P g m r 0) ⟨by omega, by subst w; exact z⟩] at h84
        exact h84
      · rw [bz_c (P := 0 < k + 1 ∧ mb_P g m r 0) (Q := 0 < k ∧ mb_P g m r 0) ⟨fun y => ⟨by omega, y.2⟩, fun y => ⟨by omega, y.2⟩⟩] at h84
        exact h84
theorem yk_10 {post : Int32 → Prop} {s : Nat} (hs : s < 6) (hN : N ≤ 6) (hg : gw_Y 8 12 g bL bS bN bY) (hE : gw_E N g) (hm : sn_R N m bM) (H : post (nI (kn_K g m s))) :
    ∀ d r, r + d = g.1 → wY_computeKind_10 post (nI s) yN yT yB (nI g.1) yS yW yG yH yK yI bL bS bN bY bW bM bK bR gL gS gN gY kL kS kN kY bI bD bP bQ bC bX (d + 1) (bz_I (kn_A g m s r)) (bz_I (kn_R g m s r)) (bz_I (kn_L g m s r)) (nI r) := by
  have h8 := hg.1
  intro d
  induction d with
  | zero =>
    intro r hr
    have e : r = g.1 := by omega
    subst e
    refine br_t (nI_le (Nat.le_refl _) (by omega)) (bz_br rfl (fun z => ?_) (fun z => bz_br rfl (fun z1 => bz_br rfl (fun z2 => ?_) (fun z2 => ?_)) (fun z1 => ?_)))
    · rw [kn_0 z] at H; exact H
    · rw [kn_3 z z1 z2] at H; exact H
    · rw [kn_2 z z1 z2] at H; exact H
    · rw [kn_1 z z1] at H; exact H
  | succ d ih =>
    intro r hr
    obtain ⟨h1, h2, h3, h4, h5⟩ := hg.2.2 r (by omega)
    obtain ⟨e1, e2, e3⟩ := hE r (by omega)
    have m2 := hm (g.2.1 r) e1
    have eL : bL (nI r).toNatClampNeg = nI (g.2.1 r) := by rw [nI_clamp (by omega)]; exact h1
    have ih' := ih (r + 1) (by omega)
    refine br_f (nI_ge (by omega) (by omega)) ⟨vp_in_nI (by omega) (by decide), pk_in (g.2.1 r) 6 (by omega) eL, pk_eq (m (g.2.1 r)) s (fun z => ?_) (fun z => ?_) (by rw [eL, nI_clamp (by omega)]; exact m2.1) rfl (by have := m2.2; omega) (by omega)⟩
    · rw [bz_c (P := kn_A g m s (r + 1)) (kn_As.trans (or_congr Iff.rfl ⟨fun w => w.2, fun w => ⟨z, w⟩⟩)), bz_c (P := kn_R g m s (r + 1)) (kn_Rs.trans (and_congr Iff.rfl ⟨fun w => w z, fun w _ => w⟩)), bz_c (P := kn_L g m s (r + 1)) (kn_Ls.trans (and_congr Iff.rfl ⟨fun w => w z, fun w _ => w⟩))] at ih'
      have key : ∀ a b, a = bz_I (0 < 0 ∧ mb_P g m r 0) → b = bz_I (0 = g.2.2.1 r ∧ 0 < 0 ∧ mb_P g m r (g.2.2.1 r - 1)) → wY_computeKind_50 post (wY_computeKind_10 post (nI s) yN yT yB (nI g.1) yS yW yG yH yK yI bL bS bN bY bW bM bK bR gL gS gN gY kL kS kN kY bI bD bP bQ bC bX (d + 1)) (nI s) (bz_I (kn_A g m s r)) (bz_I (kn_R g m s r)) (bz_I (kn_L g m s r)) (nI r) yN yT yB (nI g.1) yS yW yG yH yK yI bL bS bN bY bW bM bK bR gL gS gN gY kL kS kN kY bI bD bP bQ bC bX (g.2.2.1 r + 1) (nI (mb_c g m r 0)) a b (nI 0) := by
        intro a b ha hb
        subst ha hb
        exact yk_50 hN hg hE hm (by omega) ih' (g.2.2.1 r) 0 (by omega)
      exact ⟨g.2.2.1 r + 1, key 0 0 (bz_f (fun y => by omega)).symm (bz_f (fun y => by omega)).symm⟩
    · rw [bz_c (P := kn_A g m s (r + 1)) (Q := kn_A g m s r) (kn_As.trans ⟨fun y => y.elim id fun w => absurd w.1 z, Or.inl⟩), bz_c (P := kn_R g m s (r + 1)) (Q := kn_R g m s r) (kn_Rs.trans ⟨And.left, fun y => ⟨y, fun w1 w2 => absurd w1 z⟩⟩), bz_c (P := kn_L g m s (r + 1)) (Q := kn_L g m s r) (kn_Ls.trans ⟨And.left, fun y => ⟨y, fun w1 w2 => absurd w1 z⟩⟩)] at ih'
      exact nm_r (nI_1 r) ih'
theorem yk_K {post : Int32 → Prop} {s : Nat} (hs : s < 6) (hN : N ≤ 6) (hg : gw_Y 8 12 g bL bS bN bY) (hE : gw_E N g) (hm : sn_R N m bM) (H : post (nI (kn_K g m s))) : wpY_computeKind post (yN, yT, yB, nI g.1, yS, yW, yG, yH, yK, yI, bL, bS, bN, bY, bW, bM, bK, bR, gL, gS, gN, gY, kL, kS, kN, kY, bI, bD, bP, bQ, bC, bX) (nI s) := by
  have := yk_10 (yN := yN) (yT := yT) (yB := yB) (yS := yS) (yW := yW) (yG := yG) (yH := yH) (yK := yK) (yI := yI) (bW := bW) (bK := bK) (bR := bR) (gL := gL) (gS := gS) (gN := gN) (gY := gY) (kL := kL) (kS := kS) (kN := kN) (kY := kY) (bI := bI) (bD := bD) (bP := bP) (bQ := bQ) (bC := bC) (bX := bX) hs hN hg hE hm H g.1 0 (by omega)
  rw [bz_f (P := kn_A g m s 0) kn_A0, bz_t (P := kn_R g m s 0) kn_R0, bz_t (P := kn_L g m s 0) kn_L0] at this
  exact ⟨g.1 + 1, this⟩
end yks
