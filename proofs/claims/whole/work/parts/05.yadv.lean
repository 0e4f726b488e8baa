/-! Y: one step, one rule -/
/-- a holds a set of numbers below N -/
def ya_R (a : Nat → Int32) (N : Nat) (P : Nat → Prop) : Prop := ∀ p, p < N → a p = bz_I (P p)
theorem ya_c {a : Nat → Int32} {N : Nat} {P Q : Nat → Prop} (h : ya_R a N P) (e : ∀ p, p < N → (P p ↔ Q p)) : ya_R a N Q := fun p hp => (h p hp).trans (bz_c (e p hp))
theorem ya_u {a : Nat → Int32} {N : Nat} {P : Nat → Prop} (h : ya_R a N P) (q : Nat) : ya_R (upd a q 1) N (fun p => P p ∨ p = q) := by
  intro p hp
  by_cases z : p = q
  · subst z; rw [pk_us, bz_t (Or.inr rfl)]
  · rw [pk_un z, h p hp]; exact bz_c ⟨Or.inl, fun y => y.elim id fun e => absurd e z⟩
theorem ya_0 {a : Nat → Int32} {N : Nat} {P : Nat → Prop} (h : ∀ p, p < N → a p = 0) (e : ∀ p, p < N → ¬ P p) : ya_R a N P := fun p hp => (h p hp).trans (bz_f (e p hp)).symm
/-- Y's code of a symbol -/
def cd_Y (s : Nat) : Int32 := if s < 12 then nI s else -1 - nI (s - 12)
theorem cd_n {s : Nat} (h : s < 12) : cd_Y s = nI s := if_pos h
theorem cd_t1 : ∀ s, s < 16 → 12 ≤ s → cd_Y s < 0 := by decide +kernel
theorem cd_t2 : ∀ s, s < 16 → 12 ≤ s → (-1) - cd_Y s = nI (s - 12) := by decide +kernel
theorem cd_t3 : ∀ s, s < 16 → 12 ≤ s → ¬ (0 : Int32) ≤ cd_Y s := by decide +kernel
theorem cd_n3 : ∀ s, s < 12 → (0 : Int32) ≤ cd_Y s := by decide +kernel
/-- der holds a relation on spans of the text -/
def yd_R (L : Nat) (d : Nat → Int32) (E : Nat → Nat → Nat → Prop) : Prop := ∀ a i j, a < 12 → i ≤ L → j ≤ L → d (a * 196 + i * 14 + j) = bz_I (E a i j)
theorem yd_ix (a i j : Nat) : nI a * 196 + nI i * 14 + nI j = nI (a * 196 + i * 14 + j) := by
  rw [show (14 : Int32) = nI 14 from rfl, show (196 : Int32) = nI 196 from rfl, pk_mul, pk_mul, nI_add, nI_add]
section yas
variable {yN yT yB yR yS yW yG yH yK yI : Int32} {bL bS bN bY bW bM bK bR gL gS gN gY kL kS kN kY bI bD bP bQ bC bX : Nat → Int32}
variable {L i j s : Nat} {tx : Nat → Nat} {E : Nat → Nat → Nat → Prop} {C : Nat → Prop}
theorem yv_157 {post : SY → Prop} {P : Nat → Prop} (hX : ya_R bX 14 P) (H : ∀ c, ya_R c 14 P → post (yN, yT, yB, yR, yS, yW, yG, yH, yK, yI, bL, bS, bN, bY, bW, bM, bK, bR, gL, gS, gN, gY, kL, kS, kN, kY, bI, bD, bP, bQ, c, bX)) :
    ∀ d p c, p + d = 14 → ya_R c p P → wY_advance_157 post yN yT yB yR yS yW yG yH yK yI (d + 1) (nI p) bL bS bN bY bW bM bK bR gL gS gN gY kL kS kN kY bI bD bP bQ c bX := by
  intro d
  induction d with
  | zero =>
    intro p c hp hc
    have e : p = 14 := by omega
    subst e
    exact br_t (nI_le (a := 14) (Nat.le_refl _) (by decide)) (H c hc)
  | succ d ih =>
    intro p c hp hc
    have hv := hX p (by omega)
    refine br_f (nI_ge (b := 14) (by omega) (by decide)) ⟨vp_in_nI (by omega) (by decide), vp_in_nI (by omega) (by decide), nm_r (e' := upd c p (bz_I (P p))) (by rw [nI_clamp (by omega), hv, bz_nar]) (nm_r (nI_1 p) (ih (p + 1) _ (by omega) fun q hq => ?_))⟩
    by_cases z : q = p
    · subst z; rw [pk_us]
    · rw [pk_un z]; exact hc q (by omega)
/-- one step from the places in C, all of them at or behind i, up to j -/
def yv_P (i j s : Nat) (C : Nat → Prop) (E T : Nat → Nat → Nat → Prop) (p q : Nat) : Prop := ∃ m, i ≤ m ∧ m < p ∧ C m ∧ q ≤ j ∧ dv_St E T s m q
theorem yv_s {T : Nat → Nat → Nat → Prop} {p q : Nat} (hp : i ≤ p) : yv_P i j s C E T (p + 1) q ↔ yv_P i j s C E T p q ∨ (C p ∧ q ≤ j ∧ dv_St E T s p q) := by
  constructor
  · rintro ⟨m, h1, h2, h3⟩
    rcases Nat.lt_or_ge m p with z | z
    · exact Or.inl ⟨m, h1, z, h3⟩
    · have e : m = p := by omega
      subst e
      exact Or.inr h3
  · rintro (⟨m, h1, h2, h3⟩ | h3)
    · exact ⟨m, h1, by omega, h3⟩
    · exact ⟨p, hp, by omega, h3⟩
theorem yv_93 {post : SY → Prop} {J27 : Int32 → (Nat → Int32) → (Nat → Int32) → (Nat → Int32) → (Nat → Int32) → (Nat → Int32) → (Nat → Int32) → (Nat → Int32) → (Nat → Int32) → (Nat → Int32) → (Nat → Int32) → (Nat → Int32) → (Nat → Int32) → (Nat → Int32) → (Nat → Int32) → (Nat → Int32) → (Nat → Int32) → (Nat → Int32) → (Nat → Int32) → (Nat → Int32) → (Nat → Int32) → (Nat → Int32) → (Nat → Int32) →  Prop} {p : Nat} {R : Nat → Prop} (hj : j ≤ L) (hL : L ≤ 13) (hp : p ≤ j) (hs : s < 12) (hD : yd_R L bD E)
    (hJ : ∀ x, ya_R x 14 (fun q => R q ∨ (p ≤ q ∧ q ≤ j ∧ E s p q)) → J27 (nI p + 1) bL bS bN bY bW bM bK bR gL gS gN gY kL kS kN kY bI bD bP bQ bC x) :
    ∀ d v x, v + d = j + 1 → p ≤ v → ya_R x 14 (fun q => R q ∨ (p ≤ q ∧ q < v ∧ E s p q)) → wY_advance_93 post J27 (nI s) (nI j) (nI p) yN yT yB yR yS yW yG yH yK yI (d + 1) (nI v) bL bS bN bY bW bM bK bR gL gS gN gY kL kS kN kY bI bD bP bQ bC x := by
  intro d
  induction d with
  | zero =>
    intro v x hv _ hx
    have e : v = j + 1 := by omega
    subst e
    exact br_t (nI_lt (by omega) (by omega)) (nm_e (hJ x (ya_c hx fun q _ => ⟨fun h => h.imp id fun ⟨a, b, c⟩ => ⟨a, by omega, c⟩, fun h => h.imp id fun ⟨a, b, c⟩ => ⟨a, by omega, c⟩⟩)))
  | succ d ih =>
    intro v x hv hpv hx
    refine br_f (nI_nlt (by omega) (by omega)) (br_f (nI_ge (b := 14) (by omega) (by decide)) (br_f (nI_ge (b := 12) hs (by decide)) ⟨pk_in (s * 196 + p * 14 + v) 2352 (by omega) (yd_ix s p v), ?_⟩))
    refine bz_br (P := E s p v) (by rw [yd_ix, nI_clamp (by omega)]; exact hD s p v hs (by omega) (by omega)) (fun z => ?_) (fun z => ⟨vp_in_nI (by omega) (by decide), nm_r (e' := upd x v 1) (by rw [nI_clamp (by omega)]; rfl) ?_⟩)
    · refine nm_r (nI_1 v) (ih (v + 1) x (by omega) (by omega) (ya_c hx fun q _ => or_congr Iff.rfl ⟨fun ⟨a, b, c⟩ => ⟨a, by omega, c⟩, fun ⟨a, b, c⟩ => ⟨a, ?_, c⟩⟩))
      rcases Nat.lt_or_ge q v with y | y
      · exact y
      · have e : q = v := by omega
        subst e
        exact absurd c z
    · refine nm_r (nI_1 v) (ih (v + 1) _ (by omega) (by omega) (ya_c (ya_u hx v) fun q _ => ?_))
      constructor
      · rintro ((h | ⟨a, b, c⟩) | h)
        · exact Or.inl h
        · exact Or.inr ⟨a, by omega, c⟩
        · subst h; exact Or.inr ⟨hpv, by omega, z⟩
      · rintro (h | ⟨a, b, c⟩)
        · exact Or.inl (Or.inl h)
        · rcases Nat.lt_or_ge q v with y | y
          · exact Or.inl (Or.inr ⟨a, y, c⟩)
          · exact Or.inr (by omega)
theorem yv_27 {post : SY → Prop} (hj : j ≤ L) (hL : L ≤ 13) (hs : s < 16) (hD : yd_R L bD E) (hE : ∀ a i j, E a i j → i ≤ j) (hI : ∀ p, p < L → bI p = nI (tx p) ∧ tx p < 4) (hC : ya_R bC 14 C)
    (H : ∀ c x, ya_R c 14 (yv_P i j s C E (tm_s false tx L) (j + 1)) → post (yN, yT, yB, yR, yS, yW, yG, yH, yK, yI, bL, bS, bN, bY, bW, bM, bK, bR, gL, gS, gN, gY, kL, kS, kN, kY, bI, bD, bP, bQ, c, x)) :
    ∀ d p x, p + d = j + 1 → i ≤ p → ya_R x 14 (yv_P i j s C E (tm_s false tx L) p) → wY_advance_27 post (cd_Y s) (nI j) yN yT yB yR yS yW yG yH yK yI (d + 1) (nI p) bL bS bN bY bW bM bK bR gL gS gN gY kL kS kN kY bI bD bP bQ bC x := by
  intro d
  induction d with
  | zero =>
    intro p x hp hi hx
    have e : p = j + 1 := by omega
    subst e
    exact br_t (nI_lt (by omega) (by omega)) ⟨14 + 1, yv_157 hx (fun c hc => H c x hc) 14 0 bC (by omega) (fun q hq => absurd hq (Nat.not_lt_zero q))⟩
  | succ d ih =>
    intro p x hp hi hx
    have nx : (∀ q, q < 14 → ¬ (C p ∧ q ≤ j ∧ dv_St E (tm_s false tx L) s p q)) → wY_advance_27 post (cd_Y s) (nI j) yN yT yB yR yS yW yG yH yK yI (d + 1) (nI (p + 1)) bL bS bN bY bW bM bK bR gL gS gN gY kL kS kN kY bI bD bP bQ bC x := fun z =>
      ih (p + 1) x (by omega) (by omega) (ya_c hx fun q hq => ⟨fun h => (yv_s hi).mpr (Or.inl h), fun h => ((yv_s hi).mp h).elim id fun y => absurd y (z q hq)⟩)
    refine br_f (nI_nlt (by omega) (by omega)) (br_f (nI_ge (b := 14) (by omega) (by decide)) ⟨vp_in_nI (by omega) (by decide), bz_br (P := C p) (by rw [nI_clamp (by omega)]; exact hC p (by omega)) (fun z => nm_r (nI_1 p) (nx fun q _ h => z h.1)) (fun hc => ?_)⟩)
    rcases Nat.lt_or_ge s 12 with z | z
    · refine br_t (cd_n3 s z) ⟨j + 1 - p + 1, ?_⟩
      rw [cd_n z]
      refine yv_93 (R := yv_P i j s C E (tm_s false tx L) p) hj hL (by omega) z hD (fun x' hx' => ?_) (j + 1 - p) p x (by omega) (Nat.le_refl p) (ya_c hx fun q _ => ⟨Or.inl, fun h => h.elim id fun y => by omega⟩)
      rw [← cd_n z, nI_1]
      refine ih (p + 1) x' (by omega) (by omega) (ya_c hx' fun q _ => Iff.trans (or_congr Iff.rfl ?_) (yv_s hi).symm)
      exact ⟨fun h => ⟨hc, h.2.1, Or.inl ⟨z, h.2.2⟩⟩, fun h => ⟨h.2.2.elim (fun y => hE _ _ _ y.2) (fun y => by omega), h.2.1, h.2.2.elim (fun y => y.2) (fun y => by omega)⟩⟩
    · refine br_f (cd_t3 s hs z) (pk_le j p (fun y => nm_r (nI_1 p) (nx fun q _ h => ?_)) (fun y => ⟨vp_in_nI (by omega) (by decide), ?_⟩))
      · have hqj := h.2.1
        rcases h.2.2 with ⟨h1, _⟩ | ⟨_, (⟨_, h2, _⟩ | ⟨h1, _⟩)⟩
        · omega
        · omega
        · exact absurd h1 (by decide)
      · have hIp := hI p (by omega)
        refine pk_eq (tx p) (s - 12) (fun e => ⟨pk_in (p + 1) 14 (by omega) (nI_1 p), nm_r (e' := upd x (p + 1) 1) (by rw [nI_1, nI_clamp (by omega)]; rfl) (nm_r (nI_1 p) ?_)⟩) (fun e => nm_r (nI_1 p) (nx fun q _ h => ?_)) (by rw [nI_clamp (by omega)]; exact hIp.1) (cd_t2 s hs z) (by omega) (by omega)
        · refine ih (p + 1) _ (by omega) (by omega) (ya_c (ya_u hx (p + 1)) fun q _ => Iff.trans (or_congr Iff.rfl ?_) (yv_s hi).symm)
          constructor
          · intro h; subst h; exact ⟨hc, by omega, Or.inr ⟨z, Or.inl ⟨by omega, rfl, e⟩⟩⟩
          · rintro ⟨_, _, (⟨h1, _⟩ | ⟨_, (⟨_, h2, _⟩ | ⟨h2, _⟩)⟩)⟩
            · omega
            · exact h2
            · exact absurd h2 (by decide)
        · rcases h.2.2 with ⟨h1, _⟩ | ⟨_, ⟨_, _, h2⟩ | ⟨h2, _⟩⟩
          · omega
          · exact e h2
          · exact absurd h2 (by decide)
theorem yv_3 {post : SY → Prop} (hij : i ≤ j) (hj : j ≤ L) (hL : L ≤ 13) (hs : s < 16) (hD : yd_R L bD E) (hE : ∀ a i j, E a i j → i ≤ j) (hI : ∀ p, p < L → bI p = nI (tx p) ∧ tx p < 4) (hC : ya_R bC 14 C)
    (H : ∀ c x, ya_R c 14 (yv_P i j s C E (tm_s false tx L) (j + 1)) → post (yN, yT, yB, yR, yS, yW, yG, yH, yK, yI, bL, bS, bN, bY, bW, bM, bK, bR, gL, gS, gN, gY, kL, kS, kN, kY, bI, bD, bP, bQ, c, x)) :
    ∀ d p x, p + d = 14 → (∀ q, q < p → x q = 0) → wY_advance_3 post (cd_Y s) (nI i) (nI j) yN yT yB yR yS yW yG yH yK yI (d + 1) (nI p) bL bS bN bY bW bM bK bR gL gS gN gY kL kS kN kY bI bD bP bQ bC x := by
  intro d
  induction d with
  | zero =>
    intro p x hp hx
    have e : p = 14 := by omega
    subst e
    exact br_t (nI_le (a := 14) (Nat.le_refl _) (by decide)) ⟨j + 1 - i + 1, yv_27 hj hL hs hD hE hI hC H (j + 1 - i) i x (by omega) (Nat.le_refl i) (ya_0 hx fun q _ => fun ⟨m, h1, h2, _⟩ => by omega)⟩
  | succ d ih =>
    intro p x hp hx
    refine br_f (nI_ge (b := 14) (by omega) (by decide)) ⟨vp_in_nI (by omega) (by decide), nm_r (e' := upd x p 0) (by rw [nI_clamp (by omega)]; rfl) (nm_r (nI_1 p) (ih (p + 1) _ (by omega) fun q hq => ?_))⟩
    by_cases z : q = p
    · subst z; exact pk_us
    · rw [pk_un z]; exact hx q (by omega)
theorem yv_A {post : SY → Prop} (hij : i ≤ j) (hj : j ≤ L) (hL : L ≤ 13) (hs : s < 16) (hD : yd_R L bD E) (hE : ∀ a i j, E a i j → i ≤ j) (hI : ∀ p, p < L → bI p = nI (tx p) ∧ tx p < 4) (hC : ya_R bC 14 C)
    (H : ∀ c x, ya_R c 14 (yv_P i j s C E (tm_s false tx L) (j + 1)) → post (yN, yT, yB, yR, yS, yW, yG, yH, yK, yI, bL, bS, bN, bY, bW, bM, bK, bR, gL, gS, gN, gY, kL, kS, kN, kY, bI, bD, bP, bQ, c, x)) : wpY_advance post (yN, yT, yB, yR, yS, yW, yG, yH, yK, yI, bL, bS, bN, bY, bW, bM, bK, bR, gL, gS, gN, gY, kL, kS, kN, kY, bI, bD, bP, bQ, bC, bX) (cd_Y s) (nI i) (nI j) :=
  ⟨14 + 1, yv_3 hij hj hL hs hD hE hI hC H 14 0 bX (by omega) (fun q hq => absurd hq (Nat.not_lt_zero q))⟩
end yas
/-- Y's k-tables represent a grammar of n rules, rule r's symbols from st r on -/
def gy_R (n : Nat) (kL kS kN kY : Nat → Int32) (st lh ln : Nat → Nat) (sy : Nat → Nat → Nat) : Prop :=
  n ≤ 32 ∧ ∀ r, r < n → kL r = nI (lh r) ∧ lh r < 12 ∧ kS r = nI (st r) ∧ kN r = nI (ln r) ∧ st r + ln r ≤ 32 ∧ ∀ k, k < ln r → kY (st r + k) = cd_Y (sy r k) ∧ sy r k < 16
section yrs
variable {yN yT yB yR yS yW yG yH yK yI : Int32} {bL bS bN bY bW bM bK bR gL gS gN gY kL kS kN kY bI bD bP bQ bC bX : Nat → Int32}
variable {n L i j r : Nat} {tx st lh ln : Nat → Nat} {sy : Nat → Nat → Nat} {E : Nat → Nat → Nat → Prop}
/-- a step of the advance, seen from the path -/
theorem yr_s {Q : Nat → Nat → Nat → Prop} {C : Nat → Prop} {k s p : Nat} {T : Nat → Nat → Nat → Prop} (hE : ∀ a i j, E a i j → i ≤ j) (hT : ∀ t i j, T t i j → i ≤ j) (hQ : ∀ k m q, Q k m q → m ≤ q) (hk : ∀ m q, Q k m q ↔ dv_St E T s m q) (hC : ∀ m, m ≤ j → (C m ↔ dv_P Q i k m)) : (yv_P i j s C E T (j + 1) p) ↔ (dv_P Q i (k + 1) p ∧ p ≤ j) := by
  constructor
  · rintro ⟨m, h1, h2, h3, h4, h5⟩
    exact ⟨⟨m, (hC m (by omega)).mp h3, (hk m p).mpr h5⟩, h4⟩
  · rintro ⟨⟨m, h1, h2⟩, h4⟩
    have hm := hQ k m p h2
    exact ⟨m, dv_P_le hQ k m h1, by omega, (hC m (by omega)).mpr h1, h4, (hk m p).mp h2⟩
theorem yr_34 {post : Int32 → SY → Prop} (hij : i ≤ j) (hj : j ≤ L) (hL : L ≤ 13) (hg : gy_R n kL kS kN kY st lh ln sy) (hr : r < n) (hD : yd_R L bD E) (hE : ∀ a i j, E a i j → i ≤ j) (hI : ∀ p, p < L → bI p = nI (tx p) ∧ tx p < 4)
    (H : ∀ c x, post (bz_I (dv_P (fun k => dv_St E (tm_s false tx L) (sy r k)) i (ln r) j)) (yN, yT, yB, yR, yS, yW, yG, yH, yK, yI, bL, bS, bN, bY, bW, bM, bK, bR, gL, gS, gN, gY, kL, kS, kN, kY, bI, bD, bP, bQ, c, x)) :
    ∀ d k c x, k + d = ln r → ya_R c 14 (fun p => dv_P (fun k => dv_St E (tm_s false tx L) (sy r k)) i k p ∧ p ≤ j) → wY_rhsDerives_34 post (nI r) (nI i) (nI j) (d + 1) (nI k) yN yT yB yR yS yW yG yH yK yI bL bS bN bY bW bM bK bR gL gS gN gY kL kS kN kY bI bD bP bQ c x := by
  obtain ⟨hn, hg⟩ := hg
  obtain ⟨_, _, hS, hN, hl, hY⟩ := hg r hr
  have eN : kN (nI r).toNatClampNeg = nI (ln r) := by rw [nI_clamp (by omega)]; exact hN
  have eS : ∀ k, kS (nI r).toNatClampNeg + nI k = nI (st r + k) := fun k => by rw [nI_clamp (by omega), hS, nI_add]
  intro d
  induction d with
  | zero =>
    intro k c x hk hc
    have e : k = ln r := by omega
    subst e
    have hv : c (nI j).toNatClampNeg = bz_I (dv_P (fun k => dv_St E (tm_s false tx L) (sy r k)) i (ln r) j) := by
      rw [nI_clamp (by omega), hc j (by omega)]
      exact bz_c ⟨And.left, fun h => ⟨h, Nat.le_refl j⟩⟩
    refine ⟨vp_in_nI (by omega) (by decide), br_t (by rw [eN]; exact nI_le (Nat.le_refl _) (by omega)) ⟨vp_in_nI (by omega) (by decide), ?_⟩⟩
    rw [hv]
    exact ⟨(bz_n _).1, H c x⟩
  | succ d ih =>
    intro k c x hk hc
    have hs := hY k (by omega)
    refine ⟨vp_in_nI (by omega) (by decide), br_f (by rw [eN]; exact nI_ge (by omega) (by omega)) ⟨vp_in_nI (by omega) (by decide), nm_r (eS k) (br_f (nI_pos (by omega)) (br_f (nI_ge (b := 32) (by omega) (by decide)) ⟨vp_in_nI (by omega) (by decide), ?_⟩))⟩⟩
    rw [nI_clamp (by omega), hs.1]
    refine yv_A hij hj hL hs.2 hD hE hI hc fun c' x' hc' => nm_r (nI_1 k) (ih (k + 1) c' x' (by omega) (ya_c hc' fun p _ => ?_))
    exact yr_s hE tm_le (fun k m q s => dv_St_le hE tm_le s) (fun _ _ => Iff.rfl) (fun m hm => ⟨And.left, fun h => ⟨h, hm⟩⟩)
theorem yr_3 {post : Int32 → SY → Prop} (hij : i ≤ j) (hj : j ≤ L) (hL : L ≤ 13) (hg : gy_R n kL kS kN kY st lh ln sy) (hr : r < n) (hD : yd_R L bD E) (hE : ∀ a i j, E a i j → i ≤ j) (hI : ∀ p, p < L → bI p = nI (tx p) ∧ tx p < 4)
    (H : ∀ c x, post (bz_I (dv_P (fun k => dv_St E (tm_s false tx L) (sy r k)) i (ln r) j)) (yN, yT, yB, yR, yS, yW, yG, yH, yK, yI, bL, bS, bN, bY, bW, bM, bK, bR, gL, gS, gN, gY, kL, kS, kN, kY, bI, bD, bP, bQ, c, x)) :
    ∀ d p c, p + d = 14 → (∀ q, q < p → c q = 0) → wY_rhsDerives_3 post (nI r) (nI i) (nI j) yN yT yB yR yS yW yG yH yK yI (d + 1) (nI p) bL bS bN bY bW bM bK bR gL gS gN gY kL kS kN kY bI bD bP bQ c bX := by
  intro d
  induction d with
  | zero =>
    intro p c hp hc
    have e : p = 14 := by omega
    subst e
    refine br_t (nI_le (a := 14) (Nat.le_refl _) (by decide)) ⟨vp_in_nI (by omega) (by decide), nm_r (e' := upd c i 1) (by rw [nI_clamp (by omega)]; rfl) ⟨ln r + 1, yr_34 hij hj hL hg hr hD hE hI H (ln r) 0 _ bX (by omega) ?_⟩⟩
    refine ya_c (ya_u (P := fun _ => False) (ya_0 hc fun _ _ z => z) i) fun q _ => ?_
    constructor
    · rintro (h | h)
      · exact h.elim
      · subst h; exact ⟨rfl, hij⟩
    · rintro ⟨h, _⟩
      exact Or.inr h.symm
  | succ d ih =>
    intro p c hp hc
    refine br_f (nI_ge (b := 14) (by omega) (by decide)) ⟨vp_in_nI (by omega) (by decide), nm_r (e' := upd c p 0) (by rw [nI_clamp (by omega)]; rfl) (nm_r (nI_1 p) (ih (p + 1) _ (by omega) fun q hq => ?_))⟩
    by_cases z : q = p
    · subst z; exact pk_us
    · rw [pk_un z]; exact hc q (by omega)
theorem yr_R {post : Int32 → SY → Prop} (hij : i ≤ j) (hj : j ≤ L) (hL : L ≤ 13) (hg : gy_R n kL kS kN kY st lh ln sy) (hr : r < n) (hD : yd_R L bD E) (hE : ∀ a i j, E a i j → i ≤ j) (hI : ∀ p, p < L → bI p = nI (tx p) ∧ tx p < 4)
    (H : ∀ c x, post (bz_I (dv_P (fun k => dv_St E (tm_s false tx L) (sy r k)) i (ln r) j)) (yN, yT, yB, yR, yS, yW, yG, yH, yK, yI, bL, bS, bN, bY, bW, bM, bK, bR, gL, gS, gN, gY, kL, kS, kN, kY, bI, bD, bP, bQ, c, x)) : wpY_rhsDerives post (yN, yT, yB, yR, yS, yW, yG, yH, yK, yI, bL, bS, bN, bY, bW, bM, bK, bR, gL, gS, gN, gY, kL, kS, kN, kY, bI, bD, bP, bQ, bC, bX) (nI r) (nI i) (nI j) :=
  ⟨14 + 1, yr_3 hij hj hL hg hr hD hE hI H 14 0 bC (by omega) (fun q hq => absurd hq (Nat.not_lt_zero q))⟩
end yrs
