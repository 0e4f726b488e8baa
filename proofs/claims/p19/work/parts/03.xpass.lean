/-! X: one symbol, one rule -/
section xps
variable {xN xT xB xR xS xE xL xA xG xC xF : Int32} {aL aN aS aR aM aK aT aE : Nat → Int32}
theorem xp_ix (a i : Nat) : nI a * 14 + nI i = nI (a * 14 + i) := by
  rw [show (14 : Int32) = nI 14 from rfl, pk_mul, nI_add]
theorem xp_ix5 (r k : Nat) : nI r * 5 + nI k = nI (r * 5 + k) := by
  rw [show (5 : Int32) = nI 5 from rfl, pk_mul, nI_add]
theorem xp_t (post : Int32 → Prop) {tx : Nat → Nat} {L t : Nat} (x1 : Int32) (hL : L ≤ 13) (ht : t < 4) (htx : ∀ i, i < L → aT i = nI (tx i) ∧ tx i < 4) :
    ∀ d i acc, i + d = L → (∀ r, (∀ j, j < 32 → (bt r j = true ↔ bt acc j = true ∨ ∃ m, i ≤ m ∧ m < L ∧ bt x1 m = true ∧ tx m = t ∧ j = m + 1)) → post r) → wX_passTerminal_19 post x1 (nI t) (nI L) xN xT xB xR xS xE xL xA xG xC xF aL aN aS aR aM aK aT aE (d + 1) acc (nI i) := by
  intro d
  induction d with
  | zero =>
    intro i acc hi H
    refine br_t (nI_le (by omega) (by omega)) (H acc fun j hj => ⟨Or.inl, fun h => h.elim id fun ⟨m, h1, h2, _⟩ => ?_⟩)
    omega
  | succ d ih =>
    intro i acc hi H
    have hx := (htx i (by omega)).1
    have hx4 := (htx i (by omega)).2
    have skip : (bt x1 i = true → tx i ≠ t) → wX_passTerminal_19 post x1 (nI t) (nI L) xN xT xB xR xS xE xL xA xG xC xF aL aN aS aR aM aK aT aE (d + 1) acc (nI (i + 1)) := by
      intro hn
      refine ih (i + 1) acc (by omega) fun r hr => H r fun j hj => Iff.trans (hr j hj) ?_
      constructor
      · rintro (h | ⟨m, h1, h2, h3⟩)
        · exact Or.inl h
        · exact Or.inr ⟨m, by omega, h2, h3⟩
      · rintro (h | ⟨m, h1, h2, h3, h4, h5⟩)
        · exact Or.inl h
        · rcases Nat.lt_or_ge i m with z | z
          · exact Or.inr ⟨m, z, h2, h3, h4, h5⟩
          · have e : m = i := by omega
            subst e
            exact absurd h4 (hn h3)
    refine br_f (nI_ge (by omega) (by omega)) (br_c (fun hb => ⟨vp_in_nI (by omega) (by decide), ?_⟩) (fun hb => ?_))
    · have hb' : bt x1 i = true := (xb_t (by omega) x1).mp hb
      refine pk_eq (tx i) t (fun e => ?_) (fun e => ?_) (by rw [nI_clamp (by omega)]; exact hx) rfl (by omega) (by omega)
      · refine nm_r (by rw [nI_1]) (nm_r (nI_1 i) ?_)
        refine ih (i + 1) _ (by omega) fun r hr => H r fun j hj => Iff.trans (hr j hj) ?_
        rw [xb_os (by omega) hj]
        constructor
        · rintro ((h | h) | ⟨m, h1, h2, h3⟩)
          · exact Or.inl h
          · exact Or.inr ⟨i, Nat.le_refl i, by omega, hb', e, h.symm⟩
          · exact Or.inr ⟨m, by omega, h2, h3⟩
        · rintro (h | ⟨m, h1, h2, h3, h4, h5⟩)
          · exact Or.inl (Or.inl h)
          · rcases Nat.lt_or_ge i m with z | z
            · exact Or.inr ⟨m, z, h2, h3, h4, h5⟩
            · exact Or.inl (Or.inr (by omega))
      · exact nm_r (nI_1 i) (skip fun _ => e)
    · have hb' : ¬ bt x1 i = true := fun z => hb ((xb_t (by omega) x1).mpr z)
      exact nm_r (nI_1 i) (skip fun z => absurd z hb')
theorem xp_T (post : Int32 → Prop) {tx : Nat → Nat} {L t : Nat} (o : Bool) (x1 : Int32) (hL : L ≤ 13) (ht : t < 4) (htx : ∀ i, i < L → aT i = nI (tx i) ∧ tx i < 4)
    (H : ∀ r, (∀ j, j < 32 → (bt r j = true ↔ ∃ i, bt x1 i = true ∧ tm_s o tx L t i j)) → post r) : wpX_passTerminal post (xN, xT, xB, xR, xS, xE, xL, xA, xG, xC, xF, aL, aN, aS, aR, aM, aK, aT, aE) x1 (nI t) (nI L) (cond o 1 0) := by
  cases o with
  | false =>
    refine br_t rfl ⟨L + 1, xp_t post x1 hL ht htx L 0 0 (by omega) fun r hr => H r fun j hj => Iff.trans (hr j hj) ?_⟩
    rw [b_0]
    constructor
    · rintro (h | ⟨m, h1, h2, h3, h4, h5⟩)
      · exact absurd h (by decide)
      · exact ⟨m, h3, Or.inl ⟨h2, h5, h4⟩⟩
    · rintro ⟨m, h3, (⟨h2, h5, h4⟩ | ⟨h, _⟩)⟩
      · exact Or.inr ⟨m, Nat.zero_le m, h2, h3, h4, h5⟩
      · exact absurd h (by decide)
  | true =>
    refine br_f (by decide) (nm_e ⟨L + 1, xp_t post x1 hL ht htx L 0 _ (by omega) fun r hr => H r fun j hj => Iff.trans (hr j hj) ?_⟩)
    rw [b_and, xb_o L (by omega) j hj, Bool.and_eq_true, decide_eq_true_eq]
    constructor
    · rintro (⟨h, e⟩ | ⟨m, h1, h2, h3, h4, h5⟩)
      · exact ⟨j, h, Or.inr ⟨rfl, e.symm, e.symm⟩⟩
      · exact ⟨m, h3, Or.inl ⟨h2, h5, h4⟩⟩
    · rintro ⟨m, h3, (⟨h2, h5, h4⟩ | ⟨_, h, h'⟩)⟩
      · exact Or.inr ⟨m, Nat.zero_le m, h2, h3, h4, h5⟩
      · exact Or.inl ⟨by rw [h', ← h]; exact h3, h'.symm⟩
theorem xp_n (post : Int32 → Prop) {L a : Nat} (x1 : Int32) (hL : L ≤ 13) (ha : a < 12) :
    ∀ d i acc, i + d = L + 1 → (∀ r, (∀ j, (bt r j = true ↔ bt acc j = true ∨ ∃ m, i ≤ m ∧ m ≤ L ∧ bt x1 m = true ∧ bt (aE (a * 14 + m)) j = true)) → post r) → wX_passNonterminal_6 post x1 (nI a) (nI L) xN xT xB xR xS xE xL xA xG xC xF aL aN aS aR aM aK aT aE (d + 1) acc (nI i) := by
  intro d
  induction d with
  | zero =>
    intro i acc hi H
    refine br_t (nI_lt (by omega) (by omega)) (H acc fun j => ⟨Or.inl, fun h => h.elim id fun ⟨m, h1, h2, _⟩ => ?_⟩)
    omega
  | succ d ih =>
    intro i acc hi H
    refine br_f (nI_nlt (by omega) (by omega)) (br_c (fun hb => ?_) (fun hb => ?_))
    · have hb' : bt x1 i = true := (xb_t (by omega) x1).mp hb
      refine ⟨pk_in (a * 14 + i) 168 (by omega) (xp_ix a i), nm_r (by rw [xp_ix, nI_clamp (by omega)]) (nm_r (nI_1 i) ?_)⟩
      refine ih (i + 1) _ (by omega) fun r hr => H r fun j => Iff.trans (hr j) ?_
      rw [xb_or]
      constructor
      · rintro ((h | h) | ⟨m, h1, h2, h3⟩)
        · exact Or.inl h
        · exact Or.inr ⟨i, Nat.le_refl i, by omega, hb', h⟩
        · exact Or.inr ⟨m, by omega, h2, h3⟩
      · rintro (h | ⟨m, h1, h2, h3, h4⟩)
        · exact Or.inl (Or.inl h)
        · rcases Nat.lt_or_ge i m with z | z
          · exact Or.inr ⟨m, z, h2, h3, h4⟩
          · have e : m = i := by omega
            subst e
            exact Or.inl (Or.inr h4)
    · have hb' : ¬ bt x1 i = true := fun z => hb ((xb_t (by omega) x1).mpr z)
      refine nm_r (nI_1 i) (ih (i + 1) acc (by omega) fun r hr => H r fun j => Iff.trans (hr j) ?_)
      constructor
      · rintro (h | ⟨m, h1, h2, h3⟩)
        · exact Or.inl h
        · exact Or.inr ⟨m, by omega, h2, h3⟩
      · rintro (h | ⟨m, h1, h2, h3, h4⟩)
        · exact Or.inl h
        · rcases Nat.lt_or_ge i m with z | z
          · exact Or.inr ⟨m, z, h2, h3, h4⟩
          · have e : m = i := by omega
            subst e
            exact absurd h3 hb'
theorem xp_N (post : Int32 → Prop) {L a : Nat} (x1 : Int32) (hL : L ≤ 13) (ha : a < 12)
    (H : ∀ r, (∀ j, (bt r j = true ↔ ∃ m, m ≤ L ∧ bt x1 m = true ∧ bt (aE (a * 14 + m)) j = true)) → post r) : wpX_passNonterminal post (xN, xT, xB, xR, xS, xE, xL, xA, xG, xC, xF, aL, aN, aS, aR, aM, aK, aT, aE) x1 (nI a) (nI L) := by
  refine ⟨L + 1 + 1, xp_n post x1 hL ha (L + 1) 0 0 (by omega) fun r hr => H r fun j => Iff.trans (hr j) ?_⟩
  rw [b_0]
  constructor
  · rintro (h | ⟨m, h1, h2, h3, h4⟩)
    · exact absurd h (by decide)
    · exact ⟨m, h2, h3, h4⟩
  · rintro ⟨m, h2, h3, h4⟩
    exact Or.inr ⟨m, Nat.zero_le m, h2, h3, h4⟩
/-- X's table from row lo on represents a grammar of n rules -/
def gx_R (lo n : Nat) (aL aN aS : Nat → Int32) (lh ln : Nat → Nat) (sy : Nat → Nat → Nat) : Prop :=
  lo + n ≤ 34 ∧ ∀ r, r < n → aL (lo + r) = nI (lh r) ∧ lh r < 12 ∧ aN (lo + r) = nI (ln r) ∧ ln r ≤ 5 ∧ ∀ k, k < ln r → aS ((lo + r) * 5 + k) = nI (sy r k) ∧ sy r k < 16
/-- the ends as X keeps them -/
def ex_E (L : Nat) (e : Nat → Int32) (a i j : Nat) : Prop := a < 12 ∧ i ≤ L ∧ bt (e (a * 14 + i)) j = true
theorem xe_8 (post : Int32 → Prop) {lo n L st r : Nat} {tx lh ln : Nat → Nat} {sy : Nat → Nat → Nat} (o : Bool) (hL : L ≤ 13) (hg : gx_R lo n aL aN aS lh ln sy) (hr : r < n) (htx : ∀ i, i < L → aT i = nI (tx i) ∧ tx i < 4)
    (H : ∀ res, (∀ j, j < 32 → (bt res j = true ↔ dv_P (fun k => dv_St (ex_E L aE) (tm_s o tx L) (sy r k)) st (ln r) j)) → post res) :
    ∀ d k x5, k + d = ln r → (∀ j, j < 32 → (bt x5 j = true ↔ dv_P (fun k => dv_St (ex_E L aE) (tm_s o tx L) (sy r k)) st k j)) → wX_endsOfRule_8 post (nI (lo + r)) (nI L) (cond o 1 0) xN xT xB xR xS xE xL xA xG xC xF aL aN aS aR aM aK aT aE (d + 1) x5 (nI k) := by
  obtain ⟨hn, hg⟩ := hg
  obtain ⟨_, _, hN, hl, hS⟩ := hg r hr
  have eN : aN (nI (lo + r)).toNatClampNeg = nI (ln r) := by rw [nI_clamp (by omega)]; exact hN
  intro d
  induction d with
  | zero =>
    intro k x5 hk hx
    have e : k = ln r := by omega
    subst e
    refine ⟨vp_in_nI (by omega) (by decide), br_t (by rw [eN]; exact nI_le (Nat.le_refl _) (by omega)) (H x5 hx)⟩
  | succ d ih =>
    intro k x5 hk hx
    have hs := hS k (by omega)
    refine ⟨vp_in_nI (by omega) (by decide), br_f (by rw [eN]; exact nI_ge (by omega) (by omega)) ⟨pk_in ((lo + r) * 5 + k) 170 (by omega) (xp_ix5 _ _), nm_r (e' := nI (sy r k)) (by rw [xp_ix5, nI_clamp (by omega)]; exact hs.1) ?_⟩⟩
    refine pk_lt (sy r k) 12 (fun z => ?_) (fun z => ?_) rfl rfl (by omega) (by decide)
    · refine xp_N _ x5 hL z fun q hq => nm_r (nI_1 k) (ih (k + 1) q (by omega) fun j hj => Iff.trans (hq j) ?_)
      constructor
      · rintro ⟨m, h1, h2, h3⟩
        exact ⟨m, (hx m (by omega)).mp h2, Or.inl ⟨z, z, h1, h3⟩⟩
      · rintro ⟨m, h1, (⟨_, _, h2, h3⟩ | ⟨h, _⟩)⟩
        · exact ⟨m, h2, (hx m (by omega)).mpr h1, h3⟩
        · omega
    · have e : nI (sy r k) - 12 = nI (sy r k - 12) := by rw [show (12 : Int32) = nI 12 from rfl, pk_sub z]
      rw [e]
      refine xp_T _ o x5 hL (by omega) htx fun q hq => nm_r (nI_1 k) (ih (k + 1) q (by omega) fun j hj => Iff.trans (hq j hj) ?_)
      constructor
      · rintro ⟨m, h1, h2⟩
        exact ⟨m, (hx m (xb_lt h1)).mp h1, Or.inr ⟨z, h2⟩⟩
      · rintro ⟨m, h1, (⟨h, _⟩ | ⟨_, h2⟩)⟩
        · omega
        · have := tm_le _ _ _ h2
          exact ⟨m, (hx m (by omega)).mpr h1, h2⟩
theorem xe_R (post : Int32 → Prop) {lo n L st r : Nat} {tx lh ln : Nat → Nat} {sy : Nat → Nat → Nat} (o : Bool) (hL : L ≤ 13) (hst : st ≤ L) (hg : gx_R lo n aL aN aS lh ln sy) (hr : r < n) (htx : ∀ i, i < L → aT i = nI (tx i) ∧ tx i < 4)
    (H : ∀ res, (∀ j, j < 32 → (bt res j = true ↔ dv_P (fun k => dv_St (ex_E L aE) (tm_s o tx L) (sy r k)) st (ln r) j)) → post res) : wpX_endsOfRule post (xN, xT, xB, xR, xS, xE, xL, xA, xG, xC, xF, aL, aN, aS, aR, aM, aK, aT, aE) (nI (lo + r)) (nI st) (nI L) (cond o 1 0) := by
  refine nm_e ⟨ln r + 1, xe_8 post o hL hg hr htx H (ln r) 0 _ (by omega) fun j hj => ?_⟩
  rw [xb_o st (by omega) j hj, decide_eq_true_eq]
  exact Iff.rfl
end xps
