/-! X: derives, and the questions -/
noncomputable def bz_I (P : Prop) : Int32 := @ite Int32 P (Classical.propDecidable P) 1 0
theorem bz_t {P : Prop} (h : P) : bz_I P = 1 := by unfold bz_I; rw [if_pos h]
theorem bz_f {P : Prop} (h : ¬ P) : bz_I P = 0 := by unfold bz_I; rw [if_neg h]
theorem bz_01 (P : Prop) : bz_I P = 0 ∨ bz_I P = 1 := by
  rcases Classical.em P with h | h
  · exact Or.inr (bz_t h)
  · exact Or.inl (bz_f h)
theorem bz_c {P Q : Prop} (h : P ↔ Q) : bz_I P = bz_I Q := by
  rcases Classical.em P with z | z
  · rw [bz_t z, bz_t (h.mp z)]
  · rw [bz_f z, bz_f (fun y => z (h.mpr y))]
theorem bz_n (P : Prop) : narrow .boolean (.int (bz_I P)) = .int (bz_I P) ∧ fits .boolean (.int (bz_I P)) = true := by
  rcases bz_01 P with h | h <;> rw [h] <;> exact ⟨rfl, rfl⟩
theorem bz_0 {P : Prop} : bz_I P = 0 ↔ ¬ P := by
  rcases Classical.em P with h | h
  · rw [bz_t h]; exact ⟨fun z => absurd z (by decide), fun z => absurd h z⟩
  · rw [bz_f h]; exact ⟨fun _ => h, fun _ => rfl⟩
theorem bz_br {x : Int32} {P A B : Prop} (h : x = bz_I P) (f : ¬ P → A) (g : P → B) : (x = 0 → A) ∧ (¬ x = 0 → B) := by
  subst h
  exact ⟨fun z => f (bz_0.mp z), fun z => g (Classical.byContradiction fun y => z (bz_0.mpr y))⟩
theorem bz_nar (P : Prop) : vp_nar .boolean (bz_I P) = bz_I P := by
  rcases bz_01 P with h | h <;> rw [h] <;> rfl
theorem bz_p1 {post : Int32 → Prop} {P : Prop} (H : post (bz_I P)) (h : P) : post 1 := by rw [bz_t h] at H; exact H
theorem bz_p0 {post : Int32 → Prop} {P : Prop} (H : post (bz_I P)) (h : ¬ P) : post 0 := by rw [bz_f h] at H; exact H
section xds
variable {xN xT xB xR xS xE xL xA xG xC xF : Int32} {aL aN aS aR aM aK aT aE : Nat → Int32}
variable {lo n L : Nat} {tx lh ln : Nat → Nat} {sy : Nat → Nat → Nat} {o : Bool}
/-- every kept end is a derivation -/
def ex_S (n L : Nat) (lh ln : Nat → Nat) (sy : Nat → Nat → Nat) (T : Nat → Nat → Nat → Prop) (e : Nat → Int32) : Prop := ∀ a i j, ex_E L e a i j → dv_D n lh ln sy T a i j
/-- rule r adds nothing at start i -/
def ex_c (L : Nat) (lh ln : Nat → Nat) (sy : Nat → Nat → Nat) (T : Nat → Nat → Nat → Prop) (e : Nat → Int32) (i r : Nat) : Prop := ∀ j, dv_P (fun k => dv_St (ex_E L e) T (sy r k)) i (ln r) j → ex_E L e (lh r) i j
noncomputable def ex_n (st : Nat) (e : Nat → Int32) : Nat := cn (fun c => bt (e (c / 14 * 14 + st)) (c % 14) = true) 168
theorem xd_pres {e e' : Nat → Int32} {i : Nat} (hs : ex_S n L lh ln sy (tm_s o tx L) e') (he : ∀ a m, a < 12 → i ≤ m → m ≤ L → e' (a * 14 + m) = e (a * 14 + m)) {r : Nat} (h : ex_c L lh ln sy (tm_s o tx L) e i r) : ex_c L lh ln sy (tm_s o tx L) e' i r := by
  intro j hp
  have mo : ∀ k m q, dv_St (ex_E L e') (tm_s o tx L) (sy r k) m q → m ≤ q := fun k m q s => dv_St_le (fun a i j h => dv_D_le tm_le (hs a i j h)) tm_le s
  have hp' : dv_P (fun k => dv_St (ex_E L e) (tm_s o tx L) (sy r k)) i (ln r) j := by
    refine dv_P_mono _ _ (fun k m q _ s => ?_) (dv_P_in mo (ln r) j hp (Nat.le_refl j))
    exact dv_St_mono (fun _ x => ⟨x.1, x.2.1, by rw [← he _ _ x.1 s.2.1 x.2.1]; exact x.2.2⟩) (fun _ t => t) s.1
  obtain ⟨a, b, c⟩ := h j hp'
  exact ⟨a, b, by rw [he _ _ a (Nat.le_refl i) b]; exact c⟩
theorem xd_fin {e : Nat → Int32} (hs : ex_S n L lh ln sy (tm_s o tx L) e) (hc : ∀ i, i ≤ L → ∀ r, r < n → ex_c L lh ln sy (tm_s o tx L) e i r) {a i j : Nat} (d : dv_D n lh ln sy (tm_s o tx L) a i j) (hi : i ≤ L) : ex_E L e a i j := by
  refine d (fun a i j => i ≤ L → ex_E L e a i j) (fun r i j hr h hi => hc i hi r hr j (dv_P_up (L := L) (fun k m q hm s => ?_) hi (ln r) j h).1) hi
  rcases s with ⟨z, b⟩ | ⟨z, b⟩
  · exact ⟨Or.inl ⟨z, b hm⟩, dv_D_bd tm_bd (hs _ _ _ (b hm)) hm⟩
  · exact ⟨Or.inr ⟨z, b⟩, tm_bd _ _ _ b⟩
theorem xd_found {e : Nat → Int32} {st r j : Nat} (hs : ex_S n L lh ln sy (tm_s o tx L) e) (hr : r < n) (h : dv_P (fun k => dv_St (ex_E L e) (tm_s o tx L) (sy r k)) st (ln r) j) : dv_D n lh ln sy (tm_s o tx L) (lh r) st j :=
  dv_cl r st j hr (dv_P_mono _ _ (fun k m q _ => dv_St_mono (fun _ x => hs _ _ _ x) (fun _ t => t)) h)
theorem xd_58 {post : Int32 → St2 → Prop} {J28 : Int32 → (Nat → Int32) → (Nat → Int32) → (Nat → Int32) → (Nat → Int32) → (Nat → Int32) → (Nat → Int32) → (Nat → Int32) → (Nat → Int32) →  Prop} {J39 : Int32 → Int32 → (Nat → Int32) → (Nat → Int32) → (Nat → Int32) → (Nat → Int32) → (Nat → Int32) → (Nat → Int32) → (Nat → Int32) → (Nat → Int32) →  Prop} {st : Nat} (x7 : Int32) {e0 : Nat → Int32} (hL : L ≤ 13) (hst : st ≤ L) (hg : gx_R lo n aL aN aS lh ln sy) (htx : ∀ i, i < L → aT i = nI (tx i) ∧ tx i < 4)
    (hJ : ∀ e x6, ex_S n L lh ln sy (tm_s o tx L) e → (∀ a m, m < 14 → m ≠ st → e (a * 14 + m) = e0 (a * 14 + m)) → ((x6 = 0 ∧ e = e0 ∧ ∀ r, r < n → ex_c L lh ln sy (tm_s o tx L) e st r) ∨ (x6 = 1 ∧ ex_n st e0 < ex_n st e)) → J39 x6 (x7 + 1) aL aN aS aR aM aK aT e) :
    ∀ d r e x6, r + d = n → ex_S n L lh ln sy (tm_s o tx L) e → (∀ a m, m < 14 → m ≠ st → e (a * 14 + m) = e0 (a * 14 + m)) → ((x6 = 0 ∧ e = e0 ∧ ∀ r', r' < r → ex_c L lh ln sy (tm_s o tx L) e st r') ∨ (x6 = 1 ∧ ex_n st e0 < ex_n st e)) →
      wX_derives_58 post J28 J39 (nI lo) (nI (lo + n)) (nI L) (cond o 1 0) (nI st) x7 xN xT xB xR xS xE xL xA xG xC xF (d + 1) x6 (nI (lo + r)) aL aN aS aR aM aK aT e := by
  intro d
  induction d with
  | zero =>
    intro r e x6 hr hs ha hx
    have er : r = n := by omega
    subst er
    have := hg.1
    exact br_t (nI_le (Nat.le_refl _) (by omega)) (nm_e (hJ e x6 hs ha hx))
  | succ d ih =>
    intro r e x6 hr hs ha hx
    have hn := hg.1
    have hl := hg.2 r (by omega)
    have h12 := hl.2.1
    refine br_f (nI_ge (by omega) (by omega)) (xe_R _ o hL hst hg (by omega) htx fun res hres => ⟨vp_in_nI (by omega) (by decide), ?_⟩)
    refine nm_r (e' := nI (lh r * 14 + st)) (by rw [nI_clamp (by omega), hl.1, xp_ix]) ⟨vp_in_nI (by omega) (by decide), ?_⟩
    have nx : nI (lo + r) + 1 = nI (lo + (r + 1)) := by rw [nI_1, Nat.add_assoc]
    refine ek_if (d := ∀ j, j < 32 → bt res j = true → bt (e (lh r * 14 + st)) j = true) (by rw [nI_clamp (by omega)]; exact xb_le) (fun hsub => nm_r nx ?_) (fun hns => ⟨vp_in_nI (by omega) (by decide), vp_in_nI (by omega) (by decide), nm_r (by rw [nI_clamp (by omega)]) (nm_r nx ?_)⟩)
    · refine ih (r + 1) e x6 (by omega) hs ha (hx.imp (fun h => ⟨h.1, h.2.1, fun r' hr' => ?_⟩) id)
      rcases Nat.lt_or_ge r' r with z | z
      · exact h.2.2 r' z
      · have er : r' = r := by omega
        subst er
        intro j hp
        have hj : j ≤ L := dv_D_bd tm_bd (xd_found hs (by omega) hp) hst
        exact ⟨h12, hst, hsub j (by omega) ((hres j (by omega)).mpr hp)⟩
    · have hd : ∀ j, bt res j = true → dv_D n lh ln sy (tm_s o tx L) (lh r) st j := fun j hj => xd_found hs (by omega) ((hres j (xb_lt hj)).mp hj)
      have hor : ∀ j, bt (upd e (lh r * 14 + st) (e (lh r * 14 + st) ||| res) (lh r * 14 + st)) j = true ↔ bt (e (lh r * 14 + st)) j = true ∨ bt res j = true := fun j => by rw [pk_us, xb_or]
      have hmo : ∀ c j, bt (e c) j = true → bt (upd e (lh r * 14 + st) (e (lh r * 14 + st) ||| res) c) j = true := by
        intro c j h
        by_cases z : c = lh r * 14 + st
        · subst z; exact (hor j).mpr (Or.inl h)
        · rw [pk_un z]; exact h
      refine ih (r + 1) _ 1 (by omega) ?_ ?_ (Or.inr ⟨rfl, ?_⟩)
      · intro a i j hE
        obtain ⟨h1, h2, h3⟩ := hE
        by_cases z : a * 14 + i = lh r * 14 + st
        · have e1 : a = lh r := by omega
          have e2 : i = st := by omega
          subst e1 e2
          rcases (hor j).mp h3 with h | h
          · exact hs _ _ _ ⟨h1, h2, h⟩
          · exact hd j h
        · rw [pk_un z] at h3
          exact hs _ _ _ ⟨h1, h2, h3⟩
      · intro a m hm hne
        rw [pk_un (by omega)]
        exact ha a m hm hne
      · obtain ⟨j, hj, hb, hnb⟩ : ∃ j, j < 32 ∧ bt res j = true ∧ ¬ bt (e (lh r * 14 + st)) j = true :=
          Classical.byContradiction fun hc => hns fun j hj hb => Classical.byContradiction fun hnb => hc ⟨j, hj, hb, hnb⟩
        have hj13 : j ≤ L := dv_D_bd tm_bd (hd j hb) hst
        have e1 : (lh r * 14 + j) / 14 = lh r := by omega
        have e2 : (lh r * 14 + j) % 14 = j := by omega
        have hlt : ex_n st e < ex_n st (upd e (lh r * 14 + st) (e (lh r * 14 + st) ||| res)) := by
          unfold ex_n
          refine cn_lt (a := lh r * 14 + j) ?_ ?_ (fun c _ h => hmo _ _ h) (by omega)
          · show ¬ bt (e ((lh r * 14 + j) / 14 * 14 + st)) ((lh r * 14 + j) % 14) = true
            rw [e1, e2]; exact hnb
          · show bt (upd e (lh r * 14 + st) (e (lh r * 14 + st) ||| res) ((lh r * 14 + j) / 14 * 14 + st)) ((lh r * 14 + j) % 14) = true
            rw [e1, e2]; exact (hor j).mpr (Or.inr hb)
        rcases hx with h | h
        · rw [← h.2.1]; exact hlt
        · exact Nat.lt_trans h.2 hlt
theorem xd_39 {post : Int32 → St2 → Prop} {J28 : Int32 → (Nat → Int32) → (Nat → Int32) → (Nat → Int32) → (Nat → Int32) → (Nat → Int32) → (Nat → Int32) → (Nat → Int32) → (Nat → Int32) →  Prop} {st : Nat} {e0 : Nat → Int32} (hL : L ≤ 13) (hst : st ≤ L) (hg : gx_R lo n aL aN aS lh ln sy) (htx : ∀ i, i < L → aT i = nI (tx i) ∧ tx i < 4)
    (hJ : ∀ e, ex_S n L lh ln sy (tm_s o tx L) e → (∀ a m, m < 14 → m ≠ st → e (a * 14 + m) = e0 (a * 14 + m)) → (∀ r, r < n → ex_c L lh ln sy (tm_s o tx L) e st r) → J28 (nI st + (-1)) aL aN aS aR aM aK aT e) :
    ∀ d p e x6, p + d = 169 → ex_S n L lh ln sy (tm_s o tx L) e → (∀ a m, m < 14 → m ≠ st → e (a * 14 + m) = e0 (a * 14 + m)) → ((x6 = 0 ∧ ∀ r, r < n → ex_c L lh ln sy (tm_s o tx L) e st r) ∨ (x6 = 1 ∧ p ≤ ex_n st e)) →
      wX_derives_39 post J28 (nI lo) (nI (lo + n)) (nI L) (cond o 1 0) (nI st) xN xT xB xR xS xE xL xA xG xC xF (d + 1) x6 (nI p) aL aN aS aR aM aK aT e := by
  intro d
  induction d with
  | zero =>
    intro p e x6 hp hs ha hx
    have ep : p = 169 := by omega
    subst ep
    refine br_t (nI_le (a := 169) (Nat.le_refl _) (by decide)) (nm_e (hJ e hs ha ?_))
    rcases hx with h | h
    · exact h.2
    · have := cn_le (fun c => bt (e (c / 14 * 14 + st)) (c % 14) = true) 168
      have h2 := h.2
      unfold ex_n at h2
      omega
  | succ d ih =>
    intro p e x6 hp hs ha hx
    refine br_f (nI_ge (b := 169) (by omega) (by decide)) ?_
    rcases hx with ⟨h, hc⟩ | ⟨h, hc⟩
    · subst h
      exact br_t rfl (nm_e (hJ e hs ha hc))
    · subst h
      refine br_f (by decide) ⟨n + 1, xd_58 (e0 := e) (nI p) hL hst hg htx (fun e' x6 hs' ha' hx' => ?_) n 0 e 0 (by omega) hs (fun _ _ _ _ => rfl) (Or.inl ⟨rfl, rfl, fun r' hr' => absurd hr' (Nat.not_lt_zero _)⟩)⟩
      rw [nI_1]
      refine ih (p + 1) e' x6 (by omega) hs' (fun a m h1 h2 => (ha' a m h1 h2).trans (ha a m h1 h2)) ?_
      rcases hx' with h | h
      · exact Or.inl ⟨h.1, h.2.2⟩
      · exact Or.inr ⟨h.1, by omega⟩
theorem xd_28 {post : Int32 → St2 → Prop} (hL : L ≤ 13) (hg : gx_R lo n aL aN aS lh ln sy) (htx : ∀ i, i < L → aT i = nI (tx i) ∧ tx i < 4)
    (H : ∀ e, post (bz_I (dv_D n lh ln sy (tm_s o tx L) 0 0 L)) (xN, xT, xB, xR, xS, xE, xL, xA, xG, xC, xF, aL, aN, aS, aR, aM, aK, aT, e)) :
    ∀ s e, s ≤ L + 1 → ex_S n L lh ln sy (tm_s o tx L) e → (∀ i, s ≤ i → i ≤ L → ∀ r, r < n → ex_c L lh ln sy (tm_s o tx L) e i r) →
      wX_derives_28 post (nI lo) (nI (lo + n)) (nI L) (cond o 1 0) xN xT xB xR xS xE xL xA xG xC xF (s + 1) (nI s + (-1)) aL aN aS aR aM aK aT e := by
  intro s
  induction s with
  | zero =>
    intro e _ hs hc
    refine br_t (by decide) (ek_if (xb_t (by omega) _) (fun z => ?_) (fun z => ?_))
    · have := H e
      rw [bz_t (hs 0 0 L ⟨by decide, Nat.zero_le L, z⟩)] at this
      exact this
    · have := H e
      rw [bz_f (fun d => z (xd_fin hs (fun i hi => hc i (Nat.zero_le i) hi) d (Nat.zero_le L)).2.2)] at this
      exact this
  | succ s ih =>
    intro e h hs hc
    rw [pk_m1]
    refine br_f (nI_pos (by omega)) ⟨169 + 1, xd_39 (e0 := e) hL (by omega) hg htx (fun e' hs' ha' hc' => ?_) 169 0 e 1 (by omega) hs (fun _ _ _ _ => rfl) (Or.inr ⟨rfl, Nat.zero_le _⟩)⟩
    refine ih e' (by omega) hs' fun i h1 h2 r hr => ?_
    rcases Nat.lt_or_ge s i with z | z
    · exact xd_pres hs' (fun a m _ hm hm2 => ha' a m (by omega) (by omega)) (hc i z h2 r hr)
    · have e : i = s := by omega
      subst e
      exact hc' r hr
theorem xd_3 {post : Int32 → St2 → Prop} (hL : L ≤ 13) (hg : gx_R lo n aL aN aS lh ln sy) (htx : ∀ i, i < L → aT i = nI (tx i) ∧ tx i < 4)
    (H : ∀ e, post (bz_I (dv_D n lh ln sy (tm_s o tx L) 0 0 L)) (xN, xT, xB, xR, xS, xE, xL, xA, xG, xC, xF, aL, aN, aS, aR, aM, aK, aT, e)) :
    ∀ d i e, i + d = 168 → (∀ c, c < i → e c = 0) → wX_derives_3 post (nI lo) (nI (lo + n)) (nI L) (cond o 1 0) xN xT xB xR xS xE xL xA xG xC xF (d + 1) (nI i) aL aN aS aR aM aK aT e := by
  intro d
  induction d with
  | zero =>
    intro i e hi he
    have ei : i = 168 := by omega
    subst ei
    have := xd_28 (o := o) (s := L + 1) hL hg htx H e (Nat.le_refl _) (fun a i j h => by
      rw [ex_E, he _ (by have := h.1; have := h.2.1; omega), b_0] at h
      exact absurd h.2.2 (by decide)) (fun i h1 h2 => by omega)
    rw [pk_m1] at this
    exact br_t (nI_le (a := 168) (Nat.le_refl _) (by decide)) ⟨_, this⟩
  | succ d ih =>
    intro i e hi he
    refine br_f (nI_ge (b := 168) (by omega) (by decide)) ⟨vp_in_nI (by omega) (by decide), nm_r (by rw [nI_clamp (by omega)]) (nm_r (nI_1 i) (ih (i + 1) _ (by omega) fun c hc => ?_))⟩
    by_cases z : c = i
    · subst z; exact pk_us
    · rw [pk_un z]; exact he c (by omega)
theorem xd_D {post : Int32 → St2 → Prop} {p0 p1 p2 p3 : Int32} (lo n L : Nat) (o : Bool) (h0 : p0 = nI lo) (h1 : p1 = nI (lo + n)) (h2 : p2 = nI L) (h3 : p3 = cond o 1 0) {tx lh ln : Nat → Nat} {sy : Nat → Nat → Nat} (hL : L ≤ 13) (hg : gx_R lo n aL aN aS lh ln sy) (htx : ∀ i, i < L → aT i = nI (tx i) ∧ tx i < 4)
    (H : ∀ e, post (bz_I (dv_D n lh ln sy (tm_s o tx L) 0 0 L)) (xN, xT, xB, xR, xS, xE, xL, xA, xG, xC, xF, aL, aN, aS, aR, aM, aK, aT, e)) : wpX_derives post (xN, xT, xB, xR, xS, xE, xL, xA, xG, xC, xF, aL, aN, aS, aR, aM, aK, aT, aE) p0 p1 p2 p3 := by
  subst h0 h1 h2 h3
  exact ⟨168 + 1, xd_3 hL hg htx H 168 0 aE rfl (fun c hc => absurd hc (Nat.not_lt_zero c))⟩
end xds
/-- a mask, bit by bit -/
noncomputable def fo_M (P : Nat → Prop) : Nat → Int32
  | 0 => 0
  | t + 1 => @ite Int32 (P t) (Classical.propDecidable (P t)) (fo_M P t ||| ((1 : Int32) <<< (nI t &&& 31))) (fo_M P t)
theorem fo_t {P : Nat → Prop} {t : Nat} (h : P t) : fo_M P (t + 1) = fo_M P t ||| ((1 : Int32) <<< (nI t &&& 31)) := by rw [fo_M, if_pos h]
theorem fo_f {P : Nat → Prop} {t : Nat} (h : ¬ P t) : fo_M P (t + 1) = fo_M P t := by rw [fo_M, if_neg h]
/-- the text with t put behind it can be completed -/
def dq_P (m : Nat) (mh mn : Nat → Nat) (my : Nat → Nat → Nat) (tx : Nat → Nat) (L t : Nat) : Prop := dv_D m mh mn my (tm_s true (fun i => if i = L then t else tx i) (L + 1)) 0 0 (L + 1)
section xqs
variable {xN xT xB xR xS xE xL xA xG xC xF : Int32} {aL aN aS aR aM aK aT aE : Nat → Int32}
variable {n m L T : Nat} {tx lh ln mh mn : Nat → Nat} {sy my : Nat → Nat → Nat}
theorem xq_63 {post : St2 → Prop} (hL : L ≤ 12) (hT : T ≤ 4) (hg : gx_R 8 m aL aN aS mh mn my)
    (H : ∀ aT' e, (∀ i, i < L → aT' i = nI (tx i) ∧ tx i < 4) → post (xN, nI T, xB, xR, xS, nI (8 + m), nI L, xA, xG, xC, fo_M (dq_P m mh mn my tx L) T, aL, aN, aS, aR, aM, aK, aT', e)) :
    ∀ d t aT e, t + d = T → (∀ i, i < L → aT i = nI (tx i) ∧ tx i < 4) → wX_answerQuestions_63 post (d + 1) (nI t) xN (nI T) xB xR xS (nI (8 + m)) (nI L) xA xG xC (fo_M (dq_P m mh mn my tx L) t) aL aN aS aR aM aK aT e := by
  intro d
  induction d with
  | zero =>
    intro t aT e ht hx
    have et : t = T := by omega
    subst et
    exact br_t (nI_le (Nat.le_refl _) (by omega)) (H aT e hx)
  | succ d ih =>
    intro t aT e ht hx
    have hx' : ∀ t' i, i < L → upd aT L t' i = nI (tx i) ∧ tx i < 4 := fun t' i hi => by rw [pk_un (by omega)]; exact hx i hi
    refine br_f (nI_ge (by omega) (by omega)) ⟨vp_in_nI (by omega) (by decide), nm_r (by rw [nI_clamp (by omega)]) ?_⟩
    refine xd_D 8 m (L + 1) true rfl rfl (nI_1 L) rfl (tx := fun i => if i = L then t else tx i) (by omega) hg (fun i hi => ?_) (fun e' => ?_)
    · by_cases z : i = L
      · subst z; rw [pk_us, if_pos rfl]; exact ⟨rfl, by omega⟩
      · rw [if_neg z]; exact hx' _ i (by omega)
    · refine bz_br (P := dq_P m mh mn my tx L t) rfl (fun z => ?_) (fun z => ?_)
      · have := ih (t + 1) (upd aT L (nI t)) e' (by omega) (hx' _)
        rw [fo_f z] at this
        exact nm_r (nI_1 t) this
      · have := ih (t + 1) (upd aT L (nI t)) e' (by omega) (hx' _)
        rw [fo_t z] at this
        exact nm_e (nm_r (nI_1 t) this)
theorem xq_A {post : St2 → Prop} (hL : L ≤ 12) (hT : T ≤ 4) (hg0 : gx_R 0 n aL aN aS lh ln sy) (hg : gx_R 8 m aL aN aS mh mn my) (htx : ∀ i, i < L → aT i = nI (tx i) ∧ tx i < 4)
    (H : ∀ aT' e, (∀ i, i < L → aT' i = nI (tx i) ∧ tx i < 4) → post (xN, nI T, xB, nI n, xS, nI (8 + m), nI L, bz_I (dv_D m mh mn my (tm_s false tx L) 0 0 L), bz_I (dv_D n lh ln sy (tm_s false tx L) 0 0 L), bz_I (dv_D m mh mn my (tm_s true tx L) 0 0 L), fo_M (dq_P m mh mn my tx L) T, aL, aN, aS, aR, aM, aK, aT', e)) :
    wpX_answerQuestions post (xN, nI T, xB, nI n, xS, nI (8 + m), nI L, xA, xG, xC, xF, aL, aN, aS, aR, aM, aK, aT, aE) := by
  unfold wpX_answerQuestions
  refine xd_D 0 n L false rfl (by rw [Nat.zero_add]) rfl rfl (by omega) hg0 htx fun e1 => ⟨(bz_n _).1, (bz_n _).2, ?_⟩
  refine xd_D 8 m L false rfl rfl rfl rfl (by omega) hg htx fun e2 => ⟨(bz_n _).1, (bz_n _).2, ?_⟩
  refine xd_D 8 m L true rfl rfl rfl rfl (by omega) hg htx fun e3 => ⟨(bz_n _).1, (bz_n _).2, T + 1, ?_⟩
  exact xq_63 hL hT hg H T 0 aT e3 (by omega) htx
end xqs
