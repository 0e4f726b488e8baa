/-! The law's loops -/
theorem la_neg {y : Int32} (h : ¬ 0 ≤ y) : ¬ (-(y + 1)) < 0 := by
  have h1 : y.toInt < 0 := by
    have := Int32.not_le.mp h
    rw [Int32.lt_iff_toInt_lt] at this
    exact this
  have h2 : -2147483648 ≤ y.toInt := Int32.le_toInt y
  have e1 : (y + 1).toInt = y.toInt + 1 := by
    rw [Int32.toInt_add, show (1 : Int32).toInt = 1 from rfl]
    exact Int.bmod_eq_of_le (by omega) (by omega)
  have e2 : (-(y + 1)).toInt = -(y.toInt + 1) := by
    rw [Int32.toInt_neg, e1]
    exact Int.bmod_eq_of_le (by omega) (by omega)
  rw [Int32.lt_iff_toInt_lt, e2, show (0 : Int32).toInt = 0 from rfl]
  omega
theorem la_nz {P : Int32 → Prop} (H : ∀ c, c < 2 ^ 31 → P (nI c)) (y : Int32) : wpL_nz P () y := by
  by_cases h : 0 ≤ y
  · obtain ⟨c, hc, e⟩ := nI_of (x := y) (Int32.not_lt.mpr h)
    exact br_t h (by rw [e]; exact H c hc)
  · obtain ⟨c, hc, e⟩ := nI_of (x := -(y + 1)) (la_neg h)
    exact br_f h (by rw [e]; exact H c hc)
theorem la_cz {P : Int32 → Prop} {Z : Nat} {xs : Nat → Int32} {j : Nat} (hZ : Z ≤ 260) (hj : j < 1000) (H : ∀ c, c < 2 ^ 31 → P (nI c)) : wpL_cell (fun r => wpL_nz P () r) Z xs () (nI j) :=
  pk_le Z j (fun _ => la_nz H 0) (fun z => ⟨vp_in_nI z (by omega), la_nz H _⟩)
section las
variable {post : Int32 → Prop} {Z : Nat} {xs : Nat → Int32} {kc ks N T : Nat} {g : gm_G} {m kd : Nat → Nat}
theorem la_484 {J197 : Int32 → Int64 → Int32 → Int32 → Int32 → Int32 → Int32 → Int32 → Int32 → Int32 → Int32 → Int32 → Int32 → Int32 → Int32 → (Nat → Int32) → (Nat → Int32) → (Nat → Int32) → (Nat → Int32) → (Nat → Int32) → (Nat → Int32) → (Nat → Int32) → (Nat → Int32) →  Prop} {x1 : Int32} {K len s : Nat} {tx : Nat → Nat} (hlen : len ≤ 12) (hK : cr_R T K len tx)
    (hJ : ∀ (xN xT xB xR xS xE xL xA xG xC xF : Int32) (aL aN aS aR aM aK aT aE : Nat → Int32), jr_B N T len g m kd tx (xN, xT, xB, xR, xS, xE, xL, xA, xG, xC, xF, aL, aN, aS, aR, aM, aK, aT, aE) → J197 x1 (lN K) (nI len) (nI (s + 1)) xN xT xB xR xS xE xL xA xG xC xF aL aN aS aR aM aK aT aE) :
    ∀ (d i : Nat) (xN xT xB xR xS xE xL xA xG xC xF : Int32) (aL aN aS aR aM aK aT aE : Nat → Int32), i + d = len → jr_B N T i g m kd tx (xN, xT, xB, xR, xS, xE, xL, xA, xG, xC, xF, aL, aN, aS, aR, aM, aK, aT, aE) → wL_law_484 post Z xs J197 x1 (nI T) (lN K) (nI len) (nI s) kc ks (d + 1) (nI i) xN xT xB xR xS xE xL xA xG xC xF aL aN aS aR aM aK aT aE := by
  intro d
  induction d with
  | zero =>
    intro i xN xT xB xR xS xE xL xA xG xC xF aL aN aS aR aM aK aT aE hi hB
    have e : i = len := by omega
    subst e
    exact br_t (nI_le (Nat.le_refl _) (by omega)) (nm_r (nI_1 s) (hJ _ _ _ _ _ _ _ _ _ _ _ _ _ _ _ _ _ _ _ hB))
  | succ d ih =>
    intro i xN xT xB xR xS xE xL xA xG xC xF aL aN aS aR aM aK aT aE hi hB
    refine br_f (nI_ge (by omega) (by omega)) ?_
    rw [cr_get hK hlen (by omega)]
    refine jm_feed hB (hK.2 i (by omega)).2 tx (fun _ _ => rfl) rfl (fun _ u' hu => ?_) (fun z => absurd (by omega) z)
    obtain ⟨xN, xT, xB, xR, xS, xE, xL, xA, xG, xC, xF, aL, aN, aS, aR, aM, aK, aT, aE⟩ := u'
    exact nm_r (nI_1 i) (ih (i + 1) _ _ _ _ _ _ _ _ _ _ _ _ _ _ _ _ _ _ _ (by omega) hu)
theorem la_400 {J197 : Int32 → Int64 → Int32 → Int32 → Int32 → Int32 → Int32 → Int32 → Int32 → Int32 → Int32 → Int32 → Int32 → Int32 → Int32 → (Nat → Int32) → (Nat → Int32) → (Nat → Int32) → (Nat → Int32) → (Nat → Int32) → (Nat → Int32) → (Nat → Int32) → (Nat → Int32) →  Prop} {J385 : Int32 → Int32 → Int32 → Int32 → Int32 → Int32 → Int32 → Int32 → Int32 → Int32 → Int32 → Int32 → (Nat → Int32) → (Nat → Int32) → (Nat → Int32) → (Nat → Int32) → (Nat → Int32) → (Nat → Int32) → (Nat → Int32) → (Nat → Int32) →  Prop} {x1 : Int32} {K len s x : Nat} {tx : Nat → Nat} (hlen : len < 12) (hK : cr_R T K len tx) (hx : x < T) (hT : T ≤ 4)
    (hJ : ∀ (xN xT xB xR xS xE xL xA xG xC xF : Int32) (aL aN aS aR aM aK aT aE : Nat → Int32), (∃ L' tx', jr_B N T L' g m kd tx' (xN, xT, xB, xR, xS, xE, xL, xA, xG, xC, xF, aL, aN, aS, aR, aM, aK, aT, aE)) → J385 (nI (x + 1)) xN xT xB xR xS xE xL xA xG xC xF aL aN aS aR aM aK aT aE) :
    ∀ (d i : Nat) (xN xT xB xR xS xE xL xA xG xC xF : Int32) (aL aN aS aR aM aK aT aE : Nat → Int32), i + d = len → jr_B N T i g m kd tx (xN, xT, xB, xR, xS, xE, xL, xA, xG, xC, xF, aL, aN, aS, aR, aM, aK, aT, aE) → wL_law_400 post Z xs J197 J385 x1 (nI T) (lN K) (nI len) (nI s) (fo_M (dq_P (gz_C g m kd N).1 (gz_C g m kd N).2.1 (gz_C g m kd N).2.2.1 (gz_C g m kd N).2.2.2 tx len) T) (nI x) kc ks (d + 1) (nI i) xN xT xB xR xS xE xL xA xG xC xF aL aN aS aR aM aK aT aE := by
  intro d
  induction d with
  | zero =>
    intro i xN xT xB xR xS xE xL xA xG xC xF aL aN aS aR aM aK aT aE hi hB
    have e : i = len := by omega
    subst e
    refine br_t (nI_le (Nat.le_refl _) (by omega)) (jm_feed hB hx (fun p => if p = i then x else tx p) (fun p hp => if_neg (by omega)) (if_pos rfl) (fun _ u' hu => ?_) (fun z => absurd hlen z))
    obtain ⟨xN, xT, xB, xR, xS, xE, xL, xA, xG, xC, xF, aL, aN, aS, aR, aM, aK, aT, aE⟩ := u'
    refine jm_al hu (ek_if (d := dq_P (gz_C g m kd N).1 (gz_C g m kd N).2.1 (gz_C g m kd N).2.2.1 (gz_C g m kd N).2.2.2 tx i x) (Iff.trans (xb_t (by omega) _) (Iff.trans (fo_b T (by omega) x (by omega)) ⟨And.right, fun y => ⟨hx, y⟩⟩)) (fun z => ?_) (fun z => ?_))
    · exact br_t (bz_t z).symm (nm_r (nI_1 x) (hJ _ _ _ _ _ _ _ _ _ _ _ _ _ _ _ _ _ _ _ ⟨_, _, hu⟩))
    · exact br_t (bz_f z).symm (nm_r (nI_1 x) (hJ _ _ _ _ _ _ _ _ _ _ _ _ _ _ _ _ _ _ _ ⟨_, _, hu⟩))
  | succ d ih =>
    intro i xN xT xB xR xS xE xL xA xG xC xF aL aN aS aR aM aK aT aE hi hB
    refine br_f (nI_ge (by omega) (by omega)) ?_
    rw [cr_get hK (by omega) (by omega)]
    refine jm_feed hB (hK.2 i (by omega)).2 tx (fun _ _ => rfl) rfl (fun _ u' hu => ?_) (fun z => absurd (by omega) z)
    obtain ⟨xN, xT, xB, xR, xS, xE, xL, xA, xG, xC, xF, aL, aN, aS, aR, aM, aK, aT, aE⟩ := u'
    exact nm_r (nI_1 i) (ih (i + 1) _ _ _ _ _ _ _ _ _ _ _ _ _ _ _ _ _ _ _ (by omega) hu)
theorem la_385 {J197 : Int32 → Int64 → Int32 → Int32 → Int32 → Int32 → Int32 → Int32 → Int32 → Int32 → Int32 → Int32 → Int32 → Int32 → Int32 → (Nat → Int32) → (Nat → Int32) → (Nat → Int32) → (Nat → Int32) → (Nat → Int32) → (Nat → Int32) → (Nat → Int32) → (Nat → Int32) →  Prop} {x1 : Int32} {K len s : Nat} {tx : Nat → Nat} (hlen : len < 12) (hK : cr_R T K len tx) (hT : T ≤ 4)
    (hJ : ∀ (xN xT xB xR xS xE xL xA xG xC xF : Int32) (aL aN aS aR aM aK aT aE : Nat → Int32), jr_B N T len g m kd tx (xN, xT, xB, xR, xS, xE, xL, xA, xG, xC, xF, aL, aN, aS, aR, aM, aK, aT, aE) → J197 x1 (lN K) (nI len) (nI (s + 1)) xN xT xB xR xS xE xL xA xG xC xF aL aN aS aR aM aK aT aE) :
    ∀ (d x : Nat) (xN xT xB xR xS xE xL xA xG xC xF : Int32) (aL aN aS aR aM aK aT aE : Nat → Int32), x + d = T → (∃ L' tx', jr_B N T L' g m kd tx' (xN, xT, xB, xR, xS, xE, xL, xA, xG, xC, xF, aL, aN, aS, aR, aM, aK, aT, aE)) → wL_law_385 post Z xs J197 x1 (nI T) (lN K) (nI len) (nI s) (fo_M (dq_P (gz_C g m kd N).1 (gz_C g m kd N).2.1 (gz_C g m kd N).2.2.1 (gz_C g m kd N).2.2.2 tx len) T) kc ks (d + 1) (nI x) xN xT xB xR xS xE xL xA xG xC xF aL aN aS aR aM aK aT aE := by
  intro d
  induction d with
  | zero =>
    intro x xN xT xB xR xS xE xL xA xG xC xF aL aN aS aR aM aK aT aE hx hB
    obtain ⟨L', tx', hB⟩ := hB
    refine br_t (nI_le (by omega) (by omega)) (jm_clear hB tx fun u' hu => ?_)
    obtain ⟨xN, xT, xB, xR, xS, xE, xL, xA, xG, xC, xF, aL, aN, aS, aR, aM, aK, aT, aE⟩ := u'
    exact ⟨len + 1, la_484 (by omega) hK hJ len 0 _ _ _ _ _ _ _ _ _ _ _ _ _ _ _ _ _ _ _ (by omega) hu⟩
  | succ d ih =>
    intro x xN xT xB xR xS xE xL xA xG xC xF aL aN aS aR aM aK aT aE hx hB
    obtain ⟨L', tx', hB⟩ := hB
    refine br_f (nI_ge (by omega) (by omega)) (jm_clear hB tx fun u' hu => ?_)
    obtain ⟨xN, xT, xB, xR, xS, xE, xL, xA, xG, xC, xF, aL, aN, aS, aR, aM, aK, aT, aE⟩ := u'
    exact ⟨len + 1, la_400 hlen hK (by omega) hT (fun xN xT xB xR xS xE xL xA xG xC xF aL aN aS aR aM aK aT aE h => ih (x + 1) _ _ _ _ _ _ _ _ _ _ _ _ _ _ _ _ _ _ _ (by omega) h) len 0 _ _ _ _ _ _ _ _ _ _ _ _ _ _ _ _ _ _ _ (by omega) hu⟩
theorem la_287 {J197 : Int32 → Int64 → Int32 → Int32 → Int32 → Int32 → Int32 → Int32 → Int32 → Int32 → Int32 → Int32 → Int32 → Int32 → Int32 → (Nat → Int32) → (Nat → Int32) → (Nat → Int32) → (Nat → Int32) → (Nat → Int32) → (Nat → Int32) → (Nat → Int32) → (Nat → Int32) →  Prop} {x1 : Int32} {K len s : Nat} {tx : Nat → Nat} (hK : cr_R T K len tx)
    (hJ : ∀ (xN xT xB xR xS xE xL xA xG xC xF : Int32) (aL aN aS aR aM aK aT aE : Nat → Int32), jr_B N T len g m kd tx (xN, xT, xB, xR, xS, xE, xL, xA, xG, xC, xF, aL, aN, aS, aR, aM, aK, aT, aE) → J197 x1 (lN K) (nI len) (nI (s + 1)) xN xT xB xR xS xE xL xA xG xC xF aL aN aS aR aM aK aT aE) (xN xT xB xR xS xE xL xA xG xC xF : Int32) (aL aN aS aR aM aK aT aE : Nat → Int32) (hB : jr_B N T len g m kd tx (xN, xT, xB, xR, xS, xE, xL, xA, xG, xC, xF, aL, aN, aS, aR, aM, aK, aT, aE)) : wL_law_287 post Z xs J197 x1 (nI T) (lN K) (nI len) (nI s) kc ks xN xT xB xR xS xE xL xA xG xC xF aL aN aS aR aM aK aT aE := by
  obtain ⟨⟨⟨hN1, hN6⟩, ⟨hT1, hT4⟩, h8, h12, hE⟩, hlen, hkd, _⟩ := jr_b hB
  have hsub : dv_D g.1 g.2.1 g.2.2.1 g.2.2.2 (tm_s false tx len) 0 0 len → dv_D (gz_C g m kd N).1 (gz_C g m kd N).2.1 (gz_C g m kd N).2.2.1 (gz_C g m kd N).2.2.2 (tm_s false tx len) 0 0 len :=
    fun d => sb_sub hkd (fun r hr => (hE r hr).1) (fun r hr => by have := (hE r hr).1; omega) d
  obtain ⟨k, hk, ek⟩ := fo_k (P := dq_P (gz_C g m kd N).1 (gz_C g m kd N).2.1 (gz_C g m kd N).2.2.1 (gz_C g m kd N).2.2.2 tx len) T hT4
  have h16 : 2 ^ T ≤ 16 := Nat.le_trans (Nat.pow_le_pow_right (by decide) hT4) (by decide)
  have h360 : wL_law_360 post Z xs J197 x1 (nI T) (lN K) (nI len) (nI s) (fo_M (dq_P (gz_C g m kd N).1 (gz_C g m kd N).2.1 (gz_C g m kd N).2.2.1 (gz_C g m kd N).2.2.2 tx len) T) kc ks xN xT xB xR xS xE xL xA xG xC xF aL aN aS aR aM aK aT aE := by
    refine pk_le 12 len (fun z => nm_r (nI_1 s) (hJ _ _ _ _ _ _ _ _ _ _ _ _ _ _ _ _ _ _ _ hB)) (fun z => br_f (by rw [ek]; exact nI_pos (by omega)) (br_t (by rw [ek, fo_1 T (by omega)]; exact nI_lt hk (by omega)) ⟨T + 1, la_385 z hK hT4 hJ T 0 _ _ _ _ _ _ _ _ _ _ _ _ _ _ _ _ _ _ _ (by omega) ⟨_, _, hB⟩⟩))
  have h348 : wL_law_348 post Z xs J197 x1 (nI T) (lN K) (nI len) (nI s) (bz_I (dv_D (gz_C g m kd N).1 (gz_C g m kd N).2.1 (gz_C g m kd N).2.2.1 (gz_C g m kd N).2.2.2 (tm_s false tx len) 0 0 len)) (bz_I (dv_D (gz_C g m kd N).1 (gz_C g m kd N).2.1 (gz_C g m kd N).2.2.1 (gz_C g m kd N).2.2.2 (tm_s true tx len) 0 0 len)) (fo_M (dq_P (gz_C g m kd N).1 (gz_C g m kd N).2.1 (gz_C g m kd N).2.2.1 (gz_C g m kd N).2.2.2 tx len) T) kc ks xN xT xB xR xS xE xL xA xG xC xF aL aN aS aR aM aK aT aE :=
    bz_br rfl (fun _ => h360) (fun z => br_f (fun y => bz_0.mp y (dv_tm tm_co z)) h360)
  have h334 : wL_law_334 post Z xs J197 x1 (nI T) (lN K) (nI len) (nI s) (bz_I (dv_D g.1 g.2.1 g.2.2.1 g.2.2.2 (tm_s false tx len) 0 0 len)) (bz_I (dv_D (gz_C g m kd N).1 (gz_C g m kd N).2.1 (gz_C g m kd N).2.2.1 (gz_C g m kd N).2.2.2 (tm_s false tx len) 0 0 len)) (bz_I (∃ a, a < N ∧ kd a = 3)) (bz_I (dv_D (gz_C g m kd N).1 (gz_C g m kd N).2.1 (gz_C g m kd N).2.2.1 (gz_C g m kd N).2.2.2 (tm_s true tx len) 0 0 len)) (fo_M (dq_P (gz_C g m kd N).1 (gz_C g m kd N).2.1 (gz_C g m kd N).2.2.1 (gz_C g m kd N).2.2.2 tx len) T) kc ks xN xT xB xR xS xE xL xA xG xC xF aL aN aS aR aM aK aT aE :=
    bz_br rfl (fun z => br_t (bz_c ⟨hsub, fun d => nb_D (fun a ha y => z ⟨a, ha, y⟩) (fun r hr => (hE r hr).1) d⟩) h348) (fun _ => h348)
  unfold wL_law_287
  refine jm_ga hB (jm_aa hB (jm_se hB (jm_al hB (jm_nm hB ?_))))
  exact bz_br rfl (fun _ => h334) (fun z => br_f (fun y => bz_0.mp y (hsub z)) h334)
theorem la_197 (hZ : Z ≤ 260) (hp : post 1) (hT : 1 ≤ T) (hT4 : T ≤ 4) :
    ∀ (d s j K len : Nat) (tx : Nat → Nat) (xN xT xB xR xS xE xL xA xG xC xF : Int32) (aL aN aS aR aM aK aT aE : Nat → Int32), s + d = 17 → j ≤ 60 + s → cr_R T K len tx → jr_B N T len g m kd tx (xN, xT, xB, xR, xS, xE, xL, xA, xG, xC, xF, aL, aN, aS, aR, aM, aK, aT, aE) → wL_law_197 post Z xs (nI T) kc ks (d + 1) (nI j) (lN K) (nI len) (nI s) xN xT xB xR xS xE xL xA xG xC xF aL aN aS aR aM aK aT aE := by
  intro d
  induction d with
  | zero =>
    intro s j K len tx xN xT xB xR xS xE xL xA xG xC xF aL aN aS aR aM aK aT aE hs hj hK hB
    have e : s = 17 := by omega
    subst e
    exact br_t (by decide) hp
  | succ d ih =>
    intro s j K len tx xN xT xB xR xS xE xL xA xG xC xF aL aN aS aR aM aK aT aE hs hj hK hB
    have hlen := (jr_b hB).2.1
    refine br_f (nI_nlt (b := s) (a := 16) (by omega) (by omega)) (pk_le s 0 (fun z => la_287 hK (fun xN xT xB xR xS xE xL xA xG xC xF aL aN aS aR aM aK aT aE h => ih (s + 1) j K len tx _ _ _ _ _ _ _ _ _ _ _ _ _ _ _ _ _ _ _ (by omega) (by omega) hK h) _ _ _ _ _ _ _ _ _ _ _ _ _ _ _ _ _ _ _ hB) (fun z => nm_r (nI_1 j) (la_cz hZ (by omega) fun c hc => ⟨by decide, ?_⟩)))
    refine pk_eq (c % 8) 7 (fun z7 => ?_) (fun z7 => ⟨nI_ne0 (by omega) (by omega), nm_r (e' := nI (c % T)) (pk_rem hc (by omega) (by omega)) ?_⟩) (pk_rem (d := 8) hc (by decide) (by decide)) rfl (by omega) (by decide)
    · refine jm_clear hB tx fun u' hu => ?_
      obtain ⟨xN, xT, xB, xR, xS, xE, xL, xA, xG, xC, xF, aL, aN, aS, aR, aM, aK, aT, aE⟩ := u'
      exact la_287 (K := 0) (len := 0) cr_0 (fun xN xT xB xR xS xE xL xA xG xC xF aL aN aS aR aM aK aT aE h => ih (s + 1) (j + 1) 0 0 tx _ _ _ _ _ _ _ _ _ _ _ _ _ _ _ _ _ _ _ (by omega) (by omega) cr_0 h) _ _ _ _ _ _ _ _ _ _ _ _ _ _ _ _ _ _ _ hu
    · have hct : c % T < T := Nat.mod_lt _ (by omega)
      refine jm_feed hB hct (fun i => if i = len then c % T else tx i) (fun i hi => if_neg (by omega)) (if_pos rfl) (fun hlt u' hu => ?_) (fun hge => ?_)
      · obtain ⟨xN, xT, xB, xR, xS, xE, xL, xA, xG, xC, xF, aL, aN, aS, aR, aM, aK, aT, aE⟩ := u'
        have hK' := cr_add hK hct hT4
        exact br_t (nI_1 len).symm (nm_r (cr_put hK hlt (by omega)) (nm_r (nI_1 len) (la_287 hK' (fun xN xT xB xR xS xE xL xA xG xC xF aL aN aS aR aM aK aT aE h => ih (s + 1) (j + 1) _ (len + 1) _ _ _ _ _ _ _ _ _ _ _ _ _ _ _ _ _ _ _ _ (by omega) (by omega) hK' h) _ _ _ _ _ _ _ _ _ _ _ _ _ _ _ _ _ _ _ hu)))
      · have e : len = 12 := by omega
        subst e
        exact br_f (by decide) (la_287 hK (fun xN xT xB xR xS xE xL xA xG xC xF aL aN aS aR aM aK aT aE h => ih (s + 1) (j + 1) K 12 tx _ _ _ _ _ _ _ _ _ _ _ _ _ _ _ _ _ _ _ (by omega) (by omega) hK h) _ _ _ _ _ _ _ _ _ _ _ _ _ _ _ _ _ _ _ hB)
theorem la_111 {J67 : Int32 → Int32 → Int32 → Int32 → Int32 → Int32 → Int32 → Int32 → Int32 → Int32 → Int32 → Int32 → Int32 → (Nat → Int32) → (Nat → Int32) → (Nat → Int32) → (Nat → Int32) → (Nat → Int32) → (Nat → Int32) → (Nat → Int32) → (Nat → Int32) →  Prop} {x5 : Int32} {r B Q : Nat} (hZ : Z ≤ 260) (hB : B ≤ 100) (hQ : Q ≤ 4)
    (hJ : ∀ (j : Nat) (xN xT xB xR xS xE xL xA xG xC xF : Int32) (aL aN aS aR aM aK aT aE : Nat → Int32), j ≤ B + Q → jr_E N T (xN, xT, xB, xR, xS, xE, xL, xA, xG, xC, xF, aL, aN, aS, aR, aM, aK, aT, aE) → J67 (nI j) (nI (r + 1)) xN xT xB xR xS xE xL xA xG xC xF aL aN aS aR aM aK aT aE) :
    ∀ (d k j : Nat) (xN xT xB xR xS xE xL xA xG xC xF : Int32) (aL aN aS aR aM aK aT aE : Nat → Int32), k + d = Q → j ≤ B + k → jr_E N T (xN, xT, xB, xR, xS, xE, xL, xA, xG, xC, xF, aL, aN, aS, aR, aM, aK, aT, aE) → wL_law_111 post Z xs J67 (nI N) (nI T) x5 (nI r) (nI Q) kc ks (d + 1) (nI j) (nI k) xN xT xB xR xS xE xL xA xG xC xF aL aN aS aR aM aK aT aE := by
  intro d
  induction d with
  | zero =>
    intro k j xN xT xB xR xS xE xL xA xG xC xF aL aN aS aR aM aK aT aE hk hj h
    exact br_t (nI_le (by omega) (by omega)) (nm_r (nI_1 r) (hJ j _ _ _ _ _ _ _ _ _ _ _ _ _ _ _ _ _ _ _ (by omega) h))
  | succ d ih =>
    intro k j xN xT xB xR xS xE xL xA xG xC xF aL aN aS aR aM aK aT aE hk hj h
    obtain ⟨a1, a2, a3, a4⟩ := jr_T h
    refine br_f (nI_ge (by omega) (by omega)) (nm_r (nI_1 j) (la_cz hZ (by omega) fun c hc => br_c (fun _ => ⟨nI_ne0 (by omega) (by omega), jm_term h _ fun r' u' hu => ?_⟩) (fun _ => ⟨nI_ne0 (by omega) (by omega), jm_nont h _ fun r' u' hu => ?_⟩)))
    · obtain ⟨xN, xT, xB, xR, xS, xE, xL, xA, xG, xC, xF, aL, aN, aS, aR, aM, aK, aT, aE⟩ := u'
      exact nm_r (nI_1 k) (ih (k + 1) (j + 1) _ _ _ _ _ _ _ _ _ _ _ _ _ _ _ _ _ _ _ (by omega) (by omega) hu)
    · obtain ⟨xN, xT, xB, xR, xS, xE, xL, xA, xG, xC, xF, aL, aN, aS, aR, aM, aK, aT, aE⟩ := u'
      exact nm_r (nI_1 k) (ih (k + 1) (j + 1) _ _ _ _ _ _ _ _ _ _ _ _ _ _ _ _ _ _ _ (by omega) (by omega) hu)
theorem la_67 {R : Nat} (hZ : Z ≤ 260) (hp : post 1) (hR : R ≤ 8) :
    ∀ (d r j : Nat) (xN xT xB xR xS xE xL xA xG xC xF : Int32) (aL aN aS aR aM aK aT aE : Nat → Int32), r + d = R → j ≤ 3 + 6 * r → jr_E N T (xN, xT, xB, xR, xS, xE, xL, xA, xG, xC, xF, aL, aN, aS, aR, aM, aK, aT, aE) → wL_law_67 post Z xs (nI N) (nI T) (nI R) kc ks (d + 1) (nI j) (nI r) xN xT xB xR xS xE xL xA xG xC xF aL aN aS aR aM aK aT aE := by
  intro d
  induction d with
  | zero =>
    intro r j xN xT xB xR xS xE xL xA xG xC xF aL aN aS aR aM aK aT aE hr hj h
    obtain ⟨a1, a2, a3, a4⟩ := jr_T h
    refine br_t (nI_le (by omega) (by omega)) (jm_build h fun r' u' g m kd hB => ?_)
    obtain ⟨xN, xT, xB, xR, xS, xE, xL, xA, xG, xC, xF, aL, aN, aS, aR, aM, aK, aT, aE⟩ := u'
    exact br_c (fun _ => ⟨17 + 1, la_197 hZ hp a4 a2 17 0 j 0 0 _ _ _ _ _ _ _ _ _ _ _ _ _ _ _ _ _ _ _ _ (by omega) (by omega) cr_0 hB⟩) (fun _ => hp)
  | succ d ih =>
    intro r j xN xT xB xR xS xE xL xA xG xC xF aL aN aS aR aM aK aT aE hr hj h
    obtain ⟨a1, a2, a3, a4⟩ := jr_T h
    refine br_f (nI_ge (by omega) (by omega)) (nm_r (nI_1 j) (la_cz hZ (by omega) fun c hc => ⟨nI_ne0 (by omega) (by omega), jm_rule h _ fun r' u' hu => ?_⟩))
    obtain ⟨xN, xT, xB, xR, xS, xE, xL, xA, xG, xC, xF, aL, aN, aS, aR, aM, aK, aT, aE⟩ := u'
    refine nm_r (nI_1 (j + 1)) (la_cz hZ (by omega) fun c2 hc2 => ⟨by decide, nm_r (e' := nI (c2 % 5)) (pk_rem (d := 5) hc2 (by decide) (by decide)) ⟨c2 % 5 + 1, ?_⟩⟩)
    exact la_111 (B := j + 2) hZ (by omega) (by omega) (fun j' xN xT xB xR xS xE xL xA xG xC xF aL aN aS aR aM aK aT aE hj' h' => ih (r + 1) j' _ _ _ _ _ _ _ _ _ _ _ _ _ _ _ _ _ _ _ (by omega) (by omega) h') (c2 % 5) 0 (j + 2) _ _ _ _ _ _ _ _ _ _ _ _ _ _ _ _ _ _ _ (by omega) (by omega) hu
end las
theorem la_ini {N T : Nat} {post : St2 → Prop} (hN1 : 1 ≤ N) (hN6 : N ≤ 6) (hT1 : 1 ≤ T) (hT4 : T ≤ 4) (H : ∀ u, jr_E N T u → post u) : wpX_init post 8 437 (0, 0, 0, 0, 0, 0, 0, 0, 0, 0, 0) (nI N) (nI T) := by
  unfold wpX_init
  refine ⟨by decide, by decide, by decide, by decide, by decide, by decide, by decide, by decide, by decide, by decide, by decide, by decide, by decide, by decide, by decide, by decide, ?_⟩
  refine br_t (nI_le (a := 1) hN1 (by omega)) (br_t (nI_le (b := 6) hN6 (by decide)) (br_t (nI_le (a := 1) hT1 (by omega)) (br_t (nI_le (b := 4) hT4 (by decide)) (H _ ?_))))
  exact ⟨(0, fun _ => 0, fun _ => 0, fun _ _ => 0), ⟨⟨hN1, hN6⟩, ⟨hT1, hT4⟩, Nat.zero_le _, Nat.zero_le _, fun r hr => absurd hr (Nat.not_lt_zero r)⟩, rfl, rfl, rfl, rfl, rfl, rfl, rfl, ⟨by decide, fun r hr => absurd hr (Nat.not_lt_zero r)⟩, fun _ _ => rfl⟩
