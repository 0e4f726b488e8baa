/-! L(G) is a part of L(G2); they are the same where no set is self-embedding -/
/-- h' has h's rows below n -/
def pe_R (n : Nat) (h h' : gm_G) : Prop := n ≤ h'.1 ∧ ∀ r, r < n → h'.2.1 r = h.2.1 r ∧ h'.2.2.1 r = h.2.2.1 r ∧ ∀ k, h'.2.2.2 r k = h.2.2.2 r k
theorem pe_rf {h : gm_G} {n : Nat} (hn : n ≤ h.1) : pe_R n h h := ⟨hn, fun _ _ => ⟨rfl, rfl, fun _ => rfl⟩⟩
theorem pe_tr {n n' : Nat} {h h' h'' : gm_G} (a : pe_R n h h') (b : pe_R n' h' h'') (hn : n ≤ n') : pe_R n h h'' :=
  ⟨Nat.le_trans hn b.1, fun r hr => ⟨((b.2 r (by omega)).1).trans (a.2 r hr).1, ((b.2 r (by omega)).2.1).trans (a.2 r hr).2.1, fun k => ((b.2 r (by omega)).2.2 k).trans ((a.2 r hr).2.2 k)⟩⟩
theorem pe_st {h : gm_G} {a : Nat} : pe_R h.1 h (gm_st h a) :=
  ⟨Nat.le_succ _, fun r hr => ⟨gm_sL' (by omega), gm_sN' (by omega), fun _ => rfl⟩⟩
theorem pe_pu {h : gm_G} {s q : Nat} (hq : h.1 = q + 1) : pe_R q h (gm_pu h s) :=
  ⟨by show q ≤ h.1; omega, fun r hr => ⟨rfl, gm_pN' hq (by omega), fun k => gm_pS' hq (by omega)⟩⟩
section pes
variable {g : gm_G} {m kd : Nat → Nat}
theorem pe_p0 {r : Nat} {h : gm_G} : ∀ k, pe_R h.1 h (gz_p g m kd r h k) ∧ h.1 < (gz_p g m kd r h k).1 := by
  intro k
  induction k with
  | zero => exact ⟨pe_st, Nat.lt_succ_self _⟩
  | succ k ih =>
    obtain ⟨q, q1, _⟩ := gz_pz (g := g) (m := m) (kd := kd) (r := r) (h := h) k
    have h1 : pe_R h.1 h (gm_pu (gz_p g m kd r h k) (g.2.2.2 r k)) := pe_tr ih.1 (pe_pu q1) (by have := ih.2; omega)
    rcases Classical.em (kd (g.2.1 r) = 3 ∧ mb_P g m r k) with z | z
    · rw [gz_pt z]
      exact ⟨pe_tr h1 pe_st (by show h.1 ≤ (gz_p g m kd r h k).1; have := ih.2; omega), by show h.1 < (gz_p g m kd r h k).1 + 1; have := ih.2; omega⟩
    · rw [gz_pf z]
      exact ⟨h1, ih.2⟩
theorem pe_f {r q : Nat} {h : gm_G} (hq : h.1 = q + 1) : pe_R q h (gz_f g kd r h) := by
  rcases Classical.em (kd (g.2.1 r) = 3) with z | z
  · rw [gz_ft z]; exact pe_pu hq
  · rw [gz_ff z]; exact pe_rf (by omega)
theorem pe_p {r : Nat} {h : gm_G} {k q : Nat} (hq : (gz_p g m kd r h k).1 = q + 1) : ∀ d, pe_R q (gz_p g m kd r h k) (gz_p g m kd r h (k + d)) ∧ q < (gz_p g m kd r h (k + d)).1 := by
  intro d
  induction d with
  | zero => exact ⟨pe_rf (by show q ≤ (gz_p g m kd r h k).1; omega), by show q < (gz_p g m kd r h k).1; omega⟩
  | succ d ih =>
    obtain ⟨q', q1, _⟩ := gz_pz (g := g) (m := m) (kd := kd) (r := r) (h := h) (k + d)
    have h1 : pe_R q (gz_p g m kd r h k) (gm_pu (gz_p g m kd r h (k + d)) (g.2.2.2 r (k + d))) := pe_tr ih.1 (pe_pu q1) (by have := ih.2; omega)
    show pe_R q (gz_p g m kd r h k) (gz_p g m kd r h (k + d + 1)) ∧ q < (gz_p g m kd r h (k + d + 1)).1
    rcases Classical.em (kd (g.2.1 r) = 3 ∧ mb_P g m r (k + d)) with z | z
    · rw [gz_pt z]
      exact ⟨pe_tr h1 pe_st (by show q ≤ (gz_p g m kd r h (k + d)).1; have := ih.2; omega), by show q < (gz_p g m kd r h (k + d)).1 + 1; have := ih.2; omega⟩
    · rw [gz_pf z]
      exact ⟨h1, ih.2⟩
theorem pe_B1 (r : Nat) : pe_R (gz_B g m kd r).1 (gz_B g m kd r) (gz_B g m kd (r + 1)) := by
  obtain ⟨q, q1, _⟩ := gz_pz (g := g) (m := m) (kd := kd) (r := r) (h := gz_B g m kd r) (g.2.2.1 r)
  have := pe_p0 (g := g) (m := m) (kd := kd) (r := r) (h := gz_B g m kd r) (g.2.2.1 r)
  exact pe_tr this.1 (pe_f q1) (by have := this.2; omega)
theorem pe_B (r : Nat) : ∀ d, pe_R (gz_B g m kd r).1 (gz_B g m kd r) (gz_B g m kd (r + d)) := by
  intro d
  induction d with
  | zero => exact pe_rf (Nat.le_refl _)
  | succ d ih => exact pe_tr ih (pe_B1 (r + d)) ih.1
theorem pe_C1 (a : Nat) : pe_R (gz_C g m kd a).1 (gz_C g m kd a) (gz_C g m kd (a + 1)) := by
  rcases Classical.em (kd a = 3) with z | z
  · rw [gz_Ct z]; exact pe_st
  · rw [gz_Cf z]; exact pe_rf (Nat.le_refl _)
theorem pe_C (a : Nat) : ∀ d, pe_R (gz_C g m kd a).1 (gz_C g m kd a) (gz_C g m kd (a + d)) := by
  intro d
  induction d with
  | zero => exact pe_rf (Nat.le_refl _)
  | succ d ih => exact pe_tr ih (pe_C1 (a + d)) ih.1
/-- what stands after rule r stands in the end -/
theorem pe_E {r N : Nat} (hr : r < g.1) : pe_R (gz_B g m kd (r + 1)).1 (gz_B g m kd (r + 1)) (gz_C g m kd N) := by
  have a := pe_B (g := g) (m := m) (kd := kd) (r + 1) (g.1 - (r + 1))
  rw [show r + 1 + (g.1 - (r + 1)) = g.1 from by omega] at a
  have b := pe_C (g := g) (m := m) (kd := kd) 0 N
  rw [Nat.zero_add] at b
  exact pe_tr a b a.1
end pes
section sbs
variable {g : gm_G} {m kd : Nat → Nat} {N : Nat} {T : Nat → Nat → Nat → Prop}
/-- a row that stands in G2 gives derivations -/
theorem sb_row {h : gm_G} {q i j : Nat} (hp : pe_R (q + 1) h (gz_C g m kd N)) (h1 : dv_P (fun x => dv_St (dv_D (gz_C g m kd N).1 (gz_C g m kd N).2.1 (gz_C g m kd N).2.2.1 (gz_C g m kd N).2.2.2 T) T (h.2.2.2 q x)) i (h.2.2.1 q) j) : dv_D (gz_C g m kd N).1 (gz_C g m kd N).2.1 (gz_C g m kd N).2.2.1 (gz_C g m kd N).2.2.2 T (h.2.1 q) i j := by
  obtain ⟨e1, e2, e3⟩ := hp.2 q (Nat.lt_succ_self q)
  rw [← e1]
  refine dv_cl q i j (by have := hp.1; omega) ?_
  rw [e2]
  refine dv_P_mono _ _ (fun x a b _ s => ?_) h1
  rw [e3 x]
  exact s
theorem sb_eps {a : Nat} (ha : a < N) (h3 : kd a = 3) (j : Nat) : dv_D (gz_C g m kd N).1 (gz_C g m kd N).2.1 (gz_C g m kd N).2.2.1 (gz_C g m kd N).2.2.2 T (6 + a) j j := by
  have b := pe_C (g := g) (m := m) (kd := kd) (a + 1) (N - (a + 1))
  rw [show a + 1 + (N - (a + 1)) = N from by omega, gz_Ct h3] at b
  have := sb_row (g := g) (m := m) (kd := kd) (N := N) (T := T) (h := gm_st (gz_C g m kd a) (6 + a)) (q := (gz_C g m kd a).1) (i := j) (j := j) b (by rw [gm_sN]; exact rfl)
  rw [gm_sL] at this
  exact this
/-- the relation that the entered rules keep -/
def sb_S (g : gm_G) (m kd : Nat → Nat) (N : Nat) (T : Nat → Nat → Nat → Prop) (a i j : Nat) : Prop :=
  dv_D (gz_C g m kd N).1 (gz_C g m kd N).2.1 (gz_C g m kd N).2.2.1 (gz_C g m kd N).2.2.2 T a i j ∧ (kd a = 3 → ∀ z, dv_D (gz_C g m kd N).1 (gz_C g m kd N).2.1 (gz_C g m kd N).2.2.1 (gz_C g m kd N).2.2.2 T (6 + a) j z → dv_D (gz_C g m kd N).1 (gz_C g m kd N).2.1 (gz_C g m kd N).2.2.1 (gz_C g m kd N).2.2.2 T a i z)
theorem sb_k {r i : Nat} (hr : r < g.1) (hkd : ∀ a b, m a = m b → kd a = kd b) :
    ∀ k p, k ≤ g.2.2.1 r → dv_P (fun k => dv_St (sb_S g m kd N T) T (g.2.2.2 r k)) i k p → ∃ q y, (gz_p g m kd r (gz_B g m kd r) k).1 = q + 1 ∧ dv_P (fun x => dv_St (dv_D (gz_C g m kd N).1 (gz_C g m kd N).2.1 (gz_C g m kd N).2.2.1 (gz_C g m kd N).2.2.2 T) T ((gz_p g m kd r (gz_B g m kd r) k).2.2.2 q x)) y ((gz_p g m kd r (gz_B g m kd r) k).2.2.1 q) p ∧ (∀ z, dv_D (gz_C g m kd N).1 (gz_C g m kd N).2.1 (gz_C g m kd N).2.2.1 (gz_C g m kd N).2.2.2 T ((gz_p g m kd r (gz_B g m kd r) k).2.1 q) y z → dv_D (gz_C g m kd N).1 (gz_C g m kd N).2.1 (gz_C g m kd N).2.2.1 (gz_C g m kd N).2.2.2 T (g.2.1 r) i z) := by
  intro k
  induction k with
  | zero =>
    intro p _ hp
    refine ⟨(gz_B g m kd r).1, i, rfl, ?_, fun z hz => ?_⟩
    · show dv_P _ i ((gm_st (gz_B g m kd r) (g.2.1 r)).2.2.1 (gz_B g m kd r).1) p
      rw [gm_sN]; exact hp
    · have : (gz_p g m kd r (gz_B g m kd r) 0).2.1 (gz_B g m kd r).1 = g.2.1 r := gm_sL
      rw [this] at hz
      exact hz
  | succ k ih =>
    intro p hk hp
    obtain ⟨p', hp1, hp2⟩ := hp
    obtain ⟨q, y, q1, hy, hz⟩ := ih p' (by omega) hp1
    have hup : ∀ w, dv_St (dv_D (gz_C g m kd N).1 (gz_C g m kd N).2.1 (gz_C g m kd N).2.2.1 (gz_C g m kd N).2.2.2 T) T (g.2.2.2 r k) p' w → dv_P (fun x => dv_St (dv_D (gz_C g m kd N).1 (gz_C g m kd N).2.1 (gz_C g m kd N).2.2.1 (gz_C g m kd N).2.2.2 T) T ((gm_pu (gz_p g m kd r (gz_B g m kd r) k) (g.2.2.2 r k)).2.2.2 q x)) y ((gm_pu (gz_p g m kd r (gz_B g m kd r) k) (g.2.2.2 r k)).2.2.1 q) w := by
      intro w hw
      rw [gm_pN q1]
      refine ⟨p', dv_P_mono _ _ (fun x a b hx s => ?_) hy, ?_⟩
      · rw [gm_pS' q1 (by omega)]; exact s
      · dsimp only
        rw [gm_pS q1]; exact hw
    rcases Classical.em (kd (g.2.1 r) = 3 ∧ mb_P g m r k) with z | z
    · rw [gz_pt z]
      refine ⟨(gz_p g m kd r (gz_B g m kd r) k).1, p, rfl, by rw [show (gm_st (gm_pu (gz_p g m kd r (gz_B g m kd r) k) (g.2.2.2 r k)) (6 + g.2.2.2 r k)).2.2.1 (gz_p g m kd r (gz_B g m kd r) k).1 = 0 from gm_sN (g := gm_pu (gz_p g m kd r (gz_B g m kd r) k) (g.2.2.2 r k))]; exact rfl, fun w hw => ?_⟩
      rw [show (gm_st (gm_pu (gz_p g m kd r (gz_B g m kd r) k) (g.2.2.2 r k)) (6 + g.2.2.2 r k)).2.1 (gz_p g m kd r (gz_B g m kd r) k).1 = 6 + g.2.2.2 r k from gm_sL (g := gm_pu (gz_p g m kd r (gz_B g m kd r) k) (g.2.2.2 r k))] at hw
      have hb := z.2.1
      have hS : sb_S g m kd N T (g.2.2.2 r k) p' p := by
        rcases hp2 with ⟨_, x⟩ | ⟨x, _⟩
        · exact x
        · omega
      have hd := hS.2 ((hkd _ _ z.2.2).trans z.1) w hw
      refine hz w ?_
      have hpe : pe_R (q + 1) (gm_pu (gz_p g m kd r (gz_B g m kd r) k) (g.2.2.2 r k)) (gz_C g m kd N) := by
        have a1 : pe_R (q + 1) (gm_pu (gz_p g m kd r (gz_B g m kd r) k) (g.2.2.2 r k)) (gz_p g m kd r (gz_B g m kd r) (k + 1)) := by
          rw [gz_pt z]
          have := pe_st (h := gm_pu (gz_p g m kd r (gz_B g m kd r) k) (g.2.2.2 r k)) (a := 6 + g.2.2.2 r k)
          rw [show (gm_pu (gz_p g m kd r (gz_B g m kd r) k) (g.2.2.2 r k)).1 = q + 1 from q1] at this
          exact this
        have a2 := (pe_p (g := g) (m := m) (kd := kd) (r := r) (h := gz_B g m kd r) (k := k + 1) (q := q + 1) (by rw [gz_pt z]; show (gz_p g m kd r (gz_B g m kd r) k).1 + 1 = _; omega) (g.2.2.1 r - (k + 1)))
        rw [show k + 1 + (g.2.2.1 r - (k + 1)) = g.2.2.1 r from by omega] at a2
        obtain ⟨q', q1', _⟩ := gz_pz (g := g) (m := m) (kd := kd) (r := r) (h := gz_B g m kd r) (g.2.2.1 r)
        have a3 := pe_tr (pe_tr a1 a2.1 (Nat.le_refl _)) (pe_f (g := g) (kd := kd) (r := r) q1') (by have := a2.2; omega)
        have a4 := pe_E (g := g) (m := m) (kd := kd) (N := N) hr
        exact pe_tr a3 a4 (by have := a3.1; exact this)
      exact sb_row (h := gm_pu (gz_p g m kd r (gz_B g m kd r) k) (g.2.2.2 r k)) hpe (hup w (Or.inl ⟨by omega, hd⟩))
    · rw [gz_pf z]
      refine ⟨q, y, q1, hup p (dv_St_mono (fun _ x => x.1) (fun _ t => t) hp2), fun w hw => hz w hw⟩
theorem sb_cl (hkd : ∀ a b, m a = m b → kd a = kd b) (hN : ∀ r, r < g.1 → g.2.1 r < N) (hN6 : ∀ r, r < g.1 → g.2.1 r < 6) : dv_Cl g.1 g.2.1 g.2.2.1 g.2.2.2 T (sb_S g m kd N T) := by
  intro r i j hr hp
  obtain ⟨q, y, q1, hy, hz⟩ := sb_k (N := N) (T := T) hr hkd (g.2.2.1 r) j (Nat.le_refl _) hp
  have a4 := pe_E (g := g) (m := m) (kd := kd) (N := N) hr
  have e0 : gz_B g m kd (r + 1) = gz_f g kd r (gz_p g m kd r (gz_B g m kd r) (g.2.2.1 r)) := rfl
  rcases Classical.em (kd (g.2.1 r) = 3) with z | z
  · rw [e0, gz_ft z, show (gm_pu (gz_p g m kd r (gz_B g m kd r) (g.2.2.1 r)) (6 + g.2.1 r)).1 = q + 1 from q1] at a4
    have key : ∀ w, dv_D (gz_C g m kd N).1 (gz_C g m kd N).2.1 (gz_C g m kd N).2.2.1 (gz_C g m kd N).2.2.2 T (6 + g.2.1 r) j w → dv_D (gz_C g m kd N).1 (gz_C g m kd N).2.1 (gz_C g m kd N).2.2.1 (gz_C g m kd N).2.2.2 T (g.2.1 r) i w := by
      intro w hw
      refine hz w (sb_row (h := gm_pu (gz_p g m kd r (gz_B g m kd r) (g.2.2.1 r)) (6 + g.2.1 r)) a4 ?_)
      rw [gm_pN q1]
      refine ⟨j, dv_P_mono _ _ (fun x a b hx s => ?_) hy, ?_⟩
      · rw [gm_pS' q1 (by omega)]; exact s
      · dsimp only
        rw [gm_pS q1]
        exact Or.inl ⟨by have := hN6 r hr; omega, hw⟩
    exact ⟨key j (sb_eps (hN r hr) z j), fun _ => key⟩
  · rw [e0, gz_ff z, q1] at a4
    exact ⟨hz j (sb_row a4 hy), fun w => absurd w z⟩
end sbs
theorem sb_sub {g : gm_G} {m kd : Nat → Nat} {N : Nat} {T : Nat → Nat → Nat → Prop} (hkd : ∀ a b, m a = m b → kd a = kd b) (hN : ∀ r, r < g.1 → g.2.1 r < N) (hN6 : ∀ r, r < g.1 → g.2.1 r < 6) {a i j : Nat} (d : dv_D g.1 g.2.1 g.2.2.1 g.2.2.2 T a i j) : dv_D (gz_C g m kd N).1 (gz_C g m kd N).2.1 (gz_C g m kd N).2.2.1 (gz_C g m kd N).2.2.2 T a i j :=
  (d (sb_S g m kd N T) (sb_cl hkd hN hN6)).1
section nbs
variable {g : gm_G} {m kd : Nat → Nat} {N : Nat}
theorem nb_p {r : Nat} {h : gm_G} (z : ¬ kd (g.2.1 r) = 3) : ∀ k, (gz_p g m kd r h k).1 = h.1 + 1 ∧ (gz_p g m kd r h k).2.1 h.1 = g.2.1 r ∧ (gz_p g m kd r h k).2.2.1 h.1 = k ∧ ∀ x, x < k → (gz_p g m kd r h k).2.2.2 h.1 x = g.2.2.2 r x := by
  intro k
  induction k with
  | zero => exact ⟨rfl, gm_sL, gm_sN, fun x hx => absurd hx (Nat.not_lt_zero x)⟩
  | succ k ih =>
    obtain ⟨h1, h2, h3, h4⟩ := ih
    rw [gz_pf (fun y => z y.1)]
    refine ⟨h1, h2, by rw [gm_pN h1, h3], fun x hx => ?_⟩
    by_cases y : x = k
    · subst y
      have := gm_pS (s := g.2.2.2 r x) h1
      rw [h3] at this
      exact this
    · rw [gm_pS' h1 (by rw [h3]; exact fun w => y w.2)]
      exact h4 x (by omega)
theorem nb_B (z : ∀ r, r < g.1 → ¬ kd (g.2.1 r) = 3) : ∀ r, r ≤ g.1 → (gz_B g m kd r).1 = r ∧ ∀ r', r' < r → (gz_B g m kd r).2.1 r' = g.2.1 r' ∧ (gz_B g m kd r).2.2.1 r' = g.2.2.1 r' ∧ ∀ x, x < g.2.2.1 r' → (gz_B g m kd r).2.2.2 r' x = g.2.2.2 r' x := by
  intro r
  induction r with
  | zero => intro _; exact ⟨rfl, fun r' h => absurd h (Nat.not_lt_zero r')⟩
  | succ r ih =>
    intro hr
    obtain ⟨i1, i2⟩ := ih (by omega)
    have zr := z r (by omega)
    have e0 : gz_B g m kd (r + 1) = gz_p g m kd r (gz_B g m kd r) (g.2.2.1 r) := gz_ff zr
    obtain ⟨n1, n2, n3, n4⟩ := nb_p (m := m) (h := gz_B g m kd r) zr (g.2.2.1 r)
    have hp := (pe_p0 (g := g) (m := m) (kd := kd) (r := r) (h := gz_B g m kd r) (g.2.2.1 r)).1
    rw [i1] at n1 n2 n3 n4 hp
    rw [e0]
    refine ⟨n1, fun r' hr' => ?_⟩
    by_cases y : r' = r
    · subst y
      exact ⟨n2, n3, n4⟩
    · obtain ⟨p1, p2, p3⟩ := hp.2 r' (by omega)
      obtain ⟨j1, j2, j3⟩ := i2 r' (by omega)
      exact ⟨p1.trans j1, p2.trans j2, fun x hx => (p3 x).trans (j3 x hx)⟩
theorem nb_C (z : ∀ a, a < N → ¬ kd a = 3) : ∀ a, a ≤ N → gz_C g m kd a = gz_B g m kd g.1 := by
  intro a
  induction a with
  | zero => intro _; rfl
  | succ a ih => intro h; rw [gz_Cf (z a (by omega))]; exact ih (by omega)
theorem nb_D {T : Nat → Nat → Nat → Prop} (z : ∀ a, a < N → ¬ kd a = 3) (hN : ∀ r, r < g.1 → g.2.1 r < N) {a i j : Nat} (d : dv_D (gz_C g m kd N).1 (gz_C g m kd N).2.1 (gz_C g m kd N).2.2.1 (gz_C g m kd N).2.2.2 T a i j) : dv_D g.1 g.2.1 g.2.2.1 g.2.2.2 T a i j := by
  rw [nb_C z N (Nat.le_refl N)] at d
  obtain ⟨b1, b2⟩ := nb_B (m := m) (kd := kd) (fun r hr => z _ (hN r hr)) g.1 (Nat.le_refl _)
  refine d _ fun r i j hr h => ?_
  rw [b1] at hr
  obtain ⟨e1, e2, e3⟩ := b2 r hr
  rw [e1]
  refine dv_cl r i j hr ?_
  rw [e2] at h
  refine dv_P_mono _ _ (fun x p q hx s => ?_) h
  rw [e3 x hx] at s
  exact s
end nbs
