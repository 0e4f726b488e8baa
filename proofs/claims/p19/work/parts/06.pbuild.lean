/-! Closure by stages, names of sets, kinds, the rewritten grammar: pure -/
def ws_W (E : Nat → Nat → Prop) : Nat → Nat → Nat → Prop
  | 0, a, b => E a b
  | k + 1, a, b => ws_W E k a b ∨ (ws_W E k a k ∧ ws_W E k k b)
theorem ws_s {E : Nat → Nat → Prop} {k a b : Nat} : ws_W E (k + 1) a b ↔ ws_W E k a b ∨ (ws_W E k a k ∧ ws_W E k k b) := Iff.rfl
theorem ws_c {E : Nat → Nat → Prop} {k a : Nat} : ws_W E (k + 1) a k ↔ ws_W E k a k := ⟨fun h => h.elim id And.left, Or.inl⟩
theorem ws_r {E : Nat → Nat → Prop} {k b : Nat} : ws_W E (k + 1) k b ↔ ws_W E k k b := ⟨fun h => h.elim id And.right, Or.inl⟩
theorem ws_bd {E : Nat → Nat → Prop} {N : Nat} (hE : ∀ a b, E a b → a < N ∧ b < N) : ∀ k a b, ws_W E k a b → a < N ∧ b < N := by
  intro k
  induction k with
  | zero => exact hE
  | succ k ih =>
    intro a b h
    rcases h with h | ⟨h1, h2⟩
    · exact ih a b h
    · exact ⟨(ih a k h1).1, (ih k b h2).2⟩
theorem ws_top {E : Nat → Nat → Prop} {N : Nat} (hE : ∀ a b, E a b → a < N ∧ b < N) (a b : Nat) : ∀ d, ws_W E (N + d) a b ↔ ws_W E N a b := by
  intro d
  induction d with
  | zero => exact Iff.rfl
  | succ d ih =>
    refine Iff.trans ⟨fun h => ?_, Or.inl⟩ ih
    rcases h with h | ⟨h1, _⟩
    · exact h
    · have h3 : N + d < N := (ws_bd hE _ _ _ h1).2
      omega
/-- a's set's name after the numbers below b are looked at -/
noncomputable def mt_f (R : Nat → Nat → Prop) (a : Nat) : Nat → Nat
  | 0 => a
  | b + 1 => @ite Nat (mt_f R a b = a ∧ R a b ∧ R b a) (Classical.propDecidable _) b (mt_f R a b)
theorem mt_t {R : Nat → Nat → Prop} {a b : Nat} (h : mt_f R a b = a ∧ R a b ∧ R b a) : mt_f R a (b + 1) = b := by rw [mt_f, if_pos h]
theorem mt_n {R : Nat → Nat → Prop} {a b : Nat} (h : ¬ (mt_f R a b = a ∧ R a b ∧ R b a)) : mt_f R a (b + 1) = mt_f R a b := by rw [mt_f, if_neg h]
theorem mt_le {R : Nat → Nat → Prop} {a : Nat} : ∀ b, b ≤ a → mt_f R a b ≤ a := by
  intro b
  induction b with
  | zero => intro _; exact Nat.le_refl a
  | succ b ih =>
    intro hb
    rcases Classical.em (mt_f R a b = a ∧ R a b ∧ R b a) with h | h
    · rw [mt_t h]; omega
    · rw [mt_n h]; exact ih (by omega)
theorem mt_k {R : Nat → Nat → Prop} {a b c : Nat} (h : mt_f R a b = c) (hc : c ≠ a) : ∀ d, mt_f R a (b + d) = c := by
  intro d
  induction d with
  | zero => exact h
  | succ d ih =>
    have : mt_f R a (b + d + 1) = c := by rw [mt_n (fun y => hc (ih.symm.trans y.1))]; exact ih
    exact this
noncomputable def mt_N (R : Nat → Nat → Prop) (a : Nat) : Nat := mt_f R a a
theorem mt_fst {R : Nat → Nat → Prop} {a b : Nat} (hb : b < a) (h : mt_f R a b = a ∧ R a b ∧ R b a) : mt_N R a = b := by
  have := mt_k (mt_t h) (by omega) (a - (b + 1))
  rw [show b + 1 + (a - (b + 1)) = a from by omega] at this
  exact this
section kds
variable (g : gm_G) (m : Nat → Nat)
/-- which nonterminal stands in a rule of which -/
def ed_E (n : Nat) (a b : Nat) : Prop := ∃ r k, r < n ∧ k < g.2.2.1 r ∧ g.2.1 r = a ∧ g.2.2.2 r k = b ∧ b < 12
/-- place k of rule r is a member occurrence -/
def mb_P (r k : Nat) : Prop := g.2.2.2 r k < 6 ∧ m (g.2.2.2 r k) = m (g.2.1 r)
noncomputable def mb_c (r k : Nat) : Nat := cn (fun k => mb_P g m r k) k
def kn_A (s r : Nat) : Prop := ∃ q, q < r ∧ m (g.2.1 q) = s ∧ 0 < mb_c g m q (g.2.2.1 q)
def kn_R (s r : Nat) : Prop := ∀ q, q < r → m (g.2.1 q) = s → 0 < mb_c g m q (g.2.2.1 q) → mb_c g m q (g.2.2.1 q) = 1 ∧ mb_P g m q (g.2.2.1 q - 1)
def kn_L (s r : Nat) : Prop := ∀ q, q < r → m (g.2.1 q) = s → 0 < mb_c g m q (g.2.2.1 q) → mb_c g m q (g.2.2.1 q) = 1 ∧ mb_P g m q 0
noncomputable def kn_K (s : Nat) : Nat := @ite Nat (kn_A g m s g.1) (Classical.propDecidable _) (@ite Nat (kn_R g m s g.1) (Classical.propDecidable _) 1 (@ite Nat (kn_L g m s g.1) (Classical.propDecidable _) 2 3)) 0
end kds
section kdt
variable {g : gm_G} {m : Nat → Nat} {s r : Nat}
theorem mb_t {k : Nat} (h : mb_P g m r k) : mb_c g m r (k + 1) = mb_c g m r k + 1 := by unfold mb_c; rw [cn, b01_t h]
theorem mb_f {k : Nat} (h : ¬ mb_P g m r k) : mb_c g m r (k + 1) = mb_c g m r k := by unfold mb_c; rw [cn, b01_f h]; rfl
theorem mb_le {k : Nat} : mb_c g m r k ≤ k := cn_le _ k
theorem mb_p {k : Nat} (h : 0 < mb_c g m r k) : 0 < k := Nat.lt_of_lt_of_le h mb_le
theorem kn_A0 : ¬ kn_A g m s 0 := fun ⟨q, h, _⟩ => Nat.not_lt_zero q h
theorem kn_R0 : kn_R g m s 0 := fun q h => absurd h (Nat.not_lt_zero q)
theorem kn_L0 : kn_L g m s 0 := fun q h => absurd h (Nat.not_lt_zero q)
theorem kn_As : kn_A g m s (r + 1) ↔ kn_A g m s r ∨ (m (g.2.1 r) = s ∧ 0 < mb_c g m r (g.2.2.1 r)) := by
  constructor
  · rintro ⟨q, h1, h2⟩
    rcases Nat.lt_or_ge q r with z | z
    · exact Or.inl ⟨q, z, h2⟩
    · have e : q = r := by omega
      subst e
      exact Or.inr h2
  · rintro (⟨q, h1, h2⟩ | h)
    · exact ⟨q, by omega, h2⟩
    · exact ⟨r, by omega, h⟩
theorem kn_Rs : kn_R g m s (r + 1) ↔ kn_R g m s r ∧ (m (g.2.1 r) = s → 0 < mb_c g m r (g.2.2.1 r) → mb_c g m r (g.2.2.1 r) = 1 ∧ mb_P g m r (g.2.2.1 r - 1)) := by
  constructor
  · intro h
    exact ⟨fun q hq => h q (by omega), h r (by omega)⟩
  · rintro ⟨h1, h2⟩ q hq
    rcases Nat.lt_or_ge q r with z | z
    · exact h1 q z
    · have e : q = r := by omega
      subst e
      exact h2
theorem kn_Ls : kn_L g m s (r + 1) ↔ kn_L g m s r ∧ (m (g.2.1 r) = s → 0 < mb_c g m r (g.2.2.1 r) → mb_c g m r (g.2.2.1 r) = 1 ∧ mb_P g m r 0) := by
  constructor
  · intro h
    exact ⟨fun q hq => h q (by omega), h r (by omega)⟩
  · rintro ⟨h1, h2⟩ q hq
    rcases Nat.lt_or_ge q r with z | z
    · exact h1 q z
    · have e : q = r := by omega
      subst e
      exact h2
theorem kn_0 (h : ¬ kn_A g m s g.1) : kn_K g m s = 0 := by unfold kn_K; rw [if_neg h]
theorem kn_1 (h : kn_A g m s g.1) (h1 : kn_R g m s g.1) : kn_K g m s = 1 := by unfold kn_K; rw [if_pos h, if_pos h1]
theorem kn_2 (h : kn_A g m s g.1) (h1 : ¬ kn_R g m s g.1) (h2 : kn_L g m s g.1) : kn_K g m s = 2 := by unfold kn_K; rw [if_pos h, if_neg h1, if_pos h2]
theorem kn_3 (h : kn_A g m s g.1) (h1 : ¬ kn_R g m s g.1) (h2 : ¬ kn_L g m s g.1) : kn_K g m s = 3 := by unfold kn_K; rw [if_pos h, if_neg h1, if_neg h2]
theorem kn_le : kn_K g m s ≤ 3 := by
  rcases Classical.em (kn_A g m s g.1) with h | h
  · rcases Classical.em (kn_R g m s g.1) with h1 | h1
    · rw [kn_1 h h1]; decide
    · rcases Classical.em (kn_L g m s g.1) with h2 | h2
      · rw [kn_2 h h1 h2]; decide
      · rw [kn_3 h h1 h2]; decide
  · rw [kn_0 h]; decide
end kdt
section gzs
variable (g : gm_G) (m kd : Nat → Nat)
/-- rule r rewritten behind h, k places done -/
noncomputable def gz_p (r : Nat) (h : gm_G) : Nat → gm_G
  | 0 => gm_st h (g.2.1 r)
  | k + 1 => @ite gm_G (kd (g.2.1 r) = 3 ∧ mb_P g m r k) (Classical.propDecidable _) (gm_st (gm_pu (gz_p r h k) (g.2.2.2 r k)) (6 + g.2.2.2 r k)) (gm_pu (gz_p r h k) (g.2.2.2 r k))
noncomputable def gz_f (r : Nat) (h : gm_G) : gm_G := @ite gm_G (kd (g.2.1 r) = 3) (Classical.propDecidable _) (gm_pu h (6 + g.2.1 r)) h
noncomputable def gz_B : Nat → gm_G
  | 0 => (0, fun _ => 0, fun _ => 0, fun _ _ => 0)
  | r + 1 => gz_f g kd r (gz_p g m kd r (gz_B r) (g.2.2.1 r))
noncomputable def gz_C : Nat → gm_G
  | 0 => gz_B g m kd g.1
  | a + 1 => @ite gm_G (kd a = 3) (Classical.propDecidable _) (gm_st (gz_C a) (6 + a)) (gz_C a)
end gzs
section gzt
variable {g : gm_G} {m kd : Nat → Nat} {r : Nat} {h : gm_G}
theorem gz_pt {k : Nat} (z : kd (g.2.1 r) = 3 ∧ mb_P g m r k) : gz_p g m kd r h (k + 1) = gm_st (gm_pu (gz_p g m kd r h k) (g.2.2.2 r k)) (6 + g.2.2.2 r k) := by rw [gz_p, if_pos z]
theorem gz_pf {k : Nat} (z : ¬ (kd (g.2.1 r) = 3 ∧ mb_P g m r k)) : gz_p g m kd r h (k + 1) = gm_pu (gz_p g m kd r h k) (g.2.2.2 r k) := by rw [gz_p, if_neg z]
theorem gz_ft (z : kd (g.2.1 r) = 3) : gz_f g kd r h = gm_pu h (6 + g.2.1 r) := by unfold gz_f; rw [if_pos z]
theorem gz_ff (z : ¬ kd (g.2.1 r) = 3) : gz_f g kd r h = h := by unfold gz_f; rw [if_neg z]
theorem gz_Ct {a : Nat} (z : kd a = 3) : gz_C g m kd (a + 1) = gm_st (gz_C g m kd a) (6 + a) := by rw [gz_C, if_pos z]
theorem gz_Cf {a : Nat} (z : ¬ kd a = 3) : gz_C g m kd (a + 1) = gz_C g m kd a := by rw [gz_C, if_neg z]
/-- the last rule's number and length, the count, the sum -/
theorem gz_pz : ∀ k, ∃ q, (gz_p g m kd r h k).1 = q + 1 ∧ (gz_p g m kd r h k).2.2.1 q ≤ k ∧ q ≤ h.1 + k ∧ sr_S (gz_p g m kd r h k).2.2.1 (gz_p g m kd r h k).1 = sr_S h.2.2.1 h.1 + k := by
  intro k
  induction k with
  | zero => exact ⟨h.1, rfl, by show (gm_st h _).2.2.1 h.1 ≤ 0; rw [gm_sN]; exact Nat.le_refl 0, Nat.le_refl _, sr_st⟩
  | succ k ih =>
    obtain ⟨q, h1, h2, h3, h4⟩ := ih
    rcases Classical.em (kd (g.2.1 r) = 3 ∧ mb_P g m r k) with z | z
    · rw [gz_pt z]
      refine ⟨(gm_pu (gz_p g m kd r h k) (g.2.2.2 r k)).1, rfl, by rw [gm_sN]; exact Nat.zero_le _, by show (gz_p g m kd r h k).1 ≤ _; omega, ?_⟩
      refine (sr_st (g := gm_pu (gz_p g m kd r h k) (g.2.2.2 r k))).trans ((sr_pu h1).trans ?_)
      rw [h4]; omega
    · rw [gz_pf z]
      refine ⟨q, h1, by rw [gm_pN h1]; omega, by omega, ?_⟩
      refine (sr_pu h1).trans ?_
      rw [h4]; omega
theorem gz_Bz : ∀ r, (gz_B g m kd r).1 ≤ r + sr_S g.2.2.1 r ∧ sr_S (gz_B g m kd r).2.2.1 (gz_B g m kd r).1 ≤ r + sr_S g.2.2.1 r := by
  intro r
  induction r with
  | zero => exact ⟨Nat.le_refl _, Nat.le_refl _⟩
  | succ r ih =>
    obtain ⟨q, h1, h2, h3, h4⟩ := gz_pz (g := g) (m := m) (kd := kd) (r := r) (h := gz_B g m kd r) (g.2.2.1 r)
    show (gz_f g kd r (gz_p g m kd r (gz_B g m kd r) (g.2.2.1 r))).1 ≤ r + 1 + (sr_S g.2.2.1 r + g.2.2.1 r) ∧ sr_S (gz_f g kd r (gz_p g m kd r (gz_B g m kd r) (g.2.2.1 r))).2.2.1 (gz_f g kd r (gz_p g m kd r (gz_B g m kd r) (g.2.2.1 r))).1 ≤ r + 1 + (sr_S g.2.2.1 r + g.2.2.1 r)
    rcases Classical.em (kd (g.2.1 r) = 3) with z | z
    · rw [gz_ft z]
      refine ⟨by show (gz_p g m kd r (gz_B g m kd r) (g.2.2.1 r)).1 ≤ _; omega, ?_⟩
      have := sr_pu (s := 6 + g.2.1 r) h1
      exact Nat.le_trans (Nat.le_of_eq this) (by omega)
    · rw [gz_ff z]
      exact ⟨by omega, by omega⟩
theorem gz_Cz : ∀ a, (gz_C g m kd a).1 ≤ g.1 + sr_S g.2.2.1 g.1 + a ∧ sr_S (gz_C g m kd a).2.2.1 (gz_C g m kd a).1 ≤ g.1 + sr_S g.2.2.1 g.1 := by
  intro a
  induction a with
  | zero => exact gz_Bz g.1
  | succ a ih =>
    rcases Classical.em (kd a = 3) with z | z
    · rw [gz_Ct z]
      exact ⟨by show (gz_C g m kd a).1 + 1 ≤ _; omega, Nat.le_trans (Nat.le_of_eq sr_st) ih.2⟩
    · rw [gz_Cf z]
      exact ⟨by omega, ih.2⟩
end gzt
