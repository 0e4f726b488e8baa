/-! Derivations of a grammar (n rules, left sides lh, lengths ln, symbols sy; a symbol below 12 is a nonterminal, 12 + t is terminal t) over a text, as the least closed relation -/
def dv_St (S T : Nat → Nat → Nat → Prop) (s i j : Nat) : Prop := (s < 12 ∧ S s i j) ∨ (12 ≤ s ∧ T (s - 12) i j)
def dv_P (Q : Nat → Nat → Nat → Prop) (i : Nat) : Nat → Nat → Prop
  | 0, j => i = j
  | k + 1, j => ∃ m, dv_P Q i k m ∧ Q k m j
def dv_Cl (n : Nat) (lh ln : Nat → Nat) (sy : Nat → Nat → Nat) (T S : Nat → Nat → Nat → Prop) : Prop :=
  ∀ r i j, r < n → dv_P (fun k => dv_St S T (sy r k)) i (ln r) j → S (lh r) i j
def dv_D (n : Nat) (lh ln : Nat → Nat) (sy : Nat → Nat → Nat) (T : Nat → Nat → Nat → Prop) (a i j : Nat) : Prop :=
  ∀ S : Nat → Nat → Nat → Prop, dv_Cl n lh ln sy T S → S a i j
theorem dv_P_mono {Q Q' : Nat → Nat → Nat → Prop} {i : Nat} : ∀ (K j : Nat), (∀ k m q, k < K → Q k m q → Q' k m q) → dv_P Q i K j → dv_P Q' i K j := by
  intro K
  induction K with
  | zero => intro j _ h; exact h
  | succ K ih =>
    intro j H h
    obtain ⟨m, h1, h2⟩ := h
    exact ⟨m, ih m (fun k m q hk => H k m q (by omega)) h1, H K m j (by omega) h2⟩
theorem dv_St_mono {S S' T T' : Nat → Nat → Nat → Prop} {s i j : Nat} (hS : s < 12 → S s i j → S' s i j) (hT : 12 ≤ s → T (s - 12) i j → T' (s - 12) i j) (h : dv_St S T s i j) : dv_St S' T' s i j := by
  rcases h with ⟨a, b⟩ | ⟨a, b⟩
  · exact Or.inl ⟨a, hS a b⟩
  · exact Or.inr ⟨a, hT a b⟩
/-- steps never go back: so a path never does -/
theorem dv_P_le {Q : Nat → Nat → Nat → Prop} {i : Nat} (hQ : ∀ k m q, Q k m q → m ≤ q) : ∀ (K j : Nat), dv_P Q i K j → i ≤ j := by
  intro K
  induction K with
  | zero => intro j h; exact Nat.le_of_eq h
  | succ K ih =>
    intro j h
    obtain ⟨m, h1, h2⟩ := h
    exact Nat.le_trans (ih m h1) (hQ K m j h2)
theorem dv_P_in {Q : Nat → Nat → Nat → Prop} {i e : Nat} (hQ : ∀ k m q, Q k m q → m ≤ q) : ∀ (K j : Nat), dv_P Q i K j → j ≤ e → dv_P (fun k m q => Q k m q ∧ i ≤ m ∧ m ≤ q ∧ q ≤ e) i K j := by
  intro K
  induction K with
  | zero => intro j h _; exact h
  | succ K ih =>
    intro j h hj
    obtain ⟨m, h1, h2⟩ := h
    have hm := hQ K m j h2
    exact ⟨m, ih m h1 (by omega), h2, dv_P_le hQ K m h1, hm, hj⟩
theorem dv_P_ea {Q : Nat → Nat → Nat → Prop} {i : Nat} : ∀ (K j : Nat), dv_P Q i K j → ∀ k, k < K → ∃ m q, Q k m q := by
  intro K
  induction K with
  | zero => intro j _ k hk; omega
  | succ K ih =>
    intro j h k hk
    obtain ⟨m, h1, h2⟩ := h
    rcases Nat.lt_or_ge k K with z | z
    · exact ih m h1 k z
    · have e : k = K := by omega
      subst e
      exact ⟨m, j, h2⟩
theorem dv_P_fst {Q : Nat → Nat → Nat → Prop} {i L : Nat} (hQ : ∀ k m q, Q k m q → m ≤ q) : ∀ K : Nat, dv_P Q i K L → (K = 0 ∧ i = L) ∨ ∃ k p, k < K ∧ dv_P Q i k p ∧ Q k p L ∧ (p < L ∨ k = 0) := by
  intro K
  induction K with
  | zero => intro h; exact Or.inl ⟨rfl, h⟩
  | succ K ih =>
    intro h
    obtain ⟨m, h1, h2⟩ := h
    have hm := hQ K m L h2
    rcases Nat.lt_or_ge m L with z | z
    · exact Or.inr ⟨K, m, by omega, h1, h2, Or.inl z⟩
    · have e : m = L := by omega
      subst e
      rcases ih h1 with ⟨e0, ei⟩ | ⟨k, p, hk, a, b, c⟩
      · subst e0
        exact Or.inr ⟨0, m, by omega, h1, h2, Or.inr rfl⟩
      · exact Or.inr ⟨k, p, by omega, a, b, c⟩
theorem dv_P_stay {Q : Nat → Nat → Nat → Prop} {i L k : Nat} (h : dv_P Q i k L) : ∀ K, k ≤ K → (∀ k', k ≤ k' → k' < K → Q k' L L) → dv_P Q i K L := by
  intro K
  induction K with
  | zero =>
    intro hk _
    have e : k = 0 := by omega
    subst e
    exact h
  | succ K ih =>
    intro hk H
    rcases Nat.lt_or_ge K k with z | z
    · have e : k = K + 1 := by omega
      subst e
      exact h
    · exact ⟨L, ih z (fun k' a b => H k' a (by omega)), H K z (by omega)⟩
theorem dv_P_up {Q Q' : Nat → Nat → Nat → Prop} {i L : Nat} (H : ∀ k m q, m ≤ L → Q k m q → Q' k m q ∧ q ≤ L) (hi : i ≤ L) : ∀ (K j : Nat), dv_P Q i K j → dv_P Q' i K j ∧ j ≤ L := by
  intro K
  induction K with
  | zero => intro j h; exact ⟨h, h ▸ hi⟩
  | succ K ih =>
    intro j h
    obtain ⟨m, h1, h2⟩ := h
    obtain ⟨a, b⟩ := ih m h1
    obtain ⟨c, d⟩ := H K m j b h2
    exact ⟨⟨m, a, c⟩, d⟩
section dvs
variable {n : Nat} {lh ln : Nat → Nat} {sy : Nat → Nat → Nat}
theorem dv_cl {T : Nat → Nat → Nat → Prop} : dv_Cl n lh ln sy T (dv_D n lh ln sy T) := by
  intro r i j hr h S hS
  exact hS r i j hr (dv_P_mono _ _ (fun k m q _ => dv_St_mono (fun _ d => d S hS) (fun _ t => t)) h)
theorem dv_tm {T T' : Nat → Nat → Nat → Prop} (hT : ∀ t i j, T t i j → T' t i j) {a i j : Nat} (d : dv_D n lh ln sy T a i j) : dv_D n lh ln sy T' a i j :=
  d (dv_D n lh ln sy T') (fun r i j hr h => dv_cl r i j hr (dv_P_mono _ _ (fun k m q _ => dv_St_mono (fun _ x => x) (fun _ t => hT _ _ _ t)) h))
theorem dv_St_le {S T : Nat → Nat → Nat → Prop} (hS : ∀ a i j, S a i j → i ≤ j) (hT : ∀ t i j, T t i j → i ≤ j) {s i j : Nat} (h : dv_St S T s i j) : i ≤ j := by
  rcases h with ⟨_, b⟩ | ⟨_, b⟩
  · exact hS _ _ _ b
  · exact hT _ _ _ b
theorem dv_D_le {T : Nat → Nat → Nat → Prop} (hT : ∀ t i j, T t i j → i ≤ j) {a i j : Nat} (d : dv_D n lh ln sy T a i j) : i ≤ j :=
  d (fun _ i j => i ≤ j) (fun r i j _ h => dv_P_le (fun k m q s => dv_St_le (fun _ _ _ x => x) hT s) _ _ h)
theorem dv_P_bd {Q : Nat → Nat → Nat → Prop} {i L : Nat} (hQ : ∀ k m q, Q k m q → m ≤ L → q ≤ L) (hi : i ≤ L) : ∀ (K j : Nat), dv_P Q i K j → j ≤ L := by
  intro K
  induction K with
  | zero => intro j h; exact h ▸ hi
  | succ K ih =>
    intro j h
    obtain ⟨m, h1, h2⟩ := h
    exact hQ K m j h2 (ih m h1)
theorem dv_D_bd {T : Nat → Nat → Nat → Prop} {L : Nat} (hT : ∀ t i j, T t i j → j ≤ L) {a i j : Nat} (d : dv_D n lh ln sy T a i j) : i ≤ L → j ≤ L := by
  refine d (fun _ i j => i ≤ L → j ≤ L) (fun r i j _ h hi => dv_P_bd (fun k m q s hm => ?_) hi _ _ h)
  rcases s with ⟨_, b⟩ | ⟨_, b⟩
  · exact b hm
  · exact hT _ _ _ b
/-- the steps of a terminal over the text tx of length L; o: the text's end is open -/
def tm_s (o : Bool) (tx : Nat → Nat) (L t i j : Nat) : Prop := (i < L ∧ j = i + 1 ∧ tx i = t) ∨ (o = true ∧ i = L ∧ j = L)
theorem tm_le {o : Bool} {tx : Nat → Nat} {L : Nat} : ∀ t i j, tm_s o tx L t i j → i ≤ j := by
  intro t i j h
  rcases h with ⟨a, b, _⟩ | ⟨_, a, b⟩ <;> omega
theorem tm_bd {o : Bool} {tx : Nat → Nat} {L : Nat} : ∀ t i j, tm_s o tx L t i j → j ≤ L := by
  intro t i j h
  rcases h with ⟨a, b, _⟩ | ⟨_, a, b⟩ <;> omega
theorem tm_co {tx : Nat → Nat} {L : Nat} : ∀ t i j, tm_s false tx L t i j → tm_s true tx L t i j := by
  intro t i j h
  rcases h with h | ⟨a, _⟩
  · exact Or.inl h
  · exact absurd a (by decide)
/-- nonterminals that derive some string -/
def pd_D (n : Nat) (lh ln : Nat → Nat) (sy : Nat → Nat → Nat) (a : Nat) : Prop :=
  ∀ S : Nat → Prop, (∀ r, r < n → (∀ k, k < ln r → sy r k < 12 → S (sy r k)) → S (lh r)) → S a
theorem pd_cl {r : Nat} (hr : r < n) (h : ∀ k, k < ln r → sy r k < 12 → pd_D n lh ln sy (sy r k)) : pd_D n lh ln sy (lh r) :=
  fun S hS => hS r hr (fun k hk hs => h k hk hs S hS)
theorem pd_of {T : Nat → Nat → Nat → Prop} {a i j : Nat} (d : dv_D n lh ln sy T a i j) : pd_D n lh ln sy a := by
  refine d (fun a _ _ => pd_D n lh ln sy a) (fun r i j hr h => pd_cl hr (fun k hk hs => ?_))
  obtain ⟨m, q, s⟩ := dv_P_ea _ _ h k hk
  rcases s with ⟨_, b⟩ | ⟨b, _⟩
  · exact b
  · omega
theorem pd_dv {tx : Nat → Nat} {L a : Nat} (d : pd_D n lh ln sy a) : dv_D n lh ln sy (tm_s true tx L) a L L := by
  refine d (fun a => dv_D n lh ln sy (tm_s true tx L) a L L) (fun r hr h => dv_cl r L L hr ?_)
  refine dv_P_stay (k := 0) (rfl : L = L) (ln r) (Nat.zero_le _) (fun k _ hk => ?_)
  rcases Nat.lt_or_ge (sy r k) 12 with z | z
  · exact Or.inl ⟨z, h k hk z⟩
  · exact Or.inr ⟨z, Or.inr ⟨rfl, rfl, rfl⟩⟩
/-- a symbol that may begin at p and go beyond the text's end; a rule that may -/
def pf_S (tx : Nat → Nat) (L : Nat) (P : Nat → Nat → Prop) (s p : Nat) : Prop := (12 ≤ s ∧ (p = L ∨ (p + 1 = L ∧ tx p = s - 12))) ∨ (s < 12 ∧ P s p)
def pf_R (n : Nat) (lh ln : Nat → Nat) (sy : Nat → Nat → Nat) (tx : Nat → Nat) (L : Nat) (P : Nat → Nat → Prop) (r i : Nat) : Prop :=
  dv_P (fun k => dv_St (dv_D n lh ln sy (tm_s false tx L)) (tm_s false tx L) (sy r k)) i (ln r) L ∨
  ∃ k p, k < ln r ∧ dv_P (fun k => dv_St (dv_D n lh ln sy (tm_s false tx L)) (tm_s false tx L) (sy r k)) i k p ∧ p ≤ L ∧ pf_S tx L P (sy r k) p ∧ ∀ k', k < k' → k' < ln r → sy r k' < 12 → pd_D n lh ln sy (sy r k')
theorem pf_so {tx : Nat → Nat} {L : Nat} {P : Nat → Nat → Prop} {r i : Nat} (hr : r < n) (hP : ∀ a p, a < 12 → p ≤ L → P a p → dv_D n lh ln sy (tm_s true tx L) a p L) (h : pf_R n lh ln sy tx L P r i) : dv_D n lh ln sy (tm_s true tx L) (lh r) i L := by
  have up : ∀ {K p : Nat}, dv_P (fun k => dv_St (dv_D n lh ln sy (tm_s false tx L)) (tm_s false tx L) (sy r k)) i K p → dv_P (fun k => dv_St (dv_D n lh ln sy (tm_s true tx L)) (tm_s true tx L) (sy r k)) i K p :=
    fun h => dv_P_mono _ _ (fun k m q _ => dv_St_mono (fun _ x => dv_tm tm_co x) (fun _ t => tm_co _ _ _ t)) h
  refine dv_cl r i L hr ?_
  rcases h with h | ⟨k, p, hk, h, hp, hs, ha⟩
  · exact up h
  · refine dv_P_stay (k := k + 1) ⟨p, up h, ?_⟩ (ln r) hk (fun k' h1 h2 => ?_)
    · rcases hs with ⟨z, e⟩ | ⟨z, e⟩
      · rcases e with e | ⟨e1, e2⟩
        · exact Or.inr ⟨z, Or.inr ⟨rfl, e, rfl⟩⟩
        · exact Or.inr ⟨z, Or.inl ⟨by omega, by omega, e2⟩⟩
      · exact Or.inl ⟨z, hP _ _ z hp e⟩
    · rcases Nat.lt_or_ge (sy r k') 12 with z | z
      · exact Or.inl ⟨z, pd_dv (ha k' (by omega) h2 z)⟩
      · exact Or.inr ⟨z, Or.inr ⟨rfl, rfl, rfl⟩⟩
theorem pf_co {tx : Nat → Nat} {L : Nat} {P : Nat → Nat → Prop} (hP : ∀ r i, r < n → i ≤ L → pf_R n lh ln sy tx L P r i → P (lh r) i) {a i : Nat} (d : dv_D n lh ln sy (tm_s true tx L) a i L) (hi : i ≤ L) : P a i := by
  have key : ∀ a i j, dv_D n lh ln sy (tm_s true tx L) a i j → i ≤ j ∧ pd_D n lh ln sy a ∧ (j < L → dv_D n lh ln sy (tm_s false tx L) a i j) ∧ (j = L → i ≤ L → P a i) := by
    intro a i j d
    refine d (fun a i j => i ≤ j ∧ pd_D n lh ln sy a ∧ (j < L → dv_D n lh ln sy (tm_s false tx L) a i j) ∧ (j = L → i ≤ L → P a i)) ?_
    intro r i j hr h
    have mo : ∀ k m q, dv_St (fun a i j => i ≤ j ∧ pd_D n lh ln sy a ∧ (j < L → dv_D n lh ln sy (tm_s false tx L) a i j) ∧ (j = L → i ≤ L → P a i)) (tm_s true tx L) (sy r k) m q → m ≤ q :=
      fun k m q s => dv_St_le (fun _ _ _ x => x.1) tm_le s
    have pr : ∀ k, k < ln r → sy r k < 12 → pd_D n lh ln sy (sy r k) := by
      intro k hk hs
      obtain ⟨m, q, s⟩ := dv_P_ea _ _ h k hk
      rcases s with ⟨_, b⟩ | ⟨b, _⟩
      · exact b.2.1
      · omega
    have cl : ∀ K p, p < L → dv_P (fun k => dv_St (fun a i j => i ≤ j ∧ pd_D n lh ln sy a ∧ (j < L → dv_D n lh ln sy (tm_s false tx L) a i j) ∧ (j = L → i ≤ L → P a i)) (tm_s true tx L) (sy r k)) i K p → dv_P (fun k => dv_St (dv_D n lh ln sy (tm_s false tx L)) (tm_s false tx L) (sy r k)) i K p := by
      intro K p hp h
      refine dv_P_mono _ _ (fun k m q _ s => ?_) (dv_P_in mo K p h (Nat.le_refl p))
      obtain ⟨s, _, _, hq⟩ := s
      refine dv_St_mono (fun _ x => x.2.2.1 (by omega)) (fun _ t => ?_) s
      rcases t with t | ⟨_, t, _⟩
      · exact Or.inl t
      · have := mo k m q s
        omega
    refine ⟨dv_P_le mo _ _ h, pd_cl hr pr, fun hj => dv_cl r i j hr (cl _ _ hj h), fun hj hi => hP r i hr hi ?_⟩
    rw [hj] at h
    rcases dv_P_fst mo (ln r) h with ⟨e0, ei⟩ | ⟨k, p, hk, a1, a2, a3⟩
    · refine Or.inl ?_
      rw [e0]
      exact ei
    · have hpj : p ≤ L := mo k p L a2
      refine Or.inr ⟨k, p, hk, ?_, hpj, ?_, fun k' _ h2 h3 => pr k' h2 h3⟩
      · rcases a3 with z | z
        · exact cl k p z a1
        · subst z
          exact a1
      · rcases a2 with ⟨z, b⟩ | ⟨z, b⟩
        · exact Or.inr ⟨z, b.2.2.2 rfl hpj⟩
        · refine Or.inl ⟨z, ?_⟩
          rcases b with ⟨_, b1, b2⟩ | ⟨_, b1, _⟩
          · exact Or.inr ⟨b1.symm, b2⟩
          · exact Or.inl b1
  exact (key a i L d).2.2.2 rfl hi
end dvs
