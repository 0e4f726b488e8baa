section
/-! Derivations of a grammar (n rules, left sides lh, lengths ln, symbols sy; a symbol below 12 is a nonterminal, 12 + t is terminal t) over a text, as the least closed relation -/
def dv_St (S T : Nat → Nat → Nat → Prop) (s i j : Nat) : Prop := (s < 12 ∧ S s i j) ∨ (12 ≤ s ∧ T (s - 12) i j)
def dv_P (Q : Nat → Nat → Nat → Prop) (i : Nat) : Nat → Nat → Prop
  | 0, j => i = j
  | k + 1, j => ∃ m, dv_P Q i k m ∧ Q k m j
def dv_Cl (n : Nat) (lh ln : Nat → Nat) (sy : Nat → Nat → Nat) (T S : Nat → Nat → Nat → Prop) : Prop :=
  ∀ r i j, r < n → dv_P (fun k => dv_St S T (sy r k)) i (ln r) j → S (lh r) i j
def dv_D (n : Nat) (lh ln : Nat → Nat) (sy : Nat → Nat → Nat) (T : Nat → Nat → Nat → Prop) (a i j : Nat) : Prop :=
  ∀ S : Nat → Nat → Nat → Prop, dv_Cl n lh ln sy T S → S a i j
theorem dv_P_mono {Q Q' : Nat → Nat → Nat → Prop} {i : Nat} : ∀ (K j : Nat), (∀ k m q, k < K → Q k m q → Q' k m q) → dv_P Q i K j → dv_P Q' i K j := by
  intro K
  induction K with
  | zero => intro j _ h; exact h
  | succ K ih =>
    intro j H h
    obtain ⟨m, h1, h2⟩ := h
    exact ⟨m, ih m (fun k m q hk => H k m q (by omega)) h1, H K m j (by omega) h2⟩
theorem dv_St_mono {S S' T T' : Nat → Nat → Nat → Prop} {s i j : Nat} (hS : s < 12 → S s i j → S' s i j) (hT : 12 ≤ s → T (s - 12) i j → T' (s - 12) i j) (h : dv_St S T s i j) : dv_St S' T' s i j := by
  rcases h with ⟨a, b⟩ | ⟨a, b⟩
  · exact Or.inl ⟨a, hS a b⟩
  · exact Or.inr ⟨a, hT a b⟩
/-- steps never go back: so a path never does -/
theorem dv_P_le {Q : Nat → Nat → Nat → Prop} {i : Nat} (hQ : ∀ k m q, Q k m q → m ≤ q) : ∀ (K j : Nat), dv_P Q i K j → i ≤ j := by
  intro K
  induction K with
  | zero => intro j h; exact Nat.le_of_eq h
  | succ K ih =>
    intro j h
    obtain ⟨m, h1, h2⟩ := h
    exact Nat.le_trans (ih m h1) (hQ K m j h2)
theorem dv_P_in {Q : Nat → Nat → Nat → Prop} {i e : Nat} (hQ : ∀ k m q, Q k m q → m ≤ q) : ∀ (K j : Nat), dv_P Q i K j → j ≤ e → dv_P (fun k m q => Q k m q ∧ i ≤ m ∧ m ≤ q ∧ q ≤ e) i K j := by
  intro K
  induction K with
  | zero => intro j h _; exact h
  | succ K ih =>
    intro j h hj
    obtain ⟨m, h1, h2⟩ := h
    have hm := hQ K m j h2
    exact ⟨m, ih m h1 (by omega), h2, dv_P_le hQ K m h1, hm, hj⟩
theorem dv_P_ea {Q : Nat → Nat → Nat → Prop} {i : Nat} : ∀ (K j : Nat), dv_P Q i K j → ∀ k, k < K → ∃ m q, Q k m q := by
  intro K
  induction K with
  | zero => intro j _ k hk; omega
  | succ K ih =>
    intro j h k hk
    obtain ⟨m, h1, h2⟩ := h
    rcases Nat.lt_or_ge k K with z | z
    · exact ih m h1 k z
    · have e : k = K := by omega
      subst e
      exact ⟨m, j, h2⟩
theorem dv_P_fst {Q : Nat → Nat → Nat → Prop} {i L : Nat} (hQ : ∀ k m q, Q k m q → m ≤ q) : ∀ K : Nat, dv_P Q i K L → (K = 0 ∧ i = L) ∨ ∃ k p, k < K ∧ dv_P Q i k p ∧ Q k p L ∧ (p < L ∨ k = 0) := by
  intro K
  induction K with
  | zero => intro h; exact Or.inl ⟨rfl, h⟩
  | succ K ih =>
    intro h
    obtain ⟨m, h1, h2⟩ := h
    have hm := hQ K m L h2
    rcases Nat.lt_or_ge m L with z | z
    · exact Or.inr ⟨K, m, by omega, h1, h2, Or.inl z⟩
    · have e : m = L := by omega
      subst e
      rcases ih h1 with ⟨e0, ei⟩ | ⟨k, p, hk, a, b, c⟩
      · subst e0
        exact Or.inr ⟨0, m, by omega, h1, h2, Or.inr rfl⟩
      · exact Or.inr ⟨k, p, by omega, a, b, c⟩
theorem dv_P_stay {Q : Nat → Nat → Nat → Prop} {i L k : Nat} (h : dv_P Q i k L) : ∀ K, k ≤ K → (∀ k', k ≤ k' → k' < K → Q k' L L) → dv_P Q i K L := by
  intro K
  induction K with
  | zero =>
    intro hk _
    have e : k = 0 := by omega
    subst e
    exact h
  | succ K ih =>
    intro hk H
    rcases Nat.lt_or_ge K k with z | z
    · have e : k = K + 1 := by omega
      subst e
      exact h
    · exact ⟨L, ih z (fun k' a b => H k' a (by omega)), H K z (by omega)⟩
theorem dv_P_up {Q Q' : Nat → Nat → Nat → Prop} {i L : Nat} (H : ∀ k m q, m ≤ L → Q k m q → Q' k m q ∧ q ≤ L) (hi : i ≤ L) : ∀ (K j : Nat), dv_P Q i K j → dv_P Q' i K j ∧ j ≤ L := by
  intro K
  induction K with
  | zero => intro j h; exact ⟨h, h ▸ hi⟩
  | succ K ih =>
    intro j h
    obtain ⟨m, h1, h2⟩ := h
    obtain ⟨a, b⟩ := ih m h1
    obtain ⟨c, d⟩ := H K m j b h2
    exact ⟨⟨m, a, c⟩, d⟩
section dvs
variable {n : Nat} {lh ln : Nat → Nat} {sy : Nat → Nat → Nat}
theorem dv_cl {T : Nat → Nat → Nat → Prop} : dv_Cl n lh ln sy T (dv_D n lh ln sy T) := by
  intro r i j hr h S hS
  exact hS r i j hr (dv_P_mono _ _ (fun k m q _ => dv_St_mono (fun _ d => d S hS) (fun _ t => t)) h)
theorem dv_tm {T T' : Nat → Nat → Nat → Prop} (hT : ∀ t i j, T t i j → T' t i j) {a i j : Nat} (d : dv_D n lh ln sy T a i j) : dv_D n lh ln sy T' a i j :=
  d (dv_D n lh ln sy T') (fun r i j hr h => dv_cl r i j hr (dv_P_mono _ _ (fun k m q _ => dv_St_mono (fun _ x => x) (fun _ t => hT _ _ _ t)) h))
theorem dv_St_le {S T : Nat → Nat → Nat → Prop} (hS : ∀ a i j, S a i j → i ≤ j) (hT : ∀ t i j, T t i j → i ≤ j) {s i j : Nat} (h : dv_St S T s i j) : i ≤ j := by
  rcases h with ⟨_, b⟩ | ⟨_, b⟩
  · exact hS _ _ _ b
  · exact hT _ _ _ b
theorem dv_D_le {T : Nat → Nat → Nat → Prop} (hT : ∀ t i j, T t i j → i ≤ j) {a i j : Nat} (d : dv_D n lh ln sy T a i j) : i ≤ j :=
  d (fun _ i j => i ≤ j) (fun r i j _ h => dv_P_le (fun k m q s => dv_St_le (fun _ _ _ x => x) hT s) _ _ h)
theorem dv_P_bd {Q : Nat → Nat → Nat → Prop} {i L : Nat} (hQ : ∀ k m q, Q k m q → m ≤ L → q ≤ L) (hi : i ≤ L) : ∀ (K j : Nat), dv_P Q i K j → j ≤ L := by
  intro K
  induction K with
  | zero => intro j h; exact h ▸ hi
  | succ K ih =>
    intro j h
    obtain ⟨m, h1, h2⟩ := h
    exact hQ K m j h2 (ih m h1)
theorem dv_D_bd {T : Nat → Nat → Nat → Prop} {L : Nat} (hT : ∀ t i j, T t i j → j ≤ L) {a i j : Nat} (d : dv_D n lh ln sy T a i j) : i ≤ L → j ≤ L := by
  refine d (fun _ i j => i ≤ L → j ≤ L) (fun r i j _ h hi => dv_P_bd (fun k m q s hm => ?_) hi _ _ h)
  rcases s with ⟨_, b⟩ | ⟨_, b⟩
  · exact b hm
  · exact hT _ _ _ b
/-- the steps of a terminal over the text tx of length L; o: the text's end is open -/
def tm_s (o : Bool) (tx : Nat → Nat) (L t i j : Nat) : Prop := (i < L ∧ j = i + 1 ∧ tx i = t) ∨ (o = true ∧ i = L ∧ j = L)
theorem tm_le {o : Bool} {tx : Nat → Nat} {L : Nat} : ∀ t i j, tm_s o tx L t i j → i ≤ j := by
  intro t i j h
  rcases h with ⟨a, b, _⟩ | ⟨_, a, b⟩ <;> omega
theorem tm_bd {o : Bool} {tx : Nat → Nat} {L : Nat} : ∀ t i j, tm_s o tx L t i j → j ≤ L := by
  intro t i j h
  rcases h with ⟨a, b, _⟩ | ⟨_, a, b⟩ <;> omega
theorem tm_co {tx : Nat → Nat} {L : Nat} : ∀ t i j, tm_s false tx L t i j → tm_s true tx L t i j := by
  intro t i j h
  rcases h with h | ⟨a, _⟩
  · exact Or.inl h
  · exact absurd a (by decide)
/-- nonterminals that derive some string -/
def pd_D (n : Nat) (lh ln : Nat → Nat) (sy : Nat → Nat → Nat) (a : Nat) : Prop :=
  ∀ S : Nat → Prop, (∀ r, r < n → (∀ k, k < ln r → sy r k < 12 → S (sy r k)) → S (lh r)) → S a
theorem pd_cl {r : Nat} (hr : r < n) (h : ∀ k, k < ln r → sy r k < 12 → pd_D n lh ln sy (sy r k)) : pd_D n lh ln sy (lh r) :=
  fun S hS => hS r hr (fun k hk hs => h k hk hs S hS)
theorem pd_of {T : Nat → Nat → Nat → Prop} {a i j : Nat} (d : dv_D n lh ln sy T a i j) : pd_D n lh ln sy a := by
  refine d (fun a _ _ => pd_D n lh ln sy a) (fun r i j hr h => pd_cl hr (fun k hk hs => ?_))
  obtain ⟨m, q, s⟩ := dv_P_ea _ _ h k hk
  rcases s with ⟨_, b⟩ | ⟨b, _⟩
  · exact b
  · omega
theorem pd_dv {tx : Nat → Nat} {L a : Nat} (d : pd_D n lh ln sy a) : dv_D n lh ln sy (tm_s true tx L) a L L := by
  refine d (fun a => dv_D n lh ln sy (tm_s true tx L) a L L) (fun r hr h => dv_cl r L L hr ?_)
  refine dv_P_stay (k := 0) (rfl : L = L) (ln r) (Nat.zero_le _) (fun k _ hk => ?_)
  rcases Nat.lt_or_ge (sy r k) 12 with z | z
  · exact Or.inl ⟨z, h k hk z⟩
  · exact Or.inr ⟨z, Or.inr ⟨rfl, rfl, rfl⟩⟩
/-- a symbol that may begin at p and go beyond the text's end; a rule that may -/
def pf_S (tx : Nat → Nat) (L : Nat) (P : Nat → Nat → Prop) (s p : Nat) : Prop := (12 ≤ s ∧ (p = L ∨ (p + 1 = L ∧ tx p = s - 12))) ∨ (s < 12 ∧ P s p)
def pf_R (n : Nat) (lh ln : Nat → Nat) (sy : Nat → Nat → Nat) (tx : Nat → Nat) (L : Nat) (P : Nat → Nat → Prop) (r i : Nat) : Prop :=
  dv_P (fun k => dv_St (dv_D n lh ln sy (tm_s false tx L)) (tm_s false tx L) (sy r k)) i (ln r) L ∨
  ∃ k p, k < ln r ∧ dv_P (fun k => dv_St (dv_D n lh ln sy (tm_s false tx L)) (tm_s false tx L) (sy r k)) i k p ∧ p ≤ L ∧ pf_S tx L P (sy r k) p ∧ ∀ k', k < k' → k' < ln r → sy r k' < 12 → pd_D n lh ln sy (sy r k')
theorem pf_so {tx : Nat → Nat} {L : Nat} {P : Nat → Nat → Prop} {r i : Nat} (hr : r < n) (hP : ∀ a p, a < 12 → p ≤ L → P a p → dv_D n lh ln sy (tm_s true tx L) a p L) (h : pf_R n lh ln sy tx L P r i) : dv_D n lh ln sy (tm_s true tx L) (lh r) i L := by
  have up : ∀ {K p : Nat}, dv_P (fun k => dv_St (dv_D n lh ln sy (tm_s false tx L)) (tm_s false tx L) (sy r k)) i K p → dv_P (fun k => dv_St (dv_D n lh ln sy (tm_s true tx L)) (tm_s true tx L) (sy r k)) i K p :=
    fun h => dv_P_mono _ _ (fun k m q _ => dv_St_mono (fun _ x => dv_tm tm_co x) (fun _ t => tm_co _ _ _ t)) h
  refine dv_cl r i L hr ?_
  rcases h with h | ⟨k, p, hk, h, hp, hs, ha⟩
  · exact up h
  · refine dv_P_stay (k := k + 1) ⟨p, up h, ?_⟩ (ln r) hk (fun k' h1 h2 => ?_)
    · rcases hs with ⟨z, e⟩ | ⟨z, e⟩
      · rcases e with e | ⟨e1, e2⟩
        · exact Or.inr ⟨z, Or.inr ⟨rfl, e, rfl⟩⟩
        · exact Or.inr ⟨z, Or.inl ⟨by omega, by omega, e2⟩⟩
      · exact Or.inl ⟨z, hP _ _ z hp e⟩
    · rcases Nat.lt_or_ge (sy r k') 12 with z | z
      · exact Or.inl ⟨z, pd_dv (ha k' (by omega) h2 z)⟩
      · exact Or.inr ⟨z, Or.inr ⟨rfl, rfl, rfl⟩⟩
theorem pf_co {tx : Nat → Nat} {L : Nat} {P : Nat → Nat → Prop} (hP : ∀ r i, r < n → i ≤ L → pf_R n lh ln sy tx L P r i → P (lh r) i) {a i : Nat} (d : dv_D n lh ln sy (tm_s true tx L) a i L) (hi : i ≤ L) : P a i := by
  have key : ∀ a i j, dv_D n lh ln sy (tm_s true tx L) a i j → i ≤ j ∧ pd_D n lh ln sy a ∧ (j < L → dv_D n lh ln sy (tm_s false tx L) a i j) ∧ (j = L → i ≤ L → P a i) := by
    intro a i j d
    refine d (fun a i j => i ≤ j ∧ pd_D n lh ln sy a ∧ (j < L → dv_D n lh ln sy (tm_s false tx L) a i j) ∧ (j = L → i ≤ L → P a i)) ?_
    intro r i j hr h
    have mo : ∀ k m q, dv_St (fun a i j => i ≤ j ∧ pd_D n lh ln sy a ∧ (j < L → dv_D n lh ln sy (tm_s false tx L) a i j) ∧ (j = L → i ≤ L → P a i)) (tm_s true tx L) (sy r k) m q → m ≤ q :=
      fun k m q s => dv_St_le (fun _ _ _ x => x.1) tm_le s
    have pr : ∀ k, k < ln r → sy r k < 12 → pd_D n lh ln sy (sy r k) := by
      intro k hk hs
      obtain ⟨m, q, s⟩ := dv_P_ea _ _ h k hk
      rcases s with ⟨_, b⟩ | ⟨b, _⟩
      · exact b.2.1
      · omega
    have cl : ∀ K p, p < L → dv_P (fun k => dv_St (fun a i j => i ≤ j ∧ pd_D n lh ln sy a ∧ (j < L → dv_D n lh ln sy (tm_s false tx L) a i j) ∧ (j = L → i ≤ L → P a i)) (tm_s true tx L) (sy r k)) i K p → dv_P (fun k => dv_St (dv_D n lh ln sy (tm_s false tx L)) (tm_s false tx L) (sy r k)) i K p := by
      intro K p hp h
      refine dv_P_mono _ _ (fun k m q _ s => ?_) (dv_P_in mo K p h (Nat.le_refl p))
      obtain ⟨s, _, _, hq⟩ := s
      refine dv_St_mono (fun _ x => x.2.2.1 (by omega)) (fun _ t => ?_) s
      rcases t with t | ⟨_, t, _⟩
      · exact Or.inl t
      · have := mo k m q s
        omega
    refine ⟨dv_P_le mo _ _ h, pd_cl hr pr, fun hj => dv_cl r i j hr (cl _ _ hj h), fun hj hi => hP r i hr hi ?_⟩
    rw [hj] at h
    rcases dv_P_fst mo (ln r) h with ⟨e0, ei⟩ | ⟨k, p, hk, a1, a2, a3⟩
    · refine Or.inl ?_
      rw [e0]
      exact ei
    · have hpj : p ≤ L := mo k p L a2
      refine Or.inr ⟨k, p, hk, ?_, hpj, ?_, fun k' _ h2 h3 => pr k' h2 h3⟩
      · rcases a3 with z | z
        · exact cl k p z a1
        · subst z
          exact a1
      · rcases a2 with ⟨z, b⟩ | ⟨z, b⟩
        · exact Or.inr ⟨z, b.2.2.2 rfl hpj⟩
        · refine Or.inl ⟨z, ?_⟩
          rcases b with ⟨_, b1, b2⟩ | ⟨_, b1, _⟩
          · exact Or.inr ⟨b1.symm, b2⟩
          · exact Or.inl b1
  exact (key a i L d).2.2.2 rfl hi
end dvs
end
section
/-! rows of the kit's pages (PURE-ROWS, BITS) and of the example large-2 (counting), pasted; bits of a mask -/
theorem pk_us {f : Nat → Int32} {k : Nat} {x : Int32} : upd f k x k = x := if_pos rfl
theorem pk_un {f : Nat → Int32} {k j : Nat} {x : Int32} (h : j ≠ k) : upd f k x j = f j := if_neg h
theorem pk_sub {a b : Nat} (h : b ≤ a) : nI a - nI b = nI (a - b) := by
  obtain ⟨c, rfl⟩ : ∃ c, a = c + b := ⟨a - b, by omega⟩
  rw [← nI_add, Int32.add_sub_cancel, Nat.add_sub_cancel]
theorem pk_m1 (n : Nat) : nI (n + 1) + (-1) = nI n := by
  rw [← nI_1, Int32.add_assoc, show (1 : Int32) + (-1) = 0 from rfl, Int32.add_zero]
theorem pk_mul (a b : Nat) : nI a * nI b = nI (a * b) := (Int32.ofNat_mul a b).symm
theorem pk_div {a d : Nat} (ha : a < 2 ^ 31) (h0 : 0 < d) (hd : d < 2 ^ 31) : nI a / nI d = nI (a / d) := by
  apply Int32.toInt_inj.mp
  rw [lg_idiv_nonneg (by rw [nI_toInt ha]; omega) (by rw [nI_toInt hd]; omega), nI_toInt ha, nI_toInt hd, nI_toInt (Nat.lt_of_le_of_lt (Nat.div_le_self a d) ha)]
  first | rfl | exact (Int.natCast_ediv _ _).symm
theorem pk_rem {a d : Nat} (ha : a < 2 ^ 31) (h0 : 0 < d) (hd : d < 2 ^ 31) : nI a - nI a / nI d * nI d = nI (a % d) := by
  rw [pk_div ha h0 hd, pk_mul, pk_sub (Nat.div_mul_le_self a d)]
  exact congrArg nI (by have := Nat.div_add_mod' a d; omega)
theorem pk_ix (x : Int32) {n : Nat} (hn : n < 2 ^ 31) : x < 0 ∨ nI n ≤ x ∨ ∃ j : Nat, j < n ∧ x = nI j := by
  by_cases h : x < 0
  · exact Or.inl h
  · obtain ⟨j, hj, rfl⟩ := nI_of h
    by_cases h2 : j < n
    · exact Or.inr (Or.inr ⟨j, h2, rfl⟩)
    · exact Or.inr (Or.inl (nI_le (by omega) hj))
theorem pk_le {x y : Int32} {A B : Prop} (a b : Nat) (f : a ≤ b → A) (g : b < a → B) (hx : x = nI a := by rfl) (hy : y = nI b := by rfl) (ha : a < 2 ^ 31 := by omega) (hb : b < 2 ^ 31 := by omega) : (x ≤ y → A) ∧ (¬ x ≤ y → B) := by
  subst hx hy
  rw [nI_leI ha hb]
  exact ⟨f, fun z => g (by omega)⟩
theorem pk_lt {x y : Int32} {A B : Prop} (a b : Nat) (f : a < b → A) (g : b ≤ a → B) (hx : x = nI a := by rfl) (hy : y = nI b := by rfl) (ha : a < 2 ^ 31 := by omega) (hb : b < 2 ^ 31 := by omega) : (x < y → A) ∧ (¬ x < y → B) := by
  subst hx hy
  rw [nI_ltI ha hb]
  exact ⟨f, fun z => g (by omega)⟩
theorem pk_eq {x y : Int32} {A B : Prop} (a b : Nat) (f : a = b → A) (g : a ≠ b → B) (hx : x = nI a := by rfl) (hy : y = nI b := by rfl) (ha : a < 2 ^ 31 := by omega) (hb : b < 2 ^ 31 := by omega) : (x = y → A) ∧ (¬ x = y → B) := by
  subst hx hy
  rw [nI_eq ha hb]
  exact ⟨f, g⟩
theorem pk_in {x : Int32} (n N : Nat) (h : n < N) (hx : x = nI n := by rfl) (hN : N < 2 ^ 31 := by omega) : vp_in x N := by
  subst hx
  exact vp_in_nI h hN
theorem pk_cl {x : Int32} (n : Nat) (hx : x = nI n := by rfl) (h : n < 2 ^ 31 := by omega) : x.toNatClampNeg = n := by
  subst hx
  exact nI_clamp h
theorem pk_tn {n : Nat} (h : n < 2 ^ 32) : (nI n).toBitVec.toNat = n := Nat.mod_eq_of_lt h
theorem pk_sub_toInt {a b : Nat} (ha : a < 2 ^ 30) (hb : b < 2 ^ 30) : (nI a - nI b).toInt = (a : Int) - b := by
  rw [Int32.toInt_sub, nI_toInt (by omega), nI_toInt (by omega)]
  exact Int.bmod_eq_of_le (by omega) (by omega)
theorem pk_sneg {a b : Nat} (hb : b < 2 ^ 30) (h : a < b) : nI a - nI b < 0 := by
  rw [Int32.lt_iff_toInt_lt, pk_sub_toInt (by omega) hb, show (0 : Int32).toInt = 0 from by decide]
  omega
theorem pk_least (P : Nat → Prop) (h : ∃ k, P k) : ∃ k, P k ∧ ∀ j, j < k → ¬ P j := by
  obtain ⟨k, hk⟩ := h
  induction k using Nat.strongRecOn with
  | ind k ih =>
    by_cases e : ∃ j, j < k ∧ P j
    · obtain ⟨j, hj, pj⟩ := e
      exact ih j hj pj
    · exact ⟨k, hk, fun j hj pj => e ⟨j, hj, pj⟩⟩
theorem ek_if {c d A B : Prop} (e : c ↔ d) (f : d → A) (g : ¬ d → B) : (c → A) ∧ (¬ c → B) :=
  ⟨fun z => f (e.mp z), fun z => g (fun y => z (e.mpr y))⟩
theorem ek_v {α : Sort _} {P : α → Prop} {a b : α} (e : a = b) (h : P b) : P a := e ▸ h
def bt (x : Int32) (i : Nat) : Bool := x.toBitVec.getLsbD i
theorem b_ext {x y : Int32} (h : ∀ i, i < 32 → bt x i = bt y i) : x = y := Int32.toBitVec_inj.mp (BitVec.eq_of_getLsbD_eq (fun i hi => h i hi))
theorem b_or (x y : Int32) (i : Nat) : bt (x ||| y) i = (bt x i || bt y i) := by unfold bt; rw [Int32.toBitVec_or, BitVec.getLsbD_or]
theorem b_and (x y : Int32) (i : Nat) : bt (x &&& y) i = (bt x i && bt y i) := by unfold bt; rw [Int32.toBitVec_and, BitVec.getLsbD_and]
theorem b_xor (x y : Int32) (i : Nat) : bt (x ^^^ y) i = (bt x i ^^ bt y i) := by unfold bt; rw [Int32.toBitVec_xor, BitVec.getLsbD_xor]
theorem b_big {x : Int32} {i : Nat} (h : 32 ≤ i) : bt x i = false := BitVec.getLsbD_of_ge _ _ h
theorem b_m1 : ∀ i, i < 32 → bt (-1) i = true := by decide +kernel
theorem b_0 (i : Nat) : bt 0 i = false := BitVec.getLsbD_zero
theorem s_l : ∀ n, n < 32 → ((nI n &&& 31).toBitVec.smod 32).toNat = n := by decide +kernel
theorem b_shl (n : Nat) (hn : n < 32) (x : Int32) {i : Nat} (hi : i < 32) : bt (x <<< (nI n &&& 31)) i = (decide (n ≤ i) && bt x (i - n)) := by
  unfold bt
  rw [Int32.toBitVec_shiftLeft]
  show (x.toBitVec <<< ((nI n &&& 31).toBitVec.smod 32).toNat).getLsbD i = _
  rw [s_l n hn, BitVec.getLsbD_shiftLeft]
  rcases Nat.lt_or_ge i n with h | h
  · simp [h, Nat.not_le.mpr h]
  · simp [hi, h, Nat.not_lt.mpr h]
theorem b_sshr (n : Nat) (hn : n < 32) (x : Int32) {i : Nat} (hi : i < 32) : bt (x >>> (nI n &&& 31)) i = if n + i < 32 then bt x (n + i) else bt x 31 := by
  unfold bt
  rw [Int32.toBitVec_shiftRight]
  show (x.toBitVec.sshiftRight ((nI n &&& 31).toBitVec.smod 32).toNat).getLsbD i = _
  rw [s_l n hn, BitVec.getLsbD_sshiftRight, BitVec.msb_eq_getLsbD_last]
  simp [hi]
noncomputable def b01 (P : Prop) : Nat := @ite Nat P (Classical.propDecidable P) 1 0
theorem b01_t {P : Prop} (h : P) : b01 P = 1 := by unfold b01; rw [if_pos h]
theorem b01_f {P : Prop} (h : ¬ P) : b01 P = 0 := by unfold b01; rw [if_neg h]
theorem b01_le (P : Prop) : b01 P ≤ 1 := by
  rcases Classical.em P with h | h
  · rw [b01_t h]; omega
  · rw [b01_f h]; omega
theorem b01_mono {P Q : Prop} (h : P → Q) : b01 P ≤ b01 Q := by
  rcases Classical.em P with hp | hp
  · rw [b01_t hp, b01_t (h hp)]; omega
  · rw [b01_f hp]; omega
noncomputable def cn (P : Nat → Prop) : Nat → Nat
  | 0 => 0
  | k + 1 => cn P k + b01 (P k)
theorem cn_mono {P Q : Nat → Prop} : ∀ {N : Nat}, (∀ k, k < N → P k → Q k) → cn P N ≤ cn Q N
  | 0, _ => Nat.le_refl _
  | N + 1, h => by
    have a := cn_mono (P := P) (Q := Q) (N := N) (fun k hk => h k (by omega))
    have b := b01_mono (h N (by omega))
    simp only [cn]; omega
theorem cn_lt {P Q : Nat → Prop} {a : Nat} (hp : ¬ P a) (hq : Q a) : ∀ {N : Nat}, (∀ k, k < N → P k → Q k) → a < N → cn P N < cn Q N
  | 0, _, h => by omega
  | N + 1, h, ha => by
    simp only [cn]
    rcases Nat.lt_or_ge a N with z | z
    · have x := cn_lt hp hq (N := N) (fun k hk => h k (by omega)) z
      have b := b01_mono (h N (by omega))
      omega
    · have e : a = N := by omega
      subst e
      have x := cn_mono (P := P) (Q := Q) (N := a) (fun k hk => h k (by omega))
      rw [b01_t hq, b01_f hp]; omega
theorem cn_le (P : Nat → Prop) : ∀ N, cn P N ≤ N
  | 0 => Nat.le_refl _
  | N + 1 => by have := cn_le P N; have := b01_le (P N); simp only [cn]; omega
theorem cn_eq {P Q : Nat → Prop} {N : Nat} (h : ∀ k, k < N → (P k ↔ Q k)) : cn P N = cn Q N :=
  Nat.le_antisymm (cn_mono fun k hk => (h k hk).mp) (cn_mono fun k hk => (h k hk).mpr)
theorem cn_add {P : Nat → Prop} {a : Nat} (hp : ¬ P a) : ∀ {N : Nat}, a < N → cn (fun k => P k ∨ k = a) N = cn P N + 1
  | 0, h => by omega
  | N + 1, h => by
    simp only [cn]
    rcases Nat.lt_or_ge a N with z | z
    · rw [cn_add hp z]
      have : b01 (P N ∨ N = a) = b01 (P N) := Nat.le_antisymm (b01_mono fun q => q.elim id (fun e => by omega)) (b01_mono Or.inl)
      omega
    · have e : a = N := by omega
      subst e
      rw [cn_eq (P := fun k => P k ∨ k = a) (Q := P) (fun k hk => ⟨fun q => q.elim id (fun e => by omega), Or.inl⟩), b01_t (Or.inr rfl), b01_f hp]
theorem xb_o : ∀ n, n < 32 → ∀ j, j < 32 → bt ((1 : Int32) <<< (nI n &&& 31)) j = decide (n = j) := by decide +kernel
theorem xb_1i : ∀ i, i < 32 → bt 1 i = decide (i = 0) := by decide +kernel
theorem xb_1 (y : Int32) : (y &&& 1) = 1 ↔ bt y 0 = true := by
  constructor
  · intro h
    have e := congrArg (fun z => bt z 0) h
    rw [b_and, xb_1i 0 (by decide)] at e
    simpa using e
  · intro h
    refine b_ext fun i hi => ?_
    rw [b_and, xb_1i i hi]
    by_cases z : i = 0
    · subst z; simp [h]
    · simp [z]
theorem xb_t {i : Nat} (hi : i < 32) (x : Int32) : ((x >>> (nI i &&& 31)) &&& 1) = 1 ↔ bt x i = true := by
  rw [xb_1, b_sshr i hi x (by decide : (0 : Nat) < 32), Nat.add_zero, if_pos hi]
theorem xb_le {x y : Int32} : (x &&& (y ^^^ (-1))) = 0 ↔ ∀ j, j < 32 → bt x j = true → bt y j = true := by
  constructor
  · intro h j hj hx
    have e := congrArg (fun z => bt z j) h
    rw [b_and, b_xor, b_m1 j hj, b_0, hx] at e
    cases hy : bt y j
    · rw [hy] at e; exact absurd e (by decide)
    · rfl
  · intro h
    refine b_ext fun j hj => ?_
    rw [b_and, b_xor, b_m1 j hj, b_0]
    cases hx : bt x j
    · rfl
    · rw [h j hj hx]; rfl
theorem xb_lt {x : Int32} {j : Nat} (h : bt x j = true) : j < 32 := by
  rcases Nat.lt_or_ge j 32 with z | z
  · exact z
  · rw [b_big z] at h; exact absurd h (by decide)
theorem xb_or {x y : Int32} {j : Nat} : bt (x ||| y) j = true ↔ bt x j = true ∨ bt y j = true := by rw [b_or, Bool.or_eq_true]
theorem xb_os {x : Int32} {n j : Nat} (hn : n < 32) (hj : j < 32) : bt (x ||| ((1 : Int32) <<< (nI n &&& 31))) j = true ↔ bt x j = true ∨ n = j := by
  rw [b_or, xb_o n hn j hj, Bool.or_eq_true, decide_eq_true_eq]
end
section
/-! X: one symbol, one rule -/
section xps
variable {xN xT xB xR xS xE xL xA xG xC xF : Int32} {aL aN aS aR aM aK aT aE : Nat → Int32}
theorem xp_ix (a i : Nat) : nI a * 14 + nI i = nI (a * 14 + i) := by
  rw [show (14 : Int32) = nI 14 from rfl, pk_mul, nI_add]
theorem xp_ix5 (r k : Nat) : nI r * 5 + nI k = nI (r * 5 + k) := by
  rw [show (5 : Int32) = nI 5 from rfl, pk_mul, nI_add]
theorem xp_t (post : Int32 → Prop) {tx : Nat → Nat} {L t : Nat} (x1 : Int32) (hL : L ≤ 13) (ht : t < 4) (htx : ∀ i, i < L → aT i = nI (tx i) ∧ tx i < 4) :
    ∀ d i acc, i + d = L → (∀ r, (∀ j, j < 32 → (bt r j = true ↔ bt acc j = true ∨ ∃ m, i ≤ m ∧ m < L ∧ bt x1 m = true ∧ tx m = t ∧ j = m + 1)) → post r) → wX_passTerminal_19 post x1 (nI t) (nI L) xN xT xB xR xS xE xL xA xG xC xF aL aN aS aR aM aK aT aE (d + 1) acc (nI i) := by
  intro d
  induction d with
  | zero =>
    intro i acc hi H
    refine br_t (nI_le (by omega) (by omega)) (H acc fun j hj => ⟨Or.inl, fun h => h.elim id fun ⟨m, h1, h2, _⟩ => ?_⟩)
    omega
  | succ d ih =>
    intro i acc hi H
    have hx := (htx i (by omega)).1
    have hx4 := (htx i (by omega)).2
    have skip : (bt x1 i = true → tx i ≠ t) → wX_passTerminal_19 post x1 (nI t) (nI L) xN xT xB xR xS xE xL xA xG xC xF aL aN aS aR aM aK aT aE (d + 1) acc (nI (i + 1)) := by
      intro hn
      refine ih (i + 1) acc (by omega) fun r hr => H r fun j hj => Iff.trans (hr j hj) ?_
      constructor
      · rintro (h | ⟨m, h1, h2, h3⟩)
        · exact Or.inl h
        · exact Or.inr ⟨m, by omega, h2, h3⟩
      · rintro (h | ⟨m, h1, h2, h3, h4, h5⟩)
        · exact Or.inl h
        · rcases Nat.lt_or_ge i m with z | z
          · exact Or.inr ⟨m, z, h2, h3, h4, h5⟩
          · have e : m = i := by omega
            subst e
            exact absurd h4 (hn h3)
    refine br_f (nI_ge (by omega) (by omega)) (br_c (fun hb => ⟨vp_in_nI (by omega) (by decide), ?_⟩) (fun hb => ?_))
    · have hb' : bt x1 i = true := (xb_t (by omega) x1).mp hb
      refine pk_eq (tx i) t (fun e => ?_) (fun e => ?_) (by rw [nI_clamp (by omega)]; exact hx) rfl (by omega) (by omega)
      · refine nm_r (by rw [nI_1]) (nm_r (nI_1 i) ?_)
        refine ih (i + 1) _ (by omega) fun r hr => H r fun j hj => Iff.trans (hr j hj) ?_
        rw [xb_os (by omega) hj]
        constructor
        · rintro ((h | h) | ⟨m, h1, h2, h3⟩)
          · exact Or.inl h
          · exact Or.inr ⟨i, Nat.le_refl i, by omega, hb', e, h.symm⟩
          · exact Or.inr ⟨m, by omega, h2, h3⟩
        · rintro (h | ⟨m, h1, h2, h3, h4, h5⟩)
          · exact Or.inl (Or.inl h)
          · rcases Nat.lt_or_ge i m with z | z
            · exact Or.inr ⟨m, z, h2, h3, h4, h5⟩
            · exact Or.inl (Or.inr (by omega))
      · exact nm_r (nI_1 i) (skip fun _ => e)
    · have hb' : ¬ bt x1 i = true := fun z => hb ((xb_t (by omega) x1).mpr z)
      exact nm_r (nI_1 i) (skip fun z => absurd z hb')
theorem xp_T (post : Int32 → Prop) {tx : Nat → Nat} {L t : Nat} (o : Bool) (x1 : Int32) (hL : L ≤ 13) (ht : t < 4) (htx : ∀ i, i < L → aT i = nI (tx i) ∧ tx i < 4)
    (H : ∀ r, (∀ j, j < 32 → (bt r j = true ↔ ∃ i, bt x1 i = true ∧ tm_s o tx L t i j)) → post r) : wpX_passTerminal post (xN, xT, xB, xR, xS, xE, xL, xA, xG, xC, xF, aL, aN, aS, aR, aM, aK, aT, aE) x1 (nI t) (nI L) (cond o 1 0) := by
  cases o with
  | false =>
    refine br_t rfl ⟨L + 1, xp_t post x1 hL ht htx L 0 0 (by omega) fun r hr => H r fun j hj => Iff.trans (hr j hj) ?_⟩
    rw [b_0]
    constructor
    · rintro (h | ⟨m, h1, h2, h3, h4, h5⟩)
      · exact absurd h (by decide)
      · exact ⟨m, h3, Or.inl ⟨h2, h5, h4⟩⟩
    · rintro ⟨m, h3, (⟨h2, h5, h4⟩ | ⟨h, _⟩)⟩
      · exact Or.inr ⟨m, Nat.zero_le m, h2, h3, h4, h5⟩
      · exact absurd h (by decide)
  | true =>
    refine br_f (by decide) (nm_e ⟨L + 1, xp_t post x1 hL ht htx L 0 _ (by omega) fun r hr => H r fun j hj => Iff.trans (hr j hj) ?_⟩)
    rw [b_and, xb_o L (by omega) j hj, Bool.and_eq_true, decide_eq_true_eq]
    constructor
    · rintro (⟨h, e⟩ | ⟨m, h1, h2, h3, h4, h5⟩)
      · exact ⟨j, h, Or.inr ⟨rfl, e.symm, e.symm⟩⟩
      · exact ⟨m, h3, Or.inl ⟨h2, h5, h4⟩⟩
    · rintro ⟨m, h3, (⟨h2, h5, h4⟩ | ⟨_, h, h'⟩)⟩
      · exact Or.inr ⟨m, Nat.zero_le m, h2, h3, h4, h5⟩
      · exact Or.inl ⟨by rw [h', ← h]; exact h3, h'.symm⟩
theorem xp_n (post : Int32 → Prop) {L a : Nat} (x1 : Int32) (hL : L ≤ 13) (ha : a < 12) :
    ∀ d i acc, i + d = L + 1 → (∀ r, (∀ j, (bt r j = true ↔ bt acc j = true ∨ ∃ m, i ≤ m ∧ m ≤ L ∧ bt x1 m = true ∧ bt (aE (a * 14 + m)) j = true)) → post r) → wX_passNonterminal_6 post x1 (nI a) (nI L) xN xT xB xR xS xE xL xA xG xC xF aL aN aS aR aM aK aT aE (d + 1) acc (nI i) := by
  intro d
  induction d with
  | zero =>
    intro i acc hi H
    refine br_t (nI_lt (by omega) (by omega)) (H acc fun j => ⟨Or.inl, fun h => h.elim id fun ⟨m, h1, h2, _⟩ => ?_⟩)
    omega
  | succ d ih =>
    intro i acc hi H
    refine br_f (nI_nlt (by omega) (by omega)) (br_c (fun hb => ?_) (fun hb => ?_))
    · have hb' : bt x1 i = true := (xb_t (by omega) x1).mp hb
      refine ⟨pk_in (a * 14 + i) 168 (by omega) (xp_ix a i), nm_r (by rw [xp_ix, nI_clamp (by omega)]) (nm_r (nI_1 i) ?_)⟩
      refine ih (i + 1) _ (by omega) fun r hr => H r fun j => Iff.trans (hr j) ?_
      rw [xb_or]
      constructor
      · rintro ((h | h) | ⟨m, h1, h2, h3⟩)
        · exact Or.inl h
        · exact Or.inr ⟨i, Nat.le_refl i, by omega, hb', h⟩
        · exact Or.inr ⟨m, by omega, h2, h3⟩
      · rintro (h | ⟨m, h1, h2, h3, h4⟩)
        · exact Or.inl (Or.inl h)
        · rcases Nat.lt_or_ge i m with z | z
          · exact Or.inr ⟨m, z, h2, h3, h4⟩
          · have e : m = i := by omega
            subst e
            exact Or.inl (Or.inr h4)
    · have hb' : ¬ bt x1 i = true := fun z => hb ((xb_t (by omega) x1).mpr z)
      refine nm_r (nI_1 i) (ih (i + 1) acc (by omega) fun r hr => H r fun j => Iff.trans (hr j) ?_)
      constructor
      · rintro (h | ⟨m, h1, h2, h3⟩)
        · exact Or.inl h
        · exact Or.inr ⟨m, by omega, h2, h3⟩
      · rintro (h | ⟨m, h1, h2, h3, h4⟩)
        · exact Or.inl h
        · rcases Nat.lt_or_ge i m with z | z
          · exact Or.inr ⟨m, z, h2, h3, h4⟩
          · have e : m = i := by omega
            subst e
            exact absurd h3 hb'
theorem xp_N (post : Int32 → Prop) {L a : Nat} (x1 : Int32) (hL : L ≤ 13) (ha : a < 12)
    (H : ∀ r, (∀ j, (bt r j = true ↔ ∃ m, m ≤ L ∧ bt x1 m = true ∧ bt (aE (a * 14 + m)) j = true)) → post r) : wpX_passNonterminal post (xN, xT, xB, xR, xS, xE, xL, xA, xG, xC, xF, aL, aN, aS, aR, aM, aK, aT, aE) x1 (nI a) (nI L) := by
  refine ⟨L + 1 + 1, xp_n post x1 hL ha (L + 1) 0 0 (by omega) fun r hr => H r fun j => Iff.trans (hr j) ?_⟩
  rw [b_0]
  constructor
  · rintro (h | ⟨m, h1, h2, h3, h4⟩)
    · exact absurd h (by decide)
    · exact ⟨m, h2, h3, h4⟩
  · rintro ⟨m, h2, h3, h4⟩
    exact Or.inr ⟨m, Nat.zero_le m, h2, h3, h4⟩
/-- X's table from row lo on represents a grammar of n rules -/
def gx_R (lo n : Nat) (aL aN aS : Nat → Int32) (lh ln : Nat → Nat) (sy : Nat → Nat → Nat) : Prop :=
  lo + n ≤ 34 ∧ ∀ r, r < n → aL (lo + r) = nI (lh r) ∧ lh r < 12 ∧ aN (lo + r) = nI (ln r) ∧ ln r ≤ 5 ∧ ∀ k, k < ln r → aS ((lo + r) * 5 + k) = nI (sy r k) ∧ sy r k < 16
/-- the ends as X keeps them -/
def ex_E (L : Nat) (e : Nat → Int32) (a i j : Nat) : Prop := a < 12 ∧ i ≤ L ∧ bt (e (a * 14 + i)) j = true
theorem xe_8 (post : Int32 → Prop) {lo n L st r : Nat} {tx lh ln : Nat → Nat} {sy : Nat → Nat → Nat} (o : Bool) (hL : L ≤ 13) (hg : gx_R lo n aL aN aS lh ln sy) (hr : r < n) (htx : ∀ i, i < L → aT i = nI (tx i) ∧ tx i < 4)
    (H : ∀ res, (∀ j, j < 32 → (bt res j = true ↔ dv_P (fun k => dv_St (ex_E L aE) (tm_s o tx L) (sy r k)) st (ln r) j)) → post res) :
    ∀ d k x5, k + d = ln r → (∀ j, j < 32 → (bt x5 j = true ↔ dv_P (fun k => dv_St (ex_E L aE) (tm_s o tx L) (sy r k)) st k j)) → wX_endsOfRule_8 post (nI (lo + r)) (nI L) (cond o 1 0) xN xT xB xR xS xE xL xA xG xC xF aL aN aS aR aM aK aT aE (d + 1) x5 (nI k) := by
  obtain ⟨hn, hg⟩ := hg
  obtain ⟨_, _, hN, hl, hS⟩ := hg r hr
  have eN : aN (nI (lo + r)).toNatClampNeg = nI (ln r) := by rw [nI_clamp (by omega)]; exact hN
  intro d
  induction d with
  | zero =>
    intro k x5 hk hx
    have e : k = ln r := by omega
    subst e
    refine ⟨vp_in_nI (by omega) (by decide), br_t (by rw [eN]; exact nI_le (Nat.le_refl _) (by omega)) (H x5 hx)⟩
  | succ d ih =>
    intro k x5 hk hx
    have hs := hS k (by omega)
    refine ⟨vp_in_nI (by omega) (by decide), br_f (by rw [eN]; exact nI_ge (by omega) (by omega)) ⟨pk_in ((lo + r) * 5 + k) 170 (by omega) (xp_ix5 _ _), nm_r (e' := nI (sy r k)) (by rw [xp_ix5, nI_clamp (by omega)]; exact hs.1) ?_⟩⟩
    refine pk_lt (sy r k) 12 (fun z => ?_) (fun z => ?_) rfl rfl (by omega) (by decide)
    · refine xp_N _ x5 hL z fun q hq => nm_r (nI_1 k) (ih (k + 1) q (by omega) fun j hj => Iff.trans (hq j) ?_)
      constructor
      · rintro ⟨m, h1, h2, h3⟩
        exact ⟨m, (hx m (by omega)).mp h2, Or.inl ⟨z, z, h1, h3⟩⟩
      · rintro ⟨m, h1, (⟨_, _, h2, h3⟩ | ⟨h, _⟩)⟩
        · exact ⟨m, h2, (hx m (by omega)).mpr h1, h3⟩
        · omega
    · have e : nI (sy r k) - 12 = nI (sy r k - 12) := by rw [show (12 : Int32) = nI 12 from rfl, pk_sub z]
      rw [e]
      refine xp_T _ o x5 hL (by omega) htx fun q hq => nm_r (nI_1 k) (ih (k + 1) q (by omega) fun j hj => Iff.trans (hq j hj) ?_)
      constructor
      · rintro ⟨m, h1, h2⟩
        exact ⟨m, (hx m (xb_lt h1)).mp h1, Or.inr ⟨z, h2⟩⟩
      · rintro ⟨m, h1, (⟨h, _⟩ | ⟨_, h2⟩)⟩
        · omega
        · have := tm_le _ _ _ h2
          exact ⟨m, (hx m (by omega)).mpr h1, h2⟩
theorem xe_R (post : Int32 → Prop) {lo n L st r : Nat} {tx lh ln : Nat → Nat} {sy : Nat → Nat → Nat} (o : Bool) (hL : L ≤ 13) (hst : st ≤ L) (hg : gx_R lo n aL aN aS lh ln sy) (hr : r < n) (htx : ∀ i, i < L → aT i = nI (tx i) ∧ tx i < 4)
    (H : ∀ res, (∀ j, j < 32 → (bt res j = true ↔ dv_P (fun k => dv_St (ex_E L aE) (tm_s o tx L) (sy r k)) st (ln r) j)) → post res) : wpX_endsOfRule post (xN, xT, xB, xR, xS, xE, xL, xA, xG, xC, xF, aL, aN, aS, aR, aM, aK, aT, aE) (nI (lo + r)) (nI st) (nI L) (cond o 1 0) := by
  refine nm_e ⟨ln r + 1, xe_8 post o hL hg hr htx H (ln r) 0 _ (by omega) fun j hj => ?_⟩
  rw [xb_o st (by omega) j hj, decide_eq_true_eq]
  exact Iff.rfl
end xps
end
section
/-! X: derives, and the questions -/
noncomputable def bz_I (P : Prop) : Int32 := @ite Int32 P (Classical.propDecidable P) 1 0
theorem bz_t {P : Prop} (h : P) : bz_I P = 1 := by unfold bz_I; rw [if_pos h]
theorem bz_f {P : Prop} (h : ¬ P) : bz_I P = 0 := by unfold bz_I; rw [if_neg h]
theorem bz_01 (P : Prop) : bz_I P = 0 ∨ bz_I P = 1 := by
  rcases Classical.em P with h | h
  · exact Or.inr (bz_t h)
  · exact Or.inl (bz_f h)
theorem bz_c {P Q : Prop} (h : P ↔ Q) : bz_I P = bz_I Q := by
  rcases Classical.em P with z | z
  · rw [bz_t z, bz_t (h.mp z)]
  · rw [bz_f z, bz_f (fun y => z (h.mpr y))]
theorem bz_n (P : Prop) : narrow .boolean (.int (bz_I P)) = .int (bz_I P) ∧ fits .boolean (.int (bz_I P)) = true := by
  rcases bz_01 P with h | h <;> rw [h] <;> exact ⟨rfl, rfl⟩
theorem bz_0 {P : Prop} : bz_I P = 0 ↔ ¬ P := by
  rcases Classical.em P with h | h
  · rw [bz_t h]; exact ⟨fun z => absurd z (by decide), fun z => absurd h z⟩
  · rw [bz_f h]; exact ⟨fun _ => h, fun _ => rfl⟩
theorem bz_br {x : Int32} {P A B : Prop} (h : x = bz_I P) (f : ¬ P → A) (g : P → B) : (x = 0 → A) ∧ (¬ x = 0 → B) := by
  subst h
  exact ⟨fun z => f (bz_0.mp z), fun z => g (Classical.byContradiction fun y => z (bz_0.mpr y))⟩
theorem bz_nar (P : Prop) : vp_nar .boolean (bz_I P) = bz_I P := by
  rcases bz_01 P with h | h <;> rw [h] <;> rfl
theorem bz_p1 {post : Int32 → Prop} {P : Prop} (H : post (bz_I P)) (h : P) : post 1 := by rw [bz_t h] at H; exact H
theorem bz_p0 {post : Int32 → Prop} {P : Prop} (H : post (bz_I P)) (h : ¬ P) : post 0 := by rw [bz_f h] at H; exact H
section xds
variable {xN xT xB xR xS xE xL xA xG xC xF : Int32} {aL aN aS aR aM aK aT aE : Nat → Int32}
variable {lo n L : Nat} {tx lh ln : Nat → Nat} {sy : Nat → Nat → Nat} {o : Bool}
/-- every kept end is a derivation -/
def ex_S (n L : Nat) (lh ln : Nat → Nat) (sy : Nat → Nat → Nat) (T : Nat → Nat → Nat → Prop) (e : Nat → Int32) : Prop := ∀ a i j, ex_E L e a i j → dv_D n lh ln sy T a i j
/-- rule r adds nothing at start i -/
def ex_c (L : Nat) (lh ln : Nat → Nat) (sy : Nat → Nat → Nat) (T : Nat → Nat → Nat → Prop) (e : Nat → Int32) (i r : Nat) : Prop := ∀ j, dv_P (fun k => dv_St (ex_E L e) T (sy r k)) i (ln r) j → ex_E L e (lh r) i j
noncomputable def ex_n (st : Nat) (e : Nat → Int32) : Nat := cn (fun c => bt (e (c / 14 * 14 + st)) (c % 14) = true) 168
theorem xd_pres {e e' : Nat → Int32} {i : Nat} (hs : ex_S n L lh ln sy (tm_s o tx L) e') (he : ∀ a m, a < 12 → i ≤ m → m ≤ L → e' (a * 14 + m) = e (a * 14 + m)) {r : Nat} (h : ex_c L lh ln sy (tm_s o tx L) e i r) : ex_c L lh ln sy (tm_s o tx L) e' i r := by
  intro j hp
  have mo : ∀ k m q, dv_St (ex_E L e') (tm_s o tx L) (sy r k) m q → m ≤ q := fun k m q s => dv_St_le (fun a i j h => dv_D_le tm_le (hs a i j h)) tm_le s
  have hp' : dv_P (fun k => dv_St (ex_E L e) (tm_s o tx L) (sy r k)) i (ln r) j := by
    refine dv_P_mono _ _ (fun k m q _ s => ?_) (dv_P_in mo (ln r) j hp (Nat.le_refl j))
    exact dv_St_mono (fun _ x => ⟨x.1, x.2.1, by rw [← he _ _ x.1 s.2.1 x.2.1]; exact x.2.2⟩) (fun _ t => t) s.1
  obtain ⟨a, b, c⟩ := h j hp'
  exact ⟨a, b, by rw [he _ _ a (Nat.le_refl i) b]; exact c⟩
theorem xd_fin {e : Nat → Int32} (hs : ex_S n L lh ln sy (tm_s o tx L) e) (hc : ∀ i, i ≤ L → ∀ r, r < n → ex_c L lh ln sy (tm_s o tx L) e i r) {a i j : Nat} (d : dv_D n lh ln sy (tm_s o tx L) a i j) (hi : i ≤ L) : ex_E L e a i j := by
  refine d (fun a i j => i ≤ L → ex_E L e a i j) (fun r i j hr h hi => hc i hi r hr j (dv_P_up (L := L) (fun k m q hm s => ?_) hi (ln r) j h).1) hi
  rcases s with ⟨z, b⟩ | ⟨z, b⟩
  · exact ⟨Or.inl ⟨z, b hm⟩, dv_D_bd tm_bd (hs _ _ _ (b hm)) hm⟩
  · exact ⟨Or.inr ⟨z, b⟩, tm_bd _ _ _ b⟩
theorem xd_found {e : Nat → Int32} {st r j : Nat} (hs : ex_S n L lh ln sy (tm_s o tx L) e) (hr : r < n) (h : dv_P (fun k => dv_St (ex_E L e) (tm_s o tx L) (sy r k)) st (ln r) j) : dv_D n lh ln sy (tm_s o tx L) (lh r) st j :=
  dv_cl r st j hr (dv_P_mono _ _ (fun k m q _ => dv_St_mono (fun _ x => hs _ _ _ x) (fun _ t => t)) h)
theorem xd_58 {post : Int32 → SX → Prop} {J28 : Int32 → (Nat → Int32) → (Nat → Int32) → (Nat → Int32) → (Nat → Int32) → (Nat → Int32) → (Nat → Int32) → (Nat → Int32) → (Nat → Int32) →  Prop} {J39 : Int32 → Int32 → (Nat → Int32) → (Nat → Int32) → (Nat → Int32) → (Nat → Int32) → (Nat → Int32) → (Nat → Int32) → (Nat → Int32) → (Nat → Int32) →  Prop} {st : Nat} (x7 : Int32) {e0 : Nat → Int32} (hL : L ≤ 13) (hst : st ≤ L) (hg : gx_R lo n aL aN aS lh ln sy) (htx : ∀ i, i < L → aT i = nI (tx i) ∧ tx i < 4)
    (hJ : ∀ e x6, ex_S n L lh ln sy (tm_s o tx L) e → (∀ a m, m < 14 → m ≠ st → e (a * 14 + m) = e0 (a * 14 + m)) → ((x6 = 0 ∧ e = e0 ∧ ∀ r, r < n → ex_c L lh ln sy (tm_s o tx L) e st r) ∨ (x6 = 1 ∧ ex_n st e0 < ex_n st e)) → J39 x6 (x7 + 1) aL aN aS aR aM aK aT e) :
    ∀ d r e x6, r + d = n → ex_S n L lh ln sy (tm_s o tx L) e → (∀ a m, m < 14 → m ≠ st → e (a * 14 + m) = e0 (a * 14 + m)) → ((x6 = 0 ∧ e = e0 ∧ ∀ r', r' < r → ex_c L lh ln sy (tm_s o tx L) e st r') ∨ (x6 = 1 ∧ ex_n st e0 < ex_n st e)) →
      wX_derives_58 post J28 J39 (nI lo) (nI (lo + n)) (nI L) (cond o 1 0) (nI st) x7 xN xT xB xR xS xE xL xA xG xC xF (d + 1) x6 (nI (lo + r)) aL aN aS aR aM aK aT e := by
  intro d
  induction d with
  | zero =>
    intro r e x6 hr hs ha hx
    have er : r = n := by omega
    subst er
    have := hg.1
    exact br_t (nI_le (Nat.le_refl _) (by omega)) (nm_e (hJ e x6 hs ha hx))
  | succ d ih =>
    intro r e x6 hr hs ha hx
    have hn := hg.1
    have hl := hg.2 r (by omega)
    have h12 := hl.2.1
    refine br_f (nI_ge (by omega) (by omega)) (xe_R _ o hL hst hg (by omega) htx fun res hres => ⟨vp_in_nI (by omega) (by decide), ?_⟩)
    refine nm_r (e' := nI (lh r * 14 + st)) (by rw [nI_clamp (by omega), hl.1, xp_ix]) ⟨vp_in_nI (by omega) (by decide), ?_⟩
    have nx : nI (lo + r) + 1 = nI (lo + (r + 1)) := by rw [nI_1, Nat.add_assoc]
    refine ek_if (d := ∀ j, j < 32 → bt res j = true → bt (e (lh r * 14 + st)) j = true) (by rw [nI_clamp (by omega)]; exact xb_le) (fun hsub => nm_r nx ?_) (fun hns => ⟨vp_in_nI (by omega) (by decide), vp_in_nI (by omega) (by decide), nm_r (by rw [nI_clamp (by omega)]) (nm_r nx ?_)⟩)
    · refine ih (r + 1) e x6 (by omega) hs ha (hx.imp (fun h => ⟨h.1, h.2.1, fun r' hr' => ?_⟩) id)
      rcases Nat.lt_or_ge r' r with z | z
      · exact h.2.2 r' z
      · have er : r' = r := by omega
        subst er
        intro j hp
        have hj : j ≤ L := dv_D_bd tm_bd (xd_found hs (by omega) hp) hst
        exact ⟨h12, hst, hsub j (by omega) ((hres j (by omega)).mpr hp)⟩
    · have hd : ∀ j, bt res j = true → dv_D n lh ln sy (tm_s o tx L) (lh r) st j := fun j hj => xd_found hs (by omega) ((hres j (xb_lt hj)).mp hj)
      have hor : ∀ j, bt (upd e (lh r * 14 + st) (e (lh r * 14 + st) ||| res) (lh r * 14 + st)) j = true ↔ bt (e (lh r * 14 + st)) j = true ∨ bt res j = true := fun j => by rw [pk_us, xb_or]
      have hmo : ∀ c j, bt (e c) j = true → bt (upd e (lh r * 14 + st) (e (lh r * 14 + st) ||| res) c) j = true := by
        intro c j h
        by_cases z : c = lh r * 14 + st
        · subst z; exact (hor j).mpr (Or.inl h)
        · rw [pk_un z]; exact h
      refine ih (r + 1) _ 1 (by omega) ?_ ?_ (Or.inr ⟨rfl, ?_⟩)
      · intro a i j hE
        obtain ⟨h1, h2, h3⟩ := hE
        by_cases z : a * 14 + i = lh r * 14 + st
        · have e1 : a = lh r := by omega
          have e2 : i = st := by omega
          subst e1 e2
          rcases (hor j).mp h3 with h | h
          · exact hs _ _ _ ⟨h1, h2, h⟩
          · exact hd j h
        · rw [pk_un z] at h3
          exact hs _ _ _ ⟨h1, h2, h3⟩
      · intro a m hm hne
        rw [pk_un (by omega)]
        exact ha a m hm hne
      · obtain ⟨j, hj, hb, hnb⟩ : ∃ j, j < 32 ∧ bt res j = true ∧ ¬ bt (e (lh r * 14 + st)) j = true :=
          Classical.byContradiction fun hc => hns fun j hj hb => Classical.byContradiction fun hnb => hc ⟨j, hj, hb, hnb⟩
        have hj13 : j ≤ L := dv_D_bd tm_bd (hd j hb) hst
        have e1 : (lh r * 14 + j) / 14 = lh r := by omega
        have e2 : (lh r * 14 + j) % 14 = j := by omega
        have hlt : ex_n st e < ex_n st (upd e (lh r * 14 + st) (e (lh r * 14 + st) ||| res)) := by
          unfold ex_n
          refine cn_lt (a := lh r * 14 + j) ?_ ?_ (fun c _ h => hmo _ _ h) (by omega)
          · show ¬ bt (e ((lh r * 14 + j) / 14 * 14 + st)) ((lh r * 14 + j) % 14) = true
            rw [e1, e2]; exact hnb
          · show bt (upd e (lh r * 14 + st) (e (lh r * 14 + st) ||| res) ((lh r * 14 + j) / 14 * 14 + st)) ((lh r * 14 + j) % 14) = true
            rw [e1, e2]; exact (hor j).mpr (Or.inr hb)
        rcases hx with h | h
        · rw [← h.2.1]; exact hlt
        · exact Nat.lt_trans h.2 hlt
theorem xd_39 {post : Int32 → SX → Prop} {J28 : Int32 → (Nat → Int32) → (Nat → Int32) → (Nat → Int32) → (Nat → Int32) → (Nat → Int32) → (Nat → Int32) → (Nat → Int32) → (Nat → Int32) →  Prop} {st : Nat} {e0 : Nat → Int32} (hL : L ≤ 13) (hst : st ≤ L) (hg : gx_R lo n aL aN aS lh ln sy) (htx : ∀ i, i < L → aT i = nI (tx i) ∧ tx i < 4)
    (hJ : ∀ e, ex_S n L lh ln sy (tm_s o tx L) e → (∀ a m, m < 14 → m ≠ st → e (a * 14 + m) = e0 (a * 14 + m)) → (∀ r, r < n → ex_c L lh ln sy (tm_s o tx L) e st r) → J28 (nI st + (-1)) aL aN aS aR aM aK aT e) :
    ∀ d p e x6, p + d = 169 → ex_S n L lh ln sy (tm_s o tx L) e → (∀ a m, m < 14 → m ≠ st → e (a * 14 + m) = e0 (a * 14 + m)) → ((x6 = 0 ∧ ∀ r, r < n → ex_c L lh ln sy (tm_s o tx L) e st r) ∨ (x6 = 1 ∧ p ≤ ex_n st e)) →
      wX_derives_39 post J28 (nI lo) (nI (lo + n)) (nI L) (cond o 1 0) (nI st) xN xT xB xR xS xE xL xA xG xC xF (d + 1) x6 (nI p) aL aN aS aR aM aK aT e := by
  intro d
  induction d with
  | zero =>
    intro p e x6 hp hs ha hx
    have ep : p = 169 := by omega
    subst ep
    refine br_t (nI_le (a := 169) (Nat.le_refl _) (by decide)) (nm_e (hJ e hs ha ?_))
    rcases hx with h | h
    · exact h.2
    · have := cn_le (fun c => bt (e (c / 14 * 14 + st)) (c % 14) = true) 168
      have h2 := h.2
      unfold ex_n at h2
      omega
  | succ d ih =>
    intro p e x6 hp hs ha hx
    refine br_f (nI_ge (b := 169) (by omega) (by decide)) ?_
    rcases hx with ⟨h, hc⟩ | ⟨h, hc⟩
    · subst h
      exact br_t rfl (nm_e (hJ e hs ha hc))
    · subst h
      refine br_f (by decide) ⟨n + 1, xd_58 (e0 := e) (nI p) hL hst hg htx (fun e' x6 hs' ha' hx' => ?_) n 0 e 0 (by omega) hs (fun _ _ _ _ => rfl) (Or.inl ⟨rfl, rfl, fun r' hr' => absurd hr' (Nat.not_lt_zero _)⟩)⟩
      rw [nI_1]
      refine ih (p + 1) e' x6 (by omega) hs' (fun a m h1 h2 => (ha' a m h1 h2).trans (ha a m h1 h2)) ?_
      rcases hx' with h | h
      · exact Or.inl ⟨h.1, h.2.2⟩
      · exact Or.inr ⟨h.1, by omega⟩
theorem xd_28 {post : Int32 → SX → Prop} (hL : L ≤ 13) (hg : gx_R lo n aL aN aS lh ln sy) (htx : ∀ i, i < L → aT i = nI (tx i) ∧ tx i < 4)
    (H : ∀ e, post (bz_I (dv_D n lh ln sy (tm_s o tx L) 0 0 L)) (xN, xT, xB, xR, xS, xE, xL, xA, xG, xC, xF, aL, aN, aS, aR, aM, aK, aT, e)) :
    ∀ s e, s ≤ L + 1 → ex_S n L lh ln sy (tm_s o tx L) e → (∀ i, s ≤ i → i ≤ L → ∀ r, r < n → ex_c L lh ln sy (tm_s o tx L) e i r) →
      wX_derives_28 post (nI lo) (nI (lo + n)) (nI L) (cond o 1 0) xN xT xB xR xS xE xL xA xG xC xF (s + 1) (nI s + (-1)) aL aN aS aR aM aK aT e := by
  intro s
  induction s with
  | zero =>
    intro e _ hs hc
    refine br_t (by decide) (ek_if (xb_t (by omega) _) (fun z => ?_) (fun z => ?_))
    · have := H e
      rw [bz_t (hs 0 0 L ⟨by decide, Nat.zero_le L, z⟩)] at this
      exact this
    · have := H e
      rw [bz_f (fun d => z (xd_fin hs (fun i hi => hc i (Nat.zero_le i) hi) d (Nat.zero_le L)).2.2)] at this
      exact this
  | succ s ih =>
    intro e h hs hc
    rw [pk_m1]
    refine br_f (nI_pos (by omega)) ⟨169 + 1, xd_39 (e0 := e) hL (by omega) hg htx (fun e' hs' ha' hc' => ?_) 169 0 e 1 (by omega) hs (fun _ _ _ _ => rfl) (Or.inr ⟨rfl, Nat.zero_le _⟩)⟩
    refine ih e' (by omega) hs' fun i h1 h2 r hr => ?_
    rcases Nat.lt_or_ge s i with z | z
    · exact xd_pres hs' (fun a m _ hm hm2 => ha' a m (by omega) (by omega)) (hc i z h2 r hr)
    · have e : i = s := by omega
      subst e
      exact hc' r hr
theorem xd_3 {post : Int32 → SX → Prop} (hL : L ≤ 13) (hg : gx_R lo n aL aN aS lh ln sy) (htx : ∀ i, i < L → aT i = nI (tx i) ∧ tx i < 4)
    (H : ∀ e, post (bz_I (dv_D n lh ln sy (tm_s o tx L) 0 0 L)) (xN, xT, xB, xR, xS, xE, xL, xA, xG, xC, xF, aL, aN, aS, aR, aM, aK, aT, e)) :
    ∀ d i e, i + d = 168 → (∀ c, c < i → e c = 0) → wX_derives_3 post (nI lo) (nI (lo + n)) (nI L) (cond o 1 0) xN xT xB xR xS xE xL xA xG xC xF (d + 1) (nI i) aL aN aS aR aM aK aT e := by
  intro d
  induction d with
  | zero =>
    intro i e hi he
    have ei : i = 168 := by omega
    subst ei
    have := xd_28 (o := o) (s := L + 1) hL hg htx H e (Nat.le_refl _) (fun a i j h => by
      rw [ex_E, he _ (by have := h.1; have := h.2.1; omega), b_0] at h
      exact absurd h.2.2 (by decide)) (fun i h1 h2 => by omega)
    rw [pk_m1] at this
    exact br_t (nI_le (a := 168) (Nat.le_refl _) (by decide)) ⟨_, this⟩
  | succ d ih =>
    intro i e hi he
    refine br_f (nI_ge (b := 168) (by omega) (by decide)) ⟨vp_in_nI (by omega) (by decide), nm_r (by rw [nI_clamp (by omega)]) (nm_r (nI_1 i) (ih (i + 1) _ (by omega) fun c hc => ?_))⟩
    by_cases z : c = i
    · subst z; exact pk_us
    · rw [pk_un z]; exact he c (by omega)
theorem xd_D {post : Int32 → SX → Prop} {p0 p1 p2 p3 : Int32} (lo n L : Nat) (o : Bool) (h0 : p0 = nI lo) (h1 : p1 = nI (lo + n)) (h2 : p2 = nI L) (h3 : p3 = cond o 1 0) {tx lh ln : Nat → Nat} {sy : Nat → Nat → Nat} (hL : L ≤ 13) (hg : gx_R lo n aL aN aS lh ln sy) (htx : ∀ i, i < L → aT i = nI (tx i) ∧ tx i < 4)
    (H : ∀ e, post (bz_I (dv_D n lh ln sy (tm_s o tx L) 0 0 L)) (xN, xT, xB, xR, xS, xE, xL, xA, xG, xC, xF, aL, aN, aS, aR, aM, aK, aT, e)) : wpX_derives post (xN, xT, xB, xR, xS, xE, xL, xA, xG, xC, xF, aL, aN, aS, aR, aM, aK, aT, aE) p0 p1 p2 p3 := by
  subst h0 h1 h2 h3
  exact ⟨168 + 1, xd_3 hL hg htx H 168 0 aE rfl (fun c hc => absurd hc (Nat.not_lt_zero c))⟩
end xds
/-- a mask, bit by bit -/
noncomputable def fo_M (P : Nat → Prop) : Nat → Int32
  | 0 => 0
  | t + 1 => @ite Int32 (P t) (Classical.propDecidable (P t)) (fo_M P t ||| ((1 : Int32) <<< (nI t &&& 31))) (fo_M P t)
theorem fo_t {P : Nat → Prop} {t : Nat} (h : P t) : fo_M P (t + 1) = fo_M P t ||| ((1 : Int32) <<< (nI t &&& 31)) := by rw [fo_M, if_pos h]
theorem fo_f {P : Nat → Prop} {t : Nat} (h : ¬ P t) : fo_M P (t + 1) = fo_M P t := by rw [fo_M, if_neg h]
/-- the text with t put behind it can be completed -/
def dq_P (m : Nat) (mh mn : Nat → Nat) (my : Nat → Nat → Nat) (tx : Nat → Nat) (L t : Nat) : Prop := dv_D m mh mn my (tm_s true (fun i => if i = L then t else tx i) (L + 1)) 0 0 (L + 1)
section xqs
variable {xN xT xB xR xS xE xL xA xG xC xF : Int32} {aL aN aS aR aM aK aT aE : Nat → Int32}
variable {n m L T : Nat} {tx lh ln mh mn : Nat → Nat} {sy my : Nat → Nat → Nat}
theorem xq_63 {post : SX → Prop} (hL : L ≤ 12) (hT : T ≤ 4) (hg : gx_R 8 m aL aN aS mh mn my)
    (H : ∀ aT' e, (∀ i, i < L → aT' i = nI (tx i) ∧ tx i < 4) → post (xN, nI T, xB, xR, xS, nI (8 + m), nI L, xA, xG, xC, fo_M (dq_P m mh mn my tx L) T, aL, aN, aS, aR, aM, aK, aT', e)) :
    ∀ d t aT e, t + d = T → (∀ i, i < L → aT i = nI (tx i) ∧ tx i < 4) → wX_answerQuestions_63 post (d + 1) (nI t) xN (nI T) xB xR xS (nI (8 + m)) (nI L) xA xG xC (fo_M (dq_P m mh mn my tx L) t) aL aN aS aR aM aK aT e := by
  intro d
  induction d with
  | zero =>
    intro t aT e ht hx
    have et : t = T := by omega
    subst et
    exact br_t (nI_le (Nat.le_refl _) (by omega)) (H aT e hx)
  | succ d ih =>
    intro t aT e ht hx
    have hx' : ∀ t' i, i < L → upd aT L t' i = nI (tx i) ∧ tx i < 4 := fun t' i hi => by rw [pk_un (by omega)]; exact hx i hi
    refine br_f (nI_ge (by omega) (by omega)) ⟨vp_in_nI (by omega) (by decide), nm_r (by rw [nI_clamp (by omega)]) ?_⟩
    refine xd_D 8 m (L + 1) true rfl rfl (nI_1 L) rfl (tx := fun i => if i = L then t else tx i) (by omega) hg (fun i hi => ?_) (fun e' => ?_)
    · by_cases z : i = L
      · subst z; rw [pk_us, if_pos rfl]; exact ⟨rfl, by omega⟩
      · rw [if_neg z]; exact hx' _ i (by omega)
    · refine bz_br (P := dq_P m mh mn my tx L t) rfl (fun z => ?_) (fun z => ?_)
      · have := ih (t + 1) (upd aT L (nI t)) e' (by omega) (hx' _)
        rw [fo_f z] at this
        exact nm_r (nI_1 t) this
      · have := ih (t + 1) (upd aT L (nI t)) e' (by omega) (hx' _)
        rw [fo_t z] at this
        exact nm_e (nm_r (nI_1 t) this)
theorem xq_A {post : SX → Prop} (hL : L ≤ 12) (hT : T ≤ 4) (hg0 : gx_R 0 n aL aN aS lh ln sy) (hg : gx_R 8 m aL aN aS mh mn my) (htx : ∀ i, i < L → aT i = nI (tx i) ∧ tx i < 4)
    (H : ∀ aT' e, (∀ i, i < L → aT' i = nI (tx i) ∧ tx i < 4) → post (xN, nI T, xB, nI n, xS, nI (8 + m), nI L, bz_I (dv_D m mh mn my (tm_s false tx L) 0 0 L), bz_I (dv_D n lh ln sy (tm_s false tx L) 0 0 L), bz_I (dv_D m mh mn my (tm_s true tx L) 0 0 L), fo_M (dq_P m mh mn my tx L) T, aL, aN, aS, aR, aM, aK, aT', e)) :
    wpX_answerQuestions post (xN, nI T, xB, nI n, xS, nI (8 + m), nI L, xA, xG, xC, xF, aL, aN, aS, aR, aM, aK, aT, aE) := by
  unfold wpX_answerQuestions
  refine xd_D 0 n L false rfl (by rw [Nat.zero_add]) rfl rfl (by omega) hg0 htx fun e1 => ⟨(bz_n _).1, (bz_n _).2, ?_⟩
  refine xd_D 8 m L false rfl rfl rfl rfl (by omega) hg htx fun e2 => ⟨(bz_n _).1, (bz_n _).2, ?_⟩
  refine xd_D 8 m L true rfl rfl rfl rfl (by omega) hg htx fun e3 => ⟨(bz_n _).1, (bz_n _).2, T + 1, ?_⟩
  exact xq_63 hL hT hg H T 0 aT e3 (by omega) htx
end xqs
end
section
/-! Y: one step, one rule -/
/-- a holds a set of numbers below N -/
def ya_R (a : Nat → Int32) (N : Nat) (P : Nat → Prop) : Prop := ∀ p, p < N → a p = bz_I (P p)
theorem ya_c {a : Nat → Int32} {N : Nat} {P Q : Nat → Prop} (h : ya_R a N P) (e : ∀ p, p < N → (P p ↔ Q p)) : ya_R a N Q := fun p hp => (h p hp).trans (bz_c (e p hp))
theorem ya_u {a : Nat → Int32} {N : Nat} {P : Nat → Prop} (h : ya_R a N P) (q : Nat) : ya_R (upd a q 1) N (fun p => P p ∨ p = q) := by
  intro p hp
  by_cases z : p = q
  · subst z; rw [pk_us, bz_t (Or.inr rfl)]
  · rw [pk_un z, h p hp]; exact bz_c ⟨Or.inl, fun y => y.elim id fun e => absurd e z⟩
theorem ya_0 {a : Nat → Int32} {N : Nat} {P : Nat → Prop} (h : ∀ p, p < N → a p = 0) (e : ∀ p, p < N → ¬ P p) : ya_R a N P := fun p hp => (h p hp).trans (bz_f (e p hp)).symm
/-- Y's code of a symbol -/
def cd_Y (s : Nat) : Int32 := if s < 12 then nI s else -1 - nI (s - 12)
theorem cd_n {s : Nat} (h : s < 12) : cd_Y s = nI s := if_pos h
theorem cd_t1 : ∀ s, s < 16 → 12 ≤ s → cd_Y s < 0 := by decide +kernel
theorem cd_t2 : ∀ s, s < 16 → 12 ≤ s → (-1) - cd_Y s = nI (s - 12) := by decide +kernel
theorem cd_t3 : ∀ s, s < 16 → 12 ≤ s → ¬ (0 : Int32) ≤ cd_Y s := by decide +kernel
theorem cd_n3 : ∀ s, s < 12 → (0 : Int32) ≤ cd_Y s := by decide +kernel
/-- der holds a relation on spans of the text -/
def yd_R (L : Nat) (d : Nat → Int32) (E : Nat → Nat → Nat → Prop) : Prop := ∀ a i j, a < 12 → i ≤ L → j ≤ L → d (a * 196 + i * 14 + j) = bz_I (E a i j)
theorem yd_ix (a i j : Nat) : nI a * 196 + nI i * 14 + nI j = nI (a * 196 + i * 14 + j) := by
  rw [show (14 : Int32) = nI 14 from rfl, show (196 : Int32) = nI 196 from rfl, pk_mul, pk_mul, nI_add, nI_add]
section yas
variable {yN yT yB yR yS yW yG yH yK yI : Int32} {bL bS bN bY bW bM bK bR gL gS gN gY kL kS kN kY bI bD bP bQ bC bX : Nat → Int32}
variable {L i j s : Nat} {tx : Nat → Nat} {E : Nat → Nat → Nat → Prop} {C : Nat → Prop}
theorem yv_157 {post : SY → Prop} {P : Nat → Prop} (hX : ya_R bX 14 P) (H : ∀ c, ya_R c 14 P → post (yN, yT, yB, yR, yS, yW, yG, yH, yK, yI, bL, bS, bN, bY, bW, bM, bK, bR, gL, gS, gN, gY, kL, kS, kN, kY, bI, bD, bP, bQ, c, bX)) :
    ∀ d p c, p + d = 14 → ya_R c p P → wY_advance_157 post yN yT yB yR yS yW yG yH yK yI (d + 1) (nI p) bL bS bN bY bW bM bK bR gL gS gN gY kL kS kN kY bI bD bP bQ c bX := by
  intro d
  induction d with
  | zero =>
    intro p c hp hc
    have e : p = 14 := by omega
    subst e
    exact br_t (nI_le (a := 14) (Nat.le_refl _) (by decide)) (H c hc)
  | succ d ih =>
    intro p c hp hc
    have hv := hX p (by omega)
    refine br_f (nI_ge (b := 14) (by omega) (by decide)) ⟨vp_in_nI (by omega) (by decide), vp_in_nI (by omega) (by decide), nm_r (e' := upd c p (bz_I (P p))) (by rw [nI_clamp (by omega), hv, bz_nar]) (nm_r (nI_1 p) (ih (p + 1) _ (by omega) fun q hq => ?_))⟩
    by_cases z : q = p
    · subst z; rw [pk_us]
    · rw [pk_un z]; exact hc q (by omega)
/-- one step from the places in C, all of them at or behind i, up to j -/
def yv_P (i j s : Nat) (C : Nat → Prop) (E T : Nat → Nat → Nat → Prop) (p q : Nat) : Prop := ∃ m, i ≤ m ∧ m < p ∧ C m ∧ q ≤ j ∧ dv_St E T s m q
theorem yv_s {T : Nat → Nat → Nat → Prop} {p q : Nat} (hp : i ≤ p) : yv_P i j s C E T (p + 1) q ↔ yv_P i j s C E T p q ∨ (C p ∧ q ≤ j ∧ dv_St E T s p q) := by
  constructor
  · rintro ⟨m, h1, h2, h3⟩
    rcases Nat.lt_or_ge m p with z | z
    · exact Or.inl ⟨m, h1, z, h3⟩
    · have e : m = p := by omega
      subst e
      exact Or.inr h3
  · rintro (⟨m, h1, h2, h3⟩ | h3)
    · exact ⟨m, h1, by omega, h3⟩
    · exact ⟨p, hp, by omega, h3⟩
theorem yv_93 {post : SY → Prop} {J27 : Int32 → (Nat → Int32) → (Nat → Int32) → (Nat → Int32) → (Nat → Int32) → (Nat → Int32) → (Nat → Int32) → (Nat → Int32) → (Nat → Int32) → (Nat → Int32) → (Nat → Int32) → (Nat → Int32) → (Nat → Int32) → (Nat → Int32) → (Nat → Int32) → (Nat → Int32) → (Nat → Int32) → (Nat → Int32) → (Nat → Int32) → (Nat → Int32) → (Nat → Int32) → (Nat → Int32) → (Nat → Int32) →  Prop} {p : Nat} {R : Nat → Prop} (hj : j ≤ L) (hL : L ≤ 13) (hp : p ≤ j) (hs : s < 12) (hD : yd_R L bD E)
    (hJ : ∀ x, ya_R x 14 (fun q => R q ∨ (p ≤ q ∧ q ≤ j ∧ E s p q)) → J27 (nI p + 1) bL bS bN bY bW bM bK bR gL gS gN gY kL kS kN kY bI bD bP bQ bC x) :
    ∀ d v x, v + d = j + 1 → p ≤ v → ya_R x 14 (fun q => R q ∨ (p ≤ q ∧ q < v ∧ E s p q)) → wY_advance_93 post J27 (nI s) (nI j) (nI p) yN yT yB yR yS yW yG yH yK yI (d + 1) (nI v) bL bS bN bY bW bM bK bR gL gS gN gY kL kS kN kY bI bD bP bQ bC x := by
  intro d
  induction d with
  | zero =>
    intro v x hv _ hx
    have e : v = j + 1 := by omega
    subst e
    exact br_t (nI_lt (by omega) (by omega)) (nm_e (hJ x (ya_c hx fun q _ => ⟨fun h => h.imp id fun ⟨a, b, c⟩ => ⟨a, by omega, c⟩, fun h => h.imp id fun ⟨a, b, c⟩ => ⟨a, by omega, c⟩⟩)))
  | succ d ih =>
    intro v x hv hpv hx
    refine br_f (nI_nlt (by omega) (by omega)) (br_f (nI_ge (b := 14) (by omega) (by decide)) (br_f (nI_ge (b := 12) hs (by decide)) ⟨pk_in (s * 196 + p * 14 + v) 2352 (by omega) (yd_ix s p v), ?_⟩))
    refine bz_br (P := E s p v) (by rw [yd_ix, nI_clamp (by omega)]; exact hD s p v hs (by omega) (by omega)) (fun z => ?_) (fun z => ⟨vp_in_nI (by omega) (by decide), nm_r (e' := upd x v 1) (by rw [nI_clamp (by omega)]; rfl) ?_⟩)
    · refine nm_r (nI_1 v) (ih (v + 1) x (by omega) (by omega) (ya_c hx fun q _ => or_congr Iff.rfl ⟨fun ⟨a, b, c⟩ => ⟨a, by omega, c⟩, fun ⟨a, b, c⟩ => ⟨a, ?_, c⟩⟩))
      rcases Nat.lt_or_ge q v with y | y
      · exact y
      · have e : q = v := by omega
        subst e
        exact absurd c z
    · refine nm_r (nI_1 v) (ih (v + 1) _ (by omega) (by omega) (ya_c (ya_u hx v) fun q _ => ?_))
      constructor
      · rintro ((h | ⟨a, b, c⟩) | h)
        · exact Or.inl h
        · exact Or.inr ⟨a, by omega, c⟩
        · subst h; exact Or.inr ⟨hpv, by omega, z⟩
      · rintro (h | ⟨a, b, c⟩)
        · exact Or.inl (Or.inl h)
        · rcases Nat.lt_or_ge q v with y | y
          · exact Or.inl (Or.inr ⟨a, y, c⟩)
          · exact Or.inr (by omega)
theorem yv_27 {post : SY → Prop} (hj : j ≤ L) (hL : L ≤ 13) (hs : s < 16) (hD : yd_R L bD E) (hE : ∀ a i j, E a i j → i ≤ j) (hI : ∀ p, p < L → bI p = nI (tx p) ∧ tx p < 4) (hC : ya_R bC 14 C)
    (H : ∀ c x, ya_R c 14 (yv_P i j s C E (tm_s false tx L) (j + 1)) → post (yN, yT, yB, yR, yS, yW, yG, yH, yK, yI, bL, bS, bN, bY, bW, bM, bK, bR, gL, gS, gN, gY, kL, kS, kN, kY, bI, bD, bP, bQ, c, x)) :
    ∀ d p x, p + d = j + 1 → i ≤ p → ya_R x 14 (yv_P i j s C E (tm_s false tx L) p) → wY_advance_27 post (cd_Y s) (nI j) yN yT yB yR yS yW yG yH yK yI (d + 1) (nI p) bL bS bN bY bW bM bK bR gL gS gN gY kL kS kN kY bI bD bP bQ bC x := by
  intro d
  induction d with
  | zero =>
    intro p x hp hi hx
    have e : p = j + 1 := by omega
    subst e
    exact br_t (nI_lt (by omega) (by omega)) ⟨14 + 1, yv_157 hx (fun c hc => H c x hc) 14 0 bC (by omega) (fun q hq => absurd hq (Nat.not_lt_zero q))⟩
  | succ d ih =>
    intro p x hp hi hx
    have nx : (∀ q, q < 14 → ¬ (C p ∧ q ≤ j ∧ dv_St E (tm_s false tx L) s p q)) → wY_advance_27 post (cd_Y s) (nI j) yN yT yB yR yS yW yG yH yK yI (d + 1) (nI (p + 1)) bL bS bN bY bW bM bK bR gL gS gN gY kL kS kN kY bI bD bP bQ bC x := fun z =>
      ih (p + 1) x (by omega) (by omega) (ya_c hx fun q hq => ⟨fun h => (yv_s hi).mpr (Or.inl h), fun h => ((yv_s hi).mp h).elim id fun y => absurd y (z q hq)⟩)
    refine br_f (nI_nlt (by omega) (by omega)) (br_f (nI_ge (b := 14) (by omega) (by decide)) ⟨vp_in_nI (by omega) (by decide), bz_br (P := C p) (by rw [nI_clamp (by omega)]; exact hC p (by omega)) (fun z => nm_r (nI_1 p) (nx fun q _ h => z h.1)) (fun hc => ?_)⟩)
    rcases Nat.lt_or_ge s 12 with z | z
    · refine br_t (cd_n3 s z) ⟨j + 1 - p + 1, ?_⟩
      rw [cd_n z]
      refine yv_93 (R := yv_P i j s C E (tm_s false tx L) p) hj hL (by omega) z hD (fun x' hx' => ?_) (j + 1 - p) p x (by omega) (Nat.le_refl p) (ya_c hx fun q _ => ⟨Or.inl, fun h => h.elim id fun y => by omega⟩)
      rw [← cd_n z, nI_1]
      refine ih (p + 1) x' (by omega) (by omega) (ya_c hx' fun q _ => Iff.trans (or_congr Iff.rfl ?_) (yv_s hi).symm)
      exact ⟨fun h => ⟨hc, h.2.1, Or.inl ⟨z, h.2.2⟩⟩, fun h => ⟨h.2.2.elim (fun y => hE _ _ _ y.2) (fun y => by omega), h.2.1, h.2.2.elim (fun y => y.2) (fun y => by omega)⟩⟩
    · refine br_f (cd_t3 s hs z) (pk_le j p (fun y => nm_r (nI_1 p) (nx fun q _ h => ?_)) (fun y => ⟨vp_in_nI (by omega) (by decide), ?_⟩))
      · have hqj := h.2.1
        rcases h.2.2 with ⟨h1, _⟩ | ⟨_, (⟨_, h2, _⟩ | ⟨h1, _⟩)⟩
        · omega
        · omega
        · exact absurd h1 (by decide)
      · have hIp := hI p (by omega)
        refine pk_eq (tx p) (s - 12) (fun e => ⟨pk_in (p + 1) 14 (by omega) (nI_1 p), nm_r (e' := upd x (p + 1) 1) (by rw [nI_1, nI_clamp (by omega)]; rfl) (nm_r (nI_1 p) ?_)⟩) (fun e => nm_r (nI_1 p) (nx fun q _ h => ?_)) (by rw [nI_clamp (by omega)]; exact hIp.1) (cd_t2 s hs z) (by omega) (by omega)
        · refine ih (p + 1) _ (by omega) (by omega) (ya_c (ya_u hx (p + 1)) fun q _ => Iff.trans (or_congr Iff.rfl ?_) (yv_s hi).symm)
          constructor
          · intro h; subst h; exact ⟨hc, by omega, Or.inr ⟨z, Or.inl ⟨by omega, rfl, e⟩⟩⟩
          · rintro ⟨_, _, (⟨h1, _⟩ | ⟨_, (⟨_, h2, _⟩ | ⟨h2, _⟩)⟩)⟩
            · omega
            · exact h2
            · exact absurd h2 (by decide)
        · rcases h.2.2 with ⟨h1, _⟩ | ⟨_, ⟨_, _, h2⟩ | ⟨h2, _⟩⟩
          · omega
          · exact e h2
          · exact absurd h2 (by decide)
theorem yv_3 {post : SY → Prop} (hij : i ≤ j) (hj : j ≤ L) (hL : L ≤ 13) (hs : s < 16) (hD : yd_R L bD E) (hE : ∀ a i j, E a i j → i ≤ j) (hI : ∀ p, p < L → bI p = nI (tx p) ∧ tx p < 4) (hC : ya_R bC 14 C)
    (H : ∀ c x, ya_R c 14 (yv_P i j s C E (tm_s false tx L) (j + 1)) → post (yN, yT, yB, yR, yS, yW, yG, yH, yK, yI, bL, bS, bN, bY, bW, bM, bK, bR, gL, gS, gN, gY, kL, kS, kN, kY, bI, bD, bP, bQ, c, x)) :
    ∀ d p x, p + d = 14 → (∀ q, q < p → x q = 0) → wY_advance_3 post (cd_Y s) (nI i) (nI j) yN yT yB yR yS yW yG yH yK yI (d + 1) (nI p) bL bS bN bY bW bM bK bR gL gS gN gY kL kS kN kY bI bD bP bQ bC x := by
  intro d
  induction d with
  | zero =>
    intro p x hp hx
    have e : p = 14 := by omega
    subst e
    exact br_t (nI_le (a := 14) (Nat.le_refl _) (by decide)) ⟨j + 1 - i + 1, yv_27 hj hL hs hD hE hI hC H (j + 1 - i) i x (by omega) (Nat.le_refl i) (ya_0 hx fun q _ => fun ⟨m, h1, h2, _⟩ => by omega)⟩
  | succ d ih =>
    intro p x hp hx
    refine br_f (nI_ge (b := 14) (by omega) (by decide)) ⟨vp_in_nI (by omega) (by decide), nm_r (e' := upd x p 0) (by rw [nI_clamp (by omega)]; rfl) (nm_r (nI_1 p) (ih (p + 1) _ (by omega) fun q hq => ?_))⟩
    by_cases z : q = p
    · subst z; exact pk_us
    · rw [pk_un z]; exact hx q (by omega)
theorem yv_A {post : SY → Prop} (hij : i ≤ j) (hj : j ≤ L) (hL : L ≤ 13) (hs : s < 16) (hD : yd_R L bD E) (hE : ∀ a i j, E a i j → i ≤ j) (hI : ∀ p, p < L → bI p = nI (tx p) ∧ tx p < 4) (hC : ya_R bC 14 C)
    (H : ∀ c x, ya_R c 14 (yv_P i j s C E (tm_s false tx L) (j + 1)) → post (yN, yT, yB, yR, yS, yW, yG, yH, yK, yI, bL, bS, bN, bY, bW, bM, bK, bR, gL, gS, gN, gY, kL, kS, kN, kY, bI, bD, bP, bQ, c, x)) : wpY_advance post (yN, yT, yB, yR, yS, yW, yG, yH, yK, yI, bL, bS, bN, bY, bW, bM, bK, bR, gL, gS, gN, gY, kL, kS, kN, kY, bI, bD, bP, bQ, bC, bX) (cd_Y s) (nI i) (nI j) :=
  ⟨14 + 1, yv_3 hij hj hL hs hD hE hI hC H 14 0 bX (by omega) (fun q hq => absurd hq (Nat.not_lt_zero q))⟩
end yas
/-- Y's k-tables represent a grammar of n rules, rule r's symbols from st r on -/
def gy_R (n : Nat) (kL kS kN kY : Nat → Int32) (st lh ln : Nat → Nat) (sy : Nat → Nat → Nat) : Prop :=
  n ≤ 32 ∧ ∀ r, r < n → kL r = nI (lh r) ∧ lh r < 12 ∧ kS r = nI (st r) ∧ kN r = nI (ln r) ∧ st r + ln r ≤ 32 ∧ ∀ k, k < ln r → kY (st r + k) = cd_Y (sy r k) ∧ sy r k < 16
section yrs
variable {yN yT yB yR yS yW yG yH yK yI : Int32} {bL bS bN bY bW bM bK bR gL gS gN gY kL kS kN kY bI bD bP bQ bC bX : Nat → Int32}
variable {n L i j r : Nat} {tx st lh ln : Nat → Nat} {sy : Nat → Nat → Nat} {E : Nat → Nat → Nat → Prop}
/-- a step of the advance, seen from the path -/
theorem yr_s {Q : Nat → Nat → Nat → Prop} {C : Nat → Prop} {k s p : Nat} {T : Nat → Nat → Nat → Prop} (hE : ∀ a i j, E a i j → i ≤ j) (hT : ∀ t i j, T t i j → i ≤ j) (hQ : ∀ k m q, Q k m q → m ≤ q) (hk : ∀ m q, Q k m q ↔ dv_St E T s m q) (hC : ∀ m, m ≤ j → (C m ↔ dv_P Q i k m)) : (yv_P i j s C E T (j + 1) p) ↔ (dv_P Q i (k + 1) p ∧ p ≤ j) := by
  constructor
  · rintro ⟨m, h1, h2, h3, h4, h5⟩
    exact ⟨⟨m, (hC m (by omega)).mp h3, (hk m p).mpr h5⟩, h4⟩
  · rintro ⟨⟨m, h1, h2⟩, h4⟩
    have hm := hQ k m p h2
    exact ⟨m, dv_P_le hQ k m h1, by omega, (hC m (by omega)).mpr h1, h4, (hk m p).mp h2⟩
theorem yr_34 {post : Int32 → SY → Prop} (hij : i ≤ j) (hj : j ≤ L) (hL : L ≤ 13) (hg : gy_R n kL kS kN kY st lh ln sy) (hr : r < n) (hD : yd_R L bD E) (hE : ∀ a i j, E a i j → i ≤ j) (hI : ∀ p, p < L → bI p = nI (tx p) ∧ tx p < 4)
    (H : ∀ c x, post (bz_I (dv_P (fun k => dv_St E (tm_s false tx L) (sy r k)) i (ln r) j)) (yN, yT, yB, yR, yS, yW, yG, yH, yK, yI, bL, bS, bN, bY, bW, bM, bK, bR, gL, gS, gN, gY, kL, kS, kN, kY, bI, bD, bP, bQ, c, x)) :
    ∀ d k c x, k + d = ln r → ya_R c 14 (fun p => dv_P (fun k => dv_St E (tm_s false tx L) (sy r k)) i k p ∧ p ≤ j) → wY_rhsDerives_34 post (nI r) (nI i) (nI j) (d + 1) (nI k) yN yT yB yR yS yW yG yH yK yI bL bS bN bY bW bM bK bR gL gS gN gY kL kS kN kY bI bD bP bQ c x := by
  obtain ⟨hn, hg⟩ := hg
  obtain ⟨_, _, hS, hN, hl, hY⟩ := hg r hr
  have eN : kN (nI r).toNatClampNeg = nI (ln r) := by rw [nI_clamp (by omega)]; exact hN
  have eS : ∀ k, kS (nI r).toNatClampNeg + nI k = nI (st r + k) := fun k => by rw [nI_clamp (by omega), hS, nI_add]
  intro d
  induction d with
  | zero =>
    intro k c x hk hc
    have e : k = ln r := by omega
    subst e
    have hv : c (nI j).toNatClampNeg = bz_I (dv_P (fun k => dv_St E (tm_s false tx L) (sy r k)) i (ln r) j) := by
      rw [nI_clamp (by omega), hc j (by omega)]
      exact bz_c ⟨And.left, fun h => ⟨h, Nat.le_refl j⟩⟩
    refine ⟨vp_in_nI (by omega) (by decide), br_t (by rw [eN]; exact nI_le (Nat.le_refl _) (by omega)) ⟨vp_in_nI (by omega) (by decide), ?_⟩⟩
    rw [hv]
    exact ⟨(bz_n _).1, H c x⟩
  | succ d ih =>
    intro k c x hk hc
    have hs := hY k (by omega)
    refine ⟨vp_in_nI (by omega) (by decide), br_f (by rw [eN]; exact nI_ge (by omega) (by omega)) ⟨vp_in_nI (by omega) (by decide), nm_r (eS k) (br_f (nI_pos (by omega)) (br_f (nI_ge (b := 32) (by omega) (by decide)) ⟨vp_in_nI (by omega) (by decide), ?_⟩))⟩⟩
    rw [nI_clamp (by omega), hs.1]
    refine yv_A hij hj hL hs.2 hD hE hI hc fun c' x' hc' => nm_r (nI_1 k) (ih (k + 1) c' x' (by omega) (ya_c hc' fun p _ => ?_))
    exact yr_s hE tm_le (fun k m q s => dv_St_le hE tm_le s) (fun _ _ => Iff.rfl) (fun m hm => ⟨And.left, fun h => ⟨h, hm⟩⟩)
theorem yr_3 {post : Int32 → SY → Prop} (hij : i ≤ j) (hj : j ≤ L) (hL : L ≤ 13) (hg : gy_R n kL kS kN kY st lh ln sy) (hr : r < n) (hD : yd_R L bD E) (hE : ∀ a i j, E a i j → i ≤ j) (hI : ∀ p, p < L → bI p = nI (tx p) ∧ tx p < 4)
    (H : ∀ c x, post (bz_I (dv_P (fun k => dv_St E (tm_s false tx L) (sy r k)) i (ln r) j)) (yN, yT, yB, yR, yS, yW, yG, yH, yK, yI, bL, bS, bN, bY, bW, bM, bK, bR, gL, gS, gN, gY, kL, kS, kN, kY, bI, bD, bP, bQ, c, x)) :
    ∀ d p c, p + d = 14 → (∀ q, q < p → c q = 0) → wY_rhsDerives_3 post (nI r) (nI i) (nI j) yN yT yB yR yS yW yG yH yK yI (d + 1) (nI p) bL bS bN bY bW bM bK bR gL gS gN gY kL kS kN kY bI bD bP bQ c bX := by
  intro d
  induction d with
  | zero =>
    intro p c hp hc
    have e : p = 14 := by omega
    subst e
    refine br_t (nI_le (a := 14) (Nat.le_refl _) (by decide)) ⟨vp_in_nI (by omega) (by decide), nm_r (e' := upd c i 1) (by rw [nI_clamp (by omega)]; rfl) ⟨ln r + 1, yr_34 hij hj hL hg hr hD hE hI H (ln r) 0 _ bX (by omega) ?_⟩⟩
    refine ya_c (ya_u (P := fun _ => False) (ya_0 hc fun _ _ z => z) i) fun q _ => ?_
    constructor
    · rintro (h | h)
      · exact h.elim
      · subst h; exact ⟨rfl, hij⟩
    · rintro ⟨h, _⟩
      exact Or.inr h.symm
  | succ d ih =>
    intro p c hp hc
    refine br_f (nI_ge (b := 14) (by omega) (by decide)) ⟨vp_in_nI (by omega) (by decide), nm_r (e' := upd c p 0) (by rw [nI_clamp (by omega)]; rfl) (nm_r (nI_1 p) (ih (p + 1) _ (by omega) fun q hq => ?_))⟩
    by_cases z : q = p
    · subst z; exact pk_us
    · rw [pk_un z]; exact hc q (by omega)
theorem yr_R {post : Int32 → SY → Prop} (hij : i ≤ j) (hj : j ≤ L) (hL : L ≤ 13) (hg : gy_R n kL kS kN kY st lh ln sy) (hr : r < n) (hD : yd_R L bD E) (hE : ∀ a i j, E a i j → i ≤ j) (hI : ∀ p, p < L → bI p = nI (tx p) ∧ tx p < 4)
    (H : ∀ c x, post (bz_I (dv_P (fun k => dv_St E (tm_s false tx L) (sy r k)) i (ln r) j)) (yN, yT, yB, yR, yS, yW, yG, yH, yK, yI, bL, bS, bN, bY, bW, bM, bK, bR, gL, gS, gN, gY, kL, kS, kN, kY, bI, bD, bP, bQ, c, x)) : wpY_rhsDerives post (yN, yT, yB, yR, yS, yW, yG, yH, yK, yI, bL, bS, bN, bY, bW, bM, bK, bR, gL, gS, gN, gY, kL, kS, kN, kY, bI, bD, bP, bQ, bC, bX) (nI r) (nI i) (nI j) :=
  ⟨14 + 1, yr_3 hij hj hL hg hr hD hE hI H 14 0 bC (by omega) (fun q hq => absurd hq (Nat.not_lt_zero q))⟩
end yrs
end
section
/-! Y: the spans -/
section yds
variable {yN yT yB yR yS yW yG yH yK yI : Int32} {bL bS bN bY bW bM bK bR gL gS gN gY kL kS kN kY bI bD bP bQ bC bX : Nat → Int32}
variable {n L i j : Nat} {tx st lh ln : Nat → Nat} {sy : Nat → Nat → Nat} {E0 : Nat → Nat → Nat → Prop}
/-- rule r adds nothing at the span from i to j -/
def ye_c (lh ln : Nat → Nat) (sy : Nat → Nat → Nat) (T E : Nat → Nat → Nat → Prop) (i j r : Nat) : Prop := dv_P (fun k => dv_St E T (sy r k)) i (ln r) j → E (lh r) i j
/-- the invariant of a span's passes -/
def ye_I (n L : Nat) (lh ln : Nat → Nat) (sy : Nat → Nat → Nat) (T : Nat → Nat → Nat → Prop) (E0 : Nat → Nat → Nat → Prop) (i j : Nat) (d : Nat → Int32) (E : Nat → Nat → Nat → Prop) : Prop :=
  yd_R L d E ∧ (∀ a m q, E a m q → dv_D n lh ln sy T a m q) ∧ (∀ a m q, ¬ (m = i ∧ q = j) → (E a m q ↔ E0 a m q))
theorem ye_u {E : Nat → Nat → Nat → Prop} {a : Nat} (hL : L ≤ 13) (ha : a < 12) (hi : i ≤ L) (hj : j ≤ L) (hD : yd_R L bD E) : yd_R L (upd bD (a * 196 + i * 14 + j) 1) (fun b m q => E b m q ∨ (b = a ∧ m = i ∧ q = j)) := by
  intro b m q hb hm hq
  by_cases z : b * 196 + m * 14 + q = a * 196 + i * 14 + j
  · have e1 : b = a := by omega
    have e2 : m = i := by omega
    have e3 : q = j := by omega
    rw [z, pk_us, bz_t (Or.inr ⟨e1, e2, e3⟩)]
  · rw [pk_un z, hD b m q hb hm hq]
    exact bz_c ⟨Or.inl, fun h => h.elim id fun ⟨x, y, w⟩ => by subst x y w; exact absurd rfl z⟩
theorem ye_14 {post : SY → Prop} {J2 : Int32 → Int32 → Int32 → Int32 → Int32 → Int32 → Int32 → Int32 → Int32 → Int32 → Int32 → (Nat → Int32) → (Nat → Int32) → (Nat → Int32) → (Nat → Int32) → (Nat → Int32) → (Nat → Int32) → (Nat → Int32) → (Nat → Int32) → (Nat → Int32) → (Nat → Int32) → (Nat → Int32) → (Nat → Int32) → (Nat → Int32) → (Nat → Int32) → (Nat → Int32) → (Nat → Int32) → (Nat → Int32) → (Nat → Int32) → (Nat → Int32) → (Nat → Int32) → (Nat → Int32) → (Nat → Int32) →  Prop} (x3 : Int32) {Ep : Nat → Nat → Nat → Prop} (hij : i ≤ j) (hj : j ≤ L) (hL : L ≤ 13) (hg : gy_R n kL kS kN kY st lh ln sy) (hI : ∀ p, p < L → bI p = nI (tx p) ∧ tx p < 4)
    (hJ0 : ∀ d E c x, ye_I n L lh ln sy (tm_s false tx L) E0 i j d E → (∀ r, r < n → ye_c lh ln sy (tm_s false tx L) E i j r) → post (yN, yT, yB, yR, yS, yW, yG, yH, nI n, nI L, bL, bS, bN, bY, bW, bM, bK, bR, gL, gS, gN, gY, kL, kS, kN, kY, bI, d, bP, bQ, c, x))
    (hJ1 : ∀ d E c x, ye_I n L lh ln sy (tm_s false tx L) E0 i j d E → cn (fun a => Ep a i j) 12 < cn (fun a => E a i j) 12 → J2 (x3 + 1) yN yT yB yR yS yW yG yH (nI n) (nI L) bL bS bN bY bW bM bK bR gL gS gN gY kL kS kN kY bI d bP bQ c x) :
    ∀ w r d E c x x4, r + w = n → ye_I n L lh ln sy (tm_s false tx L) E0 i j d E → ((x4 = 0 ∧ E = Ep ∧ ∀ r', r' < r → ye_c lh ln sy (tm_s false tx L) E i j r') ∨ (x4 = 1 ∧ cn (fun a => Ep a i j) 12 < cn (fun a => E a i j) 12)) →
      wY_fillSpan_14 post J2 (nI i) (nI j) x3 (w + 1) x4 (nI r) yN yT yB yR yS yW yG yH (nI n) (nI L) bL bS bN bY bW bM bK bR gL gS gN gY kL kS kN kY bI d bP bQ c x := by
  have hn := hg.1
  intro w
  induction w with
  | zero =>
    intro r d E c x x4 hr hE hx
    have e : r = n := by omega
    subst e
    refine br_t (nI_le (Nat.le_refl _) (by omega)) ?_
    rcases hx with ⟨h, he, h2⟩ | ⟨h, h2⟩
    · subst h; exact br_t rfl (hJ0 d E c x hE h2)
    · subst h; exact br_f (by decide) (nm_e (hJ1 d E c x hE h2))
  | succ w ih =>
    intro r d E c x x4 hr hE hx
    have hl := hg.2 r (by omega)
    have h12 := hl.2.1
    obtain ⟨hD, hs, ha⟩ := hE
    have hle : ∀ a i j, E a i j → i ≤ j := fun a i j h => dv_D_le tm_le (hs a i j h)
    refine br_f (nI_ge (by omega) (by omega)) ⟨vp_in_nI (by omega) (by decide), nm_r (e' := nI (lh r * 196 + i * 14 + j)) (by rw [nI_clamp (by omega), hl.1, yd_ix]) ⟨vp_in_nI (by omega) (by decide), ?_⟩⟩
    refine bz_br (P := E (lh r) i j) (by rw [nI_clamp (by omega)]; exact hD (lh r) i j h12 (by omega) hj) (fun z => ?_) (fun z => ?_)
    · refine yr_R hij hj hL hg (by omega) hD hle hI fun c' x' => bz_br rfl (fun z2 => ?_) (fun z2 => ⟨vp_in_nI (by omega) (by decide), nm_r (e' := upd d (lh r * 196 + i * 14 + j) 1) (by rw [nI_clamp (by omega)]; rfl) ?_⟩)
      · refine nm_r (nI_1 r) (ih (r + 1) d E c' x' x4 (by omega) ⟨hD, hs, ha⟩ (hx.imp (fun h => ⟨h.1, h.2.1, fun r' hr' => ?_⟩) id))
        rcases Nat.lt_or_ge r' r with y | y
        · exact h.2.2 r' y
        · have e : r' = r := by omega
          subst e
          exact fun hp => absurd hp z2
      · have hcn : cn (fun a => E a i j) 12 < cn (fun a => E a i j ∨ (a = lh r ∧ i = i ∧ j = j)) 12 := cn_lt (a := lh r) z (Or.inr ⟨rfl, rfl, rfl⟩) (fun _ _ h => Or.inl h) h12
        refine nm_r (nI_1 r) (ih (r + 1) _ (fun b m q => E b m q ∨ (b = lh r ∧ m = i ∧ q = j)) c' x' 1 (by omega) ⟨ye_u hL h12 (by omega) hj hD, ?_, ?_⟩ (Or.inr ⟨rfl, ?_⟩))
        · rintro a m q (h | ⟨h1, h2, h3⟩)
          · exact hs a m q h
          · subst h1 h2 h3
            exact dv_cl r m q (by omega) (dv_P_mono _ _ (fun k m q _ => dv_St_mono (fun _ y => hs _ _ _ y) (fun _ t => t)) z2)
        · intro a m q h
          refine Iff.trans ⟨fun y => y.elim id fun y => absurd y.2 h, Or.inl⟩ (ha a m q h)
        · rcases hx with h | h
          · rw [← h.2.1]; exact hcn
          · exact Nat.lt_trans h.2 hcn
    · refine nm_r (nI_1 r) (ih (r + 1) d E c x x4 (by omega) ⟨hD, hs, ha⟩ (hx.imp (fun h => ⟨h.1, h.2.1, fun r' hr' => ?_⟩) id))
      rcases Nat.lt_or_ge r' r with y | y
      · exact h.2.2 r' y
      · have e : r' = r := by omega
        subst e
        exact fun _ => z
theorem ye_2 {post : SY → Prop} (hij : i ≤ j) (hj : j ≤ L) (hL : L ≤ 13) (hg : gy_R n kL kS kN kY st lh ln sy) (hI : ∀ p, p < L → bI p = nI (tx p) ∧ tx p < 4)
    (hJ0 : ∀ d E c x, ye_I n L lh ln sy (tm_s false tx L) E0 i j d E → (∀ r, r < n → ye_c lh ln sy (tm_s false tx L) E i j r) → post (yN, yT, yB, yR, yS, yW, yG, yH, nI n, nI L, bL, bS, bN, bY, bW, bM, bK, bR, gL, gS, gN, gY, kL, kS, kN, kY, bI, d, bP, bQ, c, x)) :
    ∀ w p d E c x, p + w = 13 → ye_I n L lh ln sy (tm_s false tx L) E0 i j d E → p ≤ cn (fun a => E a i j) 12 →
      wY_fillSpan_2 post (nI i) (nI j) (w + 1) (nI p) yN yT yB yR yS yW yG yH (nI n) (nI L) bL bS bN bY bW bM bK bR gL gS gN gY kL kS kN kY bI d bP bQ c x := by
  intro w
  induction w with
  | zero =>
    intro p d E c x hp hE hc
    have := cn_le (fun a => E a i j) 12
    omega
  | succ w ih =>
    intro p d E c x hp hE hc
    refine br_f (nI_ge (b := 13) (by omega) (by decide)) ⟨n + 1, ye_14 (Ep := E) (nI p) hij hj hL hg hI hJ0 (fun d' E' c' x' hE' hc' => ?_) n 0 d E c x 0 (by omega) hE (Or.inl ⟨rfl, rfl, fun r' hr' => absurd hr' (Nat.not_lt_zero r')⟩)⟩
    rw [nI_1]
    exact ih (p + 1) d' E' c' x' (by omega) hE' (by omega)
theorem ye_F {post : SY → Prop} (hij : i ≤ j) (hj : j ≤ L) (hL : L ≤ 13) (hg : gy_R n kL kS kN kY st lh ln sy) (hI : ∀ p, p < L → bI p = nI (tx p) ∧ tx p < 4) (hE : ye_I n L lh ln sy (tm_s false tx L) E0 i j bD E0)
    (hJ0 : ∀ d E c x, ye_I n L lh ln sy (tm_s false tx L) E0 i j d E → (∀ r, r < n → ye_c lh ln sy (tm_s false tx L) E i j r) → post (yN, yT, yB, yR, yS, yW, yG, yH, nI n, nI L, bL, bS, bN, bY, bW, bM, bK, bR, gL, gS, gN, gY, kL, kS, kN, kY, bI, d, bP, bQ, c, x)) : wpY_fillSpan post (yN, yT, yB, yR, yS, yW, yG, yH, nI n, nI L, bL, bS, bN, bY, bW, bM, bK, bR, gL, gS, gN, gY, kL, kS, kN, kY, bI, bD, bP, bQ, bC, bX) (nI i) (nI j) :=
  ⟨13 + 1, ye_2 hij hj hL hg hI hJ0 13 0 bD E0 bC bX (by omega) hE (Nat.zero_le _)⟩
/-- closed at every span that comes before (l, i): shorter, or as long and further left -/
def ye_B (n L : Nat) (lh ln : Nat → Nat) (sy : Nat → Nat → Nat) (T : Nat → Nat → Nat → Prop) (l i : Nat) (d : Nat → Int32) (E : Nat → Nat → Nat → Prop) : Prop :=
  yd_R L d E ∧ (∀ a m q, E a m q → dv_D n lh ln sy T a m q) ∧ ∀ m q, m ≤ q → q ≤ L → (q < m + l ∨ (q = m + l ∧ m < i)) → ∀ r, r < n → ye_c lh ln sy T E m q r
theorem ye_st {d d' : Nat → Int32} {E E' : Nat → Nat → Nat → Prop} {l : Nat} (hB : ye_B n L lh ln sy (tm_s false tx L) l i d E) (hI : ye_I n L lh ln sy (tm_s false tx L) E i (i + l) d' E') (hc : ∀ r, r < n → ye_c lh ln sy (tm_s false tx L) E' i (i + l) r) : ye_B n L lh ln sy (tm_s false tx L) l (i + 1) d' E' := by
  obtain ⟨_, _, hB⟩ := hB
  obtain ⟨hD, hs, ha⟩ := hI
  refine ⟨hD, hs, fun m q hm hq h r hr => ?_⟩
  by_cases z : m = i ∧ q = i + l
  · obtain ⟨z1, z2⟩ := z
    subst z1 z2
    exact hc r hr
  · intro hp
    have mo : ∀ k m q, dv_St E' (tm_s false tx L) (sy r k) m q → m ≤ q := fun k m q s => dv_St_le (fun a i j h => dv_D_le tm_le (hs a i j h)) tm_le s
    refine (ha _ m q z).mpr (hB m q hm hq (by omega) r hr ?_)
    refine dv_P_mono _ _ (fun k m' q' _ s => ?_) (dv_P_in mo (ln r) q hp (Nat.le_refl q))
    exact dv_St_mono (fun _ y => (ha _ m' q' (fun w => by have := s.2.1; have := s.2.2.2; omega)).mp y) (fun _ t => t) s.1
theorem ye_fin {d : Nat → Int32} {E : Nat → Nat → Nat → Prop} (hB : ye_B n L lh ln sy (tm_s false tx L) (L + 1) 0 d E) : yd_R L d (dv_D n lh ln sy (tm_s false tx L)) := by
  obtain ⟨hD, hs, hc⟩ := hB
  have key : ∀ a i j, dv_D n lh ln sy (tm_s false tx L) a i j → i ≤ L → E a i j := by
    intro a i j dd
    refine dd (fun a i j => i ≤ L → E a i j) (fun r i j hr h hi => ?_)
    have mo : ∀ k m q, dv_St E (tm_s false tx L) (sy r k) m q → m ≤ q := fun k m q s => dv_St_le (fun a i j h => dv_D_le tm_le (hs a i j h)) tm_le s
    obtain ⟨h1, h2⟩ := dv_P_up (L := L) (Q' := fun k => dv_St E (tm_s false tx L) (sy r k)) (fun k m q hm s => by
      rcases s with ⟨z, b⟩ | ⟨z, b⟩
      · exact ⟨Or.inl ⟨z, b hm⟩, dv_D_bd tm_bd (hs _ _ _ (b hm)) hm⟩
      · exact ⟨Or.inr ⟨z, b⟩, tm_bd _ _ _ b⟩) hi (ln r) j h
    exact hc i j (dv_P_le mo _ _ h1) h2 (Or.inl (by omega)) r hr h1
  intro a i j ha hi hj
  exact (hD a i j ha hi hj).trans (bz_c ⟨hs a i j, fun x => key a i j x hi⟩)
theorem ye_34 {post : SY → Prop} {J24 : Int32 → Int32 → Int32 → Int32 → Int32 → Int32 → Int32 → Int32 → Int32 → Int32 → Int32 → (Nat → Int32) → (Nat → Int32) → (Nat → Int32) → (Nat → Int32) → (Nat → Int32) → (Nat → Int32) → (Nat → Int32) → (Nat → Int32) → (Nat → Int32) → (Nat → Int32) → (Nat → Int32) → (Nat → Int32) → (Nat → Int32) → (Nat → Int32) → (Nat → Int32) → (Nat → Int32) → (Nat → Int32) → (Nat → Int32) → (Nat → Int32) → (Nat → Int32) → (Nat → Int32) → (Nat → Int32) →  Prop} {l : Nat} (hl : l ≤ L) (hL : L ≤ 13) (hg : gy_R n kL kS kN kY st lh ln sy) (hI : ∀ p, p < L → bI p = nI (tx p) ∧ tx p < 4)
    (hJ : ∀ d E c x, ye_B n L lh ln sy (tm_s false tx L) (l + 1) 0 d E → J24 (nI (l + 1)) yN yT yB yR yS yW yG yH (nI n) (nI L) bL bS bN bY bW bM bK bR gL gS gN gY kL kS kN kY bI d bP bQ c x) :
    ∀ w i d E c x, i + l + w = L + 1 → ye_B n L lh ln sy (tm_s false tx L) l i d E → wY_computeDer_34 post J24 (nI l) (w + 1) (nI i) yN yT yB yR yS yW yG yH (nI n) (nI L) bL bS bN bY bW bM bK bR gL gS gN gY kL kS kN kY bI d bP bQ c x := by
  intro w
  induction w with
  | zero =>
    intro i d E c x hi hB
    refine br_t (by rw [nI_add]; exact nI_lt (by omega) (by omega)) (nm_r (nI_1 l) (hJ d E c x ⟨hB.1, hB.2.1, fun m q hm hq h r hr => hB.2.2 m q hm hq ?_ r hr⟩))
    omega
  | succ w ih =>
    intro i d E c x hi hB
    refine br_f (by rw [nI_add]; exact nI_nlt (by omega) (by omega)) ?_
    rw [nI_add]
    refine ye_F (E0 := E) (by omega) (by omega) hL hg hI ⟨hB.1, hB.2.1, fun _ _ _ _ => Iff.rfl⟩ fun d' E' c' x' hE' hc' => nm_r (nI_1 i) (ih (i + 1) d' E' c' x' (by omega) (ye_st hB hE' hc'))
theorem ye_24 {post : SY → Prop} (hL : L ≤ 13) (hg : gy_R n kL kS kN kY st lh ln sy) (hI : ∀ p, p < L → bI p = nI (tx p) ∧ tx p < 4)
    (H : ∀ d c x, yd_R L d (dv_D n lh ln sy (tm_s false tx L)) → post (yN, yT, yB, yR, yS, yW, yG, yH, nI n, nI L, bL, bS, bN, bY, bW, bM, bK, bR, gL, gS, gN, gY, kL, kS, kN, kY, bI, d, bP, bQ, c, x)) :
    ∀ w l d E c x, l + w = L + 1 → ye_B n L lh ln sy (tm_s false tx L) l 0 d E → wY_computeDer_24 post (w + 1) (nI l) yN yT yB yR yS yW yG yH (nI n) (nI L) bL bS bN bY bW bM bK bR gL gS gN gY kL kS kN kY bI d bP bQ c x := by
  intro w
  induction w with
  | zero =>
    intro l d E c x hl hB
    have e : l = L + 1 := by omega
    subst e
    exact br_t (nI_lt (by omega) (by omega)) (H d c x (ye_fin hB))
  | succ w ih =>
    intro l d E c x hl hB
    exact br_f (nI_nlt (by omega) (by omega)) ⟨L + 1 - l + 1, ye_34 (by omega) hL hg hI (fun d' E' c' x' hB' => ih (l + 1) d' E' c' x' (by omega) hB') (L + 1 - l) 0 d E c x (by omega) hB⟩
theorem ye_2c {post : SY → Prop} (hL : L ≤ 13) (hg : gy_R n kL kS kN kY st lh ln sy) (hI : ∀ p, p < L → bI p = nI (tx p) ∧ tx p < 4)
    (H : ∀ d c x, yd_R L d (dv_D n lh ln sy (tm_s false tx L)) → post (yN, yT, yB, yR, yS, yW, yG, yH, nI n, nI L, bL, bS, bN, bY, bW, bM, bK, bR, gL, gS, gN, gY, kL, kS, kN, kY, bI, d, bP, bQ, c, x)) :
    ∀ w p d, p + w = 2352 → (∀ q, q < p → d q = 0) → wY_computeDer_2 post yN yT yB yR yS yW yG yH (nI n) (nI L) (w + 1) (nI p) bL bS bN bY bW bM bK bR gL gS gN gY kL kS kN kY bI d bP bQ bC bX := by
  intro w
  induction w with
  | zero =>
    intro p d hp hd
    have e : p = 2352 := by omega
    subst e
    refine br_t (nI_le (a := 2352) (Nat.le_refl _) (by decide)) ⟨L + 1 + 1, ye_24 hL hg hI H (L + 1) 0 d (fun _ _ _ => False) bC bX (by omega) ⟨fun a i j ha hi hj => ?_, fun _ _ _ h => h.elim, fun m q hm hq h => by omega⟩⟩
    rw [hd _ (by omega), bz_f id]
  | succ w ih =>
    intro p d hp hd
    refine br_f (nI_ge (b := 2352) (by omega) (by decide)) ⟨vp_in_nI (by omega) (by decide), nm_r (e' := upd d p 0) (by rw [nI_clamp (by omega)]; rfl) (nm_r (nI_1 p) (ih (p + 1) _ (by omega) fun q hq => ?_))⟩
    by_cases z : q = p
    · subst z; exact pk_us
    · rw [pk_un z]; exact hd q (by omega)
theorem ye_D {post : SY → Prop} (hL : L ≤ 13) (hg : gy_R n kL kS kN kY st lh ln sy) (hI : ∀ p, p < L → bI p = nI (tx p) ∧ tx p < 4)
    (H : ∀ d c x, yd_R L d (dv_D n lh ln sy (tm_s false tx L)) → post (yN, yT, yB, yR, yS, yW, yG, yH, nI n, nI L, bL, bS, bN, bY, bW, bM, bK, bR, gL, gS, gN, gY, kL, kS, kN, kY, bI, d, bP, bQ, c, x)) : wpY_computeDer post (yN, yT, yB, yR, yS, yW, yG, yH, nI n, nI L, bL, bS, bN, bY, bW, bM, bK, bR, gL, gS, gN, gY, kL, kS, kN, kY, bI, bD, bP, bQ, bC, bX) :=
  ⟨2352 + 1, ye_2c hL hg hI H 2352 0 bD (by omega) (fun q hq => absurd hq (Nat.not_lt_zero q))⟩
end yds
end
section
/-! Y: what derives some string; what may begin here and go beyond the end -/
section yps
variable {yN yT yB yR yS yW yG yH yK yI : Int32} {bL bS bN bY bW bM bK bR gL gS gN gY kL kS kN kY bI bD bP bQ bC bX : Nat → Int32}
variable {n L i r : Nat} {tx st lh ln : Nat → Nat} {sy : Nat → Nat → Nat} {P : Nat → Prop}
def yp_A (ln : Nat → Nat) (sy : Nat → Nat → Nat) (P : Nat → Prop) (r k : Nat) : Prop := ∀ k', k ≤ k' → k' < ln r → sy r k' < 12 → P (sy r k')
theorem yp_2 {post : Int32 → Prop} (hg : gy_R n kL kS kN kY st lh ln sy) (hr : r < n) (hP : ya_R bQ 12 P) :
    ∀ d k, k + d = ln r → post (bz_I (yp_A ln sy P r k)) → wY_allProd_2 post (nI r) yN yT yB yR yS yW yG yH yK yI bL bS bN bY bW bM bK bR gL gS gN gY kL kS kN kY bI bD bP bQ bC bX (d + 1) (nI k) := by
  obtain ⟨hn, hg⟩ := hg
  obtain ⟨_, _, hS, hN, hl, hY⟩ := hg r hr
  have eN : kN (nI r).toNatClampNeg = nI (ln r) := by rw [nI_clamp (by omega)]; exact hN
  have eS : ∀ k, kS (nI r).toNatClampNeg + nI k = nI (st r + k) := fun k => by rw [nI_clamp (by omega), hS, nI_add]
  intro d
  induction d with
  | zero =>
    intro k hk H
    rw [bz_t (P := yp_A ln sy P r k) (fun k' h1 h2 _ => by omega)] at H
    exact ⟨vp_in_nI (by omega) (by decide), br_t (by rw [eN]; exact nI_le (by omega) (by omega)) H⟩
  | succ d ih =>
    intro k hk H
    have hs := hY k (by omega)
    refine ⟨vp_in_nI (by omega) (by decide), br_f (by rw [eN]; exact nI_ge (by omega) (by omega)) ⟨vp_in_nI (by omega) (by decide), pk_in (st r + k) 32 (by omega) (eS k), nm_r (e' := cd_Y (sy r k)) (by rw [eS, nI_clamp (by omega)]; exact hs.1) ?_⟩⟩
    have nx : (sy r k < 12 → P (sy r k)) → wY_allProd_2 post (nI r) yN yT yB yR yS yW yG yH yK yI bL bS bN bY bW bM bK bR gL gS gN gY kL kS kN kY bI bD bP bQ bC bX (d + 1) (nI (k + 1)) := fun z =>
      ih (k + 1) (by omega) (by
        rw [bz_c (Q := yp_A ln sy P r k)]
        · exact H
        · refine ⟨fun h k' h1 h2 h3 => ?_, fun h k' h1 h2 h3 => h k' (by omega) h2 h3⟩
          rcases Nat.lt_or_ge k k' with y | y
          · exact h k' y h2 h3
          · have e : k' = k := by omega
            subst e
            exact z h3)
    rcases Nat.lt_or_ge (sy r k) 12 with z | z
    · rw [cd_n z]
      refine br_f (nI_pos (by omega)) (br_f (nI_ge (b := 12) z (by decide)) ⟨vp_in_nI z (by decide), bz_br (by rw [nI_clamp (by omega)]; exact hP _ z) (fun y => ?_) (fun y => nm_r (nI_1 k) (nx fun _ => y))⟩)
      exact bz_p0 H (fun h => y (h k (Nat.le_refl k) (by omega) z))
    · exact br_t (cd_t1 _ hs.2 z) (nm_r (nI_1 k) (nx fun h => by omega))
theorem yp_L {post : Int32 → Prop} {k : Nat} (hg : gy_R n kL kS kN kY st lh ln sy) (hr : r < n) (hP : ya_R bQ 12 P) (hk : k ≤ ln r) (H : post (bz_I (yp_A ln sy P r k))) : wpY_allProd post (yN, yT, yB, yR, yS, yW, yG, yH, yK, yI, bL, bS, bN, bY, bW, bM, bK, bR, gL, gS, gN, gY, kL, kS, kN, kY, bI, bD, bP, bQ, bC, bX) (nI r) (nI k) :=
  ⟨ln r - k + 1, yp_2 hg hr hP (ln r - k) k (by omega) H⟩
theorem yp_33 {post : SY → Prop} {J23 : Int32 → (Nat → Int32) → (Nat → Int32) → (Nat → Int32) → (Nat → Int32) → (Nat → Int32) → (Nat → Int32) → (Nat → Int32) → (Nat → Int32) → (Nat → Int32) → (Nat → Int32) → (Nat → Int32) → (Nat → Int32) → (Nat → Int32) → (Nat → Int32) → (Nat → Int32) → (Nat → Int32) → (Nat → Int32) → (Nat → Int32) → (Nat → Int32) → (Nat → Int32) → (Nat → Int32) → (Nat → Int32) →  Prop} (x1 : Int32) {P0 : Nat → Prop} (hg : gy_R n kL kS kN kY st lh ln sy)
    (hJ0 : ∀ q P, ya_R q 12 P → (∀ a, P a → pd_D n lh ln sy a) → (∀ r, r < n → yp_A ln sy P r 0 → P (lh r)) → post (yN, yT, yB, yR, yS, yW, yG, yH, nI n, yI, bL, bS, bN, bY, bW, bM, bK, bR, gL, gS, gN, gY, kL, kS, kN, kY, bI, bD, bP, q, bC, bX))
    (hJ1 : ∀ q P, ya_R q 12 P → (∀ a, P a → pd_D n lh ln sy a) → cn P0 12 < cn P 12 → J23 (x1 + 1) bL bS bN bY bW bM bK bR gL gS gN gY kL kS kN kY bI bD bP q bC bX) :
    ∀ w r q P x2, r + w = n → ya_R q 12 P → (∀ a, P a → pd_D n lh ln sy a) → ((x2 = 0 ∧ P = P0 ∧ ∀ r', r' < r → yp_A ln sy P r' 0 → P (lh r')) ∨ (x2 = 1 ∧ cn P0 12 < cn P 12)) →
      wY_computeProd_33 post J23 x1 yN yT yB yR yS yW yG yH (nI n) yI (w + 1) x2 (nI r) bL bS bN bY bW bM bK bR gL gS gN gY kL kS kN kY bI bD bP q bC bX := by
  have hn := hg.1
  intro w
  induction w with
  | zero =>
    intro r q P x2 hr hq hs hx
    have e : r = n := by omega
    subst e
    refine br_t (nI_le (Nat.le_refl _) (by omega)) ?_
    rcases hx with ⟨h, he, h2⟩ | ⟨h, h2⟩
    · subst h; exact br_t rfl (hJ0 q P hq hs h2)
    · subst h; exact br_f (by decide) (nm_e (hJ1 q P hq hs h2))
  | succ w ih =>
    intro r q P x2 hr hq hs hx
    have hl := hg.2 r (by omega)
    have h12 := hl.2.1
    have eL : kL (nI r).toNatClampNeg = nI (lh r) := by rw [nI_clamp (by omega)]; exact hl.1
    refine br_f (nI_ge (by omega) (by omega)) ⟨vp_in_nI (by omega) (by decide), pk_in (lh r) 12 h12 eL, ?_⟩
    refine bz_br (P := P (lh r)) (by rw [eL, nI_clamp (by omega)]; exact hq _ h12) (fun z => ?_) (fun z => ?_)
    · refine yp_L (k := 0) hg (by omega) hq (Nat.zero_le _) (bz_br rfl (fun z2 => ?_) (fun z2 => ⟨vp_in_nI (by omega) (by decide), pk_in (lh r) 12 h12 eL, nm_r (e' := upd q (lh r) 1) (by rw [eL, nI_clamp (by omega)]; rfl) ?_⟩))
      · refine nm_r (nI_1 r) (ih (r + 1) q P x2 (by omega) hq hs (hx.imp (fun h => ⟨h.1, h.2.1, fun r' hr' => ?_⟩) id))
        rcases Nat.lt_or_ge r' r with y | y
        · exact h.2.2 r' y
        · have e : r' = r := by omega
          subst e
          exact fun hp => absurd hp z2
      · have hcn : cn P 12 < cn (fun a => P a ∨ a = lh r) 12 := cn_lt (a := lh r) z (Or.inr rfl) (fun _ _ h => Or.inl h) h12
        refine nm_r (nI_1 r) (ih (r + 1) _ (fun a => P a ∨ a = lh r) 1 (by omega) (ya_u hq (lh r)) ?_ (Or.inr ⟨rfl, ?_⟩))
        · rintro a (h | h)
          · exact hs a h
          · subst h
            exact pd_cl (by omega) fun k hk h => hs _ (z2 k (Nat.zero_le k) hk h)
        · rcases hx with h | h
          · rw [← h.2.1]; exact hcn
          · exact Nat.lt_trans h.2 hcn
    · refine nm_r (nI_1 r) (ih (r + 1) q P x2 (by omega) hq hs (hx.imp (fun h => ⟨h.1, h.2.1, fun r' hr' => ?_⟩) id))
      rcases Nat.lt_or_ge r' r with y | y
      · exact h.2.2 r' y
      · have e : r' = r := by omega
        subst e
        exact fun _ => z
theorem yp_23 {post : SY → Prop} (hg : gy_R n kL kS kN kY st lh ln sy) (H : ∀ q, ya_R q 12 (pd_D n lh ln sy) → post (yN, yT, yB, yR, yS, yW, yG, yH, nI n, yI, bL, bS, bN, bY, bW, bM, bK, bR, gL, gS, gN, gY, kL, kS, kN, kY, bI, bD, bP, q, bC, bX)) :
    ∀ w p q P, p + w = 13 → ya_R q 12 P → (∀ a, P a → pd_D n lh ln sy a) → p ≤ cn P 12 → wY_computeProd_23 post yN yT yB yR yS yW yG yH (nI n) yI (w + 1) (nI p) bL bS bN bY bW bM bK bR gL gS gN gY kL kS kN kY bI bD bP q bC bX := by
  intro w
  induction w with
  | zero =>
    intro p q P hp hq hs hc
    have := cn_le P 12
    omega
  | succ w ih =>
    intro p q P hp hq hs hc
    refine br_f (nI_ge (b := 13) (by omega) (by decide)) ⟨n + 1, yp_33 (P0 := P) (nI p) hg (fun q' P' hq' hs' hc' => H q' (ya_c hq' fun a _ => ⟨hs' a, fun d => d P' fun r hr h => hc' r hr fun k _ h2 h3 => h k h2 h3⟩)) (fun q' P' hq' hs' hc' => ?_) n 0 q P 0 (by omega) hq hs (Or.inl ⟨rfl, rfl, fun r' hr' => absurd hr' (Nat.not_lt_zero r')⟩)⟩
    rw [nI_1]
    exact ih (p + 1) q' P' (by omega) hq' hs' (by omega)
theorem yp_2c {post : SY → Prop} (hg : gy_R n kL kS kN kY st lh ln sy) (H : ∀ q, ya_R q 12 (pd_D n lh ln sy) → post (yN, yT, yB, yR, yS, yW, yG, yH, nI n, yI, bL, bS, bN, bY, bW, bM, bK, bR, gL, gS, gN, gY, kL, kS, kN, kY, bI, bD, bP, q, bC, bX)) :
    ∀ w p q, p + w = 12 → (∀ a, a < p → q a = 0) → wY_computeProd_2 post yN yT yB yR yS yW yG yH (nI n) yI (w + 1) (nI p) bL bS bN bY bW bM bK bR gL gS gN gY kL kS kN kY bI bD bP q bC bX := by
  intro w
  induction w with
  | zero =>
    intro p q hp hq
    have e : p = 12 := by omega
    subst e
    exact br_t (nI_le (a := 12) (Nat.le_refl _) (by decide)) ⟨13 + 1, yp_23 hg H 13 0 q (fun _ => False) (by omega) (ya_0 hq fun _ _ z => z) (fun _ h => h.elim) (Nat.zero_le _)⟩
  | succ w ih =>
    intro p q hp hq
    refine br_f (nI_ge (b := 12) (by omega) (by decide)) ⟨vp_in_nI (by omega) (by decide), nm_r (e' := upd q p 0) (by rw [nI_clamp (by omega)]; rfl) (nm_r (nI_1 p) (ih (p + 1) _ (by omega) fun a ha => ?_))⟩
    by_cases z : a = p
    · subst z; exact pk_us
    · rw [pk_un z]; exact hq a (by omega)
theorem yp_P {post : SY → Prop} (hg : gy_R n kL kS kN kY st lh ln sy) (H : ∀ q, ya_R q 12 (pd_D n lh ln sy) → post (yN, yT, yB, yR, yS, yW, yG, yH, nI n, yI, bL, bS, bN, bY, bW, bM, bK, bR, gL, gS, gN, gY, kL, kS, kN, kY, bI, bD, bP, q, bC, bX)) : wpY_computeProd post (yN, yT, yB, yR, yS, yW, yG, yH, nI n, yI, bL, bS, bN, bY, bW, bM, bK, bR, gL, gS, gN, gY, kL, kS, kN, kY, bI, bD, bP, bQ, bC, bX) :=
  ⟨12 + 1, yp_2c hg H 12 0 bQ (by omega) (fun a ha => absurd ha (Nat.not_lt_zero a))⟩
end yps
/-- pre holds a relation -/
def yq_R (L : Nat) (b : Nat → Int32) (P : Nat → Nat → Prop) : Prop := ∀ a i, a < 12 → i ≤ L → b (a * 14 + i) = bz_I (P a i)
section yqs
variable {yN yT yB yR yS yW yG yH yK yI : Int32} {bL bS bN bY bW bM bK bR gL gS gN gY kL kS kN kY bI bD bP bQ bC bX : Nat → Int32}
variable {n L i r : Nat} {tx st lh ln : Nat → Nat} {sy : Nat → Nat → Nat} {P : Nat → Nat → Prop}
theorem yq_S {post : Int32 → Prop} {s p : Nat} (hL : L ≤ 13) (hp : p ≤ L) (hs : s < 16) (hP : yq_R L bP P) (hI : ∀ p, p < L → bI p = nI (tx p) ∧ tx p < 4) (H : post (bz_I (pf_S tx L P s p))) : wpY_symPrefix post (yN, yT, yB, yR, yS, yW, yG, yH, yK, nI L, bL, bS, bN, bY, bW, bM, bK, bR, gL, gS, gN, gY, kL, kS, kN, kY, bI, bD, bP, bQ, bC, bX) (cd_Y s) (nI p) := by
  rcases Nat.lt_or_ge s 12 with z | z
  · refine br_t (cd_n3 s z) ?_
    rw [cd_n z]
    refine br_f (nI_ge (b := 12) z (by decide)) ⟨pk_in (s * 14 + p) 168 (by omega) (xp_ix s p), bz_br (by rw [xp_ix, nI_clamp (by omega)]; exact hP s p z hp) (fun y => ?_) (fun y => ?_)⟩
    · exact bz_p0 H (fun h => h.elim (fun w => by omega) (fun w => y w.2))
    · exact bz_p1 H (Or.inr ⟨z, y⟩)
  · refine br_f (cd_t3 s hs z) (pk_eq p L (fun e => ?_) (fun e => ?_))
    · exact bz_p1 H (Or.inl ⟨z, Or.inl e⟩)
    · have hI' := hI p (by omega)
      obtain ⟨M, rfl⟩ : ∃ M, L = M + 1 := ⟨L - 1, by omega⟩
      refine pk_eq p M (fun e2 => ⟨vp_in_nI (by omega) (by decide), pk_eq (tx p) (s - 12) (fun e3 => ?_) (fun e3 => ?_) (by rw [nI_clamp (by omega)]; exact hI'.1) (cd_t2 s hs z) (by omega) (by omega)⟩) (fun e2 => ?_) rfl (nI_pred M)
      · exact bz_p1 H (Or.inl ⟨z, Or.inr ⟨by omega, e3⟩⟩)
      · exact bz_p0 H (fun h => h.elim (fun w => w.2.elim e (fun y => e3 y.2)) (fun w => by omega))
      · exact bz_p0 H (fun h => h.elim (fun w => w.2.elim e (fun y => by omega)) (fun w => by omega))
/-- at place k of rule r, position p: from here on the text's end is passed -/
def yq_X (n : Nat) (lh ln : Nat → Nat) (sy : Nat → Nat → Nat) (tx : Nat → Nat) (L : Nat) (P : Nat → Nat → Prop) (r i k p : Nat) : Prop :=
  dv_P (fun k => dv_St (dv_D n lh ln sy (tm_s false tx L)) (tm_s false tx L) (sy r k)) i k p ∧ p ≤ L ∧ pf_S tx L P (sy r k) p ∧ yp_A ln sy (pd_D n lh ln sy) r (k + 1)
theorem yq_58 {post : Int32 → SY → Prop} {J30 : Int32 → Int32 → Int32 → Int32 → Int32 → Int32 → Int32 → Int32 → Int32 → Int32 → Int32 → (Nat → Int32) → (Nat → Int32) → (Nat → Int32) → (Nat → Int32) → (Nat → Int32) → (Nat → Int32) → (Nat → Int32) → (Nat → Int32) → (Nat → Int32) → (Nat → Int32) → (Nat → Int32) → (Nat → Int32) → (Nat → Int32) → (Nat → Int32) → (Nat → Int32) → (Nat → Int32) → (Nat → Int32) → (Nat → Int32) → (Nat → Int32) → (Nat → Int32) → (Nat → Int32) → (Nat → Int32) →  Prop} {k : Nat} (hL : L ≤ 13) (hi : i ≤ L) (hg : gy_R n kL kS kN kY st lh ln sy) (hr : r < n) (hk : k < ln r) (hD : yd_R L bD (dv_D n lh ln sy (tm_s false tx L))) (hQ : ya_R bQ 12 (pd_D n lh ln sy)) (hP : yq_R L bP P) (hI : ∀ p, p < L → bI p = nI (tx p) ∧ tx p < 4)
    (hC : ya_R bC 14 (fun p => dv_P (fun k => dv_St (dv_D n lh ln sy (tm_s false tx L)) (tm_s false tx L) (sy r k)) i k p ∧ p ≤ L))
    (hY : (∃ p, yq_X n lh ln sy tx L P r i k p) → post 1 (yN, yT, yB, yR, yS, yW, yG, yH, yK, nI L, bL, bS, bN, bY, bW, bM, bK, bR, gL, gS, gN, gY, kL, kS, kN, kY, bI, bD, bP, bQ, bC, bX))
    (hN : (∀ p, ¬ yq_X n lh ln sy tx L P r i k p) → ∀ c x, ya_R c 14 (fun p => dv_P (fun k => dv_St (dv_D n lh ln sy (tm_s false tx L)) (tm_s false tx L) (sy r k)) i (k + 1) p ∧ p ≤ L) → J30 (nI (k + 1)) yN yT yB yR yS yW yG yH yK (nI L) bL bS bN bY bW bM bK bR gL gS gN gY kL kS kN kY bI bD bP bQ c x) :
    ∀ w p, p + w = L + 1 → i ≤ p → (∀ p', p' < p → ¬ yq_X n lh ln sy tx L P r i k p') → wY_rulePrefix_58 post J30 (nI r) (nI i) (nI k) (cd_Y (sy r k)) yN yT yB yR yS yW yG yH yK (nI L) bL bS bN bY bW bM bK bR gL gS gN gY kL kS kN kY bI bD bP bQ bC bX (w + 1) (nI p) := by
  have hs := ((hg.2 r hr).2.2.2.2.2 k hk).2
  have hDle : ∀ a i j, dv_D n lh ln sy (tm_s false tx L) a i j → i ≤ j := fun a i j => dv_D_le tm_le
  have hkn := (hg.2 r hr).2.2.2.2.1
  intro w
  induction w with
  | zero =>
    intro p hp hip hx
    refine br_t (nI_lt (by omega) (by omega)) (yv_A hi (Nat.le_refl L) hL hs hD hDle hI hC fun c x hc => nm_r (nI_1 k) (hN (fun p' h => hx p' (by have := h.2.1; omega) h) c x (ya_c hc fun q _ => ?_)))
    exact yr_s hDle tm_le (fun k m q s => dv_St_le hDle tm_le s) (fun _ _ => Iff.rfl) (fun m hm => ⟨And.left, fun h => ⟨h, hm⟩⟩)
  | succ w ih =>
    intro p hp hip hx
    have nx : ¬ yq_X n lh ln sy tx L P r i k p → wY_rulePrefix_58 post J30 (nI r) (nI i) (nI k) (cd_Y (sy r k)) yN yT yB yR yS yW yG yH yK (nI L) bL bS bN bY bW bM bK bR gL gS gN gY kL kS kN kY bI bD bP bQ bC bX (w + 1) (nI (p + 1)) := fun z =>
      ih (p + 1) (by omega) (by omega) fun p' hp' => by
        rcases Nat.lt_or_ge p' p with y | y
        · exact hx p' y
        · have e : p' = p := by omega
          subst e
          exact z
    have hCp : bC p = bz_I (dv_P (fun k => dv_St (dv_D n lh ln sy (tm_s false tx L)) (tm_s false tx L) (sy r k)) i k p ∧ p ≤ L) := hC p (by omega)
    refine br_f (nI_nlt (by omega) (by omega)) ⟨vp_in_nI (by omega) (by decide), bz_br ((congrArg bC (nI_clamp (by omega))).trans hCp) (fun z => nm_r (nI_1 p) (nx fun h => z ⟨h.1, h.2.1⟩)) (fun z => ?_)⟩
    refine yq_S hL (by omega) hs hP hI (bz_br rfl (fun z2 => nm_r (nI_1 p) (nx fun h => z2 h.2.2.1)) (fun z2 => ?_))
    rw [nI_1 k]
    refine yp_L hg hr hQ hk (bz_br rfl (fun z3 => nm_r (nI_1 p) (nx fun h => z3 h.2.2.2)) (fun z3 => hY ⟨p, z.1, z.2, z2, z3⟩))
theorem yq_30 {post : Int32 → SY → Prop} (hL : L ≤ 13) (hi : i ≤ L) (hg : gy_R n kL kS kN kY st lh ln sy) (hr : r < n) (hD : yd_R L bD (dv_D n lh ln sy (tm_s false tx L))) (hQ : ya_R bQ 12 (pd_D n lh ln sy)) (hP : yq_R L bP P) (hI : ∀ p, p < L → bI p = nI (tx p) ∧ tx p < 4)
    (H : ∀ c x, post (bz_I (pf_R n lh ln sy tx L P r i)) (yN, yT, yB, yR, yS, yW, yG, yH, yK, nI L, bL, bS, bN, bY, bW, bM, bK, bR, gL, gS, gN, gY, kL, kS, kN, kY, bI, bD, bP, bQ, c, x)) :
    ∀ d k c x, k + d = ln r → (∀ k' p, k' < k → ¬ yq_X n lh ln sy tx L P r i k' p) → ya_R c 14 (fun p => dv_P (fun k => dv_St (dv_D n lh ln sy (tm_s false tx L)) (tm_s false tx L) (sy r k)) i k p ∧ p ≤ L) → wY_rulePrefix_30 post (nI r) (nI i) (d + 1) (nI k) yN yT yB yR yS yW yG yH yK (nI L) bL bS bN bY bW bM bK bR gL gS gN gY kL kS kN kY bI bD bP bQ c x := by
  have hn := hg.1
  obtain ⟨_, _, hS, hN, hl, hY⟩ := hg.2 r hr
  have eN : kN (nI r).toNatClampNeg = nI (ln r) := by rw [nI_clamp (by omega)]; exact hN
  have eS : ∀ k, kS (nI r).toNatClampNeg + nI k = nI (st r + k) := fun k => by rw [nI_clamp (by omega), hS, nI_add]
  intro d
  induction d with
  | zero =>
    intro k c x hk hx hc
    have e : k = ln r := by omega
    subst e
    have hv : c (nI L).toNatClampNeg = bz_I (pf_R n lh ln sy tx L P r i) := by
      rw [nI_clamp (by omega), hc L (by omega)]
      exact bz_c ⟨fun h => Or.inl h.1, fun h => h.elim (fun y => ⟨y, Nat.le_refl L⟩) fun ⟨k, p, h1, h2, h3, h4, h5⟩ => absurd ⟨h2, h3, h4, fun k' a b c => h5 k' a b c⟩ (hx k p h1)⟩
    refine ⟨vp_in_nI (by omega) (by decide), br_t (by rw [eN]; exact nI_le (Nat.le_refl _) (by omega)) ⟨vp_in_nI (by omega) (by decide), ?_⟩⟩
    rw [hv]
    exact ⟨(bz_n _).1, H c x⟩
  | succ d ih =>
    intro k c x hk hx hc
    have hs := hY k (by omega)
    refine ⟨vp_in_nI (by omega) (by decide), br_f (by rw [eN]; exact nI_ge (by omega) (by omega)) ⟨vp_in_nI (by omega) (by decide), pk_in (st r + k) 32 (by omega) (eS k), nm_r (e' := cd_Y (sy r k)) (by rw [eS, nI_clamp (by omega)]; exact hs.1) ⟨L + 1 - i + 1, ?_⟩⟩⟩
    have yes : (∃ p, yq_X n lh ln sy tx L P r i k p) → post 1 (yN, yT, yB, yR, yS, yW, yG, yH, yK, nI L, bL, bS, bN, bY, bW, bM, bK, bR, gL, gS, gN, gY, kL, kS, kN, kY, bI, bD, bP, bQ, c, x) := by
      rintro ⟨p, h⟩
      have := H c x
      rw [bz_t (P := pf_R n lh ln sy tx L P r i) (Or.inr ⟨k, p, by omega, h.1, h.2.1, h.2.2.1, fun k' a b c => h.2.2.2 k' a b c⟩)] at this
      exact this
    refine yq_58 hL hi hg hr (by omega) hD hQ hP hI hc yes (fun h c' x' hc' => ih (k + 1) c' x' (by omega) (fun k' p hk' => ?_) hc') (L + 1 - i) i (by omega) (Nat.le_refl i) (fun p' hp' h => ?_)
    · rcases Nat.lt_or_ge k' k with y | y
      · exact hx k' p y
      · have e : k' = k := by omega
        subst e
        exact h p
    · have := dv_P_le (fun k m q s => dv_St_le (fun a i j => dv_D_le tm_le) tm_le s) _ _ h.1
      omega
theorem yq_2 {post : Int32 → SY → Prop} (hL : L ≤ 13) (hi : i ≤ L) (hg : gy_R n kL kS kN kY st lh ln sy) (hr : r < n) (hD : yd_R L bD (dv_D n lh ln sy (tm_s false tx L))) (hQ : ya_R bQ 12 (pd_D n lh ln sy)) (hP : yq_R L bP P) (hI : ∀ p, p < L → bI p = nI (tx p) ∧ tx p < 4)
    (H : ∀ c x, post (bz_I (pf_R n lh ln sy tx L P r i)) (yN, yT, yB, yR, yS, yW, yG, yH, yK, nI L, bL, bS, bN, bY, bW, bM, bK, bR, gL, gS, gN, gY, kL, kS, kN, kY, bI, bD, bP, bQ, c, x)) :
    ∀ d p c, p + d = 14 → (∀ q, q < p → c q = 0) → wY_rulePrefix_2 post (nI r) (nI i) yN yT yB yR yS yW yG yH yK (nI L) (d + 1) (nI p) bL bS bN bY bW bM bK bR gL gS gN gY kL kS kN kY bI bD bP bQ c bX := by
  intro d
  induction d with
  | zero =>
    intro p c hp hc
    have e : p = 14 := by omega
    subst e
    refine br_t (nI_le (a := 14) (Nat.le_refl _) (by decide)) ⟨vp_in_nI (by omega) (by decide), nm_r (e' := upd c i 1) (by rw [nI_clamp (by omega)]; rfl) ⟨ln r + 1, yq_30 hL hi hg hr hD hQ hP hI H (ln r) 0 _ bX (by omega) (fun k' p h => absurd h (Nat.not_lt_zero k')) ?_⟩⟩
    refine ya_c (ya_u (P := fun _ => False) (ya_0 hc fun _ _ z => z) i) fun q _ => ?_
    constructor
    · rintro (h | h)
      · exact h.elim
      · subst h; exact ⟨rfl, hi⟩
    · rintro ⟨h, _⟩
      exact Or.inr h.symm
  | succ d ih =>
    intro p c hp hc
    refine br_f (nI_ge (b := 14) (by omega) (by decide)) ⟨vp_in_nI (by omega) (by decide), nm_r (e' := upd c p 0) (by rw [nI_clamp (by omega)]; rfl) (nm_r (nI_1 p) (ih (p + 1) _ (by omega) fun q hq => ?_))⟩
    by_cases z : q = p
    · subst z; exact pk_us
    · rw [pk_un z]; exact hc q (by omega)
theorem yq_P {post : Int32 → SY → Prop} (hL : L ≤ 13) (hi : i ≤ L) (hg : gy_R n kL kS kN kY st lh ln sy) (hr : r < n) (hD : yd_R L bD (dv_D n lh ln sy (tm_s false tx L))) (hQ : ya_R bQ 12 (pd_D n lh ln sy)) (hP : yq_R L bP P) (hI : ∀ p, p < L → bI p = nI (tx p) ∧ tx p < 4)
    (H : ∀ c x, post (bz_I (pf_R n lh ln sy tx L P r i)) (yN, yT, yB, yR, yS, yW, yG, yH, yK, nI L, bL, bS, bN, bY, bW, bM, bK, bR, gL, gS, gN, gY, kL, kS, kN, kY, bI, bD, bP, bQ, c, x)) : wpY_rulePrefix post (yN, yT, yB, yR, yS, yW, yG, yH, yK, nI L, bL, bS, bN, bY, bW, bM, bK, bR, gL, gS, gN, gY, kL, kS, kN, kY, bI, bD, bP, bQ, bC, bX) (nI r) (nI i) :=
  ⟨14 + 1, yq_2 hL hi hg hr hD hQ hP hI H 14 0 bC (by omega) (fun q hq => absurd hq (Nat.not_lt_zero q))⟩
end yqs
end
section
/-! Y: pre, the loads, the four questions -/
section yzs
variable {yN yT yB yR yS yW yG yH yK yI : Int32} {bL bS bN bY bW bM bK bR gL gS gN gY kL kS kN kY bI bD bP bQ bC bX : Nat → Int32}
variable {n L i : Nat} {tx st lh ln : Nat → Nat} {sy : Nat → Nat → Nat} {P0 : Nat → Nat → Prop}
def yz_I (n L : Nat) (lh ln : Nat → Nat) (sy : Nat → Nat → Nat) (tx : Nat → Nat) (P0 : Nat → Nat → Prop) (i : Nat) (b : Nat → Int32) (P : Nat → Nat → Prop) : Prop :=
  yq_R L b P ∧ (∀ a p, P a p → dv_D n lh ln sy (tm_s true tx L) a p L) ∧ (∀ a p, p ≠ i → (P a p ↔ P0 a p))
theorem yz_u {P : Nat → Nat → Prop} {a : Nat} (hL : L ≤ 13) (hi : i ≤ L) (hP : yq_R L bP P) : yq_R L (upd bP (a * 14 + i) 1) (fun b p => P b p ∨ (b = a ∧ p = i)) := by
  intro b p hb hp
  by_cases z : b * 14 + p = a * 14 + i
  · have e1 : b = a := by omega
    have e2 : p = i := by omega
    rw [z, pk_us, bz_t (Or.inr ⟨e1, e2⟩)]
  · rw [pk_un z, hP b p hb hp]
    exact bz_c ⟨Or.inl, fun h => h.elim id fun ⟨x, y⟩ => by subst x y; exact absurd rfl z⟩
theorem yz_13 {post : SY → Prop} {J2 : Int32 → Int32 → Int32 → Int32 → Int32 → Int32 → Int32 → Int32 → Int32 → Int32 → Int32 → (Nat → Int32) → (Nat → Int32) → (Nat → Int32) → (Nat → Int32) → (Nat → Int32) → (Nat → Int32) → (Nat → Int32) → (Nat → Int32) → (Nat → Int32) → (Nat → Int32) → (Nat → Int32) → (Nat → Int32) → (Nat → Int32) → (Nat → Int32) → (Nat → Int32) → (Nat → Int32) → (Nat → Int32) → (Nat → Int32) → (Nat → Int32) → (Nat → Int32) → (Nat → Int32) → (Nat → Int32) →  Prop} (x2 : Int32) {Pp : Nat → Nat → Prop} (hL : L ≤ 13) (hi : i ≤ L) (hg : gy_R n kL kS kN kY st lh ln sy) (hD : yd_R L bD (dv_D n lh ln sy (tm_s false tx L))) (hQ : ya_R bQ 12 (pd_D n lh ln sy)) (hI : ∀ p, p < L → bI p = nI (tx p) ∧ tx p < 4)
    (hJ0 : ∀ b P c x, yz_I n L lh ln sy tx P0 i b P → (∀ r, r < n → pf_R n lh ln sy tx L P r i → P (lh r) i) → post (yN, yT, yB, yR, yS, yW, yG, yH, nI n, nI L, bL, bS, bN, bY, bW, bM, bK, bR, gL, gS, gN, gY, kL, kS, kN, kY, bI, bD, b, bQ, c, x))
    (hJ1 : ∀ b P c x, yz_I n L lh ln sy tx P0 i b P → cn (fun a => Pp a i) 12 < cn (fun a => P a i) 12 → J2 (x2 + 1) yN yT yB yR yS yW yG yH (nI n) (nI L) bL bS bN bY bW bM bK bR gL gS gN gY kL kS kN kY bI bD b bQ c x) :
    ∀ w r b P c x x3, r + w = n → yz_I n L lh ln sy tx P0 i b P → ((x3 = 0 ∧ P = Pp ∧ ∀ r', r' < r → pf_R n lh ln sy tx L P r' i → P (lh r') i) ∨ (x3 = 1 ∧ cn (fun a => Pp a i) 12 < cn (fun a => P a i) 12)) →
      wY_fillPre_13 post J2 (nI i) x2 (w + 1) x3 (nI r) yN yT yB yR yS yW yG yH (nI n) (nI L) bL bS bN bY bW bM bK bR gL gS gN gY kL kS kN kY bI bD b bQ c x := by
  have hn := hg.1
  intro w
  induction w with
  | zero =>
    intro r b P c x x3 hr hE hx
    have e : r = n := by omega
    subst e
    refine br_t (nI_le (Nat.le_refl _) (by omega)) ?_
    rcases hx with ⟨h, he, h2⟩ | ⟨h, h2⟩
    · subst h; exact br_t rfl (hJ0 b P c x hE h2)
    · subst h; exact br_f (by decide) (nm_e (hJ1 b P c x hE h2))
  | succ w ih =>
    intro r b P c x x3 hr hE hx
    have hl := hg.2 r (by omega)
    have h12 := hl.2.1
    obtain ⟨hP, hs, ha⟩ := hE
    refine br_f (nI_ge (by omega) (by omega)) ⟨vp_in_nI (by omega) (by decide), nm_r (e' := nI (lh r * 14 + i)) (by rw [nI_clamp (by omega), hl.1, xp_ix]) ⟨vp_in_nI (by omega) (by decide), ?_⟩⟩
    refine bz_br (P := P (lh r) i) (by rw [nI_clamp (by omega)]; exact hP (lh r) i h12 hi) (fun z => ?_) (fun z => ?_)
    · refine yq_P (P := P) hL hi hg (by omega) hD hQ hP hI fun c' x' => bz_br rfl (fun z2 => ?_) (fun z2 => ⟨vp_in_nI (by omega) (by decide), nm_r (e' := upd b (lh r * 14 + i) 1) (by rw [nI_clamp (by omega)]; rfl) ?_⟩)
      · refine nm_r (nI_1 r) (ih (r + 1) b P c' x' x3 (by omega) ⟨hP, hs, ha⟩ (hx.imp (fun h => ⟨h.1, h.2.1, fun r' hr' => ?_⟩) id))
        rcases Nat.lt_or_ge r' r with y | y
        · exact h.2.2 r' y
        · have e : r' = r := by omega
          subst e
          exact fun hp => absurd hp z2
      · have hcn : cn (fun a => P a i) 12 < cn (fun a => P a i ∨ (a = lh r ∧ i = i)) 12 := cn_lt (a := lh r) z (Or.inr ⟨rfl, rfl⟩) (fun _ _ h => Or.inl h) h12
        refine nm_r (nI_1 r) (ih (r + 1) _ (fun b p => P b p ∨ (b = lh r ∧ p = i)) c' x' 1 (by omega) ⟨yz_u hL hi hP, ?_, ?_⟩ (Or.inr ⟨rfl, ?_⟩))
        · rintro a p (h | ⟨h1, h2⟩)
          · exact hs a p h
          · subst h1 h2
            exact pf_so (by omega) (fun a p _ _ h => hs a p h) z2
        · intro a p h
          exact Iff.trans ⟨fun y => y.elim id fun y => absurd y.2 h, Or.inl⟩ (ha a p h)
        · rcases hx with h | h
          · rw [← h.2.1]; exact hcn
          · exact Nat.lt_trans h.2 hcn
    · refine nm_r (nI_1 r) (ih (r + 1) b P c x x3 (by omega) ⟨hP, hs, ha⟩ (hx.imp (fun h => ⟨h.1, h.2.1, fun r' hr' => ?_⟩) id))
      rcases Nat.lt_or_ge r' r with y | y
      · exact h.2.2 r' y
      · have e : r' = r := by omega
        subst e
        exact fun _ => z
theorem yz_2 {post : SY → Prop} (hL : L ≤ 13) (hi : i ≤ L) (hg : gy_R n kL kS kN kY st lh ln sy) (hD : yd_R L bD (dv_D n lh ln sy (tm_s false tx L))) (hQ : ya_R bQ 12 (pd_D n lh ln sy)) (hI : ∀ p, p < L → bI p = nI (tx p) ∧ tx p < 4)
    (hJ0 : ∀ b P c x, yz_I n L lh ln sy tx P0 i b P → (∀ r, r < n → pf_R n lh ln sy tx L P r i → P (lh r) i) → post (yN, yT, yB, yR, yS, yW, yG, yH, nI n, nI L, bL, bS, bN, bY, bW, bM, bK, bR, gL, gS, gN, gY, kL, kS, kN, kY, bI, bD, b, bQ, c, x)) :
    ∀ w p b P c x, p + w = 13 → yz_I n L lh ln sy tx P0 i b P → p ≤ cn (fun a => P a i) 12 → wY_fillPre_2 post (nI i) (w + 1) (nI p) yN yT yB yR yS yW yG yH (nI n) (nI L) bL bS bN bY bW bM bK bR gL gS gN gY kL kS kN kY bI bD b bQ c x := by
  intro w
  induction w with
  | zero =>
    intro p b P c x hp hE hc
    have := cn_le (fun a => P a i) 12
    omega
  | succ w ih =>
    intro p b P c x hp hE hc
    refine br_f (nI_ge (b := 13) (by omega) (by decide)) ⟨n + 1, yz_13 (Pp := P) (nI p) hL hi hg hD hQ hI hJ0 (fun b' P' c' x' hE' hc' => ?_) n 0 b P c x 0 (by omega) hE (Or.inl ⟨rfl, rfl, fun r' hr' => absurd hr' (Nat.not_lt_zero r')⟩)⟩
    rw [nI_1]
    exact ih (p + 1) b' P' c' x' (by omega) hE' (by omega)
theorem yz_F {post : SY → Prop} (hL : L ≤ 13) (hi : i ≤ L) (hg : gy_R n kL kS kN kY st lh ln sy) (hD : yd_R L bD (dv_D n lh ln sy (tm_s false tx L))) (hQ : ya_R bQ 12 (pd_D n lh ln sy)) (hI : ∀ p, p < L → bI p = nI (tx p) ∧ tx p < 4) (hE : yz_I n L lh ln sy tx P0 i bP P0)
    (hJ0 : ∀ b P c x, yz_I n L lh ln sy tx P0 i b P → (∀ r, r < n → pf_R n lh ln sy tx L P r i → P (lh r) i) → post (yN, yT, yB, yR, yS, yW, yG, yH, nI n, nI L, bL, bS, bN, bY, bW, bM, bK, bR, gL, gS, gN, gY, kL, kS, kN, kY, bI, bD, b, bQ, c, x)) : wpY_fillPre post (yN, yT, yB, yR, yS, yW, yG, yH, nI n, nI L, bL, bS, bN, bY, bW, bM, bK, bR, gL, gS, gN, gY, kL, kS, kN, kY, bI, bD, bP, bQ, bC, bX) (nI i) :=
  ⟨13 + 1, yz_2 hL hi hg hD hQ hI hJ0 13 0 bP P0 bC bX (by omega) hE (Nat.zero_le _)⟩
theorem yz_mo {P P' : Nat → Nat → Prop} {r : Nat} (h : ∀ a p, i ≤ p → P a p → P' a p) (hp : pf_R n lh ln sy tx L P r i) : pf_R n lh ln sy tx L P' r i := by
  refine hp.imp id fun ⟨k, p, h1, h2, h3, h4, h5⟩ => ⟨k, p, h1, h2, h3, h4.imp id fun ⟨y, z⟩ => ⟨y, h _ _ ?_ z⟩, h5⟩
  exact dv_P_le (fun k m q s => dv_St_le (fun a i j => dv_D_le tm_le) tm_le s) _ _ h2
theorem yz_27 {post : SY → Prop} (hL : L ≤ 13) (hg : gy_R n kL kS kN kY st lh ln sy) (hD : yd_R L bD (dv_D n lh ln sy (tm_s false tx L))) (hQ : ya_R bQ 12 (pd_D n lh ln sy)) (hI : ∀ p, p < L → bI p = nI (tx p) ∧ tx p < 4)
    (H : ∀ b c x, b 0 = bz_I (dv_D n lh ln sy (tm_s true tx L) 0 0 L) → post (yN, yT, yB, yR, yS, yW, yG, yH, nI n, nI L, bL, bS, bN, bY, bW, bM, bK, bR, gL, gS, gN, gY, kL, kS, kN, kY, bI, bD, b, bQ, c, x)) :
    ∀ s b P c x, s ≤ L + 1 → yq_R L b P → (∀ a p, P a p → dv_D n lh ln sy (tm_s true tx L) a p L) → (∀ i, s ≤ i → i ≤ L → ∀ r, r < n → pf_R n lh ln sy tx L P r i → P (lh r) i) → wY_computePre_27 post (s + 1) (nI s + (-1)) yN yT yB yR yS yW yG yH (nI n) (nI L) bL bS bN bY bW bM bK bR gL gS gN gY kL kS kN kY bI bD b bQ c x := by
  intro s
  induction s with
  | zero =>
    intro b P c x _ hP hs hc
    refine br_t (by decide) (H b c x ((hP 0 0 (by decide) (Nat.zero_le L)).trans (bz_c ⟨hs 0 0, fun d => pf_co (fun r i hr hi h => hc i (Nat.zero_le i) hi r hr h) d (Nat.zero_le L)⟩)))
  | succ s ih =>
    intro b P c x hsL hP hs hc
    rw [pk_m1]
    refine br_f (nI_pos (by omega)) (yz_F (P0 := P) hL (by omega) hg hD hQ hI ⟨hP, hs, fun _ _ _ => Iff.rfl⟩ fun b' P' c' x' hE hc' => nm_e (ih b' P' c' x' (by omega) hE.1 hE.2.1 fun i h1 h2 r hr h => ?_))
    rcases Nat.lt_or_ge s i with z | z
    · exact (hE.2.2 _ i (by omega)).mpr (hc i z h2 r hr (yz_mo (fun a p hp y => (hE.2.2 a p (by omega)).mp y) h))
    · have e : i = s := by omega
      subst e
      exact hc' r hr h
theorem yz_2c {post : SY → Prop} (hL : L ≤ 13) (hg : gy_R n kL kS kN kY st lh ln sy) (hD : yd_R L bD (dv_D n lh ln sy (tm_s false tx L))) (hQ : ya_R bQ 12 (pd_D n lh ln sy)) (hI : ∀ p, p < L → bI p = nI (tx p) ∧ tx p < 4)
    (H : ∀ b c x, b 0 = bz_I (dv_D n lh ln sy (tm_s true tx L) 0 0 L) → post (yN, yT, yB, yR, yS, yW, yG, yH, nI n, nI L, bL, bS, bN, bY, bW, bM, bK, bR, gL, gS, gN, gY, kL, kS, kN, kY, bI, bD, b, bQ, c, x)) :
    ∀ w p b, p + w = 168 → (∀ q, q < p → b q = 0) → wY_computePre_2 post yN yT yB yR yS yW yG yH (nI n) (nI L) (w + 1) (nI p) bL bS bN bY bW bM bK bR gL gS gN gY kL kS kN kY bI bD b bQ bC bX := by
  intro w
  induction w with
  | zero =>
    intro p b hp hb
    have e : p = 168 := by omega
    subst e
    have := yz_27 hL hg hD hQ hI H (L + 1) b (fun _ _ => False) bC bX (Nat.le_refl _) (fun a i ha hi => by rw [hb _ (by omega), bz_f id]) (fun _ _ h => h.elim) (fun i h1 h2 => by omega)
    rw [pk_m1] at this
    exact br_t (nI_le (a := 168) (Nat.le_refl _) (by decide)) ⟨_, this⟩
  | succ w ih =>
    intro p b hp hb
    refine br_f (nI_ge (b := 168) (by omega) (by decide)) ⟨vp_in_nI (by omega) (by decide), nm_r (e' := upd b p 0) (by rw [nI_clamp (by omega)]; rfl) (nm_r (nI_1 p) (ih (p + 1) _ (by omega) fun q hq => ?_))⟩
    by_cases z : q = p
    · subst z; exact pk_us
    · rw [pk_un z]; exact hb q (by omega)
theorem yz_P {post : SY → Prop} (hL : L ≤ 13) (hg : gy_R n kL kS kN kY st lh ln sy) (hD : yd_R L bD (dv_D n lh ln sy (tm_s false tx L))) (hQ : ya_R bQ 12 (pd_D n lh ln sy)) (hI : ∀ p, p < L → bI p = nI (tx p) ∧ tx p < 4)
    (H : ∀ b c x, b 0 = bz_I (dv_D n lh ln sy (tm_s true tx L) 0 0 L) → post (yN, yT, yB, yR, yS, yW, yG, yH, nI n, nI L, bL, bS, bN, bY, bW, bM, bK, bR, gL, gS, gN, gY, kL, kS, kN, kY, bI, bD, b, bQ, c, x)) : wpY_computePre post (yN, yT, yB, yR, yS, yW, yG, yH, nI n, nI L, bL, bS, bN, bY, bW, bM, bK, bR, gL, gS, gN, gY, kL, kS, kN, kY, bI, bD, bP, bQ, bC, bX) :=
  ⟨168 + 1, yz_2c hL hg hD hQ hI H 168 0 bP (by omega) (fun q hq => absurd hq (Nat.not_lt_zero q))⟩
end yzs
section yls
variable {yN yT yB yR yS yW yG yH yK yI : Int32} {bL bS bN bY bW bM bK bR gL gS gN gY kL kS kN kY bI bD bP bQ bC bX : Nat → Int32}
variable {L : Nat} {tx : Nat → Nat}
/-- the text loaded: w, and one token more where e is some -/
theorem yl_10 {post : SY → Prop} (x1 : Int32) (hL : L ≤ 12) (hW : ∀ p, p < L → bW p = nI (tx p) ∧ tx p < 4) (H0 : x1 < 0 → ∀ b, (∀ p, p < L → b p = nI (tx p) ∧ tx p < 4) → post (yN, yT, yB, yR, yS, nI L, yG, yH, yK, nI L, bL, bS, bN, bY, bW, bM, bK, bR, gL, gS, gN, gY, kL, kS, kN, kY, b, bD, bP, bQ, bC, bX)) (H1 : ¬ x1 < 0 → ∀ b, (∀ p, p < L → b p = nI (tx p) ∧ tx p < 4) → post (yN, yT, yB, yR, yS, nI L, yG, yH, yK, nI (L + 1), bL, bS, bN, bY, bW, bM, bK, bR, gL, gS, gN, gY, kL, kS, kN, kY, upd b L x1, bD, bP, bQ, bC, bX)) :
    ∀ w p b, p + w = L → (∀ q, q < p → b q = nI (tx q) ∧ tx q < 4) → wY_loadInput_10 post x1 yN yT yB yR yS (nI L) yG yH yK (nI L) (w + 1) (nI p) bL bS bN bY bW bM bK bR gL gS gN gY kL kS kN kY b bD bP bQ bC bX := by
  intro w
  induction w with
  | zero =>
    intro p b hp hb
    have e : p = L := by omega
    subst e
    refine br_t (nI_le (Nat.le_refl _) (by omega)) (br_c (fun z => H0 z b hb) (fun z => ⟨vp_in_nI (by omega) (by decide), nm_r (e' := upd b p x1) (by rw [nI_clamp (by omega)]) (nm_r (nI_1 p) (H1 z b hb))⟩))
  | succ w ih =>
    intro p b hp hb
    have hv := hW p (by omega)
    refine br_f (nI_ge (by omega) (by omega)) ⟨vp_in_nI (by omega) (by decide), vp_in_nI (by omega) (by decide), nm_r (e' := upd b p (nI (tx p))) (by rw [nI_clamp (by omega), hv.1]) (nm_r (nI_1 p) (ih (p + 1) _ (by omega) fun q hq => ?_))⟩
    by_cases z : q = p
    · subst z; rw [pk_us]; exact ⟨rfl, hv.2⟩
    · rw [pk_un z]; exact hb q (by omega)
theorem yl_I {post : SY → Prop} (hL : L ≤ 12) (hW : ∀ p, p < L → bW p = nI (tx p) ∧ tx p < 4) (H : ∀ b, (∀ p, p < L → b p = nI (tx p) ∧ tx p < 4) → post (yN, yT, yB, yR, yS, nI L, yG, yH, yK, nI L, bL, bS, bN, bY, bW, bM, bK, bR, gL, gS, gN, gY, kL, kS, kN, kY, b, bD, bP, bQ, bC, bX)) : wpY_loadInput post (yN, yT, yB, yR, yS, nI L, yG, yH, yK, yI, bL, bS, bN, bY, bW, bM, bK, bR, gL, gS, gN, gY, kL, kS, kN, kY, bI, bD, bP, bQ, bC, bX) (-1) :=
  ⟨L + 1, yl_10 (-1) hL hW (fun _ => H) (fun z => absurd (by decide) z) L 0 bI (by omega) (fun q hq => absurd hq (Nat.not_lt_zero q))⟩
theorem yl_J {post : SY → Prop} {t : Nat} (ht : t < 4) (hL : L ≤ 12) (hW : ∀ p, p < L → bW p = nI (tx p) ∧ tx p < 4) (H : ∀ b, (∀ p, p < L + 1 → b p = nI (if p = L then t else tx p) ∧ (if p = L then t else tx p) < 4) → post (yN, yT, yB, yR, yS, nI L, yG, yH, yK, nI (L + 1), bL, bS, bN, bY, bW, bM, bK, bR, gL, gS, gN, gY, kL, kS, kN, kY, b, bD, bP, bQ, bC, bX)) : wpY_loadInput post (yN, yT, yB, yR, yS, nI L, yG, yH, yK, yI, bL, bS, bN, bY, bW, bM, bK, bR, gL, gS, gN, gY, kL, kS, kN, kY, bI, bD, bP, bQ, bC, bX) (nI t) := by
  refine ⟨L + 1, yl_10 (nI t) hL hW (fun z => absurd z (nI_pos (by omega))) (fun _ b hb => H _ fun p hp => ?_) L 0 bI (by omega) (fun q hq => absurd hq (Nat.not_lt_zero q))⟩
  by_cases z : p = L
  · subst z; rw [pk_us, if_pos rfl]; exact ⟨rfl, ht⟩
  · rw [pk_un z, if_neg z]; exact hb p (by omega)
theorem yl_131 {post : SY → Prop} {J21 : Int32 → (Nat → Int32) → (Nat → Int32) → (Nat → Int32) → (Nat → Int32) → (Nat → Int32) → (Nat → Int32) → (Nat → Int32) → (Nat → Int32) → (Nat → Int32) → (Nat → Int32) → (Nat → Int32) → (Nat → Int32) → (Nat → Int32) → (Nat → Int32) → (Nat → Int32) → (Nat → Int32) → (Nat → Int32) → (Nat → Int32) → (Nat → Int32) → (Nat → Int32) → (Nat → Int32) → (Nat → Int32) →  Prop} {p : Nat} {z0 : Int32} (hp : p < 32) (H : ∀ y, (p < 12 → y = bY p) → J21 (nI (p + 1)) bL bS bN bY bW bM bK bR gL gS gN gY kL kS (upd kN p z0) (upd kY p y) bI bD bP bQ bC bX) : wY_loadGrammar_131 post J21 0 (nI p) z0 (nI p) yN yT yB yR yS yW yG yH yK yI bL bS bN bY bW bM bK bR gL gS gN gY kL kS kN kY bI bD bP bQ bC bX := by
  refine ⟨vp_in_nI hp (by decide), nm_r (e' := upd kN p z0) (by rw [nI_clamp (by omega)]) (br_t rfl (pk_le 12 p (fun z => ⟨vp_in_nI hp (by decide), nm_r (e' := upd kY p 0) (by rw [nI_clamp (by omega)]) (nm_r (nI_1 p) (H 0 fun y => by omega))⟩) (fun z => ⟨vp_in_nI z (by decide), vp_in_nI hp (by decide), nm_r (e' := upd kY p (bY p)) (by rw [nI_clamp (by omega)]) (nm_r (nI_1 p) (H _ fun _ => rfl))⟩)))⟩
theorem yl_96 {post : SY → Prop} {J21 : Int32 → (Nat → Int32) → (Nat → Int32) → (Nat → Int32) → (Nat → Int32) → (Nat → Int32) → (Nat → Int32) → (Nat → Int32) → (Nat → Int32) → (Nat → Int32) → (Nat → Int32) → (Nat → Int32) → (Nat → Int32) → (Nat → Int32) → (Nat → Int32) → (Nat → Int32) → (Nat → Int32) → (Nat → Int32) → (Nat → Int32) → (Nat → Int32) → (Nat → Int32) → (Nat → Int32) → (Nat → Int32) →  Prop} {p : Nat} {z0 : Int32} (hp : p < 32) (H : ∀ a y, (p < 8 → a = bN p) → (p < 12 → y = bY p) → J21 (nI (p + 1)) bL bS bN bY bW bM bK bR gL gS gN gY kL (upd kS p z0) (upd kN p a) (upd kY p y) bI bD bP bQ bC bX) : wY_loadGrammar_96 post J21 0 (nI p) z0 (nI p) yN yT yB yR yS yW yG yH yK yI bL bS bN bY bW bM bK bR gL gS gN gY kL kS kN kY bI bD bP bQ bC bX := by
  refine ⟨vp_in_nI hp (by decide), nm_r (e' := upd kS p z0) (by rw [nI_clamp (by omega)]) (br_t rfl (pk_le 8 p (fun z => yl_131 hp fun y hy => H 0 y (fun w => by omega) hy) (fun z => ⟨vp_in_nI z (by decide), yl_131 hp fun y hy => H _ y (fun _ => by rw [nI_clamp (by omega)]) hy⟩)))⟩
theorem yl_61 {post : SY → Prop} {J21 : Int32 → (Nat → Int32) → (Nat → Int32) → (Nat → Int32) → (Nat → Int32) → (Nat → Int32) → (Nat → Int32) → (Nat → Int32) → (Nat → Int32) → (Nat → Int32) → (Nat → Int32) → (Nat → Int32) → (Nat → Int32) → (Nat → Int32) → (Nat → Int32) → (Nat → Int32) → (Nat → Int32) → (Nat → Int32) → (Nat → Int32) → (Nat → Int32) → (Nat → Int32) → (Nat → Int32) → (Nat → Int32) →  Prop} {p : Nat} {z0 : Int32} (hp : p < 32) (H : ∀ b a y, (p < 8 → b = bS p) → (p < 8 → a = bN p) → (p < 12 → y = bY p) → J21 (nI (p + 1)) bL bS bN bY bW bM bK bR gL gS gN gY (upd kL p z0) (upd kS p b) (upd kN p a) (upd kY p y) bI bD bP bQ bC bX) : wY_loadGrammar_61 post J21 0 (nI p) z0 (nI p) yN yT yB yR yS yW yG yH yK yI bL bS bN bY bW bM bK bR gL gS gN gY kL kS kN kY bI bD bP bQ bC bX := by
  refine ⟨vp_in_nI hp (by decide), nm_r (e' := upd kL p z0) (by rw [nI_clamp (by omega)]) (br_t rfl (pk_le 8 p (fun z => yl_96 hp fun a y ha hy => H 0 a y (fun w => by omega) ha hy) (fun z => ⟨vp_in_nI z (by decide), yl_96 hp fun a y ha hy => H _ a y (fun _ => by rw [nI_clamp (by omega)]) ha hy⟩)))⟩
theorem yl_u {k f : Nat → Int32} {p c : Nat} {x : Int32} (h : ∀ r, r < c → r < p → k r = f r) (hx : p < c → x = f p) : ∀ r, r < c → r < p + 1 → upd k p x r = f r := by
  intro r hr h1
  by_cases z : r = p
  · subst z; rw [pk_us]; exact hx hr
  · rw [pk_un z]; exact h r hr (by omega)
theorem yl_210 {post : SY → Prop}
    (H : ∀ k1 k2 k3 k4, (∀ r, r < 8 → k1 r = bL r) → (∀ r, r < 8 → k2 r = bS r) → (∀ r, r < 8 → k3 r = bN r) → (∀ r, r < 12 → k4 r = bY r) → post (yN, yT, yB, yR, yS, yW, yG, yH, yK, yI, bL, bS, bN, bY, bW, bM, bK, bR, gL, gS, gN, gY, k1, k2, k3, k4, bI, bD, bP, bQ, bC, bX)) :
    ∀ w p kL kS kN kY, p + w = 32 → (∀ r, r < 8 → r < p → kL r = bL r) → (∀ r, r < 8 → r < p → kS r = bS r) → (∀ r, r < 8 → r < p → kN r = bN r) → (∀ r, r < 12 → r < p → kY r = bY r) → wY_loadGrammar_21 post 0 yN yT yB yR yS yW yG yH yK yI (w + 1) (nI p) bL bS bN bY bW bM bK bR gL gS gN gY kL kS kN kY bI bD bP bQ bC bX := by
  intro w
  induction w with
  | zero =>
    intro p kL kS kN kY hp h1 h2 h3 h4
    have e : p = 32 := by omega
    subst e
    exact br_t (nI_le (a := 32) (Nat.le_refl _) (by decide)) (H kL kS kN kY (fun r hr => h1 r hr (by omega)) (fun r hr => h2 r hr (by omega)) (fun r hr => h3 r hr (by omega)) (fun r hr => h4 r hr (by omega)))
  | succ w ih =>
    intro p kL kS kN kY hp h1 h2 h3 h4
    refine br_f (nI_ge (b := 32) (by omega) (by decide)) (br_t rfl (pk_le 8 p (fun z => yl_61 (by omega) fun b a y hb ha hy => ih (p + 1) _ _ _ _ (by omega) (yl_u h1 fun w => by omega) (yl_u h2 hb) (yl_u h3 ha) (yl_u h4 hy)) (fun z => ⟨vp_in_nI z (by decide), yl_61 (by omega) fun b a y hb ha hy => ih (p + 1) _ _ _ _ (by omega) (yl_u h1 fun _ => by rw [nI_clamp (by omega)]) (yl_u h2 hb) (yl_u h3 ha) (yl_u h4 hy)⟩)))
theorem yl_211 {post : SY → Prop}
    (H : ∀ k1 k2 k3 k4, (∀ r, r < 32 → k1 r = gL r) → (∀ r, r < 32 → k2 r = gS r) → (∀ r, r < 32 → k3 r = gN r) → (∀ r, r < 32 → k4 r = gY r) → post (yN, yT, yB, yR, yS, yW, yG, yH, yK, yI, bL, bS, bN, bY, bW, bM, bK, bR, gL, gS, gN, gY, k1, k2, k3, k4, bI, bD, bP, bQ, bC, bX)) :
    ∀ w p kL kS kN kY, p + w = 32 → (∀ r, r < 32 → r < p → kL r = gL r) → (∀ r, r < 32 → r < p → kS r = gS r) → (∀ r, r < 32 → r < p → kN r = gN r) → (∀ r, r < 32 → r < p → kY r = gY r) → wY_loadGrammar_21 post 1 yN yT yB yR yS yW yG yH yK yI (w + 1) (nI p) bL bS bN bY bW bM bK bR gL gS gN gY kL kS kN kY bI bD bP bQ bC bX := by
  intro w
  induction w with
  | zero =>
    intro p kL kS kN kY hp h1 h2 h3 h4
    have e : p = 32 := by omega
    subst e
    exact br_t (nI_le (a := 32) (Nat.le_refl _) (by decide)) (H kL kS kN kY (fun r hr => h1 r hr hr) (fun r hr => h2 r hr hr) (fun r hr => h3 r hr hr) (fun r hr => h4 r hr hr))
  | succ w ih =>
    intro p kL kS kN kY hp h1 h2 h3 h4
    have hp' : p < 32 := by omega
    have v : vp_in (nI p) 32 := vp_in_nI hp' (by decide)
    have n1 : ¬ (1 : Int32) = 0 := by decide
    refine br_f (nI_ge (b := 32) (by omega) (by decide)) (br_f n1 ⟨v, v, nm_r (e' := upd kL p (gL p)) (by rw [nI_clamp (by omega)]) (br_f n1 ⟨v, v, nm_r (e' := upd kS p (gS p)) (by rw [nI_clamp (by omega)]) (br_f n1 ⟨v, v, nm_r (e' := upd kN p (gN p)) (by rw [nI_clamp (by omega)]) (br_f n1 ⟨v, v, nm_r (e' := upd kY p (gY p)) (by rw [nI_clamp (by omega)]) (nm_r (nI_1 p) ?_)⟩)⟩)⟩)⟩)
    exact ih (p + 1) _ _ _ _ (by omega) (yl_u h1 fun _ => rfl) (yl_u h2 fun _ => rfl) (yl_u h3 fun _ => rfl) (yl_u h4 fun _ => rfl)
end yls
end
section
/-! A grammar as it grows, and the two tables that hold it -/
abbrev gm_G : Type := Nat × (Nat → Nat) × (Nat → Nat) × (Nat → Nat → Nat)
def gm_st (g : gm_G) (a : Nat) : gm_G := (g.1 + 1, (fun r => if r = g.1 then a else g.2.1 r), (fun r => if r = g.1 then 0 else g.2.2.1 r), g.2.2.2)
def gm_pu (g : gm_G) (s : Nat) : gm_G := (g.1, g.2.1, (fun r => if r = g.1 - 1 then g.2.2.1 r + 1 else g.2.2.1 r), (fun r k => if r = g.1 - 1 ∧ k = g.2.2.1 r then s else g.2.2.2 r k))
theorem gm_sL {g : gm_G} {a : Nat} : (gm_st g a).2.1 g.1 = a := if_pos rfl
theorem gm_sL' {g : gm_G} {a r : Nat} (h : r ≠ g.1) : (gm_st g a).2.1 r = g.2.1 r := if_neg h
theorem gm_sN {g : gm_G} {a : Nat} : (gm_st g a).2.2.1 g.1 = 0 := if_pos rfl
theorem gm_sN' {g : gm_G} {a r : Nat} (h : r ≠ g.1) : (gm_st g a).2.2.1 r = g.2.2.1 r := if_neg h
theorem gm_pN {g : gm_G} {s q : Nat} (hq : g.1 = q + 1) : (gm_pu g s).2.2.1 q = g.2.2.1 q + 1 := if_pos (by rw [hq]; rfl)
theorem gm_pN' {g : gm_G} {s q r : Nat} (hq : g.1 = q + 1) (h : r ≠ q) : (gm_pu g s).2.2.1 r = g.2.2.1 r := if_neg (by rw [hq]; exact h)
theorem gm_pS {g : gm_G} {s q : Nat} (hq : g.1 = q + 1) : (gm_pu g s).2.2.2 q (g.2.2.1 q) = s := if_pos ⟨by rw [hq]; rfl, rfl⟩
theorem gm_pS' {g : gm_G} {s q r k : Nat} (hq : g.1 = q + 1) (h : ¬ (r = q ∧ k = g.2.2.1 q)) : (gm_pu g s).2.2.2 r k = g.2.2.2 r k := if_neg (by rw [hq]; rintro ⟨a, b⟩; have a : r = q := a; subst a; exact h ⟨rfl, b⟩)
/-- where rule r's symbols begin in a packed table -/
def sr_S (ln : Nat → Nat) : Nat → Nat
  | 0 => 0
  | r + 1 => sr_S ln r + ln r
theorem sr_c {ln ln' : Nat → Nat} : ∀ r, (∀ q, q < r → ln q = ln' q) → sr_S ln r = sr_S ln' r := by
  intro r
  induction r with
  | zero => intro _; rfl
  | succ r ih =>
    intro h
    show sr_S ln r + ln r = sr_S ln' r + ln' r
    rw [ih fun q hq => h q (by omega), h r (by omega)]
theorem sr_m {ln : Nat → Nat} {r : Nat} : ∀ {n}, r < n → sr_S ln r + ln r ≤ sr_S ln n := by
  intro n
  induction n with
  | zero => intro h; omega
  | succ n ih =>
    intro h
    show _ ≤ sr_S ln n + ln n
    rcases Nat.lt_or_ge r n with z | z
    · have := ih z; omega
    · have e : r = n := by omega
      subst e
      exact Nat.le_refl _
theorem sr_st {g : gm_G} {a : Nat} : sr_S (gm_st g a).2.2.1 (g.1 + 1) = sr_S g.2.2.1 g.1 := by
  show sr_S (gm_st g a).2.2.1 g.1 + (gm_st g a).2.2.1 g.1 = _
  rw [gm_sN, Nat.add_zero]
  exact sr_c _ fun q hq => gm_sN' (by omega)
theorem sr_pu {g : gm_G} {s q : Nat} (hq : g.1 = q + 1) : sr_S (gm_pu g s).2.2.1 g.1 = sr_S g.2.2.1 g.1 + 1 := by
  rw [hq]
  show sr_S (gm_pu g s).2.2.1 q + (gm_pu g s).2.2.1 q = sr_S g.2.2.1 q + g.2.2.1 q + 1
  rw [gm_pN hq, sr_c (ln' := g.2.2.1) q fun r hr => gm_pN' hq (by omega)]
  omega
theorem sr_st' {g : gm_G} {a : Nat} : sr_S (gm_st g a).2.2.1 (gm_st g a).1 = sr_S g.2.2.1 g.1 := sr_st
theorem sr_pu' {g : gm_G} {s q : Nat} (hq : g.1 = q + 1) : sr_S (gm_pu g s).2.2.1 (gm_pu g s).1 = sr_S g.2.2.1 g.1 + 1 := sr_pu hq
def gw_X (lo : Nat) (g : gm_G) (aL aN aS : Nat → Int32) : Prop := gx_R lo g.1 aL aN aS g.2.1 g.2.2.1 g.2.2.2
theorem gw_Xst {lo ix a : Nat} {g : gm_G} {aL aN aS : Nat → Int32} (h : gw_X lo g aL aN aS) (hx : ix = lo + g.1) (ha : a < 12) (hl : lo + g.1 < 34) : gw_X lo (gm_st g a) (upd aL ix (nI a)) (upd aN ix 0) aS := by
  subst hx
  refine ⟨hl, fun r hr => ?_⟩
  by_cases z : r = g.1
  · subst z
    rw [gm_sL, gm_sN, pk_us, pk_us]
    exact ⟨rfl, ha, rfl, Nat.zero_le 5, fun k hk => absurd hk (Nat.not_lt_zero k)⟩
  · have hr' : r < g.1 := by have : r < g.1 + 1 := hr; omega
    rw [gm_sL' z, gm_sN' z, pk_un (by omega), pk_un (by omega)]
    exact h.2 r hr'
theorem gw_Xpu {lo ix q l s : Nat} {g : gm_G} {aL aN aS : Nat → Int32} (h : gw_X lo g aL aN aS) (hq : g.1 = q + 1) (hx : ix = lo + q) (hl : l = g.2.2.1 q) (hs : s < 16) (h4 : g.2.2.1 q ≤ 4) : gw_X lo (gm_pu g s) aL (upd aN ix (nI (l + 1))) (upd aS (ix * 5 + l) (nI s)) := by
  subst hx hl
  refine ⟨h.1, fun r hr => ?_⟩
  have hr : r < g.1 := hr
  obtain ⟨h1, h2, h3, h5, h6⟩ := h.2 r hr
  by_cases z : r = q
  · subst z
    rw [gm_pN hq, pk_us]
    refine ⟨h1, h2, rfl, by omega, fun k hk => ?_⟩
    by_cases y : k = g.2.2.1 r
    · subst y
      rw [gm_pS hq, pk_us]
      exact ⟨rfl, hs⟩
    · rw [gm_pS' hq (fun w => y w.2), pk_un (by omega)]
      exact h6 k (by omega)
  · rw [gm_pN' hq z, pk_un (by omega)]
    refine ⟨h1, h2, h3, h5, fun k hk => ?_⟩
    rw [gm_pS' hq (fun w => z w.1), pk_un (by omega)]
    exact h6 k hk
theorem gw_Xfr {g : gm_G} {aL aN aS bL bN bS : Nat → Int32} (h : gw_X 0 g aL aN aS) (h8 : g.1 ≤ 8) (h1 : ∀ r, r < 8 → bL r = aL r ∧ bN r = aN r) (h2 : ∀ c, c < 40 → bS c = aS c) : gw_X 0 g bL bN bS := by
  refine ⟨h.1, fun r hr => ?_⟩
  obtain ⟨a1, a2, a3, a4, a5⟩ := h.2 r hr
  rw [Nat.zero_add] at a1 a3 ⊢
  refine ⟨by rw [(h1 r (by omega)).1]; exact a1, a2, by rw [(h1 r (by omega)).2]; exact a3, a4, fun k hk => ?_⟩
  have := a5 k hk
  rw [Nat.zero_add] at this
  rw [h2 _ (by omega)]
  exact this
def gw_Y (c s : Nat) (g : gm_G) (bL bS bN bY : Nat → Int32) : Prop :=
  g.1 ≤ c ∧ sr_S g.2.2.1 g.1 ≤ s ∧ ∀ r, r < g.1 → bL r = nI (g.2.1 r) ∧ g.2.1 r < 12 ∧ bS r = nI (sr_S g.2.2.1 r) ∧ bN r = nI (g.2.2.1 r) ∧ ∀ k, k < g.2.2.1 r → bY (sr_S g.2.2.1 r + k) = cd_Y (g.2.2.2 r k) ∧ g.2.2.2 r k < 16
theorem gw_Yst {c s a ix sx : Nat} {g : gm_G} {bL bS bN bY : Nat → Int32} (h : gw_Y c s g bL bS bN bY) (hx : ix = g.1) (hs : sx = sr_S g.2.2.1 g.1) (ha : a < 12) (hl : g.1 < c) : gw_Y c s (gm_st g a) (upd bL ix (nI a)) (upd bS ix (nI sx)) (upd bN ix 0) bY := by
  subst hx hs
  refine ⟨hl, ?_, fun r hr => ?_⟩
  · show sr_S _ (g.1 + 1) ≤ s
    rw [sr_st]; exact h.2.1
  · by_cases z : r = g.1
    · subst z
      rw [gm_sL, gm_sN, pk_us, pk_us, pk_us]
      exact ⟨rfl, ha, congrArg nI (sr_c _ fun q hq => (gm_sN' (by omega)).symm), rfl, fun k hk => absurd hk (Nat.not_lt_zero k)⟩
    · have hr' : r < g.1 := by have : r < g.1 + 1 := hr; omega
      rw [gm_sL' z, gm_sN' z, pk_un z, pk_un z, pk_un z, sr_c (ln' := g.2.2.1) r fun q hq => gm_sN' (by omega)]
      exact h.2.2 r hr'
theorem gw_Ypu {c s q l sx t : Nat} {g : gm_G} {bL bS bN bY : Nat → Int32} (h : gw_Y c s g bL bS bN bY) (hq : g.1 = q + 1) (hl : l = g.2.2.1 q) (hsx : sx = sr_S g.2.2.1 g.1) (ht : t < 16) (hs : sr_S g.2.2.1 g.1 < s) : gw_Y c s (gm_pu g t) bL bS (upd bN q (nI (l + 1))) (upd bY sx (cd_Y t)) := by
  subst hl hsx
  refine ⟨h.1, by show sr_S _ g.1 ≤ s; rw [sr_pu hq]; exact hs, fun r hr => ?_⟩
  have hr : r < g.1 := hr
  obtain ⟨h1, h2, h3, h4, h5⟩ := h.2.2 r hr
  have e0 : sr_S (gm_pu g t).2.2.1 r = sr_S g.2.2.1 r := sr_c _ fun x hx => gm_pN' hq (by omega)
  have e1 : sr_S g.2.2.1 g.1 = sr_S g.2.2.1 q + g.2.2.1 q := by rw [hq]; rfl
  have e2 := sr_m (ln := g.2.2.1) hr
  rw [e0]
  by_cases z : r = q
  · subst z
    rw [gm_pN hq, pk_us]
    refine ⟨h1, h2, h3, rfl, fun k hk => ?_⟩
    by_cases y : k = g.2.2.1 r
    · subst y
      rw [gm_pS hq, e1, pk_us]
      exact ⟨rfl, ht⟩
    · rw [gm_pS' hq (fun w => y w.2), pk_un (by omega)]
      exact h5 k (by omega)
  · rw [gm_pN' hq z, pk_un z]
    refine ⟨h1, h2, h3, h4, fun k hk => ?_⟩
    rw [gm_pS' hq (fun w => z w.1), pk_un (by omega)]
    exact h5 k hk
theorem gw_Yk {c s : Nat} {g : gm_G} {bL bS bN bY kL kS kN kY : Nat → Int32} (h : gw_Y c s g bL bS bN bY) (hc : c ≤ 32) (hs : s ≤ 32) (h1 : ∀ r, r < c → kL r = bL r ∧ kS r = bS r ∧ kN r = bN r) (h2 : ∀ r, r < s → kY r = bY r) : gy_R g.1 kL kS kN kY (sr_S g.2.2.1) g.2.1 g.2.2.1 g.2.2.2 := by
  refine ⟨by have := h.1; omega, fun r hr => ?_⟩
  obtain ⟨a1, a2, a3, a4, a5⟩ := h.2.2 r hr
  obtain ⟨e1, e2, e3⟩ := h1 r (by have := h.1; omega)
  have m := sr_m (ln := g.2.2.1) hr
  have m2 := h.2.1
  refine ⟨e1.trans a1, a2, e2.trans a3, e3.trans a4, by omega, fun k hk => ?_⟩
  rw [h2 _ (by omega)]
  exact a5 k hk
/-- an entered grammar -/
def gw_E (N : Nat) (g : gm_G) : Prop := ∀ r, r < g.1 → g.2.1 r < N ∧ g.2.2.1 r ≤ 4 ∧ ∀ k, k < g.2.2.1 r → g.2.2.2 r k < N ∨ (12 ≤ g.2.2.2 r k ∧ g.2.2.2 r k < 16)
theorem gw_Est {N a : Nat} {g : gm_G} (h : gw_E N g) (ha : a < N) : gw_E N (gm_st g a) := by
  intro r hr
  by_cases z : r = g.1
  · subst z
    rw [gm_sL, gm_sN]
    exact ⟨ha, Nat.zero_le 4, fun k hk => absurd hk (Nat.not_lt_zero k)⟩
  · have hr' : r < g.1 := by have : r < g.1 + 1 := hr; omega
    rw [gm_sL' z, gm_sN' z]
    exact h r hr'
theorem gw_Epu {N q s : Nat} {g : gm_G} (h : gw_E N g) (hq : g.1 = q + 1) (hl : g.2.2.1 q < 4) (hs : s < N ∨ (12 ≤ s ∧ s < 16)) : gw_E N (gm_pu g s) := by
  intro r hr
  have hr : r < g.1 := hr
  obtain ⟨h1, h2, h3⟩ := h r hr
  by_cases z : r = q
  · subst z
    rw [gm_pN hq]
    refine ⟨h1, hl, fun k hk => ?_⟩
    by_cases y : k = g.2.2.1 r
    · subst y; rw [gm_pS hq]; exact hs
    · rw [gm_pS' hq (fun w => y w.2)]; exact h3 k (by omega)
  · rw [gm_pN' hq z]
    refine ⟨h1, h2, fun k hk => ?_⟩
    rw [gm_pS' hq (fun w => z w.1)]
    exact h3 k hk
end
section
/-! Closure by stages, names of sets, kinds, the rewritten grammar: pure -/
def ws_W (E : Nat → Nat → Prop) : Nat → Nat → Nat → Prop
  | 0, a, b => E a b
  | k + 1, a, b => ws_W E k a b ∨ (ws_W E k a k ∧ ws_W E k k b)
theorem ws_s {E : Nat → Nat → Prop} {k a b : Nat} : ws_W E (k + 1) a b ↔ ws_W E k a b ∨ (ws_W E k a k ∧ ws_W E k k b) := Iff.rfl
theorem ws_c {E : Nat → Nat → Prop} {k a : Nat} : ws_W E (k + 1) a k ↔ ws_W E k a k := ⟨fun h => h.elim id And.left, Or.inl⟩
theorem ws_r {E : Nat → Nat → Prop} {k b : Nat} : ws_W E (k + 1) k b ↔ ws_W E k k b := ⟨fun h => h.elim id And.right, Or.inl⟩
theorem ws_bd {E : Nat → Nat → Prop} {N : Nat} (hE : ∀ a b, E a b → a < N ∧ b < N) : ∀ k a b, ws_W E k a b → a < N ∧ b < N := by
  intro k
  induction k with
  | zero => exact hE
  | succ k ih =>
    intro a b h
    rcases h with h | ⟨h1, h2⟩
    · exact ih a b h
    · exact ⟨(ih a k h1).1, (ih k b h2).2⟩
theorem ws_top {E : Nat → Nat → Prop} {N : Nat} (hE : ∀ a b, E a b → a < N ∧ b < N) (a b : Nat) : ∀ d, ws_W E (N + d) a b ↔ ws_W E N a b := by
  intro d
  induction d with
  | zero => exact Iff.rfl
  | succ d ih =>
    refine Iff.trans ⟨fun h => ?_, Or.inl⟩ ih
    rcases h with h | ⟨h1, _⟩
    · exact h
    · have h3 : N + d < N := (ws_bd hE _ _ _ h1).2
      omega
/-- a's set's name after the numbers below b are looked at -/
noncomputable def mt_f (R : Nat → Nat → Prop) (a : Nat) : Nat → Nat
  | 0 => a
  | b + 1 => @ite Nat (mt_f R a b = a ∧ R a b ∧ R b a) (Classical.propDecidable _) b (mt_f R a b)
theorem mt_t {R : Nat → Nat → Prop} {a b : Nat} (h : mt_f R a b = a ∧ R a b ∧ R b a) : mt_f R a (b + 1) = b := by rw [mt_f, if_pos h]
theorem mt_n {R : Nat → Nat → Prop} {a b : Nat} (h : ¬ (mt_f R a b = a ∧ R a b ∧ R b a)) : mt_f R a (b + 1) = mt_f R a b := by rw [mt_f, if_neg h]
theorem mt_le {R : Nat → Nat → Prop} {a : Nat} : ∀ b, b ≤ a → mt_f R a b ≤ a := by
  intro b
  induction b with
  | zero => intro _; exact Nat.le_refl a
  | succ b ih =>
    intro hb
    rcases Classical.em (mt_f R a b = a ∧ R a b ∧ R b a) with h | h
    · rw [mt_t h]; omega
    · rw [mt_n h]; exact ih (by omega)
theorem mt_k {R : Nat → Nat → Prop} {a b c : Nat} (h : mt_f R a b = c) (hc : c ≠ a) : ∀ d, mt_f R a (b + d) = c := by
  intro d
  induction d with
  | zero => exact h
  | succ d ih =>
    have : mt_f R a (b + d + 1) = c := by rw [mt_n (fun y => hc (ih.symm.trans y.1))]; exact ih
    exact this
noncomputable def mt_N (R : Nat → Nat → Prop) (a : Nat) : Nat := mt_f R a a
theorem mt_fst {R : Nat → Nat → Prop} {a b : Nat} (hb : b < a) (h : mt_f R a b = a ∧ R a b ∧ R b a) : mt_N R a = b := by
  have := mt_k (mt_t h) (by omega) (a - (b + 1))
  rw [show b + 1 + (a - (b + 1)) = a from by omega] at this
  exact this
section kds
variable (g : gm_G) (m : Nat → Nat)
/-- which nonterminal stands in a rule of which -/
def ed_E (n : Nat) (a b : Nat) : Prop := ∃ r k, r < n ∧ k < g.2.2.1 r ∧ g.2.1 r = a ∧ g.2.2.2 r k = b ∧ b < 12
/-- place k of rule r is a member occurrence -/
def mb_P (r k : Nat) : Prop := g.2.2.2 r k < 6 ∧ m (g.2.2.2 r k) = m (g.2.1 r)
noncomputable def mb_c (r k : Nat) : Nat := cn (fun k => mb_P g m r k) k
def kn_A (s r : Nat) : Prop := ∃ q, q < r ∧ m (g.2.1 q) = s ∧ 0 < mb_c g m q (g.2.2.1 q)
def kn_R (s r : Nat) : Prop := ∀ q, q < r → m (g.2.1 q) = s → 0 < mb_c g m q (g.2.2.1 q) → mb_c g m q (g.2.2.1 q) = 1 ∧ mb_P g m q (g.2.2.1 q - 1)
def kn_L (s r : Nat) : Prop := ∀ q, q < r → m (g.2.1 q) = s → 0 < mb_c g m q (g.2.2.1 q) → mb_c g m q (g.2.2.1 q) = 1 ∧ mb_P g m q 0
noncomputable def kn_K (s : Nat) : Nat := @ite Nat (kn_A g m s g.1) (Classical.propDecidable _) (@ite Nat (kn_R g m s g.1) (Classical.propDecidable _) 1 (@ite Nat (kn_L g m s g.1) (Classical.propDecidable _) 2 3)) 0
end kds
section kdt
variable {g : gm_G} {m : Nat → Nat} {s r : Nat}
theorem mb_t {k : Nat} (h : mb_P g m r k) : mb_c g m r (k + 1) = mb_c g m r k + 1 := by unfold mb_c; rw [cn, b01_t h]
theorem mb_f {k : Nat} (h : ¬ mb_P g m r k) : mb_c g m r (k + 1) = mb_c g m r k := by unfold mb_c; rw [cn, b01_f h]; rfl
theorem mb_le {k : Nat} : mb_c g m r k ≤ k := cn_le _ k
theorem mb_p {k : Nat} (h : 0 < mb_c g m r k) : 0 < k := Nat.lt_of_lt_of_le h mb_le
theorem kn_A0 : ¬ kn_A g m s 0 := fun ⟨q, h, _⟩ => Nat.not_lt_zero q h
theorem kn_R0 : kn_R g m s 0 := fun q h => absurd h (Nat.not_lt_zero q)
theorem kn_L0 : kn_L g m s 0 := fun q h => absurd h (Nat.not_lt_zero q)
theorem kn_As : kn_A g m s (r + 1) ↔ kn_A g m s r ∨ (m (g.2.1 r) = s ∧ 0 < mb_c g m r (g.2.2.1 r)) := by
  constructor
  · rintro ⟨q, h1, h2⟩
    rcases Nat.lt_or_ge q r with z | z
    · exact Or.inl ⟨q, z, h2⟩
    · have e : q = r := by omega
      subst e
      exact Or.inr h2
  · rintro (⟨q, h1, h2⟩ | h)
    · exact ⟨q, by omega, h2⟩
    · exact ⟨r, by omega, h⟩
theorem kn_Rs : kn_R g m s (r + 1) ↔ kn_R g m s r ∧ (m (g.2.1 r) = s → 0 < mb_c g m r (g.2.2.1 r) → mb_c g m r (g.2.2.1 r) = 1 ∧ mb_P g m r (g.2.2.1 r - 1)) := by
  constructor
  · intro h
    exact ⟨fun q hq => h q (by omega), h r (by omega)⟩
  · rintro ⟨h1, h2⟩ q hq
    rcases Nat.lt_or_ge q r with z | z
    · exact h1 q z
    · have e : q = r := by omega
      subst e
      exact h2
theorem kn_Ls : kn_L g m s (r + 1) ↔ kn_L g m s r ∧ (m (g.2.1 r) = s → 0 < mb_c g m r (g.2.2.1 r) → mb_c g m r (g.2.2.1 r) = 1 ∧ mb_P g m r 0) := by
  constructor
  · intro h
    exact ⟨fun q hq => h q (by omega), h r (by omega)⟩
  · rintro ⟨h1, h2⟩ q hq
    rcases Nat.lt_or_ge q r with z | z
    · exact h1 q z
    · have e : q = r := by omega
      subst e
      exact h2
theorem kn_0 (h : ¬ kn_A g m s g.1) : kn_K g m s = 0 := by unfold kn_K; rw [if_neg h]
theorem kn_1 (h : kn_A g m s g.1) (h1 : kn_R g m s g.1) : kn_K g m s = 1 := by unfold kn_K; rw [if_pos h, if_pos h1]
theorem kn_2 (h : kn_A g m s g.1) (h1 : ¬ kn_R g m s g.1) (h2 : kn_L g m s g.1) : kn_K g m s = 2 := by unfold kn_K; rw [if_pos h, if_neg h1, if_pos h2]
theorem kn_3 (h : kn_A g m s g.1) (h1 : ¬ kn_R g m s g.1) (h2 : ¬ kn_L g m s g.1) : kn_K g m s = 3 := by unfold kn_K; rw [if_pos h, if_neg h1, if_neg h2]
theorem kn_le : kn_K g m s ≤ 3 := by
  rcases Classical.em (kn_A g m s g.1) with h | h
  · rcases Classical.em (kn_R g m s g.1) with h1 | h1
    · rw [kn_1 h h1]; decide
    · rcases Classical.em (kn_L g m s g.1) with h2 | h2
      · rw [kn_2 h h1 h2]; decide
      · rw [kn_3 h h1 h2]; decide
  · rw [kn_0 h]; decide
end kdt
section gzs
variable (g : gm_G) (m kd : Nat → Nat)
/-- rule r rewritten behind h, k places done -/
noncomputable def gz_p (r : Nat) (h : gm_G) : Nat → gm_G
  | 0 => gm_st h (g.2.1 r)
  | k + 1 => @ite gm_G (kd (g.2.1 r) = 3 ∧ mb_P g m r k) (Classical.propDecidable _) (gm_st (gm_pu (gz_p r h k) (g.2.2.2 r k)) (6 + g.2.2.2 r k)) (gm_pu (gz_p r h k) (g.2.2.2 r k))
noncomputable def gz_f (r : Nat) (h : gm_G) : gm_G := @ite gm_G (kd (g.2.1 r) = 3) (Classical.propDecidable _) (gm_pu h (6 + g.2.1 r)) h
noncomputable def gz_B : Nat → gm_G
  | 0 => (0, fun _ => 0, fun _ => 0, fun _ _ => 0)
  | r + 1 => gz_f g kd r (gz_p g m kd r (gz_B r) (g.2.2.1 r))
noncomputable def gz_C : Nat → gm_G
  | 0 => gz_B g m kd g.1
  | a + 1 => @ite gm_G (kd a = 3) (Classical.propDecidable _) (gm_st (gz_C a) (6 + a)) (gz_C a)
end gzs
section gzt
variable {g : gm_G} {m kd : Nat → Nat} {r : Nat} {h : gm_G}
theorem gz_pt {k : Nat} (z : kd (g.2.1 r) = 3 ∧ mb_P g m r k) : gz_p g m kd r h (k + 1) = gm_st (gm_pu (gz_p g m kd r h k) (g.2.2.2 r k)) (6 + g.2.2.2 r k) := by rw [gz_p, if_pos z]
theorem gz_pf {k : Nat} (z : ¬ (kd (g.2.1 r) = 3 ∧ mb_P g m r k)) : gz_p g m kd r h (k + 1) = gm_pu (gz_p g m kd r h k) (g.2.2.2 r k) := by rw [gz_p, if_neg z]
theorem gz_ft (z : kd (g.2.1 r) = 3) : gz_f g kd r h = gm_pu h (6 + g.2.1 r) := by unfold gz_f; rw [if_pos z]
theorem gz_ff (z : ¬ kd (g.2.1 r) = 3) : gz_f g kd r h = h := by unfold gz_f; rw [if_neg z]
theorem gz_Ct {a : Nat} (z : kd a = 3) : gz_C g m kd (a + 1) = gm_st (gz_C g m kd a) (6 + a) := by rw [gz_C, if_pos z]
theorem gz_Cf {a : Nat} (z : ¬ kd a = 3) : gz_C g m kd (a + 1) = gz_C g m kd a := by rw [gz_C, if_neg z]
/-- the last rule's number and length, the count, the sum -/
theorem gz_pz : ∀ k, ∃ q, (gz_p g m kd r h k).1 = q + 1 ∧ (gz_p g m kd r h k).2.2.1 q ≤ k ∧ q ≤ h.1 + k ∧ sr_S (gz_p g m kd r h k).2.2.1 (gz_p g m kd r h k).1 = sr_S h.2.2.1 h.1 + k := by
  intro k
  induction k with
  | zero => exact ⟨h.1, rfl, by show (gm_st h _).2.2.1 h.1 ≤ 0; rw [gm_sN]; exact Nat.le_refl 0, Nat.le_refl _, sr_st⟩
  | succ k ih =>
    obtain ⟨q, h1, h2, h3, h4⟩ := ih
    rcases Classical.em (kd (g.2.1 r) = 3 ∧ mb_P g m r k) with z | z
    · rw [gz_pt z]
      refine ⟨(gm_pu (gz_p g m kd r h k) (g.2.2.2 r k)).1, rfl, by rw [gm_sN]; exact Nat.zero_le _, by show (gz_p g m kd r h k).1 ≤ _; omega, ?_⟩
      refine (sr_st (g := gm_pu (gz_p g m kd r h k) (g.2.2.2 r k))).trans ((sr_pu h1).trans ?_)
      rw [h4]; omega
    · rw [gz_pf z]
      refine ⟨q, h1, by rw [gm_pN h1]; omega, by omega, ?_⟩
      refine (sr_pu h1).trans ?_
      rw [h4]; omega
theorem gz_Bz : ∀ r, (gz_B g m kd r).1 ≤ r + sr_S g.2.2.1 r ∧ sr_S (gz_B g m kd r).2.2.1 (gz_B g m kd r).1 ≤ r + sr_S g.2.2.1 r := by
  intro r
  induction r with
  | zero => exact ⟨Nat.le_refl _, Nat.le_refl _⟩
  | succ r ih =>
    obtain ⟨q, h1, h2, h3, h4⟩ := gz_pz (g := g) (m := m) (kd := kd) (r := r) (h := gz_B g m kd r) (g.2.2.1 r)
    show (gz_f g kd r (gz_p g m kd r (gz_B g m kd r) (g.2.2.1 r))).1 ≤ r + 1 + (sr_S g.2.2.1 r + g.2.2.1 r) ∧ sr_S (gz_f g kd r (gz_p g m kd r (gz_B g m kd r) (g.2.2.1 r))).2.2.1 (gz_f g kd r (gz_p g m kd r (gz_B g m kd r) (g.2.2.1 r))).1 ≤ r + 1 + (sr_S g.2.2.1 r + g.2.2.1 r)
    rcases Classical.em (kd (g.2.1 r) = 3) with z | z
    · rw [gz_ft z]
      refine ⟨by show (gz_p g m kd r (gz_B g m kd r) (g.2.2.1 r)).1 ≤ _; omega, ?_⟩
      have := sr_pu (s := 6 + g.2.1 r) h1
      exact Nat.le_trans (Nat.le_of_eq this) (by omega)
    · rw [gz_ff z]
      exact ⟨by omega, by omega⟩
theorem gz_Cz : ∀ a, (gz_C g m kd a).1 ≤ g.1 + sr_S g.2.2.1 g.1 + a ∧ sr_S (gz_C g m kd a).2.2.1 (gz_C g m kd a).1 ≤ g.1 + sr_S g.2.2.1 g.1 := by
  intro a
  induction a with
  | zero => exact gz_Bz g.1
  | succ a ih =>
    rcases Classical.em (kd a = 3) with z | z
    · rw [gz_Ct z]
      exact ⟨by show (gz_C g m kd a).1 + 1 ≤ _; omega, Nat.le_trans (Nat.le_of_eq sr_st) ih.2⟩
    · rw [gz_Cf z]
      exact ⟨by omega, ih.2⟩
end gzt
end
section
/-! X: reached, names, kinds -/
theorem gw_X0 {g : gm_G} {aL aN aS : Nat → Int32} (h : gw_X 0 g aL aN aS) {r : Nat} (hr : r < g.1) : aL r = nI (g.2.1 r) ∧ g.2.1 r < 12 ∧ aN r = nI (g.2.2.1 r) ∧ g.2.2.1 r ≤ 5 ∧ ∀ k, k < g.2.2.1 r → aS (r * 5 + k) = nI (g.2.2.2 r k) ∧ g.2.2.2 r k < 16 := by
  have := h.2 r hr
  rw [Nat.zero_add] at this
  exact this
/-- X's masks hold a relation -/
def rr_X (N : Nat) (aR : Nat → Int32) (R : Nat → Nat → Prop) : Prop := ∀ a, a < N → ∀ b, b < 32 → (bt (aR a) b = true ↔ R a b)
section xbs
variable {xN xT xB xR xS xE xL xA xG xC xF : Int32} {aL aN aS aR aM aK aT aE : Nat → Int32}
variable {N : Nat} {g : gm_G}
theorem xr_12 {post : SX → Prop} {J2 : Int32 → (Nat → Int32) → (Nat → Int32) → (Nat → Int32) → (Nat → Int32) → (Nat → Int32) → (Nat → Int32) → (Nat → Int32) → (Nat → Int32) →  Prop} {r : Nat} (hN : N ≤ 6) (h8 : g.1 ≤ 8) (hg : gw_X 0 g aL aN aS) (hE : gw_E N g) (hr : r < g.1)
    (hJ : ∀ q, rr_X N q (ed_E g (r + 1)) → J2 (nI (r + 1)) aL aN aS q aM aK aT aE) :
    ∀ d k q, k + d = g.2.2.1 r → rr_X N q (fun a b => ed_E g r a b ∨ (g.2.1 r = a ∧ b < 12 ∧ ∃ k', k' < k ∧ g.2.2.2 r k' = b)) → wX_findReached_12 post J2 (nI r) xN xT xB xR xS xE xL xA xG xC xF (d + 1) (nI k) aL aN aS q aM aK aT aE := by
  obtain ⟨h1, h2, h3, h4, h5⟩ := gw_X0 hg hr
  obtain ⟨e1, e2, e3⟩ := hE r hr
  have eN : aN (nI r).toNatClampNeg = nI (g.2.2.1 r) := by rw [nI_clamp (by omega)]; exact h3
  have eL : aL (nI r).toNatClampNeg = nI (g.2.1 r) := by rw [nI_clamp (by omega)]; exact h1
  intro d
  induction d with
  | zero =>
    intro k q hk hq
    refine ⟨vp_in_nI (by omega) (by decide), br_t (by rw [eN]; exact nI_le (by omega) (by omega)) (nm_r (nI_1 r) (hJ q fun a ha b hb => Iff.trans (hq a ha b hb) ?_))⟩
    constructor
    · rintro (⟨r', k', x1, x2⟩ | ⟨x1, x2, k', x3, x4⟩)
      · exact ⟨r', k', by omega, x2⟩
      · exact ⟨r, k', by omega, by omega, x1, x4, x2⟩
    · rintro ⟨r', k', x1, x2, x3, x4, x5⟩
      rcases Nat.lt_or_ge r' r with z | z
      · exact Or.inl ⟨r', k', z, x2, x3, x4, x5⟩
      · have e : r' = r := by omega
        subst e
        exact Or.inr ⟨x3, x5, k', by omega, x4⟩
  | succ d ih =>
    intro k q hk hq
    have hs := h5 k (by omega)
    refine ⟨vp_in_nI (by omega) (by decide), br_f (by rw [eN]; exact nI_ge (by omega) (by omega)) ⟨pk_in (r * 5 + k) 170 (by omega) (xp_ix5 r k), nm_r (e' := nI (g.2.2.2 r k)) (by rw [xp_ix5, nI_clamp (by omega)]; exact hs.1) ?_⟩⟩
    refine pk_le 12 (g.2.2.2 r k) (fun z => nm_r (nI_1 k) (ih (k + 1) q (by omega) fun a ha b hb => Iff.trans (hq a ha b hb) (or_congr Iff.rfl (and_congr Iff.rfl ?_)))) (fun z => ?_) rfl rfl (by decide) (by omega)
    · constructor
      · rintro ⟨x2, k', x3, x4⟩
        exact ⟨x2, k', by omega, x4⟩
      · rintro ⟨x2, k', x3, x4⟩
        rcases Nat.lt_or_ge k' k with y | y
        · exact ⟨x2, k', y, x4⟩
        · have e : k' = k := by omega
          subst e
          omega
    · have hsN : g.2.2.2 r k < N := by rcases e3 k (by omega) with y | y <;> omega
      refine ⟨vp_in_nI (by omega) (by decide), pk_in (g.2.1 r) 6 (by omega) eL, pk_in (g.2.1 r) 6 (by omega) eL, nm_r (e' := upd q (g.2.1 r) (q (g.2.1 r) ||| ((1 : Int32) <<< (nI (g.2.2.2 r k) &&& 31)))) (by rw [eL, nI_clamp (by omega)]) (nm_r (nI_1 k) (ih (k + 1) _ (by omega) fun a ha b hb => ?_))⟩
      by_cases y : a = g.2.1 r
      · subst y
        rw [pk_us, xb_os (by omega) hb, hq _ ha b hb]
        constructor
        · rintro ((x | ⟨x1, x2, k', x3, x4⟩) | x)
          · exact Or.inl x
          · exact Or.inr ⟨x1, x2, k', by omega, x4⟩
          · exact Or.inr ⟨rfl, by omega, k, by omega, x⟩
        · rintro (x | ⟨x1, x2, k', x3, x4⟩)
          · exact Or.inl (Or.inl x)
          · rcases Nat.lt_or_ge k' k with w | w
            · exact Or.inl (Or.inr ⟨x1, x2, k', w, x4⟩)
            · have e : k' = k := by omega
              subst e
              exact Or.inr x4
      · rw [pk_un y, hq a ha b hb]
        exact ⟨fun x => x.imp id fun w => absurd w.1.symm y, fun x => x.imp id fun w => absurd w.1.symm y⟩
theorem xr_rc {post : Int32 → Prop} {a b : Nat} {R : Prop} (ha : a < 6) (hb : b < 32) (hR : bt (aR a) b = true ↔ R) (H : post (bz_I R)) : wpX_reaches post (xN, xT, xB, xR, xS, xE, xL, xA, xG, xC, xF, aL, aN, aS, aR, aM, aK, aT, aE) (nI a) (nI b) := by
  refine ⟨vp_in_nI ha (by decide), ek_if (d := R) (by rw [nI_clamp (by omega)]; exact Iff.trans (xb_t hb _) hR) (fun z => ?_) (fun z => ?_)⟩
  · exact bz_p1 H z
  · exact bz_p0 H z
theorem xr_80 {post : SX → Prop} {J70 : Int32 → (Nat → Int32) → (Nat → Int32) → (Nat → Int32) → (Nat → Int32) → (Nat → Int32) → (Nat → Int32) → (Nat → Int32) → (Nat → Int32) →  Prop} {k : Nat} {E : Nat → Nat → Prop} (hN : N ≤ 6) (hk : k < N)
    (hJ : ∀ q, rr_X N q (ws_W E (k + 1)) → J70 (nI (k + 1)) aL aN aS q aM aK aT aE) :
    ∀ d a q, a + d = N → rr_X N q (fun a' b => (a' < a ∧ ws_W E (k + 1) a' b) ∨ (a ≤ a' ∧ ws_W E k a' b)) → wX_findReached_80 post J70 (nI k) (nI N) xT xB xR xS xE xL xA xG xC xF (d + 1) (nI a) aL aN aS q aM aK aT aE := by
  intro d
  induction d with
  | zero =>
    intro a q ha hq
    refine br_t (nI_le (by omega) (by omega)) (nm_r (nI_1 k) (hJ q fun a' ha' b hb => Iff.trans (hq a' ha' b hb) ?_))
    exact ⟨fun x => x.elim (fun y => y.2) (fun y => by omega), fun x => Or.inl ⟨by omega, x⟩⟩
  | succ d ih =>
    intro a q ha hq
    have hrow : ∀ b, b < 32 → (bt (q a) b = true ↔ ws_W E k a b) := fun b hb => Iff.trans (hq a (by omega) b hb) ⟨fun x => x.elim (fun y => by omega) (fun y => y.2), fun x => Or.inr ⟨Nat.le_refl a, x⟩⟩
    have hmid : ∀ b, b < 32 → (bt (q k) b = true ↔ ws_W E k k b) := fun b hb => Iff.trans (hq k hk b hb) ⟨fun x => x.elim (fun y => ws_r.mp y.2) (fun y => y.2), fun x => by
      rcases Nat.lt_or_ge k a with z | z
      · exact Or.inl ⟨z, ws_r.mpr x⟩
      · exact Or.inr ⟨z, x⟩⟩
    have step : ∀ q', (∀ b, b < 32 → (bt (q' a) b = true ↔ ws_W E (k + 1) a b)) → (∀ a', a' ≠ a → q' a' = q a') → rr_X N q' (fun a' b => (a' < a + 1 ∧ ws_W E (k + 1) a' b) ∨ (a + 1 ≤ a' ∧ ws_W E k a' b)) := by
      intro q' h1 h2 a' ha' b hb
      by_cases z : a' = a
      · subst z
        exact Iff.trans (h1 b hb) ⟨fun x => Or.inl ⟨by omega, x⟩, fun x => x.elim (fun y => y.2) (fun y => by omega)⟩
      · rw [h2 a' z]
        refine Iff.trans (hq a' ha' b hb) (or_congr (and_congr ?_ Iff.rfl) (and_congr ?_ Iff.rfl)) <;> omega
    refine br_f (nI_ge (by omega) (by omega)) (xr_rc (by omega) (by omega) (hrow k (by omega)) (bz_br rfl (fun z => nm_r (nI_1 a) (ih (a + 1) q (by omega) (step q (fun b hb => Iff.trans (hrow b hb) ⟨Or.inl, fun x => x.elim id fun y => absurd y.1 z⟩) fun _ _ => rfl))) (fun z => ?_)))
    refine ⟨vp_in_nI (by omega) (by decide), vp_in_nI (by omega) (by decide), vp_in_nI (by omega) (by decide), nm_r (e' := upd q a (q a ||| q k)) (by rw [nI_clamp (by omega), nI_clamp (by omega)]) (nm_r (nI_1 a) (ih (a + 1) _ (by omega) (step _ (fun b hb => ?_) fun a' h => pk_un h)))⟩
    rw [pk_us, xb_or, hrow b hb, hmid b hb]
    exact ⟨fun x => x.imp id fun y => ⟨z, y⟩, fun x => x.imp id fun y => y.2⟩
theorem xr_70 {post : SX → Prop} {E : Nat → Nat → Prop} (hN : N ≤ 6) (H : ∀ q, rr_X N q (ws_W E N) → post (nI N, xT, xB, xR, xS, xE, xL, xA, xG, xC, xF, aL, aN, aS, q, aM, aK, aT, aE)) :
    ∀ d k q, k + d = N → rr_X N q (ws_W E k) → wX_findReached_70 post (nI N) xT xB xR xS xE xL xA xG xC xF (d + 1) (nI k) aL aN aS q aM aK aT aE := by
  intro d
  induction d with
  | zero =>
    intro k q hk hq
    have e : k = N := by omega
    subst e
    exact br_t (nI_le (Nat.le_refl _) (by omega)) (H q hq)
  | succ d ih =>
    intro k q hk hq
    exact br_f (nI_ge (by omega) (by omega)) ⟨N + 1, xr_80 hN (by omega) (fun q' hq' => ih (k + 1) q' (by omega) hq') N 0 q (by omega) (fun a ha b hb => Iff.trans (hq a ha b hb) ⟨fun x => Or.inr ⟨Nat.zero_le a, x⟩, fun x => x.elim (fun y => absurd y.1 (Nat.not_lt_zero a)) (fun y => y.2)⟩)⟩
theorem xr_2 {post : SX → Prop} (hN : N ≤ 6) (h8 : g.1 ≤ 8) (hg : gw_X 0 g aL aN aS) (hE : gw_E N g) (H : ∀ q, rr_X N q (ws_W (ed_E g g.1) N) → post (nI N, xT, xB, nI g.1, xS, xE, xL, xA, xG, xC, xF, aL, aN, aS, q, aM, aK, aT, aE)) :
    ∀ d r q, r + d = g.1 → rr_X N q (ed_E g r) → wX_findReached_2 post (nI N) xT xB (nI g.1) xS xE xL xA xG xC xF (d + 1) (nI r) aL aN aS q aM aK aT aE := by
  intro d
  induction d with
  | zero =>
    intro r q hr hq
    have e : r = g.1 := by omega
    subst e
    exact br_t (nI_le (Nat.le_refl _) (by omega)) ⟨N + 1, xr_70 hN H N 0 q (by omega) hq⟩
  | succ d ih =>
    intro r q hr hq
    exact br_f (nI_ge (by omega) (by omega)) ⟨g.2.2.1 r + 1, xr_12 hN h8 hg hE (by omega) (fun q' hq' => ih (r + 1) q' (by omega) hq') (g.2.2.1 r) 0 q (by omega) (fun a ha b hb => Iff.trans (hq a ha b hb) ⟨Or.inl, fun x => x.elim id fun ⟨_, _, k', y, _⟩ => absurd y (Nat.not_lt_zero k')⟩)⟩
theorem xr_F {post : SX → Prop} (hN : N ≤ 6) (h8 : g.1 ≤ 8) (hg : gw_X 0 g aL aN aS) (hE : gw_E N g) (h0 : ∀ a, a < 6 → aR a = 0) (H : ∀ q, rr_X N q (ws_W (ed_E g g.1) N) → post (nI N, xT, xB, nI g.1, xS, xE, xL, xA, xG, xC, xF, aL, aN, aS, q, aM, aK, aT, aE)) : wpX_findReached post (nI N, xT, xB, nI g.1, xS, xE, xL, xA, xG, xC, xF, aL, aN, aS, aR, aM, aK, aT, aE) :=
  ⟨g.1 + 1, xr_2 hN h8 hg hE H g.1 0 aR (by omega) fun a ha b hb => by
    rw [h0 a (by omega), b_0]
    exact ⟨fun x => absurd x (by decide), fun ⟨r, k, x, _⟩ => absurd x (Nat.not_lt_zero r)⟩⟩
theorem xm_2 {post : Int32 → Prop} {R : Nat → Nat → Prop} {a : Nat} (hN : N ≤ 6) (ha : a < N) (hR : rr_X N aR R) (H : post (nI (mt_N R a))) :
    ∀ d b, b + d = a → mt_f R a b = a → wX_smallestMate_2 post (nI a) xN xT xB xR xS xE xL xA xG xC xF aL aN aS aR aM aK aT aE (d + 1) (nI b) := by
  intro d
  induction d with
  | zero =>
    intro b hb hm
    have e : b = a := by omega
    subst e
    unfold mt_N at H
    rw [hm] at H
    exact br_t (nI_le (Nat.le_refl _) (by omega)) H
  | succ d ih =>
    intro b hb hm
    have nx : ¬ (R a b ∧ R b a) → wX_smallestMate_2 post (nI a) xN xT xB xR xS xE xL xA xG xC xF aL aN aS aR aM aK aT aE (d + 1) (nI (b + 1)) := fun z => ih (b + 1) (by omega) (by rw [mt_n (fun y => z y.2)]; exact hm)
    refine br_f (nI_ge (by omega) (by omega)) (xr_rc (by omega) (by omega) (hR a ha b (by omega)) (bz_br rfl (fun z => nm_r (nI_1 b) (nx fun y => z y.1)) (fun z => ?_)))
    refine xr_rc (by omega) (by omega) (hR b (by omega) a (by omega)) (bz_br rfl (fun z2 => nm_r (nI_1 b) (nx fun y => z2 y.2)) (fun z2 => ?_))
    rw [mt_fst (by omega) ⟨hm, z, z2⟩] at H
    exact H
theorem xm_M {post : Int32 → Prop} {R : Nat → Nat → Prop} {a : Nat} (hN : N ≤ 6) (ha : a < N) (hR : rr_X N aR R) (H : post (nI (mt_N R a))) : wpX_smallestMate post (xN, xT, xB, xR, xS, xE, xL, xA, xG, xC, xF, aL, aN, aS, aR, aM, aK, aT, aE) (nI a) :=
  ⟨a + 1, xm_2 hN ha hR H a 0 (by omega) rfl⟩
theorem mt_lt {R : Nat → Nat → Prop} {a : Nat} : mt_N R a ≤ a := mt_le a (Nat.le_refl a)
theorem xm_4 {post : Int32 → SX → Prop} {R : Nat → Nat → Prop} (hN : N ≤ 6) (hR : rr_X N aR R) (H : ∀ q, (∀ a, a < N → q a = nI (mt_N R a)) → post (nI (cn (fun a => mt_N R a = a) N)) (nI N, xT, xB, xR, xS, xE, xL, xA, xG, xC, xF, aL, aN, aS, aR, q, aK, aT, aE)) :
    ∀ d a q, a + d = N → (∀ a', a' < a → q a' = nI (mt_N R a')) → wX_nameSets_4 post (nI N) xT xB xR xS xE xL xA xG xC xF (d + 1) (nI (cn (fun a => mt_N R a = a) a)) (nI a) aL aN aS aR q aK aT aE := by
  intro d
  induction d with
  | zero =>
    intro a q ha hq
    have e : a = N := by omega
    subst e
    exact br_t (nI_le (Nat.le_refl _) (by omega)) (H q hq)
  | succ d ih =>
    intro a q ha hq
    have hm := mt_lt (R := R) (a := a)
    have hq' : ∀ a', a' < a + 1 → upd q a (nI (mt_N R a)) a' = nI (mt_N R a') := fun a' h => by
      by_cases z : a' = a
      · subst z; rw [pk_us]
      · rw [pk_un z]; exact hq a' (by omega)
    have := ih (a + 1) _ (by omega) hq'
    refine br_f (nI_ge (by omega) (by omega)) (xm_M hN (by omega) hR ⟨vp_in_nI (by omega) (by decide), nm_r (e' := upd q a (nI (mt_N R a))) (by rw [nI_clamp (by omega)]) ⟨vp_in_nI (by omega) (by decide), pk_eq (mt_N R a) a (fun z => ?_) (fun z => ?_) (by rw [nI_clamp (by omega), pk_us]) rfl⟩⟩)
    · rw [cn, b01_t z] at this
      exact nm_r (nI_1 _) (nm_r (nI_1 a) this)
    · rw [cn, b01_f z] at this
      exact nm_r (nI_1 a) this
theorem xm_S {post : Int32 → SX → Prop} {R : Nat → Nat → Prop} (hN : N ≤ 6) (hR : rr_X N aR R) (H : ∀ q, (∀ a, a < N → q a = nI (mt_N R a)) → post (nI (cn (fun a => mt_N R a = a) N)) (nI N, xT, xB, xR, xS, xE, xL, xA, xG, xC, xF, aL, aN, aS, aR, q, aK, aT, aE)) : wpX_nameSets post (nI N, xT, xB, xR, xS, xE, xL, xA, xG, xC, xF, aL, aN, aS, aR, aM, aK, aT, aE) :=
  ⟨N + 1, xm_4 hN hR H N 0 aM (by omega) (fun a h => absurd h (Nat.not_lt_zero a))⟩
/-- names: below 6 -/
def sn_R (N : Nat) (m : Nat → Nat) (aM : Nat → Int32) : Prop := ∀ a, a < N → aM a = nI (m a) ∧ m a < 6
end xbs
end
section
/-! X: members, kinds -/
section xks
variable {xN xT xB xR xS xE xL xA xG xC xF : Int32} {aL aN aS aR aM aK aT aE : Nat → Int32}
variable {N r : Nat} {g : gm_G} {m : Nat → Nat}
theorem xk_I {post : Int32 → Prop} {k : Nat} (hN : N ≤ 6) (h8 : g.1 ≤ 8) (hg : gw_X 0 g aL aN aS) (hE : gw_E N g) (hm : sn_R N m aM) (hr : r < g.1) (hk : k < g.2.2.1 r) (H : post (bz_I (mb_P g m r k))) : wpX_isMember post (xN, xT, xB, xR, xS, xE, xL, xA, xG, xC, xF, aL, aN, aS, aR, aM, aK, aT, aE) (nI r) (nI k) := by
  obtain ⟨h1, h2, h3, h4, h5⟩ := gw_X0 hg hr
  obtain ⟨e1, e2, e3⟩ := hE r hr
  have eL : aL (nI r).toNatClampNeg = nI (g.2.1 r) := by rw [nI_clamp (by omega)]; exact h1
  have hs := h5 k hk
  have hsN := e3 k hk
  refine ⟨pk_in (r * 5 + k) 170 (by omega) (xp_ix5 r k), nm_r (e' := nI (g.2.2.2 r k)) (by rw [xp_ix5, nI_clamp (by omega)]; exact hs.1) (pk_le 6 (g.2.2.2 r k) (fun z => ?_) (fun z => ?_) rfl rfl (by decide) (by omega))⟩
  · exact bz_p0 H (fun y => by have := y.1; omega)
  · have m1 := hm (g.2.2.2 r k) (by omega)
    have m2 := hm (g.2.1 r) e1
    refine ⟨vp_in_nI z (by decide), vp_in_nI (by omega) (by decide), pk_in (g.2.1 r) 6 (by omega) eL, pk_eq (m (g.2.2.2 r k)) (m (g.2.1 r)) (fun y => ?_) (fun y => ?_) (by rw [nI_clamp (by omega)]; exact m1.1) (by rw [eL, nI_clamp (by omega)]; exact m2.1) (by have := m1.2; omega) (by have := m2.2; omega)⟩
    · exact bz_p1 H ⟨z, y⟩
    · exact bz_p0 H (fun w => y w.2)
theorem xk_4 {post : Int32 → Prop} (hN : N ≤ 6) (h8 : g.1 ≤ 8) (hg : gw_X 0 g aL aN aS) (hE : gw_E N g) (hm : sn_R N m aM) (hr : r < g.1) (H : post (nI (mb_c g m r (g.2.2.1 r)))) :
    ∀ d k, k + d = g.2.2.1 r → wX_countMembers_4 post (nI r) xN xT xB xR xS xE xL xA xG xC xF aL aN aS aR aM aK aT aE (d + 1) (nI (mb_c g m r k)) (nI k) := by
  obtain ⟨h1, h2, h3, h4, h5⟩ := gw_X0 hg hr
  have eN : aN (nI r).toNatClampNeg = nI (g.2.2.1 r) := by rw [nI_clamp (by omega)]; exact h3
  intro d
  induction d with
  | zero =>
    intro k hk
    have e : k = g.2.2.1 r := by omega
    subst e
    exact ⟨vp_in_nI (by omega) (by decide), br_t (by rw [eN]; exact nI_le (Nat.le_refl _) (by omega)) H⟩
  | succ d ih =>
    intro k hk
    have := ih (k + 1) (by omega)
    refine ⟨vp_in_nI (by omega) (by decide), br_f (by rw [eN]; exact nI_ge (by omega) (by omega)) (xk_I hN h8 hg hE hm hr (by omega) (bz_br rfl (fun z => ?_) (fun z => ?_)))⟩
    · rw [mb_f z] at this
      exact nm_r (nI_1 k) this
    · rw [mb_t z] at this
      exact nm_r (nI_1 _) (nm_r (nI_1 k) this)
theorem xk_C {post : Int32 → Prop} (hN : N ≤ 6) (h8 : g.1 ≤ 8) (hg : gw_X 0 g aL aN aS) (hE : gw_E N g) (hm : sn_R N m aM) (hr : r < g.1) (H : post (nI (mb_c g m r (g.2.2.1 r)))) : wpX_countMembers post (xN, xT, xB, xR, xS, xE, xL, xA, xG, xC, xF, aL, aN, aS, aR, aM, aK, aT, aE) (nI r) :=
  ⟨g.2.2.1 r + 1, xk_4 hN h8 hg hE hm hr H (g.2.2.1 r) 0 (by omega)⟩
theorem xk_87 {post : Int32 → Prop} {J10 : Int32 → Int32 → Int32 → Int32 → Prop} {x1 x2 z0 : Int32} {Q : Prop} (hN : N ≤ 6) (h8 : g.1 ≤ 8) (hg : gw_X 0 g aL aN aS) (hE : gw_E N g) (hm : sn_R N m aM) (hr : r < g.1) (hc : 0 < mb_c g m r (g.2.2.1 r))
    (hJ : J10 x2 z0 (bz_I (Q ∧ mb_c g m r (g.2.2.1 r) = 1 ∧ mb_P g m r 0)) (nI (r + 1))) : wX_kindOfSet_87 post J10 x1 x2 (bz_I Q) (nI r) (nI (mb_c g m r (g.2.2.1 r))) z0 xN xT xB xR xS xE xL xA xG xC xF aL aN aS aR aM aK aT aE := by
  obtain ⟨h1, h2, h3, h4, h5⟩ := gw_X0 hg hr
  have hle := mb_le (g := g) (m := m) (r := r) (k := g.2.2.1 r)
  have no : ¬ (Q ∧ mb_c g m r (g.2.2.1 r) = 1 ∧ mb_P g m r 0) → J10 x2 z0 0 (nI (r + 1)) := fun z => by rw [bz_f z] at hJ; exact hJ
  refine bz_br rfl (fun z => nm_r (nI_1 r) (no fun y => z y.1)) (fun z => pk_eq (mb_c g m r (g.2.2.1 r)) 1 (fun z2 => ?_) (fun z2 => nm_r (nI_1 r) (no fun y => z2 y.2.1)) rfl rfl (by omega) (by decide))
  refine xk_I (k := 0) hN h8 hg hE hm hr (mb_p hc) (bz_br rfl (fun z3 => nm_r (nI_1 r) (no fun y => z3 y.2.2)) (fun z3 => ?_))
  rw [bz_t (P := Q ∧ mb_c g m r (g.2.2.1 r) = 1 ∧ mb_P g m r 0) ⟨z, z2, z3⟩] at hJ
  exact nm_r (nI_1 r) hJ
theorem xk_45 {post : Int32 → Prop} {J10 : Int32 → Int32 → Int32 → Int32 → Prop} {x1 x2 : Int32} {Q1 Q2 : Prop} (hN : N ≤ 6) (h8 : g.1 ≤ 8) (hg : gw_X 0 g aL aN aS) (hE : gw_E N g) (hm : sn_R N m aM) (hr : r < g.1) (hc : 0 < mb_c g m r (g.2.2.1 r))
    (hJ : J10 0 (bz_I (Q1 ∧ mb_c g m r (g.2.2.1 r) = 1 ∧ mb_P g m r (g.2.2.1 r - 1))) (bz_I (Q2 ∧ mb_c g m r (g.2.2.1 r) = 1 ∧ mb_P g m r 0)) (nI (r + 1))) : wX_kindOfSet_45 post J10 x1 x2 (bz_I Q1) (bz_I Q2) (nI r) (nI (mb_c g m r (g.2.2.1 r))) xN xT xB xR xS xE xL xA xG xC xF aL aN aS aR aM aK aT aE := by
  obtain ⟨h1, h2, h3, h4, h5⟩ := gw_X0 hg hr
  have hle := mb_le (g := g) (m := m) (r := r) (k := g.2.2.1 r)
  have eN : aN (nI r).toNatClampNeg = nI (g.2.2.1 r) := by rw [nI_clamp (by omega)]; exact h3
  have no : ¬ (Q1 ∧ mb_c g m r (g.2.2.1 r) = 1 ∧ mb_P g m r (g.2.2.1 r - 1)) → wX_kindOfSet_86 post J10 x1 0 (bz_I Q2) (nI r) (nI (mb_c g m r (g.2.2.1 r))) xN xT xB xR xS xE xL xA xG xC xF aL aN aS aR aM aK aT aE := fun z => by
    rw [bz_f z] at hJ
    exact xk_87 hN h8 hg hE hm hr hc hJ
  refine br_f (nI_nle hc (by omega)) (bz_br rfl (fun z => no fun y => z y.1) (fun z => pk_eq (mb_c g m r (g.2.2.1 r)) 1 (fun z2 => ⟨vp_in_nI (by omega) (by decide), ?_⟩) (fun z2 => no fun y => z2 y.2.1) rfl rfl (by omega) (by decide)))
  rw [eN]
  have hp := mb_p hc
  obtain ⟨l, hl⟩ : ∃ l, g.2.2.1 r = l + 1 := ⟨g.2.2.1 r - 1, by omega⟩
  have e1 : nI (g.2.2.1 r) - 1 = nI (g.2.2.1 r - 1) := by rw [hl, nI_pred]; rfl
  rw [e1]
  refine xk_I (k := g.2.2.1 r - 1) hN h8 hg hE hm hr (by omega) (bz_br rfl (fun z3 => no fun y => z3 y.2.2) (fun z3 => ?_))
  rw [bz_t (P := Q1 ∧ mb_c g m r (g.2.2.1 r) = 1 ∧ mb_P g m r (g.2.2.1 r - 1)) ⟨z, z2, z3⟩] at hJ
  exact xk_87 hN h8 hg hE hm hr hc hJ
theorem xk_10 {post : Int32 → Prop} {s : Nat} (hs : s < 6) (hN : N ≤ 6) (h8 : g.1 ≤ 8) (hg : gw_X 0 g aL aN aS) (hE : gw_E N g) (hm : sn_R N m aM) (H : post (nI (kn_K g m s))) :
    ∀ d r, r + d = g.1 → wX_kindOfSet_10 post (nI s) xN xT xB (nI g.1) xS xE xL xA xG xC xF aL aN aS aR aM aK aT aE (d + 1) (bz_I (¬ kn_A g m s r)) (bz_I (kn_R g m s r)) (bz_I (kn_L g m s r)) (nI r) := by
  intro d
  induction d with
  | zero =>
    intro r hr
    have e : r = g.1 := by omega
    subst e
    refine br_t (nI_le (Nat.le_refl _) (by omega)) (bz_br rfl (fun z => ?_) (fun z => ?_))
    · have z := Classical.byContradiction z
      refine bz_br rfl (fun z1 => bz_br rfl (fun z2 => ?_) (fun z2 => ?_)) (fun z1 => ?_)
      · rw [kn_3 z z1 z2] at H; exact H
      · rw [kn_2 z z1 z2] at H; exact H
      · rw [kn_1 z z1] at H; exact H
    · rw [kn_0 z] at H; exact H
  | succ d ih =>
    intro r hr
    obtain ⟨h1, h2, h3, h4, h5⟩ := gw_X0 hg (r := r) (by omega)
    obtain ⟨e1, e2, e3⟩ := hE r (by omega)
    have m2 := hm (g.2.1 r) e1
    have eL : aL (nI r).toNatClampNeg = nI (g.2.1 r) := by rw [nI_clamp (by omega)]; exact h1
    have ih' := ih (r + 1) (by omega)
    have no : ¬ (m (g.2.1 r) = s ∧ 0 < mb_c g m r (g.2.2.1 r)) → wX_kindOfSet_45 post (wX_kindOfSet_10 post (nI s) xN xT xB (nI g.1) xS xE xL xA xG xC xF aL aN aS aR aM aK aT aE (d + 1)) (nI s) (bz_I (¬ kn_A g m s r)) (bz_I (kn_R g m s r)) (bz_I (kn_L g m s r)) (nI r) 0 xN xT xB (nI g.1) xS xE xL xA xG xC xF aL aN aS aR aM aK aT aE := fun z => by
      rw [bz_c (P := ¬ kn_A g m s (r + 1)) (Q := ¬ kn_A g m s r) (not_congr (kn_As.trans ⟨fun y => y.elim id fun w => absurd w z, Or.inl⟩)), bz_c (P := kn_R g m s (r + 1)) (Q := kn_R g m s r) (kn_Rs.trans ⟨And.left, fun y => ⟨y, fun w1 w2 => absurd ⟨w1, w2⟩ z⟩⟩), bz_c (P := kn_L g m s (r + 1)) (Q := kn_L g m s r) (kn_Ls.trans ⟨And.left, fun y => ⟨y, fun w1 w2 => absurd ⟨w1, w2⟩ z⟩⟩)] at ih'
      exact br_t (by decide) (nm_r (nI_1 r) ih')
    refine br_f (nI_ge (by omega) (by omega)) ⟨vp_in_nI (by omega) (by decide), pk_in (g.2.1 r) 6 (by omega) eL, pk_eq (m (g.2.1 r)) s (fun z => ?_) (fun z => no fun y => z y.1) (by rw [eL, nI_clamp (by omega)]; exact m2.1) rfl (by have := m2.2; omega) (by omega)⟩
    refine xk_C hN h8 hg hE hm (by omega) ?_
    rcases Nat.eq_zero_or_pos (mb_c g m r (g.2.2.1 r)) with y | y
    · rw [y]; exact no fun w => by have := w.2; omega
    · refine xk_45 hN h8 hg hE hm (by omega) y ?_
      rw [bz_f (P := ¬ kn_A g m s (r + 1)) (fun w => w (kn_As.mpr (Or.inr ⟨z, y⟩))), bz_c (P := kn_R g m s (r + 1)) (kn_Rs.trans (and_congr Iff.rfl ⟨fun w => w z y, fun w _ _ => w⟩)), bz_c (P := kn_L g m s (r + 1)) (kn_Ls.trans (and_congr Iff.rfl ⟨fun w => w z y, fun w _ _ => w⟩))] at ih'
      exact ih'
theorem xk_K {post : Int32 → Prop} {s : Nat} (hs : s < 6) (hN : N ≤ 6) (h8 : g.1 ≤ 8) (hg : gw_X 0 g aL aN aS) (hE : gw_E N g) (hm : sn_R N m aM) (H : post (nI (kn_K g m s))) : wpX_kindOfSet post (xN, xT, xB, nI g.1, xS, xE, xL, xA, xG, xC, xF, aL, aN, aS, aR, aM, aK, aT, aE) (nI s) := by
  have := xk_10 (xN := xN) (xT := xT) (xB := xB) (xS := xS) (xE := xE) (xL := xL) (xA := xA) (xG := xG) (xC := xC) (xF := xF) (aR := aR) (aK := aK) (aT := aT) (aE := aE) hs hN h8 hg hE hm H g.1 0 (by omega)
  rw [bz_t (P := ¬ kn_A g m s 0) kn_A0, bz_t (P := kn_R g m s 0) kn_R0, bz_t (P := kn_L g m s 0) kn_L0] at this
  exact ⟨g.1 + 1, this⟩
theorem xk_2 {post : SX → Prop} (hN : N ≤ 6) (h8 : g.1 ≤ 8) (hg : gw_X 0 g aL aN aS) (hE : gw_E N g) (hm : sn_R N m aM) (H : ∀ q, (∀ a, a < N → q a = nI (kn_K g m (m a))) → post (nI N, xT, xB, nI g.1, xS, xE, xL, xA, xG, xC, xF, aL, aN, aS, aR, aM, q, aT, aE)) :
    ∀ d a q, a + d = N → (∀ a', a' < a → q a' = nI (kn_K g m (m a'))) → wX_findKinds_2 post (nI N) xT xB (nI g.1) xS xE xL xA xG xC xF (d + 1) (nI a) aL aN aS aR aM q aT aE := by
  intro d
  induction d with
  | zero =>
    intro a q ha hq
    have e : a = N := by omega
    subst e
    exact br_t (nI_le (Nat.le_refl _) (by omega)) (H q hq)
  | succ d ih =>
    intro a q ha hq
    have m2 := hm a (by omega)
    refine br_f (nI_ge (by omega) (by omega)) ⟨vp_in_nI (by omega) (by decide), ?_⟩
    rw [nI_clamp (by omega), m2.1]
    refine xk_K m2.2 hN h8 hg hE hm ⟨vp_in_nI (by omega) (by decide), nm_r (e' := upd q a (nI (kn_K g m (m a)))) rfl (nm_r (nI_1 a) (ih (a + 1) _ (by omega) fun a' h => ?_))⟩
    by_cases z : a' = a
    · subst z; rw [pk_us]
    · rw [pk_un z]; exact hq a' (by omega)
theorem xk_F {post : SX → Prop} (hN : N ≤ 6) (h8 : g.1 ≤ 8) (hg : gw_X 0 g aL aN aS) (hE : gw_E N g) (hm : sn_R N m aM) (H : ∀ q, (∀ a, a < N → q a = nI (kn_K g m (m a))) → post (nI N, xT, xB, nI g.1, xS, xE, xL, xA, xG, xC, xF, aL, aN, aS, aR, aM, q, aT, aE)) : wpX_findKinds post (nI N, xT, xB, nI g.1, xS, xE, xL, xA, xG, xC, xF, aL, aN, aS, aR, aM, aK, aT, aE) :=
  ⟨N + 1, xk_2 hN h8 hg hE hm H N 0 aK (by omega) (fun a h => absurd h (Nat.not_lt_zero a))⟩
end xks
end
section
/-! X: the rewritten grammar -/
def xw_I (g h : gm_G) (aL aN aS : Nat → Int32) : Prop := gw_X 0 g aL aN aS ∧ gw_X 8 h aL aN aS
theorem xw_6 (a : Nat) : (6 : Int32) + nI a = nI (6 + a) := nI_add 6 a
section xws
variable {xN xT xB xR xS xE xL xA xG xC xF : Int32} {aL aN aS aR aM aK aT aE : Nat → Int32}
variable {N r : Nat} {g h : gm_G} {m kd : Nat → Nat}
theorem xa_S {post : SX → Prop} {q l : Nat} {p1 : Int32} (hq : q < 34) (hl : l ≤ 4) (eN : aN q = nI l) (H : post (xN, xT, xB, xR, xS, xE, xL, xA, xG, xC, xF, aL, upd aN q (nI (l + 1)), upd aS (q * 5 + l) p1, aR, aM, aK, aT, aE)) : wpX_appendSymbol post (xN, xT, xB, xR, xS, xE, xL, xA, xG, xC, xF, aL, aN, aS, aR, aM, aK, aT, aE) (nI q) p1 := by
  have eN' : aN (nI q).toNatClampNeg = nI l := by rw [nI_clamp (by omega)]; exact eN
  refine ⟨vp_in_nI hq (by decide), pk_in (q * 5 + l) 170 (by omega) (by rw [eN', xp_ix5]), nm_r (e' := upd aS (q * 5 + l) p1) (by rw [eN', xp_ix5, nI_clamp (by omega)]) ⟨vp_in_nI hq (by decide), vp_in_nI hq (by decide), nm_r (e' := upd aN q (nI (l + 1))) (by rw [eN', nI_clamp (by omega), nI_1]) H⟩⟩
theorem xw_st {post : SX → Prop} {a : Nat} (h8 : g.1 ≤ 8) (ha : a < 12) (hl : h.1 < 26) (hI : xw_I g h aL aN aS) (H : ∀ l n, xw_I g (gm_st h a) l n aS → post (xN, xT, xB, xR, xS, nI (8 + (h.1 + 1)), xL, xA, xG, xC, xF, l, n, aS, aR, aM, aK, aT, aE)) : wpX_startRewritten post (xN, xT, xB, xR, xS, nI (8 + h.1), xL, xA, xG, xC, xF, aL, aN, aS, aR, aM, aK, aT, aE) (nI a) := by
  refine ⟨vp_in_nI (by omega) (by decide), nm_r (e' := upd aL (8 + h.1) (nI a)) (by rw [nI_clamp (by omega)]) ⟨vp_in_nI (by omega) (by decide), nm_r (e' := upd aN (8 + h.1) 0) (by rw [nI_clamp (by omega)]) (nm_r (e' := nI (8 + (h.1 + 1))) (nI_1 (8 + h.1)) (H _ _ ⟨?_, gw_Xst hI.2 rfl ha (by omega)⟩))⟩⟩
  exact gw_Xfr hI.1 h8 (fun r hr => ⟨pk_un (by omega), pk_un (by omega)⟩) (fun _ _ => rfl)
theorem xw_pu {post : SX → Prop} {s q : Nat} (h8 : g.1 ≤ 8) (hq : h.1 = q + 1) (hs : s < 16) (h4 : h.2.2.1 q ≤ 4) (hI : xw_I g h aL aN aS) (H : ∀ n t, xw_I g (gm_pu h s) aL n t → post (xN, xT, xB, xR, xS, nI (8 + h.1), xL, xA, xG, xC, xF, aL, n, t, aR, aM, aK, aT, aE)) : wpX_appendSymbol post (xN, xT, xB, xR, xS, nI (8 + h.1), xL, xA, xG, xC, xF, aL, aN, aS, aR, aM, aK, aT, aE) (nI (8 + h.1) - 1) (nI s) := by
  have e0 : nI (8 + h.1) - 1 = nI (8 + q) := by rw [hq]; exact nI_pred (8 + q)
  have h34 := hI.2.1
  have eN := (hI.2.2 q (by omega)).2.2.1
  rw [e0]
  refine xa_S (by omega) h4 eN (H _ _ ⟨gw_Xfr hI.1 h8 (fun r hr => ⟨rfl, pk_un (by omega)⟩) (fun c hc => pk_un (by omega)), gw_Xpu hI.2 hq rfl rfl hs h4⟩)
theorem xw_19 {post : SX → Prop} (hN : N ≤ 6) (h8 : g.1 ≤ 8) (hE : gw_E N g) (hm : sn_R N m aM) (hr : r < g.1) (hk3 : kd (g.2.1 r) = 3) (hz : h.1 + g.2.2.1 r < 24)
    (H : ∀ l n t, xw_I g (gz_f g kd r (gz_p g m kd r h (g.2.2.1 r))) l n t → post (xN, xT, xB, xR, xS, nI (8 + (gz_f g kd r (gz_p g m kd r h (g.2.2.1 r))).1), xL, xA, xG, xC, xF, l, n, t, aR, aM, aK, aT, aE)) :
    ∀ d k aL aN aS, k + d = g.2.2.1 r → xw_I g (gz_p g m kd r h k) aL aN aS → wX_splitRule_19 post (nI r) (nI (g.2.2.1 r)) (d + 1) (nI k) xN xT xB xR xS (nI (8 + (gz_p g m kd r h k).1)) xL xA xG xC xF aL aN aS aR aM aK aT aE := by
  obtain ⟨e1, e2, e3⟩ := hE r hr
  intro d
  induction d with
  | zero =>
    intro k aL aN aS hk hI
    have e : k = g.2.2.1 r := by omega
    subst e
    obtain ⟨q, q1, q2, q3, _⟩ := gz_pz (g := g) (m := m) (kd := kd) (r := r) (h := h) (g.2.2.1 r)
    have eL : aL (nI r).toNatClampNeg = nI (g.2.1 r) := by rw [nI_clamp (by omega)]; exact (gw_X0 hI.1 hr).1
    refine br_t (nI_le (Nat.le_refl _) (by omega)) ⟨vp_in_nI (by omega) (by decide), ?_⟩
    rw [eL, xw_6]
    rw [gz_ft hk3] at H
    exact xw_pu h8 q1 (by omega) (by omega) hI fun n t hI' => H aL n t hI'
  | succ d ih =>
    intro k aL aN aS hk hI
    obtain ⟨q, q1, q2, q3, _⟩ := gz_pz (g := g) (m := m) (kd := kd) (r := r) (h := h) k
    have hs := (gw_X0 hI.1 hr).2.2.2.2 k (by omega)
    refine br_f (nI_ge (by omega) (by omega)) ⟨pk_in (r * 5 + k) 170 (by omega) (xp_ix5 r k), nm_r (e' := nI (g.2.2.2 r k)) (by rw [xp_ix5, nI_clamp (by omega)]; exact hs.1) ?_⟩
    refine xw_pu h8 q1 hs.2 (by omega) hI fun n t hI' => xk_I hN h8 hI'.1 hE hm hr (by omega) (bz_br rfl (fun z => ?_) (fun z => ?_))
    · have := ih (k + 1) aL n t (by omega)
      rw [gz_pf (fun y => z y.2)] at this
      exact nm_r (nI_1 k) (this hI')
    · rw [xw_6]
      refine xw_st (h := gm_pu (gz_p g m kd r h k) (g.2.2.2 r k)) h8 (by have := z.1; omega) (by show (gz_p g m kd r h k).1 < 26; omega) hI' fun l n' hI'' => ?_
      have := ih (k + 1) l n' t (by omega)
      rw [gz_pt ⟨hk3, z⟩] at this
      exact nm_r (nI_1 k) (this hI'')
theorem xw_S {post : SX → Prop} (hN : N ≤ 6) (h8 : g.1 ≤ 8) (hE : gw_E N g) (hm : sn_R N m aM) (hr : r < g.1) (hk3 : kd (g.2.1 r) = 3) (hz : h.1 + g.2.2.1 r < 24) (hI : xw_I g h aL aN aS)
    (H : ∀ l n t, xw_I g (gz_f g kd r (gz_p g m kd r h (g.2.2.1 r))) l n t → post (xN, xT, xB, xR, xS, nI (8 + (gz_f g kd r (gz_p g m kd r h (g.2.2.1 r))).1), xL, xA, xG, xC, xF, l, n, t, aR, aM, aK, aT, aE)) : wpX_splitRule post (xN, xT, xB, xR, xS, nI (8 + h.1), xL, xA, xG, xC, xF, aL, aN, aS, aR, aM, aK, aT, aE) (nI r) := by
  obtain ⟨h1, h2, h3, h4, h5⟩ := gw_X0 hI.1 hr
  refine ⟨vp_in_nI (by omega) (by decide), nm_r (e' := nI (g.2.2.1 r)) (by rw [nI_clamp (by omega)]; exact h3) ⟨vp_in_nI (by omega) (by decide), ?_⟩⟩
  rw [nI_clamp (by omega), h1]
  exact xw_st h8 h2 (by omega) hI fun l n hI' => ⟨g.2.2.1 r + 1, xw_19 hN h8 hE hm hr hk3 hz H (g.2.2.1 r) 0 l n aS (by omega) hI'⟩
theorem xw_c19 {post : SX → Prop} (h8 : g.1 ≤ 8) (hE : gw_E N g) (hr : r < g.1) (hk3 : ¬ kd (g.2.1 r) = 3) (hz : h.1 + g.2.2.1 r < 24)
    (H : ∀ l n t, xw_I g (gz_f g kd r (gz_p g m kd r h (g.2.2.1 r))) l n t → post (xN, xT, xB, xR, xS, nI (8 + (gz_f g kd r (gz_p g m kd r h (g.2.2.1 r))).1), xL, xA, xG, xC, xF, l, n, t, aR, aM, aK, aT, aE)) :
    ∀ d k aL aN aS, k + d = g.2.2.1 r → xw_I g (gz_p g m kd r h k) aL aN aS → wX_copyRule_19 post (nI r) (nI (g.2.2.1 r)) (d + 1) (nI k) xN xT xB xR xS (nI (8 + (gz_p g m kd r h k).1)) xL xA xG xC xF aL aN aS aR aM aK aT aE := by
  obtain ⟨e1, e2, e3⟩ := hE r hr
  intro d
  induction d with
  | zero =>
    intro k aL aN aS hk hI
    have e : k = g.2.2.1 r := by omega
    subst e
    rw [gz_ff hk3] at H
    exact br_t (nI_le (Nat.le_refl _) (by omega)) (H aL aN aS hI)
  | succ d ih =>
    intro k aL aN aS hk hI
    obtain ⟨q, q1, q2, q3, _⟩ := gz_pz (g := g) (m := m) (kd := kd) (r := r) (h := h) k
    have hs := (gw_X0 hI.1 hr).2.2.2.2 k (by omega)
    refine br_f (nI_ge (by omega) (by omega)) ⟨pk_in (r * 5 + k) 170 (by omega) (xp_ix5 r k), ?_⟩
    rw [xp_ix5, nI_clamp (by omega), hs.1]
    refine xw_pu h8 q1 hs.2 (by omega) hI fun n t hI' => ?_
    have := ih (k + 1) aL n t (by omega)
    rw [gz_pf (fun y => hk3 y.1)] at this
    exact nm_r (nI_1 k) (this hI')
theorem xw_C {post : SX → Prop} (h8 : g.1 ≤ 8) (hE : gw_E N g) (hr : r < g.1) (hk3 : ¬ kd (g.2.1 r) = 3) (hz : h.1 + g.2.2.1 r < 24) (hI : xw_I g h aL aN aS)
    (H : ∀ l n t, xw_I g (gz_f g kd r (gz_p g m kd r h (g.2.2.1 r))) l n t → post (xN, xT, xB, xR, xS, nI (8 + (gz_f g kd r (gz_p g m kd r h (g.2.2.1 r))).1), xL, xA, xG, xC, xF, l, n, t, aR, aM, aK, aT, aE)) : wpX_copyRule post (xN, xT, xB, xR, xS, nI (8 + h.1), xL, xA, xG, xC, xF, aL, aN, aS, aR, aM, aK, aT, aE) (nI r) := by
  obtain ⟨h1, h2, h3, h4, h5⟩ := gw_X0 hI.1 hr
  refine ⟨vp_in_nI (by omega) (by decide), nm_r (e' := nI (g.2.2.1 r)) (by rw [nI_clamp (by omega)]; exact h3) ⟨vp_in_nI (by omega) (by decide), ?_⟩⟩
  rw [nI_clamp (by omega), h1]
  exact xw_st h8 h2 (by omega) hI fun l n hI' => ⟨g.2.2.1 r + 1, xw_c19 h8 hE hr hk3 hz H (g.2.2.1 r) 0 l n aS (by omega) hI'⟩
theorem xw_46 {post : SX → Prop} (hN : N ≤ 6) (h8 : g.1 ≤ 8) (h12 : sr_S g.2.2.1 g.1 ≤ 12) (hK : ∀ a, a < N → aK a = nI (kd a) ∧ kd a ≤ 3)
    (H : ∀ l n t, xw_I g (gz_C g m kd N) l n t → post (nI N, xT, xB, xR, xS, nI (8 + (gz_C g m kd N).1), xL, xA, xG, xC, xF, l, n, t, aR, aM, aK, aT, aE)) :
    ∀ d a aL aN aS, a + d = N → xw_I g (gz_C g m kd a) aL aN aS → wX_rewrite_46 post (d + 1) (nI a) (nI N) xT xB xR xS (nI (8 + (gz_C g m kd a).1)) xL xA xG xC xF aL aN aS aR aM aK aT aE := by
  intro d
  induction d with
  | zero =>
    intro a aL aN aS ha hI
    have e : a = N := by omega
    subst e
    exact br_t (nI_le (Nat.le_refl _) (by omega)) (H aL aN aS hI)
  | succ d ih =>
    intro a aL aN aS ha hI
    have hk := hK a (by omega)
    have hz := (gz_Cz (g := g) (m := m) (kd := kd) a).1
    refine br_f (nI_ge (by omega) (by omega)) ⟨vp_in_nI (by omega) (by decide), pk_eq (kd a) 3 (fun z => ?_) (fun z => ?_) (by rw [nI_clamp (by omega)]; exact hk.1) rfl (by omega) (by decide)⟩
    · rw [xw_6]
      refine xw_st h8 (by omega) (by omega) hI fun l n hI' => ?_
      have := ih (a + 1) l n aS (by omega)
      rw [gz_Ct z] at this
      exact nm_r (nI_1 a) (this hI')
    · have := ih (a + 1) aL aN aS (by omega)
      rw [gz_Cf z] at this
      exact nm_r (nI_1 a) (this hI)
theorem xw_2 {post : SX → Prop} (hN : N ≤ 6) (h8 : g.1 ≤ 8) (h12 : sr_S g.2.2.1 g.1 ≤ 12) (hE : gw_E N g) (hm : sn_R N m aM) (hK : ∀ a, a < N → aK a = nI (kd a) ∧ kd a ≤ 3)
    (H : ∀ l n t, xw_I g (gz_C g m kd N) l n t → post (nI N, xT, xB, nI g.1, xS, nI (8 + (gz_C g m kd N).1), xL, xA, xG, xC, xF, l, n, t, aR, aM, aK, aT, aE)) :
    ∀ d r aL aN aS, r + d = g.1 → xw_I g (gz_B g m kd r) aL aN aS → wX_rewrite_2 post (d + 1) (nI r) (nI N) xT xB (nI g.1) xS (nI (8 + (gz_B g m kd r).1)) xL xA xG xC xF aL aN aS aR aM aK aT aE := by
  intro d
  induction d with
  | zero =>
    intro r aL aN aS hr hI
    have e : r = g.1 := by omega
    subst e
    exact br_t (nI_le (Nat.le_refl _) (by omega)) ⟨N + 1, xw_46 hN h8 h12 hK H N 0 aL aN aS (by omega) hI⟩
  | succ d ih =>
    intro r aL aN aS hr hI
    obtain ⟨h1, h2, h3, h4, h5⟩ := gw_X0 hI.1 (r := r) (by omega)
    obtain ⟨e1, e2, e3⟩ := hE r (by omega)
    have hk := hK (g.2.1 r) e1
    have hz := (gz_Bz (g := g) (m := m) (kd := kd) r).1
    have hsm := sr_m (ln := g.2.2.1) (r := r) (n := g.1) (by omega)
    have eL : aL (nI r).toNatClampNeg = nI (g.2.1 r) := by rw [nI_clamp (by omega)]; exact h1
    refine br_f (nI_ge (by omega) (by omega)) ⟨vp_in_nI (by omega) (by decide), pk_in (g.2.1 r) 6 (by omega) eL, pk_eq (kd (g.2.1 r)) 3 (fun z => ?_) (fun z => ?_) (by rw [eL, nI_clamp (by omega)]; exact hk.1) rfl (by omega) (by decide)⟩
    · exact xw_S hN h8 hE hm (by omega) z (by omega) hI fun l n t hI' => nm_r (nI_1 r) (ih (r + 1) l n t (by omega) hI')
    · exact xw_C (m := m) h8 hE (by omega) z (by omega) hI fun l n t hI' => nm_r (nI_1 r) (ih (r + 1) l n t (by omega) hI')
theorem gz_X8 {aL aN aS : Nat → Int32} : gw_X 8 (gz_B g m kd 0) aL aN aS := ⟨by show 8 + 0 ≤ 34; decide, fun r hr => absurd hr (Nat.not_lt_zero r)⟩
theorem xw_R {post : SX → Prop} (hN : N ≤ 6) (h8 : g.1 ≤ 8) (h12 : sr_S g.2.2.1 g.1 ≤ 12) (hE : gw_E N g) (hm : sn_R N m aM) (hK : ∀ a, a < N → aK a = nI (kd a) ∧ kd a ≤ 3) (hg : gw_X 0 g aL aN aS)
    (H : ∀ l n t, xw_I g (gz_C g m kd N) l n t → post (nI N, xT, xB, nI g.1, xS, nI (8 + (gz_C g m kd N).1), xL, xA, xG, xC, xF, l, n, t, aR, aM, aK, aT, aE)) : wpX_rewrite post (nI N, xT, xB, nI g.1, xS, nI 8, xL, xA, xG, xC, xF, aL, aN, aS, aR, aM, aK, aT, aE) :=
  ⟨g.1 + 1, xw_2 hN h8 h12 hE hm hK H g.1 0 aL aN aS (by omega) ⟨hg, gz_X8⟩⟩
end xws
end
section
/-! Y: members, kinds -/
section yks
variable {yN yT yB yR yS yW yG yH yK yI : Int32} {bL bS bN bY bW bM bK bR gL gS gN gY kL kS kN kY bI bD bP bQ bC bX : Nat → Int32}
variable {N r : Nat} {g : gm_G} {m : Nat → Nat}
theorem yk_I {post : Int32 → Prop} {k : Nat} (hN : N ≤ 6) (hg : gw_Y 8 12 g bL bS bN bY) (hE : gw_E N g) (hm : sn_R N m bM) (hr : r < g.1) (hk : k < g.2.2.1 r) (H : post (bz_I (mb_P g m r k))) : wpY_member post (yN, yT, yB, yR, yS, yW, yG, yH, yK, yI, bL, bS, bN, bY, bW, bM, bK, bR, gL, gS, gN, gY, kL, kS, kN, kY, bI, bD, bP, bQ, bC, bX) (nI r) (nI k) := by
  obtain ⟨h1, h2, h3, h4, h5⟩ := hg.2.2 r hr
  obtain ⟨e1, e2, e3⟩ := hE r hr
  have h8 := hg.1
  have h12 := hg.2.1
  have hsm := sr_m (ln := g.2.2.1) hr
  have eL : bL (nI r).toNatClampNeg = nI (g.2.1 r) := by rw [nI_clamp (by omega)]; exact h1
  have hs := h5 k hk
  have hsN := e3 k hk
  refine ⟨vp_in_nI (by omega) (by decide), nm_r (e' := nI (sr_S g.2.2.1 r + k)) (by rw [nI_clamp (by omega), h3, nI_add]) (br_f (nI_pos (by omega)) (br_t (nI_lt (b := 12) (by omega) (by decide)) ⟨vp_in_nI (by omega) (by decide), nm_r (e' := cd_Y (g.2.2.2 r k)) (by rw [nI_clamp (by omega)]; exact hs.1) ?_⟩))⟩
  rcases Nat.lt_or_ge (g.2.2.2 r k) 12 with z | z
  · rw [cd_n z]
    refine br_f (nI_pos (by omega)) (br_t (nI_lt (b := 6) (by omega) (by decide)) ?_)
    have m1 := hm (g.2.2.2 r k) (by omega)
    have m2 := hm (g.2.1 r) e1
    refine ⟨vp_in_nI (by omega) (by decide), vp_in_nI (by omega) (by decide), pk_in (g.2.1 r) 6 (by omega) eL, pk_eq (m (g.2.2.2 r k)) (m (g.2.1 r)) (fun y => ?_) (fun y => ?_) (by rw [nI_clamp (by omega)]; exact m1.1) (by rw [eL, nI_clamp (by omega)]; exact m2.1) (by have := m1.2; omega) (by have := m2.2; omega)⟩
    · exact bz_p1 H ⟨by omega, y⟩
    · exact bz_p0 H (fun w => y w.2)
  · refine br_t (cd_t1 _ hs.2 z) ?_
    exact bz_p0 H (fun y => by have := y.1; omega)
theorem yk_133 {post : Int32 → Prop} {J10 : Int32 → Int32 → Int32 → Int32 → Prop} {x1 x2 x3 : Int32} {c : Nat} {Q F : Prop} (hc : c < 100) (hJ : J10 x2 x3 (bz_I (Q ∧ (0 < c → c = 1 ∧ F))) (nI (r + 1))) : wY_computeKind_133 post J10 x1 x2 x3 (bz_I Q) (nI r) (nI c) (bz_I F) yN yT yB yR yS yW yG yH yK yI bL bS bN bY bW bM bK bR gL gS gN gY kL kS kN kY bI bD bP bQ bC bX := by
  have no : ¬ (Q ∧ (0 < c → c = 1 ∧ F)) → J10 x2 x3 0 (nI (r + 1)) := fun z => by rw [bz_f z] at hJ; exact hJ
  have ye : (0 < c → c = 1 ∧ F) → J10 x2 x3 (bz_I Q) (nI (r + 1)) := fun z => by rw [bz_c ⟨And.left, fun y => ⟨y, z⟩⟩] at hJ; exact hJ
  refine pk_lt 1 c (fun z => nm_r (nI_1 r) (no fun y => by have := (y.2 (by omega)).1; omega)) (fun z => ?_) rfl rfl (by decide) (by omega)
  refine pk_eq c 1 (fun z2 => bz_br rfl (fun z3 => nm_r (nI_1 r) (no fun y => z3 (y.2 (by omega)).2)) (fun z3 => nm_r (nI_1 r) (ye fun _ => ⟨z2, z3⟩))) (fun z2 => nm_r (nI_1 r) (ye fun y => by omega)) rfl rfl (by omega) (by decide)
theorem yk_114 {post : Int32 → Prop} {J10 : Int32 → Int32 → Int32 → Int32 → Prop} {x1 x2 : Int32} {c : Nat} {Q1 Q2 F1 F2 : Prop} (hc : c < 100) (hJ : J10 x2 (bz_I (Q1 ∧ (0 < c → c = 1 ∧ F1))) (bz_I (Q2 ∧ (0 < c → c = 1 ∧ F2))) (nI (r + 1))) : wY_computeKind_114 post J10 x1 x2 (bz_I Q1) (bz_I Q2) (nI r) (nI c) (bz_I F2) (bz_I F1) yN yT yB yR yS yW yG yH yK yI bL bS bN bY bW bM bK bR gL gS gN gY kL kS kN kY bI bD bP bQ bC bX := by
  have no : ¬ (Q1 ∧ (0 < c → c = 1 ∧ F1)) → wY_computeKind_131 post J10 x1 x2 (bz_I Q2) (nI r) (nI c) (bz_I F2) yN yT yB yR yS yW yG yH yK yI bL bS bN bY bW bM bK bR gL gS gN gY kL kS kN kY bI bD bP bQ bC bX := fun z => by
    rw [bz_f z] at hJ
    exact yk_133 hc hJ
  have ye : (0 < c → c = 1 ∧ F1) → wY_computeKind_133 post J10 x1 x2 (bz_I Q1) (bz_I Q2) (nI r) (nI c) (bz_I F2) yN yT yB yR yS yW yG yH yK yI bL bS bN bY bW bM bK bR gL gS gN gY kL kS kN kY bI bD bP bQ bC bX := fun z => by
    rw [bz_c (Q := Q1) ⟨And.left, fun y => ⟨y, z⟩⟩] at hJ
    exact yk_133 hc hJ
  refine pk_lt 1 c (fun z => no fun y => by have := (y.2 (by omega)).1; omega) (fun z => ?_) rfl rfl (by decide) (by omega)
  exact pk_eq c 1 (fun z2 => bz_br rfl (fun z3 => no fun y => z3 (y.2 (by omega)).2) (fun z3 => ye fun _ => ⟨z2, z3⟩)) (fun z2 => ye fun y => by omega) rfl rfl (by omega) (by decide)
theorem yk_50 {post : Int32 → Prop} {J10 : Int32 → Int32 → Int32 → Int32 → Prop} {x1 : Int32} {Q0 Q1 Q2 : Prop} (hN : N ≤ 6) (hg : gw_Y 8 12 g bL bS bN bY) (hE : gw_E N g) (hm : sn_R N m bM) (hr : r < g.1)
    (hJ : J10 (bz_I (Q0 ∨ 0 < mb_c g m r (g.2.2.1 r))) (bz_I (Q1 ∧ (0 < mb_c g m r (g.2.2.1 r) → mb_c g m r (g.2.2.1 r) = 1 ∧ mb_P g m r (g.2.2.1 r - 1)))) (bz_I (Q2 ∧ (0 < mb_c g m r (g.2.2.1 r) → mb_c g m r (g.2.2.1 r) = 1 ∧ mb_P g m r 0))) (nI (r + 1))) :
    ∀ d k, k + d = g.2.2.1 r → wY_computeKind_50 post J10 x1 (bz_I Q0) (bz_I Q1) (bz_I Q2) (nI r) yN yT yB yR yS yW yG yH yK yI bL bS bN bY bW bM bK bR gL gS gN gY kL kS kN kY bI bD bP bQ bC bX (d + 1) (nI (mb_c g m r k)) (bz_I (0 < k ∧ mb_P g m r 0)) (bz_I (k = g.2.2.1 r ∧ 0 < k ∧ mb_P g m r (g.2.2.1 r - 1))) (nI k) := by
  obtain ⟨h1, h2, h3, h4, h5⟩ := hg.2.2 r hr
  obtain ⟨e1, e2, e3⟩ := hE r hr
  have h8 := hg.1
  have eN : bN (nI r).toNatClampNeg = nI (g.2.2.1 r) := by rw [nI_clamp (by omega)]; exact h4
  intro d
  induction d with
  | zero =>
    intro k hk
    have e : k = g.2.2.1 r := by omega
    subst e
    have hle := mb_le (g := g) (m := m) (r := r) (k := g.2.2.1 r)
    have imp : ∀ {F : Prop} {G : Prop}, (0 < g.2.2.1 r → (F ↔ G)) → ∀ Q, ((Q ∧ (0 < mb_c g m r (g.2.2.1 r) → mb_c g m r (g.2.2.1 r) = 1 ∧ F)) ↔ (Q ∧ (0 < mb_c g m r (g.2.2.1 r) → mb_c g m r (g.2.2.1 r) = 1 ∧ G))) :=
      fun h Q => and_congr Iff.rfl (imp_congr_right fun y => and_congr Iff.rfl (h (mb_p y)))
    rw [bz_c (imp (F := mb_P g m r (g.2.2.1 r - 1)) (G := g.2.2.1 r = g.2.2.1 r ∧ 0 < g.2.2.1 r ∧ mb_P g m r (g.2.2.1 r - 1)) (fun y => ⟨fun w => ⟨rfl, y, w⟩, fun w => w.2.2⟩) Q1), bz_c (imp (F := mb_P g m r 0) (G := 0 < g.2.2.1 r ∧ mb_P g m r 0) (fun y => ⟨fun w => ⟨y, w⟩, fun w => w.2⟩) Q2)] at hJ
    refine ⟨vp_in_nI (by omega) (by decide), br_t (by rw [eN]; exact nI_le (Nat.le_refl _) (by omega)) (pk_le (mb_c g m r (g.2.2.1 r)) 0 (fun z => ?_) (fun z => ?_) rfl rfl (by omega) (by decide))⟩
    · rw [bz_c (P := Q0 ∨ 0 < mb_c g m r (g.2.2.1 r)) (Q := Q0) ⟨fun y => y.elim id fun w => by omega, Or.inl⟩] at hJ
      exact yk_114 (by omega) hJ
    · rw [bz_t (P := Q0 ∨ 0 < mb_c g m r (g.2.2.1 r)) (Or.inr z)] at hJ
      exact yk_114 (by omega) hJ
  | succ d ih =>
    intro k hk
    have ih' := ih (k + 1) (by omega)
    refine ⟨vp_in_nI (by omega) (by decide), br_f (by rw [eN]; exact nI_ge (by omega) (by omega)) (yk_I hN hg hE hm hr (by omega) (bz_br rfl (fun z => nm_r (nI_1 k) ?_) (fun z => nm_r (e' := nI (mb_c g m r (k + 1))) (by rw [nI_1, mb_t z]) ?_)))⟩
    · rw [mb_f z, bz_c (P := 0 < k + 1 ∧ mb_P g m r 0) (Q := 0 < k ∧ mb_P g m r 0) ⟨fun y => ⟨Nat.pos_of_ne_zero fun w => by subst w; exact z y.2, y.2⟩, fun y => ⟨by omega, y.2⟩⟩, bz_f (P := k + 1 = g.2.2.1 r ∧ 0 < k + 1 ∧ mb_P g m r (g.2.2.1 r - 1)) (fun y => z (by have := y.2.2; rw [← y.1] at this; exact this))] at ih'
      rw [bz_f (P := k = g.2.2.1 r ∧ 0 < k ∧ mb_P g m r (g.2.2.1 r - 1)) (fun y => by omega)]
      exact ih'
    · have h84 : wY_computeKind_84 post J10 (wY_computeKind_50 post J10 x1 (bz_I Q0) (bz_I Q1) (bz_I Q2) (nI r) yN yT yB yR yS yW yG yH yK yI bL bS bN bY bW bM bK bR gL gS gN gY kL kS kN kY bI bD bP bQ bC bX (d + 1)) x1 (bz_I Q0) (bz_I Q1) (bz_I Q2) (nI r) (nI (mb_c g m r (k + 1))) (bz_I (0 < k + 1 ∧ mb_P g m r 0)) (bz_I (k = g.2.2.1 r ∧ 0 < k ∧ mb_P g m r (g.2.2.1 r - 1))) (nI k) yN yT yB yR yS yW yG yH yK yI bL bS bN bY bW bM bK bR gL gS gN gY kL kS kN kY bI bD bP bQ bC bX := by
        obtain ⟨l, hl⟩ : ∃ l, g.2.2.1 r = l + 1 := ⟨g.2.2.1 r - 1, by omega⟩
        refine ⟨vp_in_nI (by omega) (by decide), pk_eq k l (fun w => ?_) (fun w => ?_) rfl (by rw [eN, hl, nI_pred]) (by omega) (by omega)⟩
        · rw [bz_t (P := k + 1 = g.2.2.1 r ∧ 0 < k + 1 ∧ mb_P g m r (g.2.2.1 r - 1)) ⟨by omega, by omega, by rw [show g.2.2.1 r - 1 = k from by omega]; exact z⟩] at ih'
          exact nm_r (nI_1 k) ih'
        · rw [bz_f (P := k + 1 = g.2.2.1 r ∧ 0 < k + 1 ∧ mb_P g m r (g.2.2.1 r - 1)) (fun y => by omega)] at ih'
          rw [bz_f (P := k = g.2.2.1 r ∧ 0 < k ∧ mb_P g m r (g.2.2.1 r - 1)) (fun y => by omega)]
          exact nm_r (nI_1 k) ih'
      refine pk_eq k 0 (fun w => ?_) (fun w => ?_) rfl rfl (by omega) (by decide)
      · rw [bz_t (P := 0 < k + 1 ∧ mb_P g m r 0) ⟨by omega, by subst w; exact z⟩] at h84
        exact h84
      · rw [bz_c (P := 0 < k + 1 ∧ mb_P g m r 0) (Q := 0 < k ∧ mb_P g m r 0) ⟨fun y => ⟨by omega, y.2⟩, fun y => ⟨by omega, y.2⟩⟩] at h84
        exact h84
theorem yk_10 {post : Int32 → Prop} {s : Nat} (hs : s < 6) (hN : N ≤ 6) (hg : gw_Y 8 12 g bL bS bN bY) (hE : gw_E N g) (hm : sn_R N m bM) (H : post (nI (kn_K g m s))) :
    ∀ d r, r + d = g.1 → wY_computeKind_10 post (nI s) yN yT yB (nI g.1) yS yW yG yH yK yI bL bS bN bY bW bM bK bR gL gS gN gY kL kS kN kY bI bD bP bQ bC bX (d + 1) (bz_I (kn_A g m s r)) (bz_I (kn_R g m s r)) (bz_I (kn_L g m s r)) (nI r) := by
  have h8 := hg.1
  intro d
  induction d with
  | zero =>
    intro r hr
    have e : r = g.1 := by omega
    subst e
    refine br_t (nI_le (Nat.le_refl _) (by omega)) (bz_br rfl (fun z => ?_) (fun z => bz_br rfl (fun z1 => bz_br rfl (fun z2 => ?_) (fun z2 => ?_)) (fun z1 => ?_)))
    · rw [kn_0 z] at H; exact H
    · rw [kn_3 z z1 z2] at H; exact H
    · rw [kn_2 z z1 z2] at H; exact H
    · rw [kn_1 z z1] at H; exact H
  | succ d ih =>
    intro r hr
    obtain ⟨h1, h2, h3, h4, h5⟩ := hg.2.2 r (by omega)
    obtain ⟨e1, e2, e3⟩ := hE r (by omega)
    have m2 := hm (g.2.1 r) e1
    have eL : bL (nI r).toNatClampNeg = nI (g.2.1 r) := by rw [nI_clamp (by omega)]; exact h1
    have ih' := ih (r + 1) (by omega)
    refine br_f (nI_ge (by omega) (by omega)) ⟨vp_in_nI (by omega) (by decide), pk_in (g.2.1 r) 6 (by omega) eL, pk_eq (m (g.2.1 r)) s (fun z => ?_) (fun z => ?_) (by rw [eL, nI_clamp (by omega)]; exact m2.1) rfl (by have := m2.2; omega) (by omega)⟩
    · rw [bz_c (P := kn_A g m s (r + 1)) (kn_As.trans (or_congr Iff.rfl ⟨fun w => w.2, fun w => ⟨z, w⟩⟩)), bz_c (P := kn_R g m s (r + 1)) (kn_Rs.trans (and_congr Iff.rfl ⟨fun w => w z, fun w _ => w⟩)), bz_c (P := kn_L g m s (r + 1)) (kn_Ls.trans (and_congr Iff.rfl ⟨fun w => w z, fun w _ => w⟩))] at ih'
      have key : ∀ a b, a = bz_I (0 < 0 ∧ mb_P g m r 0) → b = bz_I (0 = g.2.2.1 r ∧ 0 < 0 ∧ mb_P g m r (g.2.2.1 r - 1)) → wY_computeKind_50 post (wY_computeKind_10 post (nI s) yN yT yB (nI g.1) yS yW yG yH yK yI bL bS bN bY bW bM bK bR gL gS gN gY kL kS kN kY bI bD bP bQ bC bX (d + 1)) (nI s) (bz_I (kn_A g m s r)) (bz_I (kn_R g m s r)) (bz_I (kn_L g m s r)) (nI r) yN yT yB (nI g.1) yS yW yG yH yK yI bL bS bN bY bW bM bK bR gL gS gN gY kL kS kN kY bI bD bP bQ bC bX (g.2.2.1 r + 1) (nI (mb_c g m r 0)) a b (nI 0) := by
        intro a b ha hb
        subst ha hb
        exact yk_50 hN hg hE hm (by omega) ih' (g.2.2.1 r) 0 (by omega)
      exact ⟨g.2.2.1 r + 1, key 0 0 (bz_f (fun y => by omega)).symm (bz_f (fun y => by omega)).symm⟩
    · rw [bz_c (P := kn_A g m s (r + 1)) (Q := kn_A g m s r) (kn_As.trans ⟨fun y => y.elim id fun w => absurd w.1 z, Or.inl⟩), bz_c (P := kn_R g m s (r + 1)) (Q := kn_R g m s r) (kn_Rs.trans ⟨And.left, fun y => ⟨y, fun w1 w2 => absurd w1 z⟩⟩), bz_c (P := kn_L g m s (r + 1)) (Q := kn_L g m s r) (kn_Ls.trans ⟨And.left, fun y => ⟨y, fun w1 w2 => absurd w1 z⟩⟩)] at ih'
      exact nm_r (nI_1 r) ih'
theorem yk_K {post : Int32 → Prop} {s : Nat} (hs : s < 6) (hN : N ≤ 6) (hg : gw_Y 8 12 g bL bS bN bY) (hE : gw_E N g) (hm : sn_R N m bM) (H : post (nI (kn_K g m s))) : wpY_computeKind post (yN, yT, yB, nI g.1, yS, yW, yG, yH, yK, yI, bL, bS, bN, bY, bW, bM, bK, bR, gL, gS, gN, gY, kL, kS, kN, kY, bI, bD, bP, bQ, bC, bX) (nI s) := by
  have := yk_10 (yN := yN) (yT := yT) (yB := yB) (yS := yS) (yW := yW) (yG := yG) (yH := yH) (yK := yK) (yI := yI) (bW := bW) (bK := bK) (bR := bR) (gL := gL) (gS := gS) (gN := gN) (gY := gY) (kL := kL) (kS := kS) (kN := kN) (kY := kY) (bI := bI) (bD := bD) (bP := bP) (bQ := bQ) (bC := bC) (bX := bX) hs hN hg hE hm H g.1 0 (by omega)
  rw [bz_f (P := kn_A g m s 0) kn_A0, bz_t (P := kn_R g m s 0) kn_R0, bz_t (P := kn_L g m s 0) kn_L0] at this
  exact ⟨g.1 + 1, this⟩
end yks
end
section
/-! Y: build -/
section ybs
variable {yN yT yB yR yS yW yG yH yK yI : Int32} {bL bS bN bY bW bM bK bR gL gS gN gY kL kS kN kY bI bD bP bQ bC bX : Nat → Int32}
variable {N : Nat} {g h : gm_G} {m kd : Nat → Nat}
theorem ys_st {post : SY → Prop} {a : Nat} (ha : a < 12) (hl : h.1 < 32) (hg : gw_Y 32 32 h gL gS gN gY) (H : ∀ l s n, gw_Y 32 32 (gm_st h a) l s n gY → post (yN, yT, yB, yR, yS, yW, nI (h.1 + 1), nI (sr_S h.2.2.1 h.1), yK, yI, bL, bS, bN, bY, bW, bM, bK, bR, l, s, n, gY, kL, kS, kN, kY, bI, bD, bP, bQ, bC, bX)) : wpY_startG post (yN, yT, yB, yR, yS, yW, nI h.1, nI (sr_S h.2.2.1 h.1), yK, yI, bL, bS, bN, bY, bW, bM, bK, bR, gL, gS, gN, gY, kL, kS, kN, kY, bI, bD, bP, bQ, bC, bX) (nI a) := by
  refine br_t (nI_lt (b := 32) hl (by decide)) ⟨vp_in_nI hl (by decide), nm_r (e' := upd gL h.1 (nI a)) (by rw [nI_clamp (by omega)]) ⟨vp_in_nI hl (by decide), nm_r (e' := upd gS h.1 (nI (sr_S h.2.2.1 h.1))) (by rw [nI_clamp (by omega)]) ⟨vp_in_nI hl (by decide), nm_r (e' := upd gN h.1 0) (by rw [nI_clamp (by omega)]) (nm_r (nI_1 h.1) (H _ _ _ (gw_Yst hg rfl rfl ha hl)))⟩⟩⟩
theorem ys_pu {post : SY → Prop} {t q : Nat} {p0 : Int32} (hp : p0 = cd_Y t) (hq : h.1 = q + 1) (ht : t < 16) (hs : sr_S h.2.2.1 h.1 < 32) (hg : gw_Y 32 32 h gL gS gN gY) (H : ∀ n y, gw_Y 32 32 (gm_pu h t) gL gS n y → post (yN, yT, yB, yR, yS, yW, nI h.1, nI (sr_S h.2.2.1 h.1 + 1), yK, yI, bL, bS, bN, bY, bW, bM, bK, bR, gL, gS, n, y, kL, kS, kN, kY, bI, bD, bP, bQ, bC, bX)) : wpY_pushG post (yN, yT, yB, yR, yS, yW, nI h.1, nI (sr_S h.2.2.1 h.1), yK, yI, bL, bS, bN, bY, bW, bM, bK, bR, gL, gS, gN, gY, kL, kS, kN, kY, bI, bD, bP, bQ, bC, bX) p0 := by
  subst hp
  have h32 := hg.1
  have eq : nI h.1 - 1 = nI q := by rw [hq]; exact nI_pred q
  have eN := (hg.2.2 q (by omega)).2.2.2.1
  refine br_f (nI_ne0 (by omega) (by omega)) (br_t (nI_lt (b := 32) hs (by decide)) ⟨vp_in_nI hs (by decide), nm_r (e' := upd gY (sr_S h.2.2.1 h.1) (cd_Y t)) (by rw [nI_clamp (by omega)]) (nm_r (nI_1 _) ⟨pk_in q 32 (by omega) eq, pk_in q 32 (by omega) eq, nm_r (e' := upd gN q (nI (h.2.2.1 q + 1))) (by rw [eq, nI_clamp (by omega), eN, nI_1]) (H _ _ (gw_Ypu hg hq rfl rfl ht hs))⟩)⟩)
theorem yb_465 {post : Int32 → SY → Prop} (hN : N ≤ 6) (hm : ∀ a, a < N → bM a = nI (m a) ∧ m a < 6) (H : post (nI (cn (fun a => m a = a) N)) (nI N, yT, yB, yR, yS, yW, yG, yH, yK, yI, bL, bS, bN, bY, bW, bM, bK, bR, gL, gS, gN, gY, kL, kS, kN, kY, bI, bD, bP, bQ, bC, bX)) :
    ∀ d a, a + d = N → wY_build_465 post (nI N) yT yB yR yS yW yG yH yK yI bL bS bN bY bW bM bK bR gL gS gN gY kL kS kN kY bI bD bP bQ bC bX (d + 1) (nI (cn (fun a => m a = a) a)) (nI a) := by
  intro d
  induction d with
  | zero =>
    intro a ha
    have e : a = N := by omega
    subst e
    exact br_t (nI_le (Nat.le_refl _) (by omega)) H
  | succ d ih =>
    intro a ha
    have hv := hm a (by omega)
    have := ih (a + 1) (by omega)
    refine br_f (nI_ge (by omega) (by omega)) ⟨vp_in_nI (by omega) (by decide), pk_eq (m a) a (fun z => ?_) (fun z => ?_) (by rw [nI_clamp (by omega)]; exact hv.1) rfl (by have := hv.2; omega) (by omega)⟩
    · rw [cn, b01_t z] at this
      exact nm_r (nI_1 _) (nm_r (nI_1 a) this)
    · rw [cn, b01_f z] at this
      exact nm_r (nI_1 a) this
theorem yb_429 {post : Int32 → SY → Prop} (hN : N ≤ 6) (hm : sn_R N m bM) (hK : ∀ a, a < N → bK a = nI (kd a) ∧ kd a ≤ 3) (h20 : g.1 + sr_S g.2.2.1 g.1 ≤ 20)
    (H : ∀ l s n y, gw_Y 32 32 (gz_C g m kd N) l s n y → post (nI (cn (fun a => m a = a) N)) (nI N, yT, yB, yR, yS, yW, nI (gz_C g m kd N).1, nI (sr_S (gz_C g m kd N).2.2.1 (gz_C g m kd N).1), yK, yI, bL, bS, bN, bY, bW, bM, bK, bR, l, s, n, y, kL, kS, kN, kY, bI, bD, bP, bQ, bC, bX)) :
    ∀ d a gL gS gN gY, a + d = N → gw_Y 32 32 (gz_C g m kd a) gL gS gN gY → wY_build_429 post (d + 1) (nI a) (nI N) yT yB yR yS yW (nI (gz_C g m kd a).1) (nI (sr_S (gz_C g m kd a).2.2.1 (gz_C g m kd a).1)) yK yI bL bS bN bY bW bM bK bR gL gS gN gY kL kS kN kY bI bD bP bQ bC bX := by
  intro d
  induction d with
  | zero =>
    intro a gL gS gN gY ha hg
    have e : a = N := by omega
    subst e
    exact br_t (nI_le (Nat.le_refl _) (by omega)) ⟨a + 1, yb_465 hN hm (H gL gS gN gY hg) a 0 (by omega)⟩
  | succ d ih =>
    intro a gL gS gN gY ha hg
    have hk := hK a (by omega)
    have hz := (gz_Cz (g := g) (m := m) (kd := kd) a).1
    refine br_f (nI_ge (by omega) (by omega)) ⟨vp_in_nI (by omega) (by decide), pk_eq (kd a) 3 (fun z => ?_) (fun z => ?_) (by rw [nI_clamp (by omega)]; exact hk.1) rfl (by omega) (by decide)⟩
    · rw [xw_6]
      refine ys_st (by omega) (by omega) hg fun l s n hg' => ?_
      have := ih (a + 1) l s n gY (by omega)
      rw [gz_Ct z, sr_st'] at this
      exact nm_r (nI_1 a) (this hg')
    · have := ih (a + 1) gL gS gN gY (by omega)
      rw [gz_Cf z] at this
      exact nm_r (nI_1 a) (this hg)
theorem yb_338 {post : Int32 → SY → Prop} {J316 : Int32 → Int32 → Int32 → Int32 → Int32 → Int32 → Int32 → Int32 → Int32 → Int32 → Int32 → (Nat → Int32) → (Nat → Int32) → (Nat → Int32) → (Nat → Int32) → (Nat → Int32) → (Nat → Int32) → (Nat → Int32) → (Nat → Int32) → (Nat → Int32) → (Nat → Int32) → (Nat → Int32) → (Nat → Int32) → (Nat → Int32) → (Nat → Int32) → (Nat → Int32) → (Nat → Int32) → (Nat → Int32) → (Nat → Int32) → (Nat → Int32) → (Nat → Int32) → (Nat → Int32) → (Nat → Int32) →  Prop} {r : Nat} (hN : N ≤ 6) (hg : gw_Y 8 12 g bL bS bN bY) (hE : gw_E N g) (hm : sn_R N m bM) (hK : ∀ a, a < N → bK a = nI (kd a) ∧ kd a ≤ 3) (hr : r < g.1) (hz : h.1 + g.2.2.1 r < 24) (hzs : sr_S h.2.2.1 h.1 + g.2.2.1 r < 24)
    (hJ : ∀ l s n y, gw_Y 32 32 (gz_f g kd r (gz_p g m kd r h (g.2.2.1 r))) l s n y → J316 (nI (r + 1)) yN yT yB yR yS yW (nI (gz_f g kd r (gz_p g m kd r h (g.2.2.1 r))).1) (nI (sr_S (gz_f g kd r (gz_p g m kd r h (g.2.2.1 r))).2.2.1 (gz_f g kd r (gz_p g m kd r h (g.2.2.1 r))).1)) yK yI bL bS bN bY bW bM bK bR l s n y kL kS kN kY bI bD bP bQ bC bX) :
    ∀ d k gL gS gN gY, k + d = g.2.2.1 r → gw_Y 32 32 (gz_p g m kd r h k) gL gS gN gY → wY_build_338 post J316 (nI r) (nI (g.2.1 r)) (d + 1) (nI k) yN yT yB yR yS yW (nI (gz_p g m kd r h k).1) (nI (sr_S (gz_p g m kd r h k).2.2.1 (gz_p g m kd r h k).1)) yK yI bL bS bN bY bW bM bK bR gL gS gN gY kL kS kN kY bI bD bP bQ bC bX := by
  obtain ⟨h1, h2, h3, h4, h5⟩ := hg.2.2 r hr
  obtain ⟨e1, e2, e3⟩ := hE r hr
  have h8 := hg.1
  have h12 := hg.2.1
  have hsm := sr_m (ln := g.2.2.1) hr
  have hk3 := hK (g.2.1 r) e1
  have eN : bN (nI r).toNatClampNeg = nI (g.2.2.1 r) := by rw [nI_clamp (by omega)]; exact h4
  have eS : ∀ k, bS (nI r).toNatClampNeg + nI k = nI (sr_S g.2.2.1 r + k) := fun k => by rw [nI_clamp (by omega), h3, nI_add]
  intro d
  induction d with
  | zero =>
    intro k gL gS gN gY hk hgy
    have e : k = g.2.2.1 r := by omega
    subst e
    obtain ⟨q, q1, q2, q3, q4⟩ := gz_pz (g := g) (m := m) (kd := kd) (r := r) (h := h) (g.2.2.1 r)
    refine ⟨vp_in_nI (by omega) (by decide), br_t (by rw [eN]; exact nI_le (Nat.le_refl _) (by omega)) ⟨vp_in_nI (by omega) (by decide), pk_eq (kd (g.2.1 r)) 3 (fun z => ?_) (fun z => ?_) (by rw [nI_clamp (by omega)]; exact hk3.1) rfl (by omega) (by decide)⟩⟩
    · rw [xw_6]
      refine ys_pu (t := 6 + g.2.1 r) (cd_n (by omega)).symm q1 (by omega) (by omega) hgy fun n y hgy' => ?_
      have := hJ gL gS n y
      rw [gz_ft z, sr_pu' q1] at this
      exact nm_r (nI_1 r) (this hgy')
    · have := hJ gL gS gN gY
      rw [gz_ff z] at this
      exact nm_r (nI_1 r) (this hgy)
  | succ d ih =>
    intro k gL gS gN gY hk hgy
    obtain ⟨q, q1, q2, q3, q4⟩ := gz_pz (g := g) (m := m) (kd := kd) (r := r) (h := h) k
    have hs := h5 k (by omega)
    refine ⟨vp_in_nI (by omega) (by decide), br_f (by rw [eN]; exact nI_ge (by omega) (by omega)) ⟨vp_in_nI (by omega) (by decide), pk_in (sr_S g.2.2.1 r + k) 12 (by omega) (eS k), nm_r (e' := cd_Y (g.2.2.2 r k)) (by rw [eS, nI_clamp (by omega)]; exact hs.1) ?_⟩⟩
    refine ys_pu rfl q1 hs.2 (by omega) hgy fun n y hgy' => ⟨vp_in_nI (by omega) (by decide), ?_⟩
    have no : ¬ (kd (g.2.1 r) = 3 ∧ mb_P g m r k) → wY_build_338 post J316 (nI r) (nI (g.2.1 r)) (d + 1) (nI (k + 1)) yN yT yB yR yS yW (nI (gz_p g m kd r h k).1) (nI (sr_S (gz_p g m kd r h k).2.2.1 (gz_p g m kd r h k).1 + 1)) yK yI bL bS bN bY bW bM bK bR gL gS n y kL kS kN kY bI bD bP bQ bC bX := fun z => by
      have := ih (k + 1) gL gS n y (by omega)
      rw [gz_pf z, sr_pu' q1] at this
      exact this hgy'
    refine pk_eq (kd (g.2.1 r)) 3 (fun z => ?_) (fun z => nm_r (nI_1 k) (no fun w => z w.1)) (by rw [nI_clamp (by omega)]; exact hk3.1) rfl (by omega) (by decide)
    refine yk_I hN hg hE hm hr (by omega) (bz_br rfl (fun z2 => nm_r (nI_1 k) (no fun w => z2 w.2)) (fun z2 => ?_))
    have h6 := z2.1
    rw [cd_n (by omega : g.2.2.2 r k < 12), xw_6]
    rw [← sr_pu' (s := g.2.2.2 r k) q1]
    refine ys_st (h := gm_pu (gz_p g m kd r h k) (g.2.2.2 r k)) (by omega) (by show (gz_p g m kd r h k).1 < 32; omega) hgy' fun l s n' hgy'' => ?_
    have := ih (k + 1) l s n' y (by omega)
    rw [gz_pt ⟨z, z2⟩, sr_st'] at this
    exact nm_r (nI_1 k) (this hgy'')
theorem yb_316 {post : Int32 → SY → Prop} (hN : N ≤ 6) (hg : gw_Y 8 12 g bL bS bN bY) (hE : gw_E N g) (hm : sn_R N m bM) (hK : ∀ a, a < N → bK a = nI (kd a) ∧ kd a ≤ 3)
    (H : ∀ l s n y, gw_Y 32 32 (gz_C g m kd N) l s n y → post (nI (cn (fun a => m a = a) N)) (nI N, yT, yB, nI g.1, yS, yW, nI (gz_C g m kd N).1, nI (sr_S (gz_C g m kd N).2.2.1 (gz_C g m kd N).1), yK, yI, bL, bS, bN, bY, bW, bM, bK, bR, l, s, n, y, kL, kS, kN, kY, bI, bD, bP, bQ, bC, bX)) :
    ∀ d r gL gS gN gY, r + d = g.1 → gw_Y 32 32 (gz_B g m kd r) gL gS gN gY → wY_build_316 post (d + 1) (nI r) (nI N) yT yB (nI g.1) yS yW (nI (gz_B g m kd r).1) (nI (sr_S (gz_B g m kd r).2.2.1 (gz_B g m kd r).1)) yK yI bL bS bN bY bW bM bK bR gL gS gN gY kL kS kN kY bI bD bP bQ bC bX := by
  have h8 := hg.1
  have h12 := hg.2.1
  intro d
  induction d with
  | zero =>
    intro r gL gS gN gY hr hgy
    have e : r = g.1 := by omega
    subst e
    exact br_t (nI_le (Nat.le_refl _) (by omega)) ⟨N + 1, yb_429 hN hm hK (by omega) H N 0 gL gS gN gY (by omega) hgy⟩
  | succ d ih =>
    intro r gL gS gN gY hr hgy
    obtain ⟨h1, h2, h3, h4, h5⟩ := hg.2.2 r (by omega)
    have hz := gz_Bz (g := g) (m := m) (kd := kd) r
    have hsm := sr_m (ln := g.2.2.1) (r := r) (n := g.1) (by omega)
    refine br_f (nI_ge (by omega) (by omega)) ⟨vp_in_nI (by omega) (by decide), nm_r (e' := nI (g.2.1 r)) (by rw [nI_clamp (by omega)]; exact h1) ?_⟩
    refine ys_st h2 (by omega) hgy fun l s n hgy' => ⟨g.2.2.1 r + 1, ?_⟩
    have := yb_338 (post := post) (h := gz_B g m kd r) hN hg hE hm hK (by omega) (by omega) (by omega) (fun l s n y hgy'' => ih (r + 1) l s n y (by omega) hgy'') (g.2.2.1 r) 0 l s n gY (by omega) hgy'
    rw [show gz_p g m kd r (gz_B g m kd r) 0 = gm_st (gz_B g m kd r) (g.2.1 r) from rfl, sr_st'] at this
    exact this
theorem yb_274 {post : Int32 → SY → Prop} (hN : N ≤ 6) (hg : gw_Y 8 12 g bL bS bN bY) (hE : gw_E N g) (hm : sn_R N m bM)
    (H : ∀ q l s n y, (∀ a, a < N → q a = nI (kn_K g m (m a))) → gw_Y 32 32 (gz_C g m (fun a => kn_K g m (m a)) N) l s n y → post (nI (cn (fun a => m a = a) N)) (nI N, yT, yB, nI g.1, yS, yW, nI (gz_C g m (fun a => kn_K g m (m a)) N).1, nI (sr_S (gz_C g m (fun a => kn_K g m (m a)) N).2.2.1 (gz_C g m (fun a => kn_K g m (m a)) N).1), yK, yI, bL, bS, bN, bY, bW, bM, q, bR, l, s, n, y, kL, kS, kN, kY, bI, bD, bP, bQ, bC, bX)) :
    ∀ d a q, a + d = N → (∀ a', a' < a → q a' = nI (kn_K g m (m a'))) → wY_build_274 post (nI N) yT yB (nI g.1) yS yW yG yH yK yI (d + 1) (nI a) bL bS bN bY bW bM q bR gL gS gN gY kL kS kN kY bI bD bP bQ bC bX := by
  have h8 := hg.1
  intro d
  induction d with
  | zero =>
    intro a q ha hq
    have e : a = N := by omega
    subst e
    refine br_t (nI_le (Nat.le_refl _) (by omega)) ⟨g.1 + 1, yb_316 (kd := fun a => kn_K g m (m a)) hN hg hE hm (fun a ha => ⟨hq a ha, kn_le⟩) (fun l s n y hgy => H q l s n y hq hgy) g.1 0 gL gS gN gY (by omega) ⟨Nat.zero_le _, Nat.zero_le _, fun r hr => absurd hr (Nat.not_lt_zero r)⟩⟩
  | succ d ih =>
    intro a q ha hq
    have m2 := hm a (by omega)
    refine br_f (nI_ge (by omega) (by omega)) ⟨vp_in_nI (by omega) (by decide), ?_⟩
    rw [nI_clamp (by omega), m2.1]
    refine yk_K m2.2 hN hg hE hm ⟨vp_in_nI (by omega) (by decide), nm_r (e' := upd q a (nI (kn_K g m (m a)))) rfl (nm_r (nI_1 a) (ih (a + 1) _ (by omega) fun a' h => ?_))⟩
    by_cases z : a' = a
    · subst z; rw [pk_us]
    · rw [pk_un z]; exact hq a' (by omega)
/-- Y's reach holds a relation -/
def ry_R (b : Nat → Int32) (R : Nat → Nat → Prop) : Prop := ∀ a c, a < 6 → c < 6 → b (a * 6 + c) = bz_I (R a c)
theorem ry_ix (a b : Nat) : nI a * 6 + nI b = nI (a * 6 + b) := by
  rw [show (6 : Int32) = nI 6 from rfl, pk_mul, nI_add]
theorem yb_210 {post : Int32 → SY → Prop} {J193 : Int32 → (Nat → Int32) → (Nat → Int32) → (Nat → Int32) → (Nat → Int32) → (Nat → Int32) → (Nat → Int32) → (Nat → Int32) → (Nat → Int32) → (Nat → Int32) → (Nat → Int32) → (Nat → Int32) → (Nat → Int32) → (Nat → Int32) → (Nat → Int32) → (Nat → Int32) → (Nat → Int32) → (Nat → Int32) → (Nat → Int32) → (Nat → Int32) → (Nat → Int32) → (Nat → Int32) → (Nat → Int32) →  Prop} {R : Nat → Nat → Prop} {a : Nat} (ha : a < 6) (hR : ry_R bR R)
    (hJ : ∀ q, (∀ a', a' < a + 1 → q a' = nI (mt_N R a')) → J193 (nI (a + 1)) bL bS bN bY bW q bK bR gL gS gN gY kL kS kN kY bI bD bP bQ bC bX) :
    ∀ d b q, b + d = a → (∀ a', a' < a → q a' = nI (mt_N R a')) → q a = nI (mt_f R a b) → wY_build_210 post J193 (nI a) yN yT yB yR yS yW yG yH yK yI (d + 1) (nI b) bL bS bN bY bW q bK bR gL gS gN gY kL kS kN kY bI bD bP bQ bC bX := by
  intro d
  induction d with
  | zero =>
    intro b q hb hq hqa
    have e : b = a := by omega
    subst e
    refine br_t (nI_le (Nat.le_refl _) (by omega)) (nm_r (nI_1 b) (hJ q fun a' h => ?_))
    by_cases z : a' = b
    · subst z; exact hqa
    · exact hq a' (by omega)
  | succ d ih =>
    intro b q hb hq hqa
    have hle := mt_le (R := R) (a := a) b (by omega)
    have no : ¬ (mt_f R a b = a ∧ R a b ∧ R b a) → wY_build_210 post J193 (nI a) yN yT yB yR yS yW yG yH yK yI (d + 1) (nI (b + 1)) bL bS bN bY bW q bK bR gL gS gN gY kL kS kN kY bI bD bP bQ bC bX := fun z => ih (b + 1) q (by omega) hq (by rw [mt_n z]; exact hqa)
    refine br_f (nI_ge (by omega) (by omega)) ⟨vp_in_nI (by omega) (by decide), pk_eq (mt_f R a b) a (fun z => ⟨pk_in (a * 6 + b) 36 (by omega) (ry_ix a b), ?_⟩) (fun z => nm_r (nI_1 b) (no fun w => z w.1)) (by rw [nI_clamp (by omega)]; exact hqa) rfl (by omega) (by omega)⟩
    refine bz_br (by rw [ry_ix, nI_clamp (by omega)]; exact hR a b ha (by omega)) (fun z1 => nm_r (nI_1 b) (no fun w => z1 w.2.1)) (fun z1 => ⟨pk_in (b * 6 + a) 36 (by omega) (ry_ix b a), ?_⟩)
    refine bz_br (by rw [ry_ix, nI_clamp (by omega)]; exact hR b a (by omega) ha) (fun z2 => nm_r (nI_1 b) (no fun w => z2 w.2.2)) (fun z2 => ⟨vp_in_nI (by omega) (by decide), nm_r (e' := upd q a (nI b)) (by rw [nI_clamp (by omega)]) (nm_r (nI_1 b) (ih (b + 1) _ (by omega) (fun a' h => by rw [pk_un (by omega)]; exact hq a' h) (by rw [pk_us, mt_t ⟨z, z1, z2⟩])))⟩)
theorem yb_193 {post : Int32 → SY → Prop} {R : Nat → Nat → Prop} (hN : N ≤ 6) (hg : gw_Y 8 12 g bL bS bN bY) (hE : gw_E N g) (hR : ry_R bR R) (hm : m = mt_N R)
    (H : ∀ p q l s n y, (∀ a, a < N → p a = nI (m a)) → (∀ a, a < N → q a = nI (kn_K g m (m a))) → gw_Y 32 32 (gz_C g m (fun a => kn_K g m (m a)) N) l s n y → post (nI (cn (fun a => m a = a) N)) (nI N, yT, yB, nI g.1, yS, yW, nI (gz_C g m (fun a => kn_K g m (m a)) N).1, nI (sr_S (gz_C g m (fun a => kn_K g m (m a)) N).2.2.1 (gz_C g m (fun a => kn_K g m (m a)) N).1), yK, yI, bL, bS, bN, bY, bW, p, q, bR, l, s, n, y, kL, kS, kN, kY, bI, bD, bP, bQ, bC, bX)) :
    ∀ d a p, a + d = N → (∀ a', a' < a → p a' = nI (m a')) → wY_build_193 post (nI N) yT yB (nI g.1) yS yW yG yH yK yI (d + 1) (nI a) bL bS bN bY bW p bK bR gL gS gN gY kL kS kN kY bI bD bP bQ bC bX := by
  subst hm
  intro d
  induction d with
  | zero =>
    intro a p ha hp
    have e : a = N := by omega
    subst e
    exact br_t (nI_le (Nat.le_refl _) (by omega)) ⟨a + 1, yb_274 hN hg hE (fun a' h => ⟨hp a' h, by have := mt_lt (R := R) (a := a'); omega⟩) (fun q l s n y h1 h2 => H p q l s n y hp h1 h2) a 0 bK (by omega) (fun a' h => absurd h (Nat.not_lt_zero a'))⟩
  | succ d ih =>
    intro a p ha hp
    refine br_f (nI_ge (by omega) (by omega)) ⟨vp_in_nI (by omega) (by decide), nm_r (e' := upd p a (nI a)) (by rw [nI_clamp (by omega)]) ⟨a + 1, yb_210 (R := R) (by omega) hR (fun q hq => ih (a + 1) q (by omega) hq) a 0 _ (by omega) (fun a' h => by rw [pk_un (by omega)]; exact hp a' h) (by rw [pk_us]; rfl)⟩⟩
end ybs
end
section
/-! Y: reached; the whole of build -/
/-- the stages within one middle: cells below c are a stage further -/
def ry_V (E : Nat → Nat → Prop) (k c a b : Nat) : Prop := (a * 6 + b < c ∧ ws_W E (k + 1) a b) ∨ (c ≤ a * 6 + b ∧ ws_W E k a b)
theorem ry_Vm {E : Nat → Nat → Prop} {k c a : Nat} : ry_V E k c a k ↔ ws_W E k a k :=
  ⟨fun h => h.elim (fun y => ws_c.mp y.2) (fun y => y.2), fun h => by
    rcases Nat.lt_or_ge (a * 6 + k) c with z | z
    · exact Or.inl ⟨z, ws_c.mpr h⟩
    · exact Or.inr ⟨z, h⟩⟩
theorem ry_Vr {E : Nat → Nat → Prop} {k c b : Nat} : ry_V E k c k b ↔ ws_W E k k b :=
  ⟨fun h => h.elim (fun y => ws_r.mp y.2) (fun y => y.2), fun h => by
    rcases Nat.lt_or_ge (k * 6 + b) c with z | z
    · exact Or.inl ⟨z, ws_r.mpr h⟩
    · exact Or.inr ⟨z, h⟩⟩
theorem ry_Vs {E : Nat → Nat → Prop} {k c a b : Nat} : ry_V E k (c + 1) a b ↔ (ry_V E k c a b ∨ (a * 6 + b = c ∧ ws_W E k a k ∧ ws_W E k k b)) := by
  constructor
  · rintro (⟨h1, h2⟩ | ⟨h1, h2⟩)
    · rcases Nat.lt_or_ge (a * 6 + b) c with z | z
      · exact Or.inl (Or.inl ⟨z, h2⟩)
      · rcases h2 with h2 | h2
        · exact Or.inl (Or.inr ⟨z, h2⟩)
        · exact Or.inr ⟨by omega, h2⟩
    · exact Or.inl (Or.inr ⟨by omega, h2⟩)
  · rintro ((⟨h1, h2⟩ | ⟨h1, h2⟩) | ⟨h1, h2⟩)
    · exact Or.inl ⟨by omega, h2⟩
    · rcases Nat.lt_or_ge c (a * 6 + b) with z | z
      · exact Or.inr ⟨z, h2⟩
      · exact Or.inl ⟨by omega, Or.inl h2⟩
    · exact Or.inl ⟨by omega, Or.inr h2⟩
theorem ry_V36 {E : Nat → Nat → Prop} {k a b : Nat} (ha : a < 6) (hb : b < 6) : ry_V E k 36 a b ↔ ry_V E (k + 1) 0 a b :=
  ⟨fun h => h.elim (fun y => Or.inr ⟨Nat.zero_le _, y.2⟩) (fun y => by omega), fun h => h.elim (fun y => absurd y.1 (Nat.not_lt_zero _)) (fun y => Or.inl ⟨by omega, y.2⟩)⟩
theorem ry_c {b : Nat → Int32} {R R' : Nat → Nat → Prop} (h : ry_R b R) (e : ∀ a c, a < 6 → c < 6 → (R a c ↔ R' a c)) : ry_R b R' := fun a c ha hc => (h a c ha hc).trans (bz_c (e a c ha hc))
theorem ry_u {b : Nat → Int32} {R : Nat → Nat → Prop} {i j : Nat} (h : ry_R b R) (hj : j < 6) : ry_R (upd b (i * 6 + j) 1) (fun a c => R a c ∨ (a = i ∧ c = j)) := by
  intro a c ha hc
  by_cases z : a * 6 + c = i * 6 + j
  · have e1 : a = i := by omega
    have e2 : c = j := by omega
    rw [z, pk_us, bz_t (Or.inr ⟨e1, e2⟩)]
  · rw [pk_un z, h a c ha hc]
    exact bz_c ⟨Or.inl, fun y => y.elim id fun ⟨x, w⟩ => by subst x w; exact absurd rfl z⟩
section yts
variable {yN yT yB yR yS yW yG yH yK yI : Int32} {bL bS bN bY bW bM bK bR gL gS gN gY kL kS kN kY bI bD bP bQ bC bX : Nat → Int32}
variable {N : Nat} {g : gm_G} {m : Nat → Nat} {E : Nat → Nat → Prop}
theorem yt_117 {post : Int32 → SY → Prop} (H : ∀ q, ry_R q (ws_W E 6) → ∃ n, wY_build_193 post yN yT yB yR yS yW yG yH yK yI n 0 bL bS bN bY bW bM bK q gL gS gN gY kL kS kN kY bI bD bP bQ bC bX) :
    ∀ d p q, p + d = 216 → ry_R q (ry_V E (p / 36) (p % 36)) → wY_build_117 post yN yT yB yR yS yW yG yH yK yI (d + 1) (nI p) bL bS bN bY bW bM bK q gL gS gN gY kL kS kN kY bI bD bP bQ bC bX := by
  intro d
  induction d with
  | zero =>
    intro p q hp hq
    have e : p = 216 := by omega
    subst e
    exact br_t (nI_le (a := 216) (Nat.le_refl _) (by decide)) (H q (ry_c hq fun a c _ _ => ⟨fun y => y.elim (fun w => absurd w.1 (Nat.not_lt_zero _)) (fun w => w.2), fun y => Or.inr ⟨Nat.zero_le _, y⟩⟩))
  | succ d ih =>
    intro p q hp hq
    have hk : p / 36 < 6 := by omega
    have hi : p / 6 % 6 < 6 := by omega
    have hj : p % 6 < 6 := by omega
    have hc : p / 6 % 6 * 6 + p % 6 = p % 36 := by omega
    have st : ∀ q', ry_R q' (ry_V E (p / 36) (p % 36 + 1)) → wY_build_117 post yN yT yB yR yS yW yG yH yK yI (d + 1) (nI (p + 1)) bL bS bN bY bW bM bK q' gL gS gN gY kL kS kN kY bI bD bP bQ bC bX := by
      intro q' hq'
      refine ih (p + 1) q' (by omega) ?_
      rcases Nat.lt_or_ge (p % 36) 35 with z | z
      · rw [show (p + 1) / 36 = p / 36 from by omega, show (p + 1) % 36 = p % 36 + 1 from by omega]
        exact hq'
      · rw [show (p + 1) / 36 = p / 36 + 1 from by omega, show (p + 1) % 36 = 0 from by omega]
        rw [show p % 36 + 1 = 36 from by omega] at hq'
        exact ry_c hq' fun a c ha hc => ry_V36 ha hc
    have no : ¬ (ws_W E (p / 36) (p / 6 % 6) (p / 36) ∧ ws_W E (p / 36) (p / 36) (p % 6)) → ry_R q (ry_V E (p / 36) (p % 36 + 1)) := fun z => ry_c hq fun a c ha hc' => by
      refine Iff.trans ⟨Or.inl, fun y => y.elim id fun w => ?_⟩ ry_Vs.symm
      have e1 : a = p / 6 % 6 := by omega
      have e2 : c = p % 6 := by omega
      subst e1 e2
      exact absurd w.2 z
    refine br_f (nI_ge (b := 216) (by omega) (by decide)) ⟨by decide, nm_r (e' := nI (p / 36)) (pk_div (d := 36) (by omega) (by decide) (by decide)) ⟨by decide, by decide, nm_r (e' := nI (p / 6 % 6)) (by rw [show (nI p / 6 : Int32) = nI (p / 6) from pk_div (d := 6) (by omega) (by decide) (by decide)]; exact pk_rem (d := 6) (by omega) (by decide) (by decide)) ⟨by decide, nm_r (e' := nI (p % 6)) (pk_rem (d := 6) (by omega) (by decide) (by decide)) ⟨pk_in (p / 6 % 6 * 6 + p / 36) 36 (by omega) (ry_ix _ _), ?_⟩⟩⟩⟩
    refine bz_br (P := ws_W E (p / 36) (p / 6 % 6) (p / 36)) (by rw [ry_ix, nI_clamp (by omega), hq _ _ hi hk]; exact bz_c ry_Vm) (fun z => nm_r (nI_1 p) (st q (no fun w => z w.1))) (fun z => ⟨pk_in (p / 36 * 6 + p % 6) 36 (by omega) (ry_ix _ _), ?_⟩)
    refine bz_br (P := ws_W E (p / 36) (p / 36) (p % 6)) (by rw [ry_ix, nI_clamp (by omega), hq _ _ hk hj]; exact bz_c ry_Vr) (fun z2 => nm_r (nI_1 p) (st q (no fun w => z2 w.2))) (fun z2 => ⟨pk_in (p / 6 % 6 * 6 + p % 6) 36 (by omega) (ry_ix _ _), nm_r (e' := upd q (p / 6 % 6 * 6 + p % 6) 1) (by rw [ry_ix, nI_clamp (by omega)]; rfl) (nm_r (nI_1 p) (st _ (ry_c (ry_u hq hj) fun a c ha hc' => Iff.trans (or_congr Iff.rfl ?_) ry_Vs.symm)))⟩)
    constructor
    · rintro ⟨e1, e2⟩
      subst e1 e2
      exact ⟨hc, z, z2⟩
    · rintro ⟨e, _⟩
      exact ⟨by omega, by omega⟩
theorem yt_52 {post : Int32 → SY → Prop} {J42 : Int32 → (Nat → Int32) → (Nat → Int32) → (Nat → Int32) → (Nat → Int32) → (Nat → Int32) → (Nat → Int32) → (Nat → Int32) → (Nat → Int32) → (Nat → Int32) → (Nat → Int32) → (Nat → Int32) → (Nat → Int32) → (Nat → Int32) → (Nat → Int32) → (Nat → Int32) → (Nat → Int32) → (Nat → Int32) → (Nat → Int32) → (Nat → Int32) → (Nat → Int32) → (Nat → Int32) → (Nat → Int32) →  Prop} {r : Nat} (hN : N ≤ 6) (hg : gw_Y 8 12 g bL bS bN bY) (hE : gw_E N g) (hr : r < g.1)
    (hJ : ∀ q, ry_R q (ed_E g (r + 1)) → J42 (nI (r + 1)) bL bS bN bY bW bM bK q gL gS gN gY kL kS kN kY bI bD bP bQ bC bX) :
    ∀ d k q, k + d = g.2.2.1 r → ry_R q (fun a b => ed_E g r a b ∨ (g.2.1 r = a ∧ b < 12 ∧ ∃ k', k' < k ∧ g.2.2.2 r k' = b)) → wY_build_52 post J42 (nI r) yN yT yB yR yS yW yG yH yK yI (d + 1) (nI k) bL bS bN bY bW bM bK q gL gS gN gY kL kS kN kY bI bD bP bQ bC bX := by
  obtain ⟨h1, h2, h3, h4, h5⟩ := hg.2.2 r hr
  obtain ⟨e1, e2, e3⟩ := hE r hr
  have h8 := hg.1
  have h12 := hg.2.1
  have hsm := sr_m (ln := g.2.2.1) hr
  have eN : bN (nI r).toNatClampNeg = nI (g.2.2.1 r) := by rw [nI_clamp (by omega)]; exact h4
  have eL : bL (nI r).toNatClampNeg = nI (g.2.1 r) := by rw [nI_clamp (by omega)]; exact h1
  have eS : ∀ k, bS (nI r).toNatClampNeg + nI k = nI (sr_S g.2.2.1 r + k) := fun k => by rw [nI_clamp (by omega), h3, nI_add]
  intro d
  induction d with
  | zero =>
    intro k q hk hq
    refine ⟨vp_in_nI (by omega) (by decide), br_t (by rw [eN]; exact nI_le (by omega) (by omega)) (nm_r (nI_1 r) (hJ q (ry_c hq fun a b ha hb => ?_)))⟩
    constructor
    · rintro (⟨r', k', x1, x2⟩ | ⟨x1, x2, k', x3, x4⟩)
      · exact ⟨r', k', by omega, x2⟩
      · exact ⟨r, k', by omega, by omega, x1, x4, x2⟩
    · rintro ⟨r', k', x1, x2, x3, x4, x5⟩
      rcases Nat.lt_or_ge r' r with z | z
      · exact Or.inl ⟨r', k', z, x2, x3, x4, x5⟩
      · have e : r' = r := by omega
        subst e
        exact Or.inr ⟨x3, x5, k', by omega, x4⟩
  | succ d ih =>
    intro k q hk hq
    have hs := h5 k (by omega)
    refine ⟨vp_in_nI (by omega) (by decide), br_f (by rw [eN]; exact nI_ge (by omega) (by omega)) ⟨vp_in_nI (by omega) (by decide), pk_in (sr_S g.2.2.1 r + k) 12 (by omega) (eS k), nm_r (e' := cd_Y (g.2.2.2 r k)) (by rw [eS, nI_clamp (by omega)]; exact hs.1) ?_⟩⟩
    rcases Nat.lt_or_ge (g.2.2.2 r k) 12 with z | z
    · have hsN : g.2.2.2 r k < N := by rcases e3 k (by omega) with y | y <;> omega
      rw [cd_n z]
      refine br_f (nI_pos (by omega)) (br_f (nI_ge (b := 6) (by omega) (by decide)) ⟨vp_in_nI (by omega) (by decide), pk_in (g.2.1 r * 6 + g.2.2.2 r k) 36 (by omega) (by rw [eL, ry_ix]), nm_r (e' := upd q (g.2.1 r * 6 + g.2.2.2 r k) 1) (by rw [eL, ry_ix, nI_clamp (by omega)]; rfl) (nm_r (nI_1 k) (ih (k + 1) _ (by omega) (ry_c (ry_u hq (by omega)) fun a b ha hb => ?_)))⟩)
      constructor
      · rintro ((x | ⟨x1, x2, k', x3, x4⟩) | ⟨x1, x2⟩)
        · exact Or.inl x
        · exact Or.inr ⟨x1, x2, k', by omega, x4⟩
        · exact Or.inr ⟨x1.symm, by omega, k, by omega, x2.symm⟩
      · rintro (x | ⟨x1, x2, k', x3, x4⟩)
        · exact Or.inl (Or.inl x)
        · rcases Nat.lt_or_ge k' k with w | w
          · exact Or.inl (Or.inr ⟨x1, x2, k', w, x4⟩)
          · have e : k' = k := by omega
            subst e
            exact Or.inr ⟨x1.symm, x4.symm⟩
    · refine br_t (cd_t1 _ hs.2 z) (nm_r (nI_1 k) (ih (k + 1) q (by omega) (ry_c hq fun a b ha hb => or_congr Iff.rfl (and_congr Iff.rfl ?_))))
      constructor
      · rintro ⟨x2, k', x3, x4⟩
        exact ⟨x2, k', by omega, x4⟩
      · rintro ⟨x2, k', x3, x4⟩
        rcases Nat.lt_or_ge k' k with y | y
        · exact ⟨x2, k', y, x4⟩
        · have e : k' = k := by omega
          subst e
          omega
theorem yt_42 {post : Int32 → SY → Prop} (hN : N ≤ 6) (hg : gw_Y 8 12 g bL bS bN bY) (hE : gw_E N g) (H : ∀ q, ry_R q (ws_W (ed_E g g.1) 6) → ∃ n, wY_build_193 post yN yT yB (nI g.1) yS yW yG yH yK yI n 0 bL bS bN bY bW bM bK q gL gS gN gY kL kS kN kY bI bD bP bQ bC bX) :
    ∀ d r q, r + d = g.1 → ry_R q (ed_E g r) → wY_build_42 post yN yT yB (nI g.1) yS yW yG yH yK yI (d + 1) (nI r) bL bS bN bY bW bM bK q gL gS gN gY kL kS kN kY bI bD bP bQ bC bX := by
  have h8 := hg.1
  intro d
  induction d with
  | zero =>
    intro r q hr hq
    have e : r = g.1 := by omega
    subst e
    exact br_t (nI_le (Nat.le_refl _) (by omega)) ⟨216 + 1, yt_117 H 216 0 q (by omega) (ry_c hq fun a b _ _ => ⟨fun y => Or.inr ⟨Nat.zero_le _, y⟩, fun y => y.elim (fun w => absurd w.1 (Nat.not_lt_zero _)) (fun w => w.2)⟩)⟩
  | succ d ih =>
    intro r q hr hq
    exact br_f (nI_ge (by omega) (by omega)) ⟨g.2.2.1 r + 1, yt_52 hN hg hE (by omega) (fun q' hq' => ih (r + 1) q' (by omega) hq') (g.2.2.1 r) 0 q (by omega) (ry_c hq fun a b ha hb => ⟨Or.inl, fun x => x.elim id fun ⟨_, _, k', y, _⟩ => absurd y (Nat.not_lt_zero k')⟩)⟩
theorem yt_21 {post : Int32 → SY → Prop} (hN : N ≤ 6) (hg : gw_Y 8 12 g bL bS bN bY) (hE : gw_E N g) (H : ∀ q, ry_R q (ws_W (ed_E g g.1) 6) → ∃ n, wY_build_193 post yN yT yB (nI g.1) yS yW yG yH yK yI n 0 bL bS bN bY bW bM bK q gL gS gN gY kL kS kN kY bI bD bP bQ bC bX) :
    ∀ d p q, p + d = 36 → (∀ c, c < p → q c = 0) → wY_build_21 post yN yT yB (nI g.1) yS yW yG yH yK yI (d + 1) (nI p) bL bS bN bY bW bM bK q gL gS gN gY kL kS kN kY bI bD bP bQ bC bX := by
  have h8 := hg.1
  intro d
  induction d with
  | zero =>
    intro p q hp hq
    have e : p = 36 := by omega
    subst e
    refine br_t (nI_le (a := 36) (Nat.le_refl _) (by decide)) ⟨g.1 + 1, yt_42 hN hg hE H g.1 0 q (by omega) fun a c ha hc => ?_⟩
    rw [hq _ (by omega), bz_f]
    exact fun ⟨r, k, x, _⟩ => Nat.not_lt_zero r x
  | succ d ih =>
    intro p q hp hq
    refine br_f (nI_ge (b := 36) (by omega) (by decide)) ⟨vp_in_nI (by omega) (by decide), nm_r (e' := upd q p 0) (by rw [nI_clamp (by omega)]; rfl) (nm_r (nI_1 p) (ih (p + 1) _ (by omega) fun c hc => ?_))⟩
    by_cases z : c = p
    · subst z; exact pk_us
    · rw [pk_un z]; exact hq c (by omega)
theorem ed_bd (hE : gw_E N g) (hN : N ≤ 12) : ∀ a b, ed_E g g.1 a b → a < N ∧ b < N := by
  rintro a b ⟨r, k, h1, h2, h3, h4, h5⟩
  obtain ⟨e1, e2, e3⟩ := hE r h1
  have := e3 k h2
  omega
theorem yt_B {post : Int32 → SY → Prop} (hN : N ≤ 6) (hg : gw_Y 8 12 g bL bS bN bY) (hE : gw_E N g) (hm : m = mt_N (ws_W (ed_E g g.1) N))
    (H : ∀ c p q l s n y, (∀ a, a < N → p a = nI (m a)) → (∀ a, a < N → q a = nI (kn_K g m (m a))) → gw_Y 32 32 (gz_C g m (fun a => kn_K g m (m a)) N) l s n y → post (nI (cn (fun a => m a = a) N)) (nI N, yT, 1, nI g.1, yS, 0, nI (gz_C g m (fun a => kn_K g m (m a)) N).1, nI (sr_S (gz_C g m (fun a => kn_K g m (m a)) N).2.2.1 (gz_C g m (fun a => kn_K g m (m a)) N).1), yK, yI, bL, bS, bN, bY, bW, p, q, c, l, s, n, y, kL, kS, kN, kY, bI, bD, bP, bQ, bC, bX)) : wpY_build post (nI N, yT, 0, nI g.1, yS, yW, yG, yH, yK, yI, bL, bS, bN, bY, bW, bM, bK, bR, gL, gS, gN, gY, kL, kS, kN, kY, bI, bD, bP, bQ, bC, bX) := by
  have et : ws_W (ed_E g g.1) 6 = ws_W (ed_E g g.1) N := funext fun a => funext fun b => propext (by
    have := ws_top (ed_bd hE (by omega)) a b (6 - N)
    rw [show N + (6 - N) = 6 from by omega] at this
    exact this)
  refine br_t rfl ⟨36 + 1, yt_21 hN hg hE (fun q hq => ⟨N + 1, ?_⟩) 36 0 bR (by omega) (fun c h => absurd h (Nat.not_lt_zero c))⟩
  rw [et] at hq
  exact yb_193 hN hg hE hq hm (fun p q' l s n y h1 h2 h3 => H q p q' l s n y h1 h2 h3) N 0 bM (by omega) (fun a h => absurd h (Nat.not_lt_zero a))
end yts
end
section
/-! Y: the questions, from tables that hold a grammar -/
section ygs
variable {yN yT yB yR yS yW yG yH yK yI : Int32} {bL bS bN bY bW bM bK bR gL gS gN gY kL kS kN kY bI bD bP bQ bC bX : Nat → Int32}
variable {L T : Nat} {g : gm_G} {tx : Nat → Nat}
theorem yg_1 {post : SY → Prop} (hg : gw_Y 32 32 g gL gS gN gY) (H : ∀ k1 k2 k3 k4, gy_R g.1 k1 k2 k3 k4 (sr_S g.2.2.1) g.2.1 g.2.2.1 g.2.2.2 → post (yN, yT, yB, yR, yS, yW, nI g.1, yH, nI g.1, yI, bL, bS, bN, bY, bW, bM, bK, bR, gL, gS, gN, gY, k1, k2, k3, k4, bI, bD, bP, bQ, bC, bX)) : wpY_loadGrammar post (yN, yT, yB, yR, yS, yW, nI g.1, yH, yK, yI, bL, bS, bN, bY, bW, bM, bK, bR, gL, gS, gN, gY, kL, kS, kN, kY, bI, bD, bP, bQ, bC, bX) 1 :=
  br_f (by decide) ⟨32 + 1, yl_211 (fun k1 k2 k3 k4 h1 h2 h3 h4 => H k1 k2 k3 k4 (gw_Yk hg (by decide) (by decide) (fun r hr => ⟨h1 r hr, h2 r hr, h3 r hr⟩) h4)) 32 0 kL kS kN kY (by omega) (fun r _ h => absurd h (Nat.not_lt_zero r)) (fun r _ h => absurd h (Nat.not_lt_zero r)) (fun r _ h => absurd h (Nat.not_lt_zero r)) (fun r _ h => absurd h (Nat.not_lt_zero r))⟩
theorem yg_0 {post : SY → Prop} (hg : gw_Y 8 12 g bL bS bN bY) (H : ∀ k1 k2 k3 k4, gy_R g.1 k1 k2 k3 k4 (sr_S g.2.2.1) g.2.1 g.2.2.1 g.2.2.2 → post (yN, yT, yB, nI g.1, yS, yW, yG, yH, nI g.1, yI, bL, bS, bN, bY, bW, bM, bK, bR, gL, gS, gN, gY, k1, k2, k3, k4, bI, bD, bP, bQ, bC, bX)) : wpY_loadGrammar post (yN, yT, yB, nI g.1, yS, yW, yG, yH, yK, yI, bL, bS, bN, bY, bW, bM, bK, bR, gL, gS, gN, gY, kL, kS, kN, kY, bI, bD, bP, bQ, bC, bX) 0 :=
  br_t rfl ⟨32 + 1, yl_210 (fun k1 k2 k3 k4 h1 h2 h3 h4 => H k1 k2 k3 k4 (gw_Yk hg (by decide) (by decide) (fun r hr => ⟨h1 r hr, h2 r hr, h3 r hr⟩) h4)) 32 0 kL kS kN kY (by omega) (fun r _ h => absurd h (Nat.not_lt_zero r)) (fun r _ h => absurd h (Nat.not_lt_zero r)) (fun r _ h => absurd h (Nat.not_lt_zero r)) (fun r _ h => absurd h (Nat.not_lt_zero r))⟩
theorem yg_acc {post : Int32 → SY → Prop} (hL : L ≤ 12) (hW : ∀ p, p < L → bW p = nI (tx p) ∧ tx p < 4) (hg : gw_Y 32 32 g gL gS gN gY)
    (H : ∀ yK yI kL kS kN kY bI bD bC bX, post (bz_I (dv_D g.1 g.2.1 g.2.2.1 g.2.2.2 (tm_s false tx L) 0 0 L)) (yN, yT, 1, yR, yS, nI L, nI g.1, yH, yK, yI, bL, bS, bN, bY, bW, bM, bK, bR, gL, gS, gN, gY, kL, kS, kN, kY, bI, bD, bP, bQ, bC, bX)) : wpY_approxAccepts post (yN, yT, 1, yR, yS, nI L, nI g.1, yH, yK, yI, bL, bS, bN, bY, bW, bM, bK, bR, gL, gS, gN, gY, kL, kS, kN, kY, bI, bD, bP, bQ, bC, bX) := by
  unfold wpY_approxAccepts
  refine br_f (by decide) (yg_1 hg fun k1 k2 k3 k4 hk => yl_I hL hW fun b hb => ye_D (by omega) hk hb fun d c x hd => ⟨vp_in_nI (by omega) (by decide), ?_⟩)
  have e : d (nI L).toNatClampNeg = bz_I (dv_D g.1 g.2.1 g.2.2.1 g.2.2.2 (tm_s false tx L) 0 0 L) := by
    have := hd 0 0 L (by decide) (Nat.zero_le L) (Nat.le_refl L)
    rw [show 0 * 196 + 0 * 14 + L = L from by omega] at this
    rw [nI_clamp (by omega)]
    exact this
  rw [e]
  exact ⟨(bz_n _).1, H _ _ _ _ _ _ _ _ _ _⟩
theorem yg_gra {post : Int32 → SY → Prop} (hL : L ≤ 12) (hW : ∀ p, p < L → bW p = nI (tx p) ∧ tx p < 4) (hg : gw_Y 8 12 g bL bS bN bY)
    (H : ∀ yK yI kL kS kN kY bI bD bC bX, post (bz_I (dv_D g.1 g.2.1 g.2.2.1 g.2.2.2 (tm_s false tx L) 0 0 L)) (yN, yT, 1, nI g.1, yS, nI L, yG, yH, yK, yI, bL, bS, bN, bY, bW, bM, bK, bR, gL, gS, gN, gY, kL, kS, kN, kY, bI, bD, bP, bQ, bC, bX)) : wpY_grammarAccepts post (yN, yT, 1, nI g.1, yS, nI L, yG, yH, yK, yI, bL, bS, bN, bY, bW, bM, bK, bR, gL, gS, gN, gY, kL, kS, kN, kY, bI, bD, bP, bQ, bC, bX) := by
  unfold wpY_grammarAccepts
  refine br_f (by decide) (yg_0 hg fun k1 k2 k3 k4 hk => yl_I hL hW fun b hb => ye_D (by omega) hk hb fun d c x hd => ⟨vp_in_nI (by omega) (by decide), ?_⟩)
  have e : d (nI L).toNatClampNeg = bz_I (dv_D g.1 g.2.1 g.2.2.1 g.2.2.2 (tm_s false tx L) 0 0 L) := by
    have := hd 0 0 L (by decide) (Nat.zero_le L) (Nat.le_refl L)
    rw [show 0 * 196 + 0 * 14 + L = L from by omega] at this
    rw [nI_clamp (by omega)]
    exact this
  rw [e]
  exact ⟨(bz_n _).1, H _ _ _ _ _ _ _ _ _ _⟩
theorem yg_live {post : Int32 → SY → Prop} (hL : L ≤ 12) (hW : ∀ p, p < L → bW p = nI (tx p) ∧ tx p < 4) (hg : gw_Y 32 32 g gL gS gN gY)
    (H : ∀ yK yI kL kS kN kY bI bD bP bQ bC bX, post (bz_I (dv_D g.1 g.2.1 g.2.2.1 g.2.2.2 (tm_s true tx L) 0 0 L)) (yN, yT, 1, yR, yS, nI L, nI g.1, yH, yK, yI, bL, bS, bN, bY, bW, bM, bK, bR, gL, gS, gN, gY, kL, kS, kN, kY, bI, bD, bP, bQ, bC, bX)) : wpY_approxLive post (yN, yT, 1, yR, yS, nI L, nI g.1, yH, yK, yI, bL, bS, bN, bY, bW, bM, bK, bR, gL, gS, gN, gY, kL, kS, kN, kY, bI, bD, bP, bQ, bC, bX) := by
  unfold wpY_approxLive
  refine br_f (by decide) (yg_1 hg fun k1 k2 k3 k4 hk => yl_I hL hW fun b hb => ye_D (by omega) hk hb fun d c x hd => yp_P hk fun q hq => yz_P (by omega) hk hd hq hb fun p c' x' hp => ?_)
  dsimp only
  rw [hp]
  exact ⟨(bz_n _).1, H _ _ _ _ _ _ _ _ _ _ _ _⟩
theorem yg_22 {post : Int32 → SY → Prop} {n : Nat} {st lh ln : Nat → Nat} {sy : Nat → Nat → Nat} (hT : T ≤ 4) (hL : L ≤ 12) (hW : ∀ p, p < L → bW p = nI (tx p) ∧ tx p < 4) (hk : gy_R n kL kS kN kY st lh ln sy) (hq : ya_R bQ 12 (pd_D n lh ln sy))
    (H : ∀ yI bI bD bP bC bX, post (fo_M (dq_P n lh ln sy tx L) T) (yN, nI T, yB, yR, yS, nI L, yG, yH, nI n, yI, bL, bS, bN, bY, bW, bM, bK, bR, gL, gS, gN, gY, kL, kS, kN, kY, bI, bD, bP, bQ, bC, bX)) :
    ∀ d t yI bI bD bP bC bX, t + d = T → wY_nextMask_22 post (d + 1) (fo_M (dq_P n lh ln sy tx L) t) (nI t) yN (nI T) yB yR yS (nI L) yG yH (nI n) yI bL bS bN bY bW bM bK bR gL gS gN gY kL kS kN kY bI bD bP bQ bC bX := by
  intro d
  induction d with
  | zero =>
    intro t yI bI bD bP bC bX ht
    have e : t = T := by omega
    subst e
    exact br_t (nI_le (Nat.le_refl _) (by omega)) (H _ _ _ _ _ _)
  | succ d ih =>
    intro t yI bI bD bP bC bX ht
    refine br_f (nI_ge (by omega) (by omega)) (yl_J (t := t) (by omega) hL hW fun b hb => ye_D (L := L + 1) (tx := fun p => if p = L then t else tx p) (by omega) hk hb fun e c x he => yz_P (L := L + 1) (tx := fun p => if p = L then t else tx p) (by omega) hk he hq hb fun p c' x' hp => ?_)
    refine bz_br (P := dq_P n lh ln sy tx L t) hp (fun z => ?_) (fun z => ?_)
    · have := ih (t + 1) (nI (L + 1)) b e p c' x' (by omega)
      rw [fo_f z] at this
      exact nm_r (nI_1 t) this
    · have := ih (t + 1) (nI (L + 1)) b e p c' x' (by omega)
      rw [fo_t z] at this
      exact nm_e (nm_r (nI_1 t) this)
theorem yg_mask {post : Int32 → SY → Prop} (hT : T ≤ 4) (hL : L ≤ 12) (hW : ∀ p, p < L → bW p = nI (tx p) ∧ tx p < 4) (hg : gw_Y 32 32 g gL gS gN gY)
    (H : ∀ yK yI kL kS kN kY bI bD bP bQ bC bX, post (fo_M (dq_P g.1 g.2.1 g.2.2.1 g.2.2.2 tx L) T) (yN, nI T, 1, yR, yS, nI L, nI g.1, yH, yK, yI, bL, bS, bN, bY, bW, bM, bK, bR, gL, gS, gN, gY, kL, kS, kN, kY, bI, bD, bP, bQ, bC, bX)) : wpY_nextMask post (yN, nI T, 1, yR, yS, nI L, nI g.1, yH, yK, yI, bL, bS, bN, bY, bW, bM, bK, bR, gL, gS, gN, gY, kL, kS, kN, kY, bI, bD, bP, bQ, bC, bX) := by
  unfold wpY_nextMask
  refine br_f (by decide) (yg_1 hg fun k1 k2 k3 k4 hk => yp_P hk fun q hq => ⟨T + 1, ?_⟩)
  exact yg_22 hT hL hW hk hq (fun _ _ _ _ _ _ => H _ _ _ _ _ _ _ _ _ _ _ _) T 0 _ _ _ _ _ _ (by omega)
end ygs
end
section
/-! The relation -/
def ir_C (N T : Nat) (g : gm_G) (xN xT xR xS : Int32) (aL aN aS : Nat → Int32) (yN yT yR yS : Int32) (bL bS bN bY : Nat → Int32) : Prop :=
  (xN = nI N ∧ yN = nI N ∧ 1 ≤ N ∧ N ≤ 6) ∧ (xT = nI T ∧ yT = nI T ∧ 1 ≤ T ∧ T ≤ 4) ∧ (xR = nI g.1 ∧ yR = nI g.1) ∧ (xS = nI (sr_S g.2.2.1 g.1) ∧ yS = nI (sr_S g.2.2.1 g.1)) ∧ gw_X 0 g aL aN aS ∧ gw_Y 8 12 g bL bS bN bY ∧ gw_E N g
def ir_E (xB xE xL : Int32) (aR : Nat → Int32) (yB yW : Int32) : Prop :=
  (xB = 0 ∧ yB = 0) ∧ xE = nI 8 ∧ (xL = nI 0 ∧ yW = nI 0) ∧ ∀ a, a < 6 → aR a = 0
def ir_B (N T L : Nat) (g : gm_G) (m kd tx : Nat → Nat) (xB xE xL xA xG xC xF : Int32) (aL aN aS aM aK aT : Nat → Int32) (yB yW yG : Int32) (bW bM bK gL gS gN gY : Nat → Int32) : Prop :=
  (xB = 1 ∧ yB = 1) ∧ (xE = nI (8 + (gz_C g m kd N).1) ∧ yG = nI (gz_C g m kd N).1) ∧ gw_X 8 (gz_C g m kd N) aL aN aS ∧ gw_Y 32 32 (gz_C g m kd N) gL gS gN gY ∧ (∀ a, a < N → aM a = nI (m a) ∧ bM a = nI (m a) ∧ m a < 6 ∧ aK a = nI (kd a) ∧ bK a = nI (kd a) ∧ kd a ≤ 3) ∧ (xL = nI L ∧ yW = nI L ∧ L ≤ 12) ∧ (∀ i, i < L → aT i = nI (tx i) ∧ tx i < 4) ∧ (∀ i, i < L → bW i = nI (tx i) ∧ tx i < 4) ∧
  xG = bz_I (dv_D g.1 g.2.1 g.2.2.1 g.2.2.2 (tm_s false tx L) 0 0 L) ∧ xA = bz_I (dv_D (gz_C g m kd N).1 (gz_C g m kd N).2.1 (gz_C g m kd N).2.2.1 (gz_C g m kd N).2.2.2 (tm_s false tx L) 0 0 L) ∧ xC = bz_I (dv_D (gz_C g m kd N).1 (gz_C g m kd N).2.1 (gz_C g m kd N).2.2.1 (gz_C g m kd N).2.2.2 (tm_s true tx L) 0 0 L) ∧ xF = fo_M (dq_P (gz_C g m kd N).1 (gz_C g m kd N).2.1 (gz_C g m kd N).2.2.1 (gz_C g m kd N).2.2.2 tx L) T
def i_Rel (_ : Nat) (u : SX) (v : SY) : Prop := match u, v with
  | (xN, xT, xB, xR, xS, xE, xL, xA, xG, xC, xF, aL, aN, aS, aR, aM, aK, aT, aE), (yN, yT, yB, yR, yS, yW, yG, yH, yK, yI, bL, bS, bN, bY, bW, bM, bK, bR, gL, gS, gN, gY, kL, kS, kN, kY, bI, bD, bP, bQ, bC, bX) => ∃ (N T : Nat) (g : gm_G), ir_C N T g xN xT xR xS aL aN aS yN yT yR yS bL bS bN bY ∧ (ir_E xB xE xL aR yB yW ∨ ∃ (L : Nat) (m kd tx : Nat → Nat), ir_B N T L g m kd tx xB xE xL xA xG xC xF aL aN aS aM aK aT yB yW yG bW bM bK gL gS gN gY)
theorem i_up {k : Nat} {u : SX} {v : SY} (h : i_Rel k u v) : i_Rel (k + 2) u v := h
theorem in_c (p0 : Int32) {hi : Nat} (h1 : 1 ≤ hi) (hh : hi < 100) : ∃ N, 1 ≤ N ∧ N ≤ hi ∧ ∀ P : Int32 → Prop, P (nI N) → ((1 ≤ p0 → (p0 ≤ nI hi → P p0) ∧ (¬ p0 ≤ nI hi → P (nI hi))) ∧ (¬ 1 ≤ p0 → P 1)) := by
  by_cases h : 1 ≤ p0
  · have hn : ¬ p0 < 0 := Int32.not_lt.mpr (Int32.le_trans (by decide) h)
    obtain ⟨j, hj, rfl⟩ := nI_of hn
    have hj1 : 1 ≤ j := (nI_leI (a := 1) (by decide) hj).mp h
    rcases Nat.lt_or_ge hi j with z | z
    · exact ⟨hi, h1, Nat.le_refl hi, fun P hP => br_t h (br_f (nI_ge z hj) hP)⟩
    · exact ⟨j, hj1, z, fun P hP => br_t h (br_t (nI_le z (by omega)) hP)⟩
  · exact ⟨1, Nat.le_refl 1, h1, fun P hP => br_f h hP⟩
end
section
/-! The constructors, the entry of a grammar -/
theorem in_X (p0 : Int32) {hi : Nat} (h1 : 1 ≤ hi) (hh : hi < 100) : ∃ N, 1 ≤ N ∧ N ≤ hi ∧ (∀ post : Int32 → Prop, post (nI N) → wpX_clamp post p0 1 (nI hi)) ∧ ∀ P : Int32 → Prop, P (nI N) → ((1 ≤ p0 → (p0 ≤ nI hi → P p0) ∧ (¬ p0 ≤ nI hi → P (nI hi))) ∧ (¬ 1 ≤ p0 → P 1)) := by
  obtain ⟨N, a, b, c⟩ := in_c p0 h1 hh
  exact ⟨N, a, b, fun post H => c post H, c⟩
theorem in_R (N T k : Nat) (hN1 : 1 ≤ N) (hN6 : N ≤ 6) (hT1 : 1 ≤ T) (hT4 : T ≤ 4) : i_Rel k (nI N, nI T, 0, 0, 0, 8, 0, 0, 0, 0, 0, (fun _ => 0), (fun _ => 0), (fun _ => 0), (fun _ => 0), (fun _ => 0), (fun _ => 0), (fun _ => 0), (fun _ => 0)) (nI N, nI T, 0, 0, 0, 0, 0, 0, 0, 0, (fun _ => 0), (fun _ => 0), (fun _ => 0), (fun _ => 0), (fun _ => 0), (fun _ => 0), (fun _ => 0), (fun _ => 0), (fun _ => 0), (fun _ => 0), (fun _ => 0), (fun _ => 0), (fun _ => 0), (fun _ => 0), (fun _ => 0), (fun _ => 0), (fun _ => 0), (fun _ => 0), (fun _ => 0), (fun _ => 0), (fun _ => 0), (fun _ => 0)) :=
  ⟨N, T, (0, fun _ => 0, fun _ => 0, fun _ _ => 0), ⟨⟨rfl, rfl, hN1, hN6⟩, ⟨rfl, rfl, hT1, hT4⟩, ⟨rfl, rfl⟩, ⟨rfl, rfl⟩, ⟨by decide, fun r hr => absurd hr (Nat.not_lt_zero r)⟩, ⟨Nat.zero_le _, Nat.zero_le _, fun r hr => absurd hr (Nat.not_lt_zero r)⟩, fun r hr => absurd hr (Nat.not_lt_zero r)⟩, Or.inl ⟨⟨rfl, rfl⟩, rfl, ⟨rfl, rfl⟩, fun _ _ => rfl⟩⟩
theorem i_vc0 (k0 k1 : Int32) : wpX_init (fun u => wpY_init (fun v => i_Rel 2 u v) k0 k1) k0 k1 := by
  obtain ⟨N, hN1, hN6, hNX, hN⟩ := in_X k0 (hi := 6) (by decide) (by decide)
  obtain ⟨T, hT1, hT4, hTX, hT⟩ := in_X k1 (hi := 4) (by decide) (by decide)
  unfold wpX_init
  refine hNX _ (hTX _ ?_)
  unfold wpY_init
  refine hN (fun z => wY_init_204 _ k1 z _ _ _ _ _ _ _ _ _ _ _ _ _ _ _ _ _ _ _ _ _ _ _ _ _ _ _ _ _ _ _ _) ?_
  unfold wY_init_204
  exact hT (fun z => i_Rel 2 (nI N, nI T, 0, 0, 0, 8, 0, 0, 0, 0, 0, (fun _ => 0), (fun _ => 0), (fun _ => 0), (fun _ => 0), (fun _ => 0), (fun _ => 0), (fun _ => 0), (fun _ => 0)) (nI N, z, _)) (in_R N T 2 hN1 hN6 hT1 hT4)
theorem i_vc_rule {k : Nat} {u : SX} {v : SY} (I : i_Rel k u v) (hk : k + 2 ≤ 1026) (v1 : Int32) : wpX_rule (fun r u' => wpY_rule (fun r' v' => r' = r ∧ i_Rel (k + 2) u' v') v v1) u v1 := by
  have I' := i_up I
  obtain ⟨xN, xT, xB, xR, xS, xE, xL, xA, xG, xC, xF, aL, aN, aS, aR, aM, aK, aT, aE⟩ := u
  obtain ⟨yN, yT, yB, yR, yS, yW, yG, yH, yK, yI, bL, bS, bN, bY, bW, bM, bK, bR, gL, gS, gN, gY, kL, kS, kN, kY, bI, bD, bP, bQ, bC, bX⟩ := v
  obtain ⟨N, T, g, ⟨⟨rfl, rfl, hN1, hN6⟩, ⟨rfl, rfl, hT1, hT4⟩, ⟨rfl, rfl⟩, ⟨rfl, rfl⟩, hX, hY, hE⟩, hP⟩ := I
  have h8 := hY.1
  have h12 := hY.2.1
  rcases hP with ⟨⟨rfl, rfl⟩, rfl, ⟨rfl, rfl⟩, hR⟩ | ⟨L, m, kd, tx, ⟨rfl, rfl⟩, ⟨rfl, rfl⟩, hX2, hY2, hA, ⟨rfl, rfl, hL⟩, hT', hW, rfl, rfl, rfl, rfl⟩
  · refine br_t rfl ?_
    rcases pk_ix v1 (n := N) (by omega) with h | h | ⟨a, ha, rfl⟩
    · exact br_t h (br_t rfl (br_t h ⟨rfl, I'⟩))
    · have h0 : ¬ v1 < 0 := Int32.not_lt.mpr (Int32.le_trans (nI_pos' (by omega)) h)
      have hn : ¬ v1 < nI N := Int32.not_lt.mpr h
      exact br_f h0 (br_f hn (br_t rfl (br_f h0 (br_f hn ⟨rfl, I'⟩))))
    · have h0 : ¬ nI a < 0 := nI_pos (by omega)
      have hn : nI a < nI N := nI_lt ha (by omega)
      refine br_f h0 (br_t hn (pk_lt g.1 8 (fun z => ?_) (fun z => ?_) rfl rfl (by omega) (by decide)))
      · have hne : ¬ nI g.1 = 8 := fun y => by
          have := (nI_eq (a := g.1) (b := 8) (by omega) (by decide)).mp y
          omega
        refine ⟨vp_in_nI (by omega) (by decide), nm_r (e' := upd aL g.1 (nI a)) (by rw [nI_clamp (by omega)]) ⟨vp_in_nI (by omega) (by decide), nm_r (e' := upd aN g.1 0) (by rw [nI_clamp (by omega)]) (nm_r (nI_1 g.1) ?_)⟩⟩
        refine br_t rfl (br_f h0 (br_t hn (br_f hne ⟨vp_in_nI z (by decide), nm_r (e' := upd bL g.1 (nI a)) (by rw [nI_clamp (by omega)]) ⟨vp_in_nI z (by decide), nm_r (e' := upd bS g.1 (nI (sr_S g.2.2.1 g.1))) (by rw [nI_clamp (by omega)]) ⟨vp_in_nI z (by decide), nm_r (e' := upd bN g.1 0) (by rw [nI_clamp (by omega)]) (nm_r (nI_1 g.1) ?_)⟩⟩⟩)))
        refine ⟨rfl, N, T, gm_st g a, ⟨⟨rfl, rfl, hN1, hN6⟩, ⟨rfl, rfl, hT1, hT4⟩, ⟨rfl, rfl⟩, ⟨congrArg nI sr_st'.symm, congrArg nI sr_st'.symm⟩, ?_, ?_, gw_Est hE ha⟩, Or.inl ⟨⟨rfl, rfl⟩, rfl, ⟨rfl, rfl⟩, hR⟩⟩
        · exact gw_Xst hX (by rw [Nat.zero_add]) (by omega) (by omega)
        · exact gw_Yst hY rfl rfl (by omega) z
      · have e8 : nI g.1 = 8 := by
          have : g.1 = 8 := by omega
          rw [this]; rfl
        exact br_t rfl (br_f h0 (br_t hn (br_t e8 ⟨rfl, I'⟩)))
  · exact br_f (by decide) (br_f (by decide) ⟨rfl, I'⟩)
theorem cd_12 : ∀ t, t < 4 → (-1) - nI t = cd_Y (12 + t) := by decide +kernel
section ens
variable {xN xT xB xR xS xE xL xA xG xC xF : Int32} {aL aN aS aR aM aK aT aE : Nat → Int32}
variable {yN yT yB yR yS yW yG yH yK yI : Int32} {bL bS bN bY bW bM bK bR gL gS gN gY kL kS kN kY bI bD bP bQ bC bX : Nat → Int32}
theorem en_S {k N T : Nat} {g : gm_G} (hN1 : 1 ≤ N) (hN6 : N ≤ 6) (hT1 : 1 ≤ T) (hT4 : T ≤ 4) (hX : gw_X 0 g aL aN aS) (hY : gw_Y 8 12 g bL bS bN bY) (hE : gw_E N g) (hR : ∀ a, a < 6 → aR a = 0) (v1 code inr : Int32) (B c : Nat) (hB : B ≤ 6) (hs : ∀ t, t < B → c + t < N ∨ (12 ≤ c + t ∧ c + t < 16)) (hin : (∃ t, t < B ∧ v1 = nI t ∧ code = cd_Y (c + t) ∧ inr = 1) ∨ ((v1 < 0 ∨ nI B ≤ v1) ∧ inr = 0)) :
    ∃ (r : Int32) (u' : SX) (v' : SY), i_Rel (k + 2) u' v' ∧ (∀ post : Int32 → SX → Prop, post r u' → wpX_enterSymbol post (nI N, nI T, 0, nI g.1, nI (sr_S g.2.2.1 g.1), nI 8, nI 0, xA, xG, xC, xF, aL, aN, aS, aR, aM, aK, aT, aE) v1 (nI B) (nI c)) ∧ (∀ post : Int32 → SY → Prop, post r v' → wpY_addSym post (nI N, nI T, 0, nI g.1, nI (sr_S g.2.2.1 g.1), nI 0, yG, yH, yK, yI, bL, bS, bN, bY, bW, bM, bK, bR, gL, gS, gN, gY, kL, kS, kN, kY, bI, bD, bP, bQ, bC, bX) code inr) := by
  have h8 := hY.1
  have h12 := hY.2.1
  have I0 : i_Rel (k + 2) (nI N, nI T, 0, nI g.1, nI (sr_S g.2.2.1 g.1), nI 8, nI 0, xA, xG, xC, xF, aL, aN, aS, aR, aM, aK, aT, aE) (nI N, nI T, 0, nI g.1, nI (sr_S g.2.2.1 g.1), nI 0, yG, yH, yK, yI, bL, bS, bN, bY, bW, bM, bK, bR, gL, gS, gN, gY, kL, kS, kN, kY, bI, bD, bP, bQ, bC, bX) :=
    ⟨N, T, g, ⟨⟨rfl, rfl, hN1, hN6⟩, ⟨rfl, rfl, hT1, hT4⟩, ⟨rfl, rfl⟩, ⟨rfl, rfl⟩, hX, hY, hE⟩, Or.inl ⟨⟨rfl, rfl⟩, rfl, ⟨rfl, rfl⟩, hR⟩⟩
  rcases Nat.eq_zero_or_pos g.1 with h0 | h0
  · have e0 : nI g.1 = 0 := by rw [h0]; rfl
    exact ⟨-4, _, _, I0, fun post H => br_t rfl (br_t e0 H), fun post H => br_t rfl (br_t e0 H)⟩
  have hne : ¬ nI g.1 = 0 := nI_ne0 h0 (by omega)
  obtain ⟨q, hq⟩ : ∃ q, g.1 = q + 1 := ⟨g.1 - 1, by omega⟩
  have eq : nI g.1 - 1 = nI q := by rw [hq]; exact nI_pred q
  rcases hin with ⟨t, ht, rfl, rfl, rfl⟩ | ⟨ho, rfl⟩
  · have n1 : ¬ (1 : Int32) = 0 := by decide
    have p0 : ¬ nI t < 0 := nI_pos (by omega)
    have pB : nI t < nI B := nI_lt ht (by omega)
    obtain ⟨x1, x2, x3, x4, x5⟩ := gw_X0 hX (r := q) (by omega)
    obtain ⟨y1, y2, y3, y4, y5⟩ := hY.2.2 q (by omega)
    have eN : aN (nI q).toNatClampNeg = nI (g.2.2.1 q) := by rw [nI_clamp (by omega)]; exact x3
    have eN' : bN (nI q).toNatClampNeg = nI (g.2.2.1 q) := by rw [nI_clamp (by omega)]; exact y4
    rcases Nat.lt_or_ge (g.2.2.1 q) 4 with z | z
    · have f4 : ¬ (4 : Int32) ≤ nI (g.2.2.1 q) := nI_ge (b := 4) z (by decide)
      rcases Nat.lt_or_ge (sr_S g.2.2.1 g.1) 12 with w | w
      · have fS : nI (sr_S g.2.2.1 g.1) < 12 := nI_lt (b := 12) w (by decide)
        have hs16 : c + t < 16 := by have := hs t ht; omega
        refine ⟨nI (g.2.2.1 q + 1), (nI N, nI T, 0, nI g.1, nI (sr_S g.2.2.1 g.1 + 1), nI 8, nI 0, xA, xG, xC, xF, aL, upd aN q (nI (g.2.2.1 q + 1)), upd aS (q * 5 + g.2.2.1 q) (nI (c + t)), aR, aM, aK, aT, aE), (nI N, nI T, 0, nI g.1, nI (sr_S g.2.2.1 g.1 + 1), nI 0, yG, yH, yK, yI, bL, bS, upd bN q (nI (g.2.2.1 q + 1)), upd bY (sr_S g.2.2.1 g.1) (cd_Y (c + t)), bW, bM, bK, bR, gL, gS, gN, gY, kL, kS, kN, kY, bI, bD, bP, bQ, bC, bX), ?_, fun post H => ?_, fun post H => ?_⟩
        · refine ⟨N, T, gm_pu g (c + t), ⟨⟨rfl, rfl, hN1, hN6⟩, ⟨rfl, rfl, hT1, hT4⟩, ⟨rfl, rfl⟩, ⟨congrArg nI (sr_pu' hq).symm, congrArg nI (sr_pu' hq).symm⟩, ?_, ?_, gw_Epu hE hq z (hs t ht)⟩, Or.inl ⟨⟨rfl, rfl⟩, rfl, ⟨rfl, rfl⟩, hR⟩⟩
          · exact gw_Xpu hX hq (by rw [Nat.zero_add]) rfl hs16 (by omega)
          · exact gw_Ypu hY hq rfl rfl hs16 w
        · refine br_t rfl (br_f hne (br_f p0 (br_t pB (nm_r eq ⟨vp_in_nI (by omega) (by decide), br_f (by rw [eN]; exact f4) (br_t fS ?_)⟩))))
          rw [nI_add]
          refine xa_S (l := g.2.2.1 q) (by omega) (by omega) x3 (nm_r (nI_1 _) ⟨vp_in_nI (by omega) (by decide), ?_⟩)
          rw [nI_clamp (by omega), pk_us]
          exact H
        · refine br_t rfl (br_f hne (br_f n1 (nm_r eq ⟨vp_in_nI (by omega) (by decide), br_f (by rw [eN']; exact f4) (br_t fS ⟨vp_in_nI w (by decide), nm_r (e' := upd bY (sr_S g.2.2.1 g.1) (cd_Y (c + t))) (by rw [nI_clamp (by omega)]) (nm_r (nI_1 _) ⟨vp_in_nI (by omega) (by decide), vp_in_nI (by omega) (by decide), nm_r (e' := upd bN q (nI (g.2.2.1 q + 1))) (by rw [eN', nI_clamp (by omega), nI_1]) ⟨vp_in_nI (by omega) (by decide), ?_⟩⟩)⟩)⟩)))
          rw [nI_clamp (by omega), pk_us]
          exact H
      · have fS : ¬ nI (sr_S g.2.2.1 g.1) < 12 := nI_nlt (b := 12) w (by omega)
        exact ⟨-3, _, _, I0, fun post H => br_t rfl (br_f hne (br_f p0 (br_t pB (nm_r eq ⟨vp_in_nI (by omega) (by decide), br_f (by rw [eN]; exact f4) (br_f fS H)⟩)))), fun post H => br_t rfl (br_f hne (br_f n1 (nm_r eq ⟨vp_in_nI (by omega) (by decide), br_f (by rw [eN']; exact f4) (br_f fS H)⟩)))⟩
    · have f4 : (4 : Int32) ≤ nI (g.2.2.1 q) := nI_le (a := 4) z (by omega)
      exact ⟨-3, _, _, I0, fun post H => br_t rfl (br_f hne (br_f p0 (br_t pB (nm_r eq ⟨vp_in_nI (by omega) (by decide), br_t (by rw [eN]; exact f4) H⟩)))), fun post H => br_t rfl (br_f hne (br_f n1 (nm_r eq ⟨vp_in_nI (by omega) (by decide), br_t (by rw [eN']; exact f4) H⟩)))⟩
  · refine ⟨-2, _, _, I0, fun post H => br_t rfl (br_f hne ?_), fun post H => br_t rfl (br_f hne (br_t rfl H))⟩
    rcases ho with h | h
    · exact br_t h H
    · exact br_f (Int32.not_lt.mpr (Int32.le_trans (nI_pos' (by omega)) h)) (br_f (Int32.not_lt.mpr h) H)
end ens
theorem i_vc_terminal {k : Nat} {u : SX} {v : SY} (I : i_Rel k u v) (hk : k + 2 ≤ 1026) (v1 : Int32) : wpX_terminal (fun r u' => wpY_terminal (fun r' v' => r' = r ∧ i_Rel (k + 2) u' v') v v1) u v1 := by
  have I' := i_up I
  obtain ⟨xN, xT, xB, xR, xS, xE, xL, xA, xG, xC, xF, aL, aN, aS, aR, aM, aK, aT, aE⟩ := u
  obtain ⟨yN, yT, yB, yR, yS, yW, yG, yH, yK, yI, bL, bS, bN, bY, bW, bM, bK, bR, gL, gS, gN, gY, kL, kS, kN, kY, bI, bD, bP, bQ, bC, bX⟩ := v
  obtain ⟨N, T, g, ⟨⟨rfl, rfl, hN1, hN6⟩, ⟨rfl, rfl, hT1, hT4⟩, ⟨rfl, rfl⟩, ⟨rfl, rfl⟩, hX, hY, hE⟩, hP⟩ := I
  have h8 := hY.1
  have h12 := hY.2.1
  rcases hP with ⟨⟨rfl, rfl⟩, rfl, ⟨rfl, rfl⟩, hR⟩ | ⟨L, m, kd, tx, ⟨rfl, rfl⟩, ⟨rfl, rfl⟩, hX2, hY2, hA, ⟨rfl, rfl, hL⟩, hT', hW, rfl, rfl, rfl, rfl⟩
  · rcases pk_ix v1 (n := T) (by omega) with h | h | ⟨t, ht, rfl⟩
    · obtain ⟨r, u', v', J, hx, hy⟩ := en_S (k := k) (xA := xA) (xG := xG) (xC := xC) (xF := xF) (aM := aM) (aK := aK) (aT := aT) (aE := aE) (yG := yG) (yH := yH) (yK := yK) (yI := yI) (bW := bW) (bM := bM) (bK := bK) (bR := bR) (gL := gL) (gS := gS) (gN := gN) (gY := gY) (kL := kL) (kS := kS) (kN := kN) (kY := kY) (bI := bI) (bD := bD) (bP := bP) (bQ := bQ) (bC := bC) (bX := bX) hN1 hN6 hT1 hT4 hX hY hE hR v1 ((-1) - v1) 0 T 12 (by omega) (fun t ht => Or.inr ⟨by omega, by omega⟩) (Or.inr ⟨Or.inl h, rfl⟩)
      obtain ⟨_, _, _, _, _, _, _, _, _, _, _, _, _, _, _, _, _, _, _⟩ := u'
      obtain ⟨_, _, _, _, _, _, _, _, _, _, _, _, _, _, _, _, _, _, _, _, _, _, _, _, _, _, _, _, _, _, _, _⟩ := v'
      unfold wpX_terminal
      refine hx _ ?_
      dsimp only
      unfold wpY_terminal
      refine br_t h ?_
      unfold wY_terminal_20 wY_terminal_21
      exact hy _ ⟨rfl, J⟩
    · obtain ⟨r, u', v', J, hx, hy⟩ := en_S (k := k) (xA := xA) (xG := xG) (xC := xC) (xF := xF) (aM := aM) (aK := aK) (aT := aT) (aE := aE) (yG := yG) (yH := yH) (yK := yK) (yI := yI) (bW := bW) (bM := bM) (bK := bK) (bR := bR) (gL := gL) (gS := gS) (gN := gN) (gY := gY) (kL := kL) (kS := kS) (kN := kN) (kY := kY) (bI := bI) (bD := bD) (bP := bP) (bQ := bQ) (bC := bC) (bX := bX) hN1 hN6 hT1 hT4 hX hY hE hR v1 ((-1) - v1) 0 T 12 (by omega) (fun t ht => Or.inr ⟨by omega, by omega⟩) (Or.inr ⟨Or.inr h, rfl⟩)
      obtain ⟨_, _, _, _, _, _, _, _, _, _, _, _, _, _, _, _, _, _, _⟩ := u'
      obtain ⟨_, _, _, _, _, _, _, _, _, _, _, _, _, _, _, _, _, _, _, _, _, _, _, _, _, _, _, _, _, _, _, _⟩ := v'
      unfold wpX_terminal
      refine hx _ ?_
      dsimp only
      unfold wpY_terminal
      refine br_f (Int32.not_lt.mpr (Int32.le_trans (nI_pos' (by omega)) h)) (br_t h ?_)
      unfold wY_terminal_20 wY_terminal_21
      exact hy _ ⟨rfl, J⟩
    · obtain ⟨r, u', v', J, hx, hy⟩ := en_S (k := k) (xA := xA) (xG := xG) (xC := xC) (xF := xF) (aM := aM) (aK := aK) (aT := aT) (aE := aE) (yG := yG) (yH := yH) (yK := yK) (yI := yI) (bW := bW) (bM := bM) (bK := bK) (bR := bR) (gL := gL) (gS := gS) (gN := gN) (gY := gY) (kL := kL) (kS := kS) (kN := kN) (kY := kY) (bI := bI) (bD := bD) (bP := bP) (bQ := bQ) (bC := bC) (bX := bX) hN1 hN6 hT1 hT4 hX hY hE hR (nI t) ((-1) - nI t) 1 T 12 (by omega) (fun t ht => Or.inr ⟨by omega, by omega⟩) (Or.inl ⟨t, ht, rfl, cd_12 t (by omega), rfl⟩)
      obtain ⟨_, _, _, _, _, _, _, _, _, _, _, _, _, _, _, _, _, _, _⟩ := u'
      obtain ⟨_, _, _, _, _, _, _, _, _, _, _, _, _, _, _, _, _, _, _, _, _, _, _, _, _, _, _, _, _, _, _, _⟩ := v'
      unfold wpX_terminal
      refine hx _ ?_
      dsimp only
      unfold wpY_terminal
      refine br_f (nI_pos (by omega)) (br_f (nI_ge ht (by omega)) ?_)
      unfold wY_terminal_21
      exact hy _ ⟨rfl, J⟩
  · have bad : ∀ z0 z1, wpY_addSym (fun r' v' => r' = -1 ∧ i_Rel (k + 2) (nI N, nI T, 1, nI g.1, nI (sr_S g.2.2.1 g.1), nI (8 + (gz_C g m kd N).1), nI L, bz_I (dv_D (gz_C g m kd N).1 (gz_C g m kd N).2.1 (gz_C g m kd N).2.2.1 (gz_C g m kd N).2.2.2 (tm_s false tx L) 0 0 L), bz_I (dv_D g.1 g.2.1 g.2.2.1 g.2.2.2 (tm_s false tx L) 0 0 L), bz_I (dv_D (gz_C g m kd N).1 (gz_C g m kd N).2.1 (gz_C g m kd N).2.2.1 (gz_C g m kd N).2.2.2 (tm_s true tx L) 0 0 L), fo_M (dq_P (gz_C g m kd N).1 (gz_C g m kd N).2.1 (gz_C g m kd N).2.2.1 (gz_C g m kd N).2.2.2 tx L) T, aL, aN, aS, aR, aM, aK, aT, aE) v') (nI N, nI T, 1, nI g.1, nI (sr_S g.2.2.1 g.1), nI L, nI (gz_C g m kd N).1, yH, yK, yI, bL, bS, bN, bY, bW, bM, bK, bR, gL, gS, gN, gY, kL, kS, kN, kY, bI, bD, bP, bQ, bC, bX) z1 z0 := fun z0 z1 => br_f (by decide) ⟨rfl, I'⟩
    refine br_f (by decide) ?_
    by_cases h1 : v1 < 0
    · exact br_t h1 (bad _ _)
    · by_cases h2 : nI T ≤ v1
      · exact br_f h1 (br_t h2 (bad _ _))
      · exact br_f h1 (br_f h2 (bad _ _))
theorem i_vc_nonterminal {k : Nat} {u : SX} {v : SY} (I : i_Rel k u v) (hk : k + 2 ≤ 1026) (v1 : Int32) : wpX_nonterminal (fun r u' => wpY_nonterminal (fun r' v' => r' = r ∧ i_Rel (k + 2) u' v') v v1) u v1 := by
  have I' := i_up I
  obtain ⟨xN, xT, xB, xR, xS, xE, xL, xA, xG, xC, xF, aL, aN, aS, aR, aM, aK, aT, aE⟩ := u
  obtain ⟨yN, yT, yB, yR, yS, yW, yG, yH, yK, yI, bL, bS, bN, bY, bW, bM, bK, bR, gL, gS, gN, gY, kL, kS, kN, kY, bI, bD, bP, bQ, bC, bX⟩ := v
  obtain ⟨N, T, g, ⟨⟨rfl, rfl, hN1, hN6⟩, ⟨rfl, rfl, hT1, hT4⟩, ⟨rfl, rfl⟩, ⟨rfl, rfl⟩, hX, hY, hE⟩, hP⟩ := I
  have h8 := hY.1
  have h12 := hY.2.1
  rcases hP with ⟨⟨rfl, rfl⟩, rfl, ⟨rfl, rfl⟩, hR⟩ | ⟨L, m, kd, tx, ⟨rfl, rfl⟩, ⟨rfl, rfl⟩, hX2, hY2, hA, ⟨rfl, rfl, hL⟩, hT', hW, rfl, rfl, rfl, rfl⟩
  · rcases pk_ix v1 (n := N) (by omega) with h | h | ⟨t, ht, rfl⟩
    · obtain ⟨r, u', v', J, hx, hy⟩ := en_S (k := k) (xA := xA) (xG := xG) (xC := xC) (xF := xF) (aM := aM) (aK := aK) (aT := aT) (aE := aE) (yG := yG) (yH := yH) (yK := yK) (yI := yI) (bW := bW) (bM := bM) (bK := bK) (bR := bR) (gL := gL) (gS := gS) (gN := gN) (gY := gY) (kL := kL) (kS := kS) (kN := kN) (kY := kY) (bI := bI) (bD := bD) (bP := bP) (bQ := bQ) (bC := bC) (bX := bX) hN1 hN6 hT1 hT4 hX hY hE hR v1 v1 0 N 0 hN6 (fun t ht => Or.inl (by omega)) (Or.inr ⟨Or.inl h, rfl⟩)
      obtain ⟨_, _, _, _, _, _, _, _, _, _, _, _, _, _, _, _, _, _, _⟩ := u'
      obtain ⟨_, _, _, _, _, _, _, _, _, _, _, _, _, _, _, _, _, _, _, _, _, _, _, _, _, _, _, _, _, _, _, _⟩ := v'
      unfold wpX_nonterminal
      refine hx _ ?_
      dsimp only
      unfold wpY_nonterminal
      refine br_t h ?_
      unfold wY_nonterminal_18 wY_nonterminal_19
      exact hy _ ⟨rfl, J⟩
    · obtain ⟨r, u', v', J, hx, hy⟩ := en_S (k := k) (xA := xA) (xG := xG) (xC := xC) (xF := xF) (aM := aM) (aK := aK) (aT := aT) (aE := aE) (yG := yG) (yH := yH) (yK := yK) (yI := yI) (bW := bW) (bM := bM) (bK := bK) (bR := bR) (gL := gL) (gS := gS) (gN := gN) (gY := gY) (kL := kL) (kS := kS) (kN := kN) (kY := kY) (bI := bI) (bD := bD) (bP := bP) (bQ := bQ) (bC := bC) (bX := bX) hN1 hN6 hT1 hT4 hX hY hE hR v1 v1 0 N 0 hN6 (fun t ht => Or.inl (by omega)) (Or.inr ⟨Or.inr h, rfl⟩)
      obtain ⟨_, _, _, _, _, _, _, _, _, _, _, _, _, _, _, _, _, _, _⟩ := u'
      obtain ⟨_, _, _, _, _, _, _, _, _, _, _, _, _, _, _, _, _, _, _, _, _, _, _, _, _, _, _, _, _, _, _, _⟩ := v'
      unfold wpX_nonterminal
      refine hx _ ?_
      dsimp only
      unfold wpY_nonterminal
      refine br_f (Int32.not_lt.mpr (Int32.le_trans (nI_pos' (by omega)) h)) (br_t h ?_)
      unfold wY_nonterminal_18 wY_nonterminal_19
      exact hy _ ⟨rfl, J⟩
    · obtain ⟨r, u', v', J, hx, hy⟩ := en_S (k := k) (xA := xA) (xG := xG) (xC := xC) (xF := xF) (aM := aM) (aK := aK) (aT := aT) (aE := aE) (yG := yG) (yH := yH) (yK := yK) (yI := yI) (bW := bW) (bM := bM) (bK := bK) (bR := bR) (gL := gL) (gS := gS) (gN := gN) (gY := gY) (kL := kL) (kS := kS) (kN := kN) (kY := kY) (bI := bI) (bD := bD) (bP := bP) (bQ := bQ) (bC := bC) (bX := bX) hN1 hN6 hT1 hT4 hX hY hE hR (nI t) (nI t) 1 N 0 hN6 (fun t ht => Or.inl (by omega)) (Or.inl ⟨t, ht, rfl, by rw [Nat.zero_add, cd_n (by omega)], rfl⟩)
      obtain ⟨_, _, _, _, _, _, _, _, _, _, _, _, _, _, _, _, _, _, _⟩ := u'
      obtain ⟨_, _, _, _, _, _, _, _, _, _, _, _, _, _, _, _, _, _, _, _, _, _, _, _, _, _, _, _, _, _, _, _⟩ := v'
      unfold wpX_nonterminal
      refine hx _ ?_
      dsimp only
      unfold wpY_nonterminal
      refine br_f (nI_pos (by omega)) (br_f (nI_ge ht (by omega)) ?_)
      unfold wY_nonterminal_19
      exact hy _ ⟨rfl, J⟩
  · have bad : ∀ z0 z1, wpY_addSym (fun r' v' => r' = -1 ∧ i_Rel (k + 2) (nI N, nI T, 1, nI g.1, nI (sr_S g.2.2.1 g.1), nI (8 + (gz_C g m kd N).1), nI L, bz_I (dv_D (gz_C g m kd N).1 (gz_C g m kd N).2.1 (gz_C g m kd N).2.2.1 (gz_C g m kd N).2.2.2 (tm_s false tx L) 0 0 L), bz_I (dv_D g.1 g.2.1 g.2.2.1 g.2.2.2 (tm_s false tx L) 0 0 L), bz_I (dv_D (gz_C g m kd N).1 (gz_C g m kd N).2.1 (gz_C g m kd N).2.2.1 (gz_C g m kd N).2.2.2 (tm_s true tx L) 0 0 L), fo_M (dq_P (gz_C g m kd N).1 (gz_C g m kd N).2.1 (gz_C g m kd N).2.2.1 (gz_C g m kd N).2.2.2 tx L) T, aL, aN, aS, aR, aM, aK, aT, aE) v') (nI N, nI T, 1, nI g.1, nI (sr_S g.2.2.1 g.1), nI L, nI (gz_C g m kd N).1, yH, yK, yI, bL, bS, bN, bY, bW, bM, bK, bR, gL, gS, gN, gY, kL, kS, kN, kY, bI, bD, bP, bQ, bC, bX) z1 z0 := fun z0 z1 => br_f (by decide) ⟨rfl, I'⟩
    refine br_f (by decide) ?_
    by_cases h1 : v1 < 0
    · exact br_t h1 (bad _ _)
    · by_cases h2 : nI N ≤ v1
      · exact br_f h1 (br_t h2 (bad _ _))
      · exact br_f h1 (br_f h2 (bad _ _))
end
section
/-! What is asked and answered without a word problem -/
section rds
variable {xN xT xB xR xS xE xL xA xG xC xF : Int32} {aL aN aS aR aM aK aT aE : Nat → Int32}
variable {yN yT yB yR yS yW yG yH yK yI : Int32} {bL bS bN bY bW bM bK bR gL gS gN gY kL kS kN kY bI bD bP bQ bC bX : Nat → Int32}
variable {N : Nat} {g h : gm_G} {m kd : Nat → Nat}
theorem rd_xs {post : Int32 → Prop} (hN : N ≤ 6) (hK : ∀ a, a < N → aK a = nI (kd a) ∧ kd a ≤ 3) (H : post (bz_I (∃ a, a < N ∧ kd a = 3))) :
    ∀ d a, a + d = N → (∀ a', a' < a → kd a' ≠ 3) → wX_selfEmbedding_11 post (nI N) xT xB xR xS xE xL xA xG xC xF aL aN aS aR aM aK aT aE (d + 1) (nI a) := by
  intro d
  induction d with
  | zero =>
    intro a ha hn
    rw [bz_f (P := ∃ a, a < N ∧ kd a = 3) (fun ⟨a', h1, h2⟩ => hn a' (by omega) h2)] at H
    exact br_t (nI_le (by omega) (by omega)) H
  | succ d ih =>
    intro a ha hn
    have hk := hK a (by omega)
    refine br_f (nI_ge (by omega) (by omega)) ⟨vp_in_nI (by omega) (by decide), pk_eq (kd a) 3 (fun z => ?_) (fun z => nm_r (nI_1 a) (ih (a + 1) (by omega) fun a' h' => ?_)) (by rw [nI_clamp (by omega)]; exact hk.1) rfl (by omega) (by decide)⟩
    · exact bz_p1 H ⟨a, by omega, z⟩
    · by_cases y : a' = a
      · subst y; exact z
      · exact hn a' (by omega)
theorem rd_ys {post : Int32 → Prop} (hN : N ≤ 6) (hK : ∀ a, a < N → bK a = nI (kd a) ∧ kd a ≤ 3) (H : post (bz_I (∃ a, a < N ∧ kd a = 3))) :
    ∀ d a, a + d = N → (∀ a', a' < a → kd a' ≠ 3) → wY_selfEmbedding_11 post (nI N) yT yB yR yS yW yG yH yK yI bL bS bN bY bW bM bK bR gL gS gN gY kL kS kN kY bI bD bP bQ bC bX (d + 1) (nI a) := by
  intro d
  induction d with
  | zero =>
    intro a ha hn
    rw [bz_f (P := ∃ a, a < N ∧ kd a = 3) (fun ⟨a', h1, h2⟩ => hn a' (by omega) h2)] at H
    exact br_t (nI_le (by omega) (by omega)) H
  | succ d ih =>
    intro a ha hn
    have hk := hK a (by omega)
    refine br_f (nI_ge (by omega) (by omega)) ⟨vp_in_nI (by omega) (by decide), pk_eq (kd a) 3 (fun z => ?_) (fun z => nm_r (nI_1 a) (ih (a + 1) (by omega) fun a' h' => ?_)) (by rw [nI_clamp (by omega)]; exact hk.1) rfl (by omega) (by decide)⟩
    · exact bz_p1 H ⟨a, by omega, z⟩
    · by_cases y : a' = a
      · subst y; exact z
      · exact hn a' (by omega)
theorem gz_n {r : Nat} (z : ¬ kd (g.2.1 r) = 3) : ∀ k, (gz_p g m kd r h k).1 = h.1 + 1 := by
  intro k
  induction k with
  | zero => rfl
  | succ k ih =>
    rw [gz_pf (fun y => z y.1)]
    exact ih
theorem rd_47 {post : Int32 → Prop} {J13 : Int32 → Int32 → Prop} {r : Nat} (hN : N ≤ 6) (hg : gw_Y 8 12 g bL bS bN bY) (hE : gw_E N g) (hm : sn_R N m bM) (hr : r < g.1) (hk3 : kd (g.2.1 r) = 3)
    (hJ : J13 (nI (gz_p g m kd r h (g.2.2.1 r)).1) (nI (r + 1))) :
    ∀ d k, k + d = g.2.2.1 r → wY_transformedRuleCount_47 post J13 (nI r) yN yT yB yR yS yW yG yH yK yI bL bS bN bY bW bM bK bR gL gS gN gY kL kS kN kY bI bD bP bQ bC bX (d + 1) (nI (gz_p g m kd r h k).1) (nI k) := by
  obtain ⟨h1, h2, h3, h4, h5⟩ := hg.2.2 r hr
  obtain ⟨e1, e2, e3⟩ := hE r hr
  have h8 := hg.1
  have eN : bN (nI r).toNatClampNeg = nI (g.2.2.1 r) := by rw [nI_clamp (by omega)]; exact h4
  intro d
  induction d with
  | zero =>
    intro k hk
    have e : k = g.2.2.1 r := by omega
    subst e
    exact ⟨vp_in_nI (by omega) (by decide), br_t (by rw [eN]; exact nI_le (Nat.le_refl _) (by omega)) (nm_r (nI_1 r) hJ)⟩
  | succ d ih =>
    intro k hk
    have := ih (k + 1) (by omega)
    refine ⟨vp_in_nI (by omega) (by decide), br_f (by rw [eN]; exact nI_ge (by omega) (by omega)) (yk_I hN hg hE hm hr (by omega) (bz_br rfl (fun z => ?_) (fun z => ?_)))⟩
    · rw [gz_pf (fun y => z y.2)] at this
      exact nm_r (nI_1 k) this
    · rw [gz_pt ⟨hk3, z⟩] at this
      exact nm_r (nI_1 _) (nm_r (nI_1 k) this)
theorem gz_f1 {r : Nat} : (gz_f g kd r h).1 = h.1 := by
  rcases Classical.em (kd (g.2.1 r) = 3) with z | z
  · rw [gz_ft z]; rfl
  · rw [gz_ff z]
theorem rd_83 {post : Int32 → Prop} (hN : N ≤ 6) (hK : ∀ a, a < N → bK a = nI (kd a) ∧ kd a ≤ 3) (H : post (nI (gz_C g m kd N).1)) :
    ∀ d a, a + d = N → wY_transformedRuleCount_83 post (nI N) yT yB yR yS yW yG yH yK yI bL bS bN bY bW bM bK bR gL gS gN gY kL kS kN kY bI bD bP bQ bC bX (d + 1) (nI (gz_C g m kd a).1) (nI a) := by
  intro d
  induction d with
  | zero =>
    intro a ha
    have e : a = N := by omega
    subst e
    exact br_t (nI_le (Nat.le_refl _) (by omega)) H
  | succ d ih =>
    intro a ha
    have hk := hK a (by omega)
    have := ih (a + 1) (by omega)
    refine br_f (nI_ge (by omega) (by omega)) ⟨vp_in_nI (by omega) (by decide), pk_eq (kd a) 3 (fun z => ?_) (fun z => ?_) (by rw [nI_clamp (by omega)]; exact hk.1) rfl (by omega) (by decide)⟩
    · rw [gz_Ct z] at this
      exact nm_r (nI_1 _) (nm_r (nI_1 a) this)
    · rw [gz_Cf z] at this
      exact nm_r (nI_1 a) this
theorem rd_13 {post : Int32 → Prop} (hN : N ≤ 6) (hg : gw_Y 8 12 g bL bS bN bY) (hE : gw_E N g) (hm : sn_R N m bM) (hK : ∀ a, a < N → bK a = nI (kd a) ∧ kd a ≤ 3) (H : post (nI (gz_C g m kd N).1)) :
    ∀ d r, r + d = g.1 → wY_transformedRuleCount_13 post (nI N) yT yB (nI g.1) yS yW yG yH yK yI bL bS bN bY bW bM bK bR gL gS gN gY kL kS kN kY bI bD bP bQ bC bX (d + 1) (nI (gz_B g m kd r).1) (nI r) := by
  have h8 := hg.1
  intro d
  induction d with
  | zero =>
    intro r hr
    have e : r = g.1 := by omega
    subst e
    exact br_t (nI_le (Nat.le_refl _) (by omega)) ⟨N + 1, rd_83 hN hK H N 0 (by omega)⟩
  | succ d ih =>
    intro r hr
    obtain ⟨h1, h2, h3, h4, h5⟩ := hg.2.2 r (by omega)
    obtain ⟨e1, e2, e3⟩ := hE r (by omega)
    have hk := hK (g.2.1 r) e1
    have eL : bL (nI r).toNatClampNeg = nI (g.2.1 r) := by rw [nI_clamp (by omega)]; exact h1
    have := ih (r + 1) (by omega)
    rw [show gz_B g m kd (r + 1) = gz_f g kd r (gz_p g m kd r (gz_B g m kd r) (g.2.2.1 r)) from rfl, gz_f1] at this
    refine br_f (nI_ge (by omega) (by omega)) ⟨vp_in_nI (by omega) (by decide), pk_in (g.2.1 r) 6 (by omega) eL, pk_eq (kd (g.2.1 r)) 3 (fun z => ?_) (fun z => ?_) (by rw [eL, nI_clamp (by omega)]; exact hk.1) rfl (by omega) (by decide)⟩
    · exact nm_r (nI_1 _) ⟨g.2.2.1 r + 1, rd_47 (h := gz_B g m kd r) hN hg hE hm (by omega) z this (g.2.2.1 r) 0 (by omega)⟩
    · rw [gz_n z] at this
      exact nm_r (nI_1 _) (nm_r (nI_1 r) this)
end rds
end
section
/-! The owed statements -/
theorem i_vc_build {k : Nat} {u : SX} {v : SY} (I : i_Rel k u v) (hk : k + 2 ≤ 1026) : wpX_build (fun r u' => wpY_build (fun r' v' => r' = r ∧ i_Rel (k + 2) u' v') v) u := by
  have I' := i_up I
  obtain ⟨xN, xT, xB, xR, xS, xE, xL, xA, xG, xC, xF, aL, aN, aS, aR, aM, aK, aT, aE⟩ := u
  obtain ⟨yN, yT, yB, yR, yS, yW, yG, yH, yK, yI, bL, bS, bN, bY, bW, bM, bK, bR, gL, gS, gN, gY, kL, kS, kN, kY, bI, bD, bP, bQ, bC, bX⟩ := v
  obtain ⟨N, T, g, ⟨⟨rfl, rfl, hN1, hN6⟩, ⟨rfl, rfl, hT1, hT4⟩, ⟨rfl, rfl⟩, ⟨rfl, rfl⟩, hX, hY, hE⟩, hP⟩ := I
  have h8 := hY.1
  have h12 := hY.2.1
  rcases hP with ⟨⟨rfl, rfl⟩, rfl, ⟨rfl, rfl⟩, hR⟩ | ⟨L, m, kd, tx, ⟨rfl, rfl⟩, ⟨rfl, rfl⟩, hX2, hY2, hA, ⟨rfl, rfl, hL⟩, hT', hW, rfl, rfl, rfl, rfl⟩
  · unfold wpX_build
    have hlt : ∀ a, a < N → mt_N (ws_W (ed_E g g.1) N) a < 6 := fun a ha => by have := mt_lt (R := ws_W (ed_E g g.1) N) (a := a); omega
    refine br_t rfl (xr_F hN6 h8 hX hE hR fun q hq => xm_S hN6 hq fun q2 hq2 => xk_F (m := mt_N (ws_W (ed_E g g.1) N)) hN6 h8 hX hE (fun a ha => ⟨hq2 a ha, hlt a ha⟩) fun q3 hq3 => xw_R (m := mt_N (ws_W (ed_E g g.1) N)) (kd := fun a => kn_K g (mt_N (ws_W (ed_E g g.1) N)) (mt_N (ws_W (ed_E g g.1) N) a)) hN6 h8 h12 hE (fun a ha => ⟨hq2 a ha, hlt a ha⟩) (fun a ha => ⟨hq3 a ha, kn_le⟩) hX fun l n t hI => ?_)
    refine xq_A (L := 0) (tx := fun _ => 0) (by decide) hT4 hI.1 hI.2 (fun i hi => absurd hi (Nat.not_lt_zero i)) fun aT' e' hT' => ?_
    refine yt_B hN6 hY hE rfl fun c p q' l' s n' y h1 h2 h3 => ⟨rfl, N, T, g, ⟨⟨rfl, rfl, hN1, hN6⟩, ⟨rfl, rfl, hT1, hT4⟩, ⟨rfl, rfl⟩, ⟨rfl, rfl⟩, hI.1, hY, hE⟩, Or.inr ⟨0, _, _, fun _ => 0, ⟨rfl, rfl⟩, ⟨rfl, rfl⟩, hI.2, h3, fun a ha => ⟨hq2 a ha, h1 a ha, hlt a ha, hq3 a ha, h2 a ha, kn_le⟩, ⟨rfl, rfl, by decide⟩, fun i hi => absurd hi (Nat.not_lt_zero i), fun i hi => absurd hi (Nat.not_lt_zero i), rfl, rfl, rfl, rfl⟩⟩
  · exact br_f (by decide) (br_f (by decide) ⟨rfl, I'⟩)
theorem ow_txt {L t : Nat} {tx : Nat → Nat} {b : Nat → Int32} (h : ∀ i, i < L → b i = nI (tx i) ∧ tx i < 4) (ht : t < 4) : ∀ i, i < L + 1 → upd b L (nI t) i = nI (if i = L then t else tx i) ∧ (if i = L then t else tx i) < 4 := by
  intro i hi
  by_cases z : i = L
  · subst z; rw [pk_us, if_pos rfl]; exact ⟨rfl, ht⟩
  · rw [pk_un z, if_neg z]; exact h i (by omega)
theorem i_vc_feed {k : Nat} {u : SX} {v : SY} (I : i_Rel k u v) (hk : k + 2 ≤ 1026) (v1 : Int32) : wpX_feed (fun r u' => wpY_feed (fun r' v' => r' = r ∧ i_Rel (k + 2) u' v') v v1) u v1 := by
  have I' := i_up I
  obtain ⟨xN, xT, xB, xR, xS, xE, xL, xA, xG, xC, xF, aL, aN, aS, aR, aM, aK, aT, aE⟩ := u
  obtain ⟨yN, yT, yB, yR, yS, yW, yG, yH, yK, yI, bL, bS, bN, bY, bW, bM, bK, bR, gL, gS, gN, gY, kL, kS, kN, kY, bI, bD, bP, bQ, bC, bX⟩ := v
  obtain ⟨N, T, g, ⟨⟨rfl, rfl, hN1, hN6⟩, ⟨rfl, rfl, hT1, hT4⟩, ⟨rfl, rfl⟩, ⟨rfl, rfl⟩, hX, hY, hE⟩, hP⟩ := I
  have h8 := hY.1
  have h12 := hY.2.1
  rcases hP with ⟨⟨rfl, rfl⟩, rfl, ⟨rfl, rfl⟩, hR⟩ | ⟨L, m, kd, tx, ⟨rfl, rfl⟩, ⟨rfl, rfl⟩, hX2, hY2, hA, ⟨rfl, rfl, hL⟩, hT', hW, rfl, rfl, rfl, rfl⟩
  · exact br_t rfl (br_t rfl ⟨rfl, I'⟩)
  · unfold wpX_feed
    refine br_f (by decide) ?_
    rcases pk_ix v1 (n := T) (by omega) with h | h | ⟨t, ht, rfl⟩
    · exact br_t h (br_f (by decide) (br_t h ⟨rfl, I'⟩))
    · have h0 : ¬ v1 < 0 := Int32.not_lt.mpr (Int32.le_trans (nI_pos' (by omega)) h)
      have hn : ¬ v1 < nI T := Int32.not_lt.mpr h
      exact br_f h0 (br_f hn (br_f (by decide) (br_f h0 (br_f hn ⟨rfl, I'⟩))))
    · have h0 : ¬ nI t < 0 := nI_pos (by omega)
      have hn : nI t < nI T := nI_lt ht (by omega)
      refine br_f h0 (br_t hn (pk_lt L 12 (fun z => ⟨vp_in_nI (by omega) (by decide), nm_r (e' := upd aT L (nI t)) (by rw [nI_clamp (by omega)]) (nm_r (nI_1 L) ?_)⟩) (fun z => ?_) rfl rfl (by omega) (by decide)))
      · refine xq_A (L := L + 1) (tx := fun i => if i = L then t else tx i) (by omega) hT4 hX hX2 (ow_txt hT' (by omega)) fun aT' e' hT'' => ?_
        refine br_f (by decide) (br_f h0 (br_t hn (br_t (nI_lt (b := 12) z (by decide)) ⟨vp_in_nI (by omega) (by decide), nm_r (e' := upd bW L (nI t)) (by rw [nI_clamp (by omega)]) (nm_r (nI_1 L) ⟨rfl, N, T, g, ⟨⟨rfl, rfl, hN1, hN6⟩, ⟨rfl, rfl, hT1, hT4⟩, ⟨rfl, rfl⟩, ⟨rfl, rfl⟩, hX, hY, hE⟩, Or.inr ⟨L + 1, m, kd, _, ⟨rfl, rfl⟩, ⟨rfl, rfl⟩, hX2, hY2, hA, ⟨rfl, rfl, by omega⟩, hT'', ow_txt hW (by omega), rfl, rfl, rfl, rfl⟩⟩)⟩)))
      · exact br_f (by decide) (br_f h0 (br_t hn (br_f (nI_nlt (b := 12) z (by omega)) ⟨rfl, I'⟩)))
theorem i_vc_clearInput {k : Nat} {u : SX} {v : SY} (I : i_Rel k u v) (hk : k + 2 ≤ 1026) : wpX_clearInput (fun r u' => wpY_clearInput (fun r' v' => r' = r ∧ i_Rel (k + 2) u' v') v) u := by
  have I' := i_up I
  obtain ⟨xN, xT, xB, xR, xS, xE, xL, xA, xG, xC, xF, aL, aN, aS, aR, aM, aK, aT, aE⟩ := u
  obtain ⟨yN, yT, yB, yR, yS, yW, yG, yH, yK, yI, bL, bS, bN, bY, bW, bM, bK, bR, gL, gS, gN, gY, kL, kS, kN, kY, bI, bD, bP, bQ, bC, bX⟩ := v
  obtain ⟨N, T, g, ⟨⟨rfl, rfl, hN1, hN6⟩, ⟨rfl, rfl, hT1, hT4⟩, ⟨rfl, rfl⟩, ⟨rfl, rfl⟩, hX, hY, hE⟩, hP⟩ := I
  have h8 := hY.1
  have h12 := hY.2.1
  rcases hP with ⟨⟨rfl, rfl⟩, rfl, ⟨rfl, rfl⟩, hR⟩ | ⟨L, m, kd, tx, ⟨rfl, rfl⟩, ⟨rfl, rfl⟩, hX2, hY2, hA, ⟨rfl, rfl, hL⟩, hT', hW, rfl, rfl, rfl, rfl⟩
  · exact br_t rfl (br_t rfl ⟨rfl, I'⟩)
  · unfold wpX_clearInput
    refine br_f (by decide) ?_
    refine xq_A (L := 0) (tx := fun _ => 0) (by decide) hT4 hX hX2 (fun i hi => absurd hi (Nat.not_lt_zero i)) fun aT' e' hT'' => ?_
    exact br_f (by decide) ⟨rfl, N, T, g, ⟨⟨rfl, rfl, hN1, hN6⟩, ⟨rfl, rfl, hT1, hT4⟩, ⟨rfl, rfl⟩, ⟨rfl, rfl⟩, hX, hY, hE⟩, Or.inr ⟨0, m, kd, fun _ => 0, ⟨rfl, rfl⟩, ⟨rfl, rfl⟩, hX2, hY2, hA, ⟨rfl, rfl, by decide⟩, fun i hi => absurd hi (Nat.not_lt_zero i), fun i hi => absurd hi (Nat.not_lt_zero i), rfl, rfl, rfl, rfl⟩⟩
theorem i_vc_ruleCount {k : Nat} {u : SX} {v : SY} (I : i_Rel k u v) (hk : k + 2 ≤ 1026) : wpX_ruleCount (fun r => wpY_ruleCount (fun r' => r' = r ∧ i_Rel (k + 2) u v) v) u := by
  have I' := i_up I
  obtain ⟨xN, xT, xB, xR, xS, xE, xL, xA, xG, xC, xF, aL, aN, aS, aR, aM, aK, aT, aE⟩ := u
  obtain ⟨yN, yT, yB, yR, yS, yW, yG, yH, yK, yI, bL, bS, bN, bY, bW, bM, bK, bR, gL, gS, gN, gY, kL, kS, kN, kY, bI, bD, bP, bQ, bC, bX⟩ := v
  obtain ⟨N, T, g, ⟨⟨rfl, rfl, hN1, hN6⟩, ⟨rfl, rfl, hT1, hT4⟩, ⟨rfl, rfl⟩, ⟨rfl, rfl⟩, hX, hY, hE⟩, hP⟩ := I
  have h8 := hY.1
  have h12 := hY.2.1
  rcases hP with ⟨⟨rfl, rfl⟩, rfl, ⟨rfl, rfl⟩, hR⟩ | ⟨L, m, kd, tx, ⟨rfl, rfl⟩, ⟨rfl, rfl⟩, hX2, hY2, hA, ⟨rfl, rfl, hL⟩, hT', hW, rfl, rfl, rfl, rfl⟩
  · exact ⟨rfl, I'⟩
  · exact ⟨rfl, I'⟩
theorem i_vc_inputLength {k : Nat} {u : SX} {v : SY} (I : i_Rel k u v) (hk : k + 2 ≤ 1026) : wpX_inputLength (fun r => wpY_inputLength (fun r' => r' = r ∧ i_Rel (k + 2) u v) v) u := by
  have I' := i_up I
  obtain ⟨xN, xT, xB, xR, xS, xE, xL, xA, xG, xC, xF, aL, aN, aS, aR, aM, aK, aT, aE⟩ := u
  obtain ⟨yN, yT, yB, yR, yS, yW, yG, yH, yK, yI, bL, bS, bN, bY, bW, bM, bK, bR, gL, gS, gN, gY, kL, kS, kN, kY, bI, bD, bP, bQ, bC, bX⟩ := v
  obtain ⟨N, T, g, ⟨⟨rfl, rfl, hN1, hN6⟩, ⟨rfl, rfl, hT1, hT4⟩, ⟨rfl, rfl⟩, ⟨rfl, rfl⟩, hX, hY, hE⟩, hP⟩ := I
  have h8 := hY.1
  have h12 := hY.2.1
  rcases hP with ⟨⟨rfl, rfl⟩, rfl, ⟨rfl, rfl⟩, hR⟩ | ⟨L, m, kd, tx, ⟨rfl, rfl⟩, ⟨rfl, rfl⟩, hX2, hY2, hA, ⟨rfl, rfl, hL⟩, hT', hW, rfl, rfl, rfl, rfl⟩
  · exact ⟨rfl, I'⟩
  · exact ⟨rfl, I'⟩
theorem i_vc_setOf {k : Nat} {u : SX} {v : SY} (I : i_Rel k u v) (hk : k + 2 ≤ 1026) (v1 : Int32) : wpX_setOf (fun r => wpY_setOf (fun r' => r' = r ∧ i_Rel (k + 2) u v) v v1) u v1 := by
  have I' := i_up I
  obtain ⟨xN, xT, xB, xR, xS, xE, xL, xA, xG, xC, xF, aL, aN, aS, aR, aM, aK, aT, aE⟩ := u
  obtain ⟨yN, yT, yB, yR, yS, yW, yG, yH, yK, yI, bL, bS, bN, bY, bW, bM, bK, bR, gL, gS, gN, gY, kL, kS, kN, kY, bI, bD, bP, bQ, bC, bX⟩ := v
  obtain ⟨N, T, g, ⟨⟨rfl, rfl, hN1, hN6⟩, ⟨rfl, rfl, hT1, hT4⟩, ⟨rfl, rfl⟩, ⟨rfl, rfl⟩, hX, hY, hE⟩, hP⟩ := I
  have h8 := hY.1
  have h12 := hY.2.1
  rcases hP with ⟨⟨rfl, rfl⟩, rfl, ⟨rfl, rfl⟩, hR⟩ | ⟨L, m, kd, tx, ⟨rfl, rfl⟩, ⟨rfl, rfl⟩, hX2, hY2, hA, ⟨rfl, rfl, hL⟩, hT', hW, rfl, rfl, rfl, rfl⟩
  · exact br_t rfl (br_t rfl ⟨rfl, I'⟩)
  · refine br_f (by decide) ?_
    rcases pk_ix v1 (n := N) (by omega) with h | h | ⟨a, ha, rfl⟩
    · exact br_t h (br_f (by decide) (br_t h ⟨rfl, I'⟩))
    · have h0 : ¬ v1 < 0 := Int32.not_lt.mpr (Int32.le_trans (nI_pos' (by omega)) h)
      have hn : ¬ v1 < nI N := Int32.not_lt.mpr h
      exact br_f h0 (br_f hn (br_f (by decide) (br_f h0 (br_f hn ⟨rfl, I'⟩))))
    · have h0 : ¬ nI a < 0 := nI_pos (by omega)
      have hn : nI a < nI N := nI_lt ha (by omega)
      have ha' := hA a ha
      refine br_f h0 (br_t hn ⟨vp_in_nI (by omega) (by decide), br_f (by decide) (br_f h0 (br_t hn ⟨vp_in_nI (by omega) (by decide), ?_, I'⟩))⟩)
      rw [nI_clamp (by omega), ha'.1, ha'.2.1]
theorem i_vc_setKind {k : Nat} {u : SX} {v : SY} (I : i_Rel k u v) (hk : k + 2 ≤ 1026) (v1 : Int32) : wpX_setKind (fun r => wpY_setKind (fun r' => r' = r ∧ i_Rel (k + 2) u v) v v1) u v1 := by
  have I' := i_up I
  obtain ⟨xN, xT, xB, xR, xS, xE, xL, xA, xG, xC, xF, aL, aN, aS, aR, aM, aK, aT, aE⟩ := u
  obtain ⟨yN, yT, yB, yR, yS, yW, yG, yH, yK, yI, bL, bS, bN, bY, bW, bM, bK, bR, gL, gS, gN, gY, kL, kS, kN, kY, bI, bD, bP, bQ, bC, bX⟩ := v
  obtain ⟨N, T, g, ⟨⟨rfl, rfl, hN1, hN6⟩, ⟨rfl, rfl, hT1, hT4⟩, ⟨rfl, rfl⟩, ⟨rfl, rfl⟩, hX, hY, hE⟩, hP⟩ := I
  have h8 := hY.1
  have h12 := hY.2.1
  rcases hP with ⟨⟨rfl, rfl⟩, rfl, ⟨rfl, rfl⟩, hR⟩ | ⟨L, m, kd, tx, ⟨rfl, rfl⟩, ⟨rfl, rfl⟩, hX2, hY2, hA, ⟨rfl, rfl, hL⟩, hT', hW, rfl, rfl, rfl, rfl⟩
  · exact br_t rfl (br_t rfl ⟨rfl, I'⟩)
  · refine br_f (by decide) ?_
    rcases pk_ix v1 (n := N) (by omega) with h | h | ⟨a, ha, rfl⟩
    · exact br_t h (br_f (by decide) (br_t h ⟨rfl, I'⟩))
    · have h0 : ¬ v1 < 0 := Int32.not_lt.mpr (Int32.le_trans (nI_pos' (by omega)) h)
      have hn : ¬ v1 < nI N := Int32.not_lt.mpr h
      exact br_f h0 (br_f hn (br_f (by decide) (br_f h0 (br_f hn ⟨rfl, I'⟩))))
    · have h0 : ¬ nI a < 0 := nI_pos (by omega)
      have hn : nI a < nI N := nI_lt ha (by omega)
      have ha' := hA a ha
      refine br_f h0 (br_t hn ⟨vp_in_nI (by omega) (by decide), br_f (by decide) (br_f h0 (br_t hn ⟨vp_in_nI (by omega) (by decide), ?_, I'⟩))⟩)
      rw [nI_clamp (by omega), ha'.2.2.2.1, ha'.2.2.2.2.1]
theorem i_vc_selfEmbedding {k : Nat} {u : SX} {v : SY} (I : i_Rel k u v) (hk : k + 2 ≤ 1026) : wpX_selfEmbedding (fun r => wpY_selfEmbedding (fun r' => r' = r ∧ i_Rel (k + 2) u v) v) u := by
  have I' := i_up I
  obtain ⟨xN, xT, xB, xR, xS, xE, xL, xA, xG, xC, xF, aL, aN, aS, aR, aM, aK, aT, aE⟩ := u
  obtain ⟨yN, yT, yB, yR, yS, yW, yG, yH, yK, yI, bL, bS, bN, bY, bW, bM, bK, bR, gL, gS, gN, gY, kL, kS, kN, kY, bI, bD, bP, bQ, bC, bX⟩ := v
  obtain ⟨N, T, g, ⟨⟨rfl, rfl, hN1, hN6⟩, ⟨rfl, rfl, hT1, hT4⟩, ⟨rfl, rfl⟩, ⟨rfl, rfl⟩, hX, hY, hE⟩, hP⟩ := I
  have h8 := hY.1
  have h12 := hY.2.1
  rcases hP with ⟨⟨rfl, rfl⟩, rfl, ⟨rfl, rfl⟩, hR⟩ | ⟨L, m, kd, tx, ⟨rfl, rfl⟩, ⟨rfl, rfl⟩, hX2, hY2, hA, ⟨rfl, rfl, hL⟩, hT', hW, rfl, rfl, rfl, rfl⟩
  · exact br_t rfl (br_t rfl ⟨rfl, I'⟩)
  · exact br_f (by decide) ⟨N + 1, rd_xs hN6 (fun a ha => ⟨(hA a ha).2.2.2.1, (hA a ha).2.2.2.2.2⟩) (br_f (by decide) ⟨N + 1, rd_ys hN6 (fun a ha => ⟨(hA a ha).2.2.2.2.1, (hA a ha).2.2.2.2.2⟩) ⟨rfl, I'⟩ N 0 (by omega) (fun a h => absurd h (Nat.not_lt_zero a))⟩) N 0 (by omega) (fun a h => absurd h (Nat.not_lt_zero a))⟩
theorem i_vc_transformedRuleCount {k : Nat} {u : SX} {v : SY} (I : i_Rel k u v) (hk : k + 2 ≤ 1026) : wpX_transformedRuleCount (fun r => wpY_transformedRuleCount (fun r' => r' = r ∧ i_Rel (k + 2) u v) v) u := by
  have I' := i_up I
  obtain ⟨xN, xT, xB, xR, xS, xE, xL, xA, xG, xC, xF, aL, aN, aS, aR, aM, aK, aT, aE⟩ := u
  obtain ⟨yN, yT, yB, yR, yS, yW, yG, yH, yK, yI, bL, bS, bN, bY, bW, bM, bK, bR, gL, gS, gN, gY, kL, kS, kN, kY, bI, bD, bP, bQ, bC, bX⟩ := v
  obtain ⟨N, T, g, ⟨⟨rfl, rfl, hN1, hN6⟩, ⟨rfl, rfl, hT1, hT4⟩, ⟨rfl, rfl⟩, ⟨rfl, rfl⟩, hX, hY, hE⟩, hP⟩ := I
  have h8 := hY.1
  have h12 := hY.2.1
  rcases hP with ⟨⟨rfl, rfl⟩, rfl, ⟨rfl, rfl⟩, hR⟩ | ⟨L, m, kd, tx, ⟨rfl, rfl⟩, ⟨rfl, rfl⟩, hX2, hY2, hA, ⟨rfl, rfl, hL⟩, hT', hW, rfl, rfl, rfl, rfl⟩
  · exact br_t rfl (br_t rfl ⟨rfl, I'⟩)
  · have e : nI (8 + (gz_C g m kd N).1) - 8 = nI (gz_C g m kd N).1 := by
      rw [show (8 : Int32) = nI 8 from rfl, pk_sub (by omega), Nat.add_sub_cancel_left]
    refine br_f (by decide) ?_
    rw [e]
    exact br_f (by decide) ⟨g.1 + 1, rd_13 hN6 hY hE (fun a ha => ⟨(hA a ha).2.1, (hA a ha).2.2.1⟩) (fun a ha => ⟨(hA a ha).2.2.2.2.1, (hA a ha).2.2.2.2.2⟩) ⟨rfl, I'⟩ g.1 0 (by omega)⟩
theorem i_vc_approxAccepts {k : Nat} {u : SX} {v : SY} (I : i_Rel k u v) (hk : k + 2 ≤ 1026) : wpX_approxAccepts (fun r => wpY_approxAccepts (fun r' v' => r' = r ∧ i_Rel (k + 2) u v') v) u := by
  have I' := i_up I
  obtain ⟨xN, xT, xB, xR, xS, xE, xL, xA, xG, xC, xF, aL, aN, aS, aR, aM, aK, aT, aE⟩ := u
  obtain ⟨yN, yT, yB, yR, yS, yW, yG, yH, yK, yI, bL, bS, bN, bY, bW, bM, bK, bR, gL, gS, gN, gY, kL, kS, kN, kY, bI, bD, bP, bQ, bC, bX⟩ := v
  obtain ⟨N, T, g, ⟨⟨rfl, rfl, hN1, hN6⟩, ⟨rfl, rfl, hT1, hT4⟩, ⟨rfl, rfl⟩, ⟨rfl, rfl⟩, hX, hY, hE⟩, hP⟩ := I
  have h8 := hY.1
  have h12 := hY.2.1
  rcases hP with ⟨⟨rfl, rfl⟩, rfl, ⟨rfl, rfl⟩, hR⟩ | ⟨L, m, kd, tx, ⟨rfl, rfl⟩, ⟨rfl, rfl⟩, hX2, hY2, hA, ⟨rfl, rfl, hL⟩, hT', hW, rfl, rfl, rfl, rfl⟩
  · exact br_t rfl (br_t rfl ⟨rfl, I'⟩)
  · refine br_f (by decide) (bz_br rfl (fun z => ?_) (fun z => ?_))
    · exact yg_acc hL hW hY2 fun _ _ _ _ _ _ _ _ _ _ => ⟨bz_f z, I'⟩
    · exact yg_acc hL hW hY2 fun _ _ _ _ _ _ _ _ _ _ => ⟨bz_t z, I'⟩
theorem i_vc_grammarAccepts {k : Nat} {u : SX} {v : SY} (I : i_Rel k u v) (hk : k + 2 ≤ 1026) : wpX_grammarAccepts (fun r => wpY_grammarAccepts (fun r' v' => r' = r ∧ i_Rel (k + 2) u v') v) u := by
  have I' := i_up I
  obtain ⟨xN, xT, xB, xR, xS, xE, xL, xA, xG, xC, xF, aL, aN, aS, aR, aM, aK, aT, aE⟩ := u
  obtain ⟨yN, yT, yB, yR, yS, yW, yG, yH, yK, yI, bL, bS, bN, bY, bW, bM, bK, bR, gL, gS, gN, gY, kL, kS, kN, kY, bI, bD, bP, bQ, bC, bX⟩ := v
  obtain ⟨N, T, g, ⟨⟨rfl, rfl, hN1, hN6⟩, ⟨rfl, rfl, hT1, hT4⟩, ⟨rfl, rfl⟩, ⟨rfl, rfl⟩, hX, hY, hE⟩, hP⟩ := I
  have h8 := hY.1
  have h12 := hY.2.1
  rcases hP with ⟨⟨rfl, rfl⟩, rfl, ⟨rfl, rfl⟩, hR⟩ | ⟨L, m, kd, tx, ⟨rfl, rfl⟩, ⟨rfl, rfl⟩, hX2, hY2, hA, ⟨rfl, rfl, hL⟩, hT', hW, rfl, rfl, rfl, rfl⟩
  · exact br_t rfl (br_t rfl ⟨rfl, I'⟩)
  · refine br_f (by decide) (bz_br rfl (fun z => ?_) (fun z => ?_))
    · exact yg_gra hL hW hY fun _ _ _ _ _ _ _ _ _ _ => ⟨bz_f z, I'⟩
    · exact yg_gra hL hW hY fun _ _ _ _ _ _ _ _ _ _ => ⟨bz_t z, I'⟩
theorem i_vc_approxLive {k : Nat} {u : SX} {v : SY} (I : i_Rel k u v) (hk : k + 2 ≤ 1026) : wpX_approxLive (fun r => wpY_approxLive (fun r' v' => r' = r ∧ i_Rel (k + 2) u v') v) u := by
  have I' := i_up I
  obtain ⟨xN, xT, xB, xR, xS, xE, xL, xA, xG, xC, xF, aL, aN, aS, aR, aM, aK, aT, aE⟩ := u
  obtain ⟨yN, yT, yB, yR, yS, yW, yG, yH, yK, yI, bL, bS, bN, bY, bW, bM, bK, bR, gL, gS, gN, gY, kL, kS, kN, kY, bI, bD, bP, bQ, bC, bX⟩ := v
  obtain ⟨N, T, g, ⟨⟨rfl, rfl, hN1, hN6⟩, ⟨rfl, rfl, hT1, hT4⟩, ⟨rfl, rfl⟩, ⟨rfl, rfl⟩, hX, hY, hE⟩, hP⟩ := I
  have h8 := hY.1
  have h12 := hY.2.1
  rcases hP with ⟨⟨rfl, rfl⟩, rfl, ⟨rfl, rfl⟩, hR⟩ | ⟨L, m, kd, tx, ⟨rfl, rfl⟩, ⟨rfl, rfl⟩, hX2, hY2, hA, ⟨rfl, rfl, hL⟩, hT', hW, rfl, rfl, rfl, rfl⟩
  · exact br_t rfl (br_t rfl ⟨rfl, I'⟩)
  · refine br_f (by decide) (bz_br rfl (fun z => ?_) (fun z => ?_))
    · exact yg_live hL hW hY2 fun _ _ _ _ _ _ _ _ _ _ _ _ => ⟨bz_f z, I'⟩
    · exact yg_live hL hW hY2 fun _ _ _ _ _ _ _ _ _ _ _ _ => ⟨bz_t z, I'⟩
theorem i_vc_nextMask {k : Nat} {u : SX} {v : SY} (I : i_Rel k u v) (hk : k + 2 ≤ 1026) : wpX_nextMask (fun r => wpY_nextMask (fun r' v' => r' = r ∧ i_Rel (k + 2) u v') v) u := by
  have I' := i_up I
  obtain ⟨xN, xT, xB, xR, xS, xE, xL, xA, xG, xC, xF, aL, aN, aS, aR, aM, aK, aT, aE⟩ := u
  obtain ⟨yN, yT, yB, yR, yS, yW, yG, yH, yK, yI, bL, bS, bN, bY, bW, bM, bK, bR, gL, gS, gN, gY, kL, kS, kN, kY, bI, bD, bP, bQ, bC, bX⟩ := v
  obtain ⟨N, T, g, ⟨⟨rfl, rfl, hN1, hN6⟩, ⟨rfl, rfl, hT1, hT4⟩, ⟨rfl, rfl⟩, ⟨rfl, rfl⟩, hX, hY, hE⟩, hP⟩ := I
  have h8 := hY.1
  have h12 := hY.2.1
  rcases hP with ⟨⟨rfl, rfl⟩, rfl, ⟨rfl, rfl⟩, hR⟩ | ⟨L, m, kd, tx, ⟨rfl, rfl⟩, ⟨rfl, rfl⟩, hX2, hY2, hA, ⟨rfl, rfl, hL⟩, hT', hW, rfl, rfl, rfl, rfl⟩
  · exact br_t rfl (br_t rfl ⟨rfl, I'⟩)
  · exact br_f (by decide) (yg_mask hT4 hL hW hY2 fun _ _ _ _ _ _ _ _ _ _ _ _ => ⟨rfl, I'⟩)
end
