section
/-! Derivations of a grammar (n rules, left sides lh, lengths ln, symbols sy; a symbol below 12 is a nonterminal, 12 + t is terminal t) over a text, as the least closed relation -/
def dv_St (S T : Nat → Nat → Nat → Prop) (s i j : Nat) : Prop := (s < 12 ∧ S s i j) ∨ (12 ≤ s ∧ T (s - 12) i j)
def dv_P (Q : Nat → Nat → Nat → Prop) (i : Nat) : Nat → Nat → Prop
  | 0, j => i = j
  | k + 1, j => ∃ m, dv_P Q i k m ∧ Q k m j
def dv_Cl (n : Nat) (lh ln : Nat → Nat) (sy : Nat → Nat → Nat) (T S : Nat → Nat → Nat → Prop) : Prop :=
  ∀ r i j, r < n → dv_P (fun k => dv_St S T (sy r k)) i (ln r) j → S (lh r) i j
def dv_D (n : Nat) (lh ln : Nat → Nat) (sy : Nat → Nat → Nat) (T : Nat → Nat → Nat → Prop) (a i j : Nat) : Prop :=
  ∀ S : Nat → Nat → Nat → Prop, dv_Cl n lh ln sy T S → S a i j
theorem dv_P_mono {Q Q' : Nat → Nat → Nat → Prop} {i : Nat} : ∀ (K j : Nat), (∀ k m q, k < K → Q k m q → Q' k m q) → dv_P Q i K j → dv_P Q' i K j := by
  intro K
  induction K with
  | zero => intro j _ h; exact h
  | succ K ih =>
    intro j H h
    obtain ⟨m, h1, h2⟩ := h
    exact ⟨m, ih m (fun k m q hk => H k m q (by omega)) h1, H K m j (by omega) h2⟩
theorem dv_St_mono {S S' T T' : Nat → Nat → Nat → Prop} {s i j : Nat} (hS : s < 12 → S s i j → S' s i j) (hT : 12 ≤ s → T (s - 12) i j → T' (s - 12) i j) (h : dv_St S T s i j) : dv_St S' T' s i j := by
  rcases h with ⟨a, b⟩ | ⟨a, b⟩
  · exact Or.inl ⟨a, hS a b⟩
  · exact Or.inr ⟨a, hT a b⟩
/-- steps never go back: so a path never does -/
theorem dv_P_le {Q : Nat → Nat → Nat → Prop} {i : Nat} (hQ : ∀ k m q, Q k m q → m ≤ q) : ∀ (K j : Nat), dv_P Q i K j → i ≤ j := by
  intro K
  induction K with
  | zero => intro j h; exact Nat.le_of_eq h
  | succ K ih =>
    intro j h
    obtain ⟨m, h1, h2⟩ := h
    exact Nat.le_trans (ih m h1) (hQ K m j h2)
theorem dv_P_in {Q : Nat → Nat → Nat → Prop} {i e : Nat} (hQ : ∀ k m q, Q k m q → m ≤ q) : ∀ (K j : Nat), dv_P Q i K j → j ≤ e → dv_P (fun k m q => Q k m q ∧ i ≤ m ∧ m ≤ q ∧ q ≤ e) i K j := by
  intro K
  induction K with
  | zero => intro j h _; exact h
  | succ K ih =>
    intro j h hj
    obtain ⟨m, h1, h2⟩ := h
    have hm := hQ K m j h2
    exact ⟨m, ih m h1 (by omega), h2, dv_P_le hQ K m h1, hm, hj⟩
theorem dv_P_ea {Q : Nat → Nat → Nat → Prop} {i : Nat} : ∀ (K j : Nat), dv_P Q i K j → ∀ k, k < K → ∃ m q, Q k m q := by
  intro K
  induction K with
  | zero => intro j _ k hk; omega
  | succ K ih =>
    intro j h k hk
    obtain ⟨m, h1, h2⟩ := h
    rcases Nat.lt_or_ge k K with z | z
    · exact ih m h1 k z
    · have e : k = K := by omega
      subst e
      exact ⟨m, j, h2⟩
theorem dv_P_fst {Q : Nat → Nat → Nat → Prop} {i L : Nat} (hQ : ∀ k m q, Q k m q → m ≤ q) : ∀ K : Nat, dv_P Q i K L → (K = 0 ∧ i = L) ∨ ∃ k p, k < K ∧ dv_P Q i k p ∧ Q k p L ∧ (p < L ∨ k = 0) := by
  intro K
  induction K with
  | zero => intro h; exact Or.inl ⟨rfl, h⟩
  | succ K ih =>
    intro h
    obtain ⟨m, h1, h2⟩ := h
    have hm := hQ K m L h2
    rcases Nat.lt_or_ge m L with z | z
    · exact Or.inr ⟨K, m, by omega, h1, h2, Or.inl z⟩
    · have e : m = L := by omega
      subst e
      rcases ih h1 with ⟨e0, ei⟩ | ⟨k, p, hk, a, b, c⟩
      · subst e0
        exact Or.inr ⟨0, m, by omega, h1, h2, Or.inr rfl⟩
      · exact Or.inr ⟨k, p, by omega, a, b, c⟩
theorem dv_P_stay {Q : Nat → Nat → Nat → Prop} {i L k : Nat} (h : dv_P Q i k L) : ∀ K, k ≤ K → (∀ k', k ≤ k' → k' < K → Q k' L L) → dv_P Q i K L := by
  intro K
  induction K with
  | zero =>
    intro hk _
    have e : k = 0 := by omega
    subst e
    exact h
  | succ K ih =>
    intro hk H
    rcases Nat.lt_or_ge K k with z | z
    · have e : k = K + 1 := by omega
      subst e
      exact h
    · exact ⟨L, ih z (fun k' a b => H k' a (by omega)), H K z (by omega)⟩
theorem dv_P_up {Q Q' : Nat → Nat → Nat → Prop} {i L : Nat} (H : ∀ k m q, m ≤ L → Q k m q → Q' k m q ∧ q ≤ L) (hi : i ≤ L) : ∀ (K j : Nat), dv_P Q i K j → dv_P Q' i K j ∧ j ≤ L := by
  intro K
  induction K with
  | zero => intro j h; exact ⟨h, h ▸ hi⟩
  | succ K ih =>
    intro j h
    obtain ⟨m, h1, h2⟩ := h
    obtain ⟨a, b⟩ := ih m h1
    obtain ⟨c, d⟩ := H K m j b h2
    exact ⟨⟨m, a, c⟩, d⟩
section dvs
variable {n : Nat} {lh ln : Nat → Nat} {sy : Nat → Nat → Nat}
theorem dv_cl {T : Nat → Nat → Nat → Prop} : dv_Cl n lh ln sy T (dv_D n lh ln sy T) := by
  intro r i j hr h S hS
  exact hS r i j hr (dv_P_mono _ _ (fun k m q _ => dv_St_mono (fun _ d => d S hS) (fun _ t => t)) h)
theorem dv_tm {T T' : Nat → Nat → Nat → Prop} (hT : ∀ t i j, T t i j → T' t i j) {a i j : Nat} (d : dv_D n lh ln sy T a i j) : dv_D n lh ln sy T' a i j :=
  d (dv_D n lh ln sy T') (fun r i j hr h => dv_cl r i j hr (dv_P_mono _ _ (fun k m q _ => dv_St_mono (fun _ x => x) (fun _ t => hT _ _ _ t)) h))
theorem dv_St_le {S T : Nat → Nat → Nat → Prop} (hS : ∀ a i j, S a i j → i ≤ j) (hT : ∀ t i j, T t i j → i ≤ j) {s i j : Nat} (h : dv_St S T s i j) : i ≤ j := by
  rcases h with ⟨_, b⟩ | ⟨_, b⟩
  · exact hS _ _ _ b
  · exact hT _ _ _ b
theorem dv_D_le {T : Nat → Nat → Nat → Prop} (hT : ∀ t i j, T t i j → i ≤ j) {a i j : Nat} (d : dv_D n lh ln sy T a i j) : i ≤ j :=
  d (fun _ i j => i ≤ j) (fun r i j _ h => dv_P_le (fun k m q s => dv_St_le (fun _ _ _ x => x) hT s) _ _ h)
theorem dv_P_bd {Q : Nat → Nat → Nat → Prop} {i L : Nat} (hQ : ∀ k m q, Q k m q → m ≤ L → q ≤ L) (hi : i ≤ L) : ∀ (K j : Nat), dv_P Q i K j → j ≤ L := by
  intro K
  induction K with
  | zero => intro j h; exact h ▸ hi
  | succ K ih =>
    intro j h
    obtain ⟨m, h1, h2⟩ := h
    exact hQ K m j h2 (ih m h1)
theorem dv_D_bd {T : Nat → Nat → Nat → Prop} {L : Nat} (hT : ∀ t i j, T t i j → j ≤ L) {a i j : Nat} (d : dv_D n lh ln sy T a i j) : i ≤ L → j ≤ L := by
  refine d (fun _ i j => i ≤ L → j ≤ L) (fun r i j _ h hi => dv_P_bd (fun k m q s hm => ?_) hi _ _ h)
  rcases s with ⟨_, b⟩ | ⟨_, b⟩
  · exact b hm
  · exact hT _ _ _ b
/-- the steps of a terminal over the text tx of length L; o: the text's end is open -/
def tm_s (o : Bool) (tx : Nat → Nat) (L t i j : Nat) : Prop := (i < L ∧ j = i + 1 ∧ tx i = t) ∨ (o = true ∧ i = L ∧ j = L)
theorem tm_le {o : Bool} {tx : Nat → Nat} {L : Nat} : ∀ t i j, tm_s o tx L t i j → i ≤ j := by
  intro t i j h
  rcases h with ⟨a, b, _⟩ | ⟨_, a, b⟩ <;> omega
theorem tm_bd {o : Bool} {tx : Nat → Nat} {L : Nat} : ∀ t i j, tm_s o tx L t i j → j ≤ L := by
  intro t i j h
  rcases h with ⟨a, b, _⟩ | ⟨_, a, b⟩ <;> omega
theorem tm_co {tx : Nat → Nat} {L : Nat} : ∀ t i j, tm_s false tx L t i j → tm_s true tx L t i j := by
  intro t i j h
  rcases h with h | ⟨a, _⟩
  · exact Or.inl h
  · exact absurd a (by decide)
/-- nonterminals that derive some string -/
def pd_D (n : Nat) (lh ln : Nat → Nat) (sy : Nat → Nat → Nat) (a : Nat) : Prop :=
  ∀ S : Nat → Prop, (∀ r, r < n → (∀ k, k < ln r → sy r k < 12 → S (sy r k)) → S (lh r)) → S a
theorem pd_cl {r : Nat} (hr : r < n) (h : ∀ k, k < ln r → sy r k < 12 → pd_D n lh ln sy (sy r k)) : pd_D n lh ln sy (lh r) :=
  fun S hS => hS r hr (fun k hk hs => h k hk hs S hS)
theorem pd_of {T : Nat → Nat → Nat → Prop} {a i j : Nat} (d : dv_D n lh ln sy T a i j) : pd_D n lh ln sy a := by
  refine d (fun a _ _ => pd_D n lh ln sy a) (fun r i j hr h => pd_cl hr (fun k hk hs => ?_))
  obtain ⟨m, q, s⟩ := dv_P_ea _ _ h k hk
  rcases s with ⟨_, b⟩ | ⟨b, _⟩
  · exact b
  · omega
theorem pd_dv {tx : Nat → Nat} {L a : Nat} (d : pd_D n lh ln sy a) : dv_D n lh ln sy (tm_s true tx L) a L L := by
  refine d (fun a => dv_D n lh ln sy (tm_s true tx L) a L L) (fun r hr h => dv_cl r L L hr ?_)
  refine dv_P_stay (k := 0) (rfl : L = L) (ln r) (Nat.zero_le _) (fun k _ hk => ?_)
  rcases Nat.lt_or_ge (sy r k) 12 with z | z
  · exact Or.inl ⟨z, h k hk z⟩
  · exact Or.inr ⟨z, Or.inr ⟨rfl, rfl, rfl⟩⟩
/-- a symbol that may begin at p and go beyond the text's end; a rule that may -/
def pf_S (tx : Nat → Nat) (L : Nat) (P : Nat → Nat → Prop) (s p : Nat) : Prop := (12 ≤ s ∧ (p = L ∨ (p + 1 = L ∧ tx p = s - 12))) ∨ (s < 12 ∧ P s p)
def pf_R (n : Nat) (lh ln : Nat → Nat) (sy : Nat → Nat → Nat) (tx : Nat → Nat) (L : Nat) (P : Nat → Nat → Prop) (r i : Nat) : Prop :=
  dv_P (fun k => dv_St (dv_D n lh ln sy (tm_s false tx L)) (tm_s false tx L) (sy r k)) i (ln r) L ∨
  ∃ k p, k < ln r ∧ dv_P (fun k => dv_St (dv_D n lh ln sy (tm_s false tx L)) (tm_s false tx L) (sy r k)) i k p ∧ p ≤ L ∧ pf_S tx L P (sy r k) p ∧ ∀ k', k < k' → k' < ln r → sy r k' < 12 → pd_D n lh ln sy (sy r k')
theorem pf_so {tx : Nat → Nat} {L : Nat} {P : Nat → Nat → Prop} {r i : Nat} (hr : r < n) (hP : ∀ a p, a < 12 → p ≤ L → P a p → dv_D n lh ln sy (tm_s true tx L) a p L) (h : pf_R n lh ln sy tx L P r i) : dv_D n lh ln sy (tm_s true tx L) (lh r) i L := by
  have up : ∀ {K p : Nat}, dv_P (fun k => dv_St (dv_D n lh ln sy (tm_s false tx L)) (tm_s false tx L) (sy r k)) i K p → dv_P (fun k => dv_St (dv_D n lh ln sy (tm_s true tx L)) (tm_s true tx L) (sy r k)) i K p :=
    fun h => dv_P_mono _ _ (fun k m q _ => dv_St_mono (fun _ x => dv_tm tm_co x) (fun _ t => tm_co _ _ _ t)) h
  refine dv_cl r i L hr ?_
  rcases h with h | ⟨k, p, hk, h, hp, hs, ha⟩
  · exact up h
  · refine dv_P_stay (k := k + 1) ⟨p, up h, ?_⟩ (ln r) hk (fun k' h1 h2 => ?_)
    · rcases hs with ⟨z, e⟩ | ⟨z, e⟩
      · rcases e with e | ⟨e1, e2⟩
        · exact Or.inr ⟨z, Or.inr ⟨rfl, e, rfl⟩⟩
        · exact Or.inr ⟨z, Or.inl ⟨by omega, by omega, e2⟩⟩
      · exact Or.inl ⟨z, hP _ _ z hp e⟩
    · rcases Nat.lt_or_ge (sy r k') 12 with z | z
      · exact Or.inl ⟨z, pd_dv (ha k' (by omega) h2 z)⟩
      · exact Or.inr ⟨z, Or.inr ⟨rfl, rfl, rfl⟩⟩
theorem pf_co {tx : Nat → Nat} {L : Nat} {P : Nat → Nat → Prop} (hP : ∀ r i, r < n → i ≤ L → pf_R n lh ln sy tx L P r i → P (lh r) i) {a i : Nat} (d : dv_D n lh ln sy (tm_s true tx L) a i L) (hi : i ≤ L) : P a i := by
  have key : ∀ a i j, dv_D n lh ln sy (tm_s true tx L) a i j → i ≤ j ∧ pd_D n lh ln sy a ∧ (j < L → dv_D n lh ln sy (tm_s false tx L) a i j) ∧ (j = L → i ≤ L → P a i) := by
    intro a i j d
    refine d (fun a i j => i ≤ j ∧ pd_D n lh ln sy a ∧ (j < L → dv_D n lh ln sy (tm_s false tx L) a i j) ∧ (j = L → i ≤ L → P a i)) ?_
    intro r i j hr h
    have mo : ∀ k m q, dv_St (fun a i j => i ≤ j ∧ pd_D n lh ln sy a ∧ (j < L → dv_D n lh ln sy (tm_s false tx L) a i j) ∧ (j = L → i ≤ L → P a i)) (tm_s true tx L) (sy r k) m q → m ≤ q :=
      fun k m q s => dv_St_le (fun _ _ _ x => x.1) tm_le s
    have pr : ∀ k, k < ln r → sy r k < 12 → pd_D n lh ln sy (sy r k) := by
      intro k hk hs
      obtain ⟨m, q, s⟩ := dv_P_ea _ _ h k hk
      rcases s with ⟨_, b⟩ | ⟨b, _⟩
      · exact b.2.1
      · omega
    have cl : ∀ K p, p < L → dv_P (fun k => dv_St (fun a i j => i ≤ j ∧ pd_D n lh ln sy a ∧ (j < L → dv_D n lh ln sy (tm_s false tx L) a i j) ∧ (j = L → i ≤ L → P a i)) (tm_s true tx L) (sy r k)) i K p → dv_P (fun k => dv_St (dv_D n lh ln sy (tm_s false tx L)) (tm_s false tx L) (sy r k)) i K p := by
      intro K p hp h
      refine dv_P_mono _ _ (fun k m q _ s => ?_) (dv_P_in mo K p h (Nat.le_refl p))
      obtain ⟨s, _, _, hq⟩ := s
      refine dv_St_mono (fun _ x => x.2.2.1 (by omega)) (fun _ t => ?_) s
      rcases t with t | ⟨_, t, _⟩
      · exact Or.inl t
      · have := mo k m q s
        omega
    refine ⟨dv_P_le mo _ _ h, pd_cl hr pr, fun hj => dv_cl r i j hr (cl _ _ hj h), fun hj hi => hP r i hr hi ?_⟩
    rw [hj] at h
    rcases dv_P_fst mo (ln r) h with ⟨e0, ei⟩ | ⟨k, p, hk, a1, a2, a3⟩
    · refine Or.inl ?_
      rw [e0]
      exact ei
    · have hpj : p ≤ L := mo k p L a2
      refine Or.inr ⟨k, p, hk, ?_, hpj, ?_, fun k' _ h2 h3 => pr k' h2 h3⟩
      · rcases a3 with z | z
        · exact cl k p z a1
        · subst z
          exact a1
      · rcases a2 with ⟨z, b⟩ | ⟨z, b⟩
        · exact Or.inr ⟨z, b.2.2.2 rfl hpj⟩
        · refine Or.inl ⟨z, ?_⟩
          rcases b with ⟨_, b1, b2⟩ | ⟨_, b1, _⟩
          · exact Or.inr ⟨b1.symm, b2⟩
          · exact Or.inl b1
  exact (key a i L d).2.2.2 rfl hi
end dvs
end
section
/-! bits and counting: rows of the kit's pages (BITS; counting of the example large-2), and of mine -/
def bt (x : Int32) (i : Nat) : Bool := x.toBitVec.getLsbD i
theorem b_ext {x y : Int32} (h : ∀ i, i < 32 → bt x i = bt y i) : x = y := Int32.toBitVec_inj.mp (BitVec.eq_of_getLsbD_eq (fun i hi => h i hi))
theorem b_or (x y : Int32) (i : Nat) : bt (x ||| y) i = (bt x i || bt y i) := by unfold bt; rw [Int32.toBitVec_or, BitVec.getLsbD_or]
theorem b_and (x y : Int32) (i : Nat) : bt (x &&& y) i = (bt x i && bt y i) := by unfold bt; rw [Int32.toBitVec_and, BitVec.getLsbD_and]
theorem b_xor (x y : Int32) (i : Nat) : bt (x ^^^ y) i = (bt x i ^^ bt y i) := by unfold bt; rw [Int32.toBitVec_xor, BitVec.getLsbD_xor]
theorem b_big {x : Int32} {i : Nat} (h : 32 ≤ i) : bt x i = false := BitVec.getLsbD_of_ge _ _ h
theorem b_m1 : ∀ i, i < 32 → bt (-1) i = true := by decide +kernel
theorem b_0 (i : Nat) : bt 0 i = false := BitVec.getLsbD_zero
theorem s_l : ∀ n, n < 32 → ((nI n &&& 31).toBitVec.smod 32).toNat = n := by decide +kernel
theorem b_shl (n : Nat) (hn : n < 32) (x : Int32) {i : Nat} (hi : i < 32) : bt (x <<< (nI n &&& 31)) i = (decide (n ≤ i) && bt x (i - n)) := by
  unfold bt
  rw [Int32.toBitVec_shiftLeft]
  show (x.toBitVec <<< ((nI n &&& 31).toBitVec.smod 32).toNat).getLsbD i = _
  rw [s_l n hn, BitVec.getLsbD_shiftLeft]
  rcases Nat.lt_or_ge i n with h | h
  · simp [h, Nat.not_le.mpr h]
  · simp [hi, h, Nat.not_lt.mpr h]
theorem b_sshr (n : Nat) (hn : n < 32) (x : Int32) {i : Nat} (hi : i < 32) : bt (x >>> (nI n &&& 31)) i = if n + i < 32 then bt x (n + i) else bt x 31 := by
  unfold bt
  rw [Int32.toBitVec_shiftRight]
  show (x.toBitVec.sshiftRight ((nI n &&& 31).toBitVec.smod 32).toNat).getLsbD i = _
  rw [s_l n hn, BitVec.getLsbD_sshiftRight, BitVec.msb_eq_getLsbD_last]
  simp [hi]
noncomputable def b01 (P : Prop) : Nat := @ite Nat P (Classical.propDecidable P) 1 0
theorem b01_t {P : Prop} (h : P) : b01 P = 1 := by unfold b01; rw [if_pos h]
theorem b01_f {P : Prop} (h : ¬ P) : b01 P = 0 := by unfold b01; rw [if_neg h]
theorem b01_le (P : Prop) : b01 P ≤ 1 := by
  rcases Classical.em P with h | h
  · rw [b01_t h]; omega
  · rw [b01_f h]; omega
theorem b01_mono {P Q : Prop} (h : P → Q) : b01 P ≤ b01 Q := by
  rcases Classical.em P with hp | hp
  · rw [b01_t hp, b01_t (h hp)]; omega
  · rw [b01_f hp]; omega
noncomputable def cn (P : Nat → Prop) : Nat → Nat
  | 0 => 0
  | k + 1 => cn P k + b01 (P k)
theorem cn_mono {P Q : Nat → Prop} : ∀ {N : Nat}, (∀ k, k < N → P k → Q k) → cn P N ≤ cn Q N
  | 0, _ => Nat.le_refl _
  | N + 1, h => by
    have a := cn_mono (P := P) (Q := Q) (N := N) (fun k hk => h k (by omega))
    have b := b01_mono (h N (by omega))
    simp only [cn]; omega
theorem cn_lt {P Q : Nat → Prop} {a : Nat} (hp : ¬ P a) (hq : Q a) : ∀ {N : Nat}, (∀ k, k < N → P k → Q k) → a < N → cn P N < cn Q N
  | 0, _, h => by omega
  | N + 1, h, ha => by
    simp only [cn]
    rcases Nat.lt_or_ge a N with z | z
    · have x := cn_lt hp hq (N := N) (fun k hk => h k (by omega)) z
      have b := b01_mono (h N (by omega))
      omega
    · have e : a = N := by omega
      subst e
      have x := cn_mono (P := P) (Q := Q) (N := a) (fun k hk => h k (by omega))
      rw [b01_t hq, b01_f hp]; omega
theorem cn_le (P : Nat → Prop) : ∀ N, cn P N ≤ N
  | 0 => Nat.le_refl _
  | N + 1 => by have := cn_le P N; have := b01_le (P N); simp only [cn]; omega
theorem cn_eq {P Q : Nat → Prop} {N : Nat} (h : ∀ k, k < N → (P k ↔ Q k)) : cn P N = cn Q N :=
  Nat.le_antisymm (cn_mono fun k hk => (h k hk).mp) (cn_mono fun k hk => (h k hk).mpr)
theorem cn_add {P : Nat → Prop} {a : Nat} (hp : ¬ P a) : ∀ {N : Nat}, a < N → cn (fun k => P k ∨ k = a) N = cn P N + 1
  | 0, h => by omega
  | N + 1, h => by
    simp only [cn]
    rcases Nat.lt_or_ge a N with z | z
    · rw [cn_add hp z]
      have : b01 (P N ∨ N = a) = b01 (P N) := Nat.le_antisymm (b01_mono fun q => q.elim id (fun e => by omega)) (b01_mono Or.inl)
      omega
    · have e : a = N := by omega
      subst e
      rw [cn_eq (P := fun k => P k ∨ k = a) (Q := P) (fun k hk => ⟨fun q => q.elim id (fun e => by omega), Or.inl⟩), b01_t (Or.inr rfl), b01_f hp]
theorem xb_o : ∀ n, n < 32 → ∀ j, j < 32 → bt ((1 : Int32) <<< (nI n &&& 31)) j = decide (n = j) := by decide +kernel
theorem xb_1i : ∀ i, i < 32 → bt 1 i = decide (i = 0) := by decide +kernel
theorem xb_1 (y : Int32) : (y &&& 1) = 1 ↔ bt y 0 = true := by
  constructor
  · intro h
    have e := congrArg (fun z => bt z 0) h
    rw [b_and, xb_1i 0 (by decide)] at e
    simpa using e
  · intro h
    refine b_ext fun i hi => ?_
    rw [b_and, xb_1i i hi]
    by_cases z : i = 0
    · subst z; simp [h]
    · simp [z]
theorem xb_t {i : Nat} (hi : i < 32) (x : Int32) : ((x >>> (nI i &&& 31)) &&& 1) = 1 ↔ bt x i = true := by
  rw [xb_1, b_sshr i hi x (by decide : (0 : Nat) < 32), Nat.add_zero, if_pos hi]
theorem xb_le {x y : Int32} : (x &&& (y ^^^ (-1))) = 0 ↔ ∀ j, j < 32 → bt x j = true → bt y j = true := by
  constructor
  · intro h j hj hx
    have e := congrArg (fun z => bt z j) h
    rw [b_and, b_xor, b_m1 j hj, b_0, hx] at e
    cases hy : bt y j
    · rw [hy] at e; exact absurd e (by decide)
    · rfl
  · intro h
    refine b_ext fun j hj => ?_
    rw [b_and, b_xor, b_m1 j hj, b_0]
    cases hx : bt x j
    · rfl
    · rw [h j hj hx]; rfl
theorem xb_lt {x : Int32} {j : Nat} (h : bt x j = true) : j < 32 := by
  rcases Nat.lt_or_ge j 32 with z | z
  · exact z
  · rw [b_big z] at h; exact absurd h (by decide)
theorem xb_or {x y : Int32} {j : Nat} : bt (x ||| y) j = true ↔ bt x j = true ∨ bt y j = true := by rw [b_or, Bool.or_eq_true]
theorem xb_os {x : Int32} {n j : Nat} (hn : n < 32) (hj : j < 32) : bt (x ||| ((1 : Int32) <<< (nI n &&& 31))) j = true ↔ bt x j = true ∨ n = j := by
  rw [b_or, xb_o n hn j hj, Bool.or_eq_true, decide_eq_true_eq]
end
section
/-! X: one symbol, one rule -/
section xps
variable {xN xT xB xR xS xE xL xA xG xC xF : Int32} {aL aN aS aR aM aK aT aE : Nat → Int32}
theorem xp_ix (a i : Nat) : nI a * 14 + nI i = nI (a * 14 + i) := by
  rw [show (14 : Int32) = nI 14 from rfl, pk_mul, nI_add]
theorem xp_ix5 (r k : Nat) : nI r * 5 + nI k = nI (r * 5 + k) := by
  rw [show (5 : Int32) = nI 5 from rfl, pk_mul, nI_add]
theorem xp_t (post : Int32 → Prop) {tx : Nat → Nat} {L t : Nat} (x1 : Int32) (hL : L ≤ 13) (ht : t < 4) (htx : ∀ i, i < L → aT i = nI (tx i) ∧ tx i < 4) :
    ∀ d i acc, i + d = L → (∀ r, (∀ j, j < 32 → (bt r j = true ↔ bt acc j = true ∨ ∃ m, i ≤ m ∧ m < L ∧ bt x1 m = true ∧ tx m = t ∧ j = m + 1)) → post r) → wX_passTerminal_19 post x1 (nI t) (nI L) xN xT xB xR xS xE xL xA xG xC xF aL aN aS aR aM aK aT aE (d + 1) acc (nI i) := by
  intro d
  induction d with
  | zero =>
    intro i acc hi H
    refine br_t (nI_le (by omega) (by omega)) (H acc fun j hj => ⟨Or.inl, fun h => h.elim id fun ⟨m, h1, h2, _⟩ => ?_⟩)
    omega
  | succ d ih =>
    intro i acc hi H
    have hx := (htx i (by omega)).1
    have hx4 := (htx i (by omega)).2
    have skip : (bt x1 i = true → tx i ≠ t) → wX_passTerminal_19 post x1 (nI t) (nI L) xN xT xB xR xS xE xL xA xG xC xF aL aN aS aR aM aK aT aE (d + 1) acc (nI (i + 1)) := by
      intro hn
      refine ih (i + 1) acc (by omega) fun r hr => H r fun j hj => Iff.trans (hr j hj) ?_
      constructor
      · rintro (h | ⟨m, h1, h2, h3⟩)
        · exact Or.inl h
        · exact Or.inr ⟨m, by omega, h2, h3⟩
      · rintro (h | ⟨m, h1, h2, h3, h4, h5⟩)
        · exact Or.inl h
        · rcases Nat.lt_or_ge i m with z | z
          · exact Or.inr ⟨m, z, h2, h3, h4, h5⟩
          · have e : m = i := by omega
            subst e
            exact absurd h4 (hn h3)
    refine br_f (nI_ge (by omega) (by omega)) (br_c (fun hb => ⟨vp_in_nI (by omega) (by decide), ?_⟩) (fun hb => ?_))
    · have hb' : bt x1 i = true := (xb_t (by omega) x1).mp hb
      refine pk_eq (tx i) t (fun e => ?_) (fun e => ?_) (by rw [nI_clamp (by omega)]; exact hx) rfl (by omega) (by omega)
      · refine nm_r (by rw [nI_1]) (nm_r (nI_1 i) ?_)
        refine ih (i + 1) _ (by omega) fun r hr => H r fun j hj => Iff.trans (hr j hj) ?_
        rw [xb_os (by omega) hj]
        constructor
        · rintro ((h | h) | ⟨m, h1, h2, h3⟩)
          · exact Or.inl h
          · exact Or.inr ⟨i, Nat.le_refl i, by omega, hb', e, h.symm⟩
          · exact Or.inr ⟨m, by omega, h2, h3⟩
        · rintro (h | ⟨m, h1, h2, h3, h4, h5⟩)
          · exact Or.inl (Or.inl h)
          · rcases Nat.lt_or_ge i m with z | z
            · exact Or.inr ⟨m, z, h2, h3, h4, h5⟩
            · exact Or.inl (Or.inr (by omega))
      · exact nm_r (nI_1 i) (skip fun _ => e)
    · have hb' : ¬ bt x1 i = true := fun z => hb ((xb_t (by omega) x1).mpr z)
      exact nm_r (nI_1 i) (skip fun z => absurd z hb')
theorem xp_T (post : Int32 → Prop) {tx : Nat → Nat} {L t : Nat} (o : Bool) (x1 : Int32) (hL : L ≤ 13) (ht : t < 4) (htx : ∀ i, i < L → aT i = nI (tx i) ∧ tx i < 4)
    (H : ∀ r, (∀ j, j < 32 → (bt r j = true ↔ ∃ i, bt x1 i = true ∧ tm_s o tx L t i j)) → post r) : wpX_passTerminal post (xN, xT, xB, xR, xS, xE, xL, xA, xG, xC, xF, aL, aN, aS, aR, aM, aK, aT, aE) x1 (nI t) (nI L) (cond o 1 0) := by
  cases o with
  | false =>
    refine br_t rfl ⟨L + 1, xp_t post x1 hL ht htx L 0 0 (by omega) fun r hr => H r fun j hj => Iff.trans (hr j hj) ?_⟩
    rw [b_0]
    constructor
    · rintro (h | ⟨m, h1, h2, h3, h4, h5⟩)
      · exact absurd h (by decide)
      · exact ⟨m, h3, Or.inl ⟨h2, h5, h4⟩⟩
    · rintro ⟨m, h3, (⟨h2, h5, h4⟩ | ⟨h, _⟩)⟩
      · exact Or.inr ⟨m, Nat.zero_le m, h2, h3, h4, h5⟩
      · exact absurd h (by decide)
  | true =>
    refine br_f (by decide) (nm_e ⟨L + 1, xp_t post x1 hL ht htx L 0 _ (by omega) fun r hr => H r fun j hj => Iff.trans (hr j hj) ?_⟩)
    rw [b_and, xb_o L (by omega) j hj, Bool.and_eq_true, decide_eq_true_eq]
    constructor
    · rintro (⟨h, e⟩ | ⟨m, h1, h2, h3, h4, h5⟩)
      · exact ⟨j, h, Or.inr ⟨rfl, e.symm, e.symm⟩⟩
      · exact ⟨m, h3, Or.inl ⟨h2, h5, h4⟩⟩
    · rintro ⟨m, h3, (⟨h2, h5, h4⟩ | ⟨_, h, h'⟩)⟩
      · exact Or.inr ⟨m, Nat.zero_le m, h2, h3, h4, h5⟩
      · exact Or.inl ⟨by rw [h', ← h]; exact h3, h'.symm⟩
theorem xp_n (post : Int32 → Prop) {L a : Nat} (x1 : Int32) (hL : L ≤ 13) (ha : a < 12) :
    ∀ d i acc, i + d = L + 1 → (∀ r, (∀ j, (bt r j = true ↔ bt acc j = true ∨ ∃ m, i ≤ m ∧ m ≤ L ∧ bt x1 m = true ∧ bt (aE (a * 14 + m)) j = true)) → post r) → wX_passNonterminal_6 post x1 (nI a) (nI L) xN xT xB xR xS xE xL xA xG xC xF aL aN aS aR aM aK aT aE (d + 1) acc (nI i) := by
  intro d
  induction d with
  | zero =>
    intro i acc hi H
    refine br_t (nI_lt (by omega) (by omega)) (H acc fun j => ⟨Or.inl, fun h => h.elim id fun ⟨m, h1, h2, _⟩ => ?_⟩)
    omega
  | succ d ih =>
    intro i acc hi H
    refine br_f (nI_nlt (by omega) (by omega)) (br_c (fun hb => ?_) (fun hb => ?_))
    · have hb' : bt x1 i = true := (xb_t (by omega) x1).mp hb
      refine ⟨pk_in (a * 14 + i) 168 (by omega) (xp_ix a i), nm_r (by rw [xp_ix, nI_clamp (by omega)]) (nm_r (nI_1 i) ?_)⟩
      refine ih (i + 1) _ (by omega) fun r hr => H r fun j => Iff.trans (hr j) ?_
      rw [xb_or]
      constructor
      · rintro ((h | h) | ⟨m, h1, h2, h3⟩)
        · exact Or.inl h
        · exact Or.inr ⟨i, Nat.le_refl i, by omega, hb', h⟩
        · exact Or.inr ⟨m, by omega, h2, h3⟩
      · rintro (h | ⟨m, h1, h2, h3, h4⟩)
        · exact Or.inl (Or.inl h)
        · rcases Nat.lt_or_ge i m with z | z
          · exact Or.inr ⟨m, z, h2, h3, h4⟩
          · have e : m = i := by omega
            subst e
            exact Or.inl (Or.inr h4)
    · have hb' : ¬ bt x1 i = true := fun z => hb ((xb_t (by omega) x1).mpr z)
      refine nm_r (nI_1 i) (ih (i + 1) acc (by omega) fun r hr => H r fun j => Iff.trans (hr j) ?_)
      constructor
      · rintro (h | ⟨m, h1, h2, h3⟩)
        · exact Or.inl h
        · exact Or.inr ⟨m, by omega, h2, h3⟩
      · rintro (h | ⟨m, h1, h2, h3, h4⟩)
        · exact Or.inl h
        · rcases Nat.lt_or_ge i m with z | z
          · exact Or.inr ⟨m, z, h2, h3, h4⟩
          · have e : m = i := by omega
            subst e
            exact absurd h3 hb'
theorem xp_N (post : Int32 → Prop) {L a : Nat} (x1 : Int32) (hL : L ≤ 13) (ha : a < 12)
    (H : ∀ r, (∀ j, (bt r j = true ↔ ∃ m, m ≤ L ∧ bt x1 m = true ∧ bt (aE (a * 14 + m)) j = true)) → post r) : wpX_passNonterminal post (xN, xT, xB, xR, xS, xE, xL, xA, xG, xC, xF, aL, aN, aS, aR, aM, aK, aT, aE) x1 (nI a) (nI L) := by
  refine ⟨L + 1 + 1, xp_n post x1 hL ha (L + 1) 0 0 (by omega) fun r hr => H r fun j => Iff.trans (hr j) ?_⟩
  rw [b_0]
  constructor
  · rintro (h | ⟨m, h1, h2, h3, h4⟩)
    · exact absurd h (by decide)
    · exact ⟨m, h2, h3, h4⟩
  · rintro ⟨m, h2, h3, h4⟩
    exact Or.inr ⟨m, Nat.zero_le m, h2, h3, h4⟩
/-- X's table from row lo on represents a grammar of n rules -/
def gx_R (lo n : Nat) (aL aN aS : Nat → Int32) (lh ln : Nat → Nat) (sy : Nat → Nat → Nat) : Prop :=
  lo + n ≤ 34 ∧ ∀ r, r < n → aL (lo + r) = nI (lh r) ∧ lh r < 12 ∧ aN (lo + r) = nI (ln r) ∧ ln r ≤ 5 ∧ ∀ k, k < ln r → aS ((lo + r) * 5 + k) = nI (sy r k) ∧ sy r k < 16
/-- the ends as X keeps them -/
def ex_E (L : Nat) (e : Nat → Int32) (a i j : Nat) : Prop := a < 12 ∧ i ≤ L ∧ bt (e (a * 14 + i)) j = true
theorem xe_8 (post : Int32 → Prop) {lo n L st r : Nat} {tx lh ln : Nat → Nat} {sy : Nat → Nat → Nat} (o : Bool) (hL : L ≤ 13) (hg : gx_R lo n aL aN aS lh ln sy) (hr : r < n) (htx : ∀ i, i < L → aT i = nI (tx i) ∧ tx i < 4)
    (H : ∀ res, (∀ j, j < 32 → (bt res j = true ↔ dv_P (fun k => dv_St (ex_E L aE) (tm_s o tx L) (sy r k)) st (ln r) j)) → post res) :
    ∀ d k x5, k + d = ln r → (∀ j, j < 32 → (bt x5 j = true ↔ dv_P (fun k => dv_St (ex_E L aE) (tm_s o tx L) (sy r k)) st k j)) → wX_endsOfRule_8 post (nI (lo + r)) (nI L) (cond o 1 0) xN xT xB xR xS xE xL xA xG xC xF aL aN aS aR aM aK aT aE (d + 1) x5 (nI k) := by
  obtain ⟨hn, hg⟩ := hg
  obtain ⟨_, _, hN, hl, hS⟩ := hg r hr
  have eN : aN (nI (lo + r)).toNatClampNeg = nI (ln r) := by rw [nI_clamp (by omega)]; exact hN
  intro d
  induction d with
  | zero =>
    intro k x5 hk hx
    have e : k = ln r := by omega
    subst e
    refine ⟨vp_in_nI (by omega) (by decide), br_t (by rw [eN]; exact nI_le (Nat.le_refl _) (by omega)) (H x5 hx)⟩
  | succ d ih =>
    intro k x5 hk hx
    have hs := hS k (by omega)
    refine ⟨vp_in_nI (by omega) (by decide), br_f (by rw [eN]; exact nI_ge (by omega) (by omega)) ⟨pk_in ((lo + r) * 5 + k) 170 (by omega) (xp_ix5 _ _), nm_r (e' := nI (sy r k)) (by rw [xp_ix5, nI_clamp (by omega)]; exact hs.1) ?_⟩⟩
    refine pk_lt (sy r k) 12 (fun z => ?_) (fun z => ?_) rfl rfl (by omega) (by decide)
    · refine xp_N _ x5 hL z fun q hq => nm_r (nI_1 k) (ih (k + 1) q (by omega) fun j hj => Iff.trans (hq j) ?_)
      constructor
      · rintro ⟨m, h1, h2, h3⟩
        exact ⟨m, (hx m (by omega)).mp h2, Or.inl ⟨z, z, h1, h3⟩⟩
      · rintro ⟨m, h1, (⟨_, _, h2, h3⟩ | ⟨h, _⟩)⟩
        · exact ⟨m, h2, (hx m (by omega)).mpr h1, h3⟩
        · omega
    · have e : nI (sy r k) - 12 = nI (sy r k - 12) := by rw [show (12 : Int32) = nI 12 from rfl, pk_sub z]
      rw [e]
      refine xp_T _ o x5 hL (by omega) htx fun q hq => nm_r (nI_1 k) (ih (k + 1) q (by omega) fun j hj => Iff.trans (hq j hj) ?_)
      constructor
      · rintro ⟨m, h1, h2⟩
        exact ⟨m, (hx m (xb_lt h1)).mp h1, Or.inr ⟨z, h2⟩⟩
      · rintro ⟨m, h1, (⟨h, _⟩ | ⟨_, h2⟩)⟩
        · omega
        · have := tm_le _ _ _ h2
          exact ⟨m, (hx m (by omega)).mpr h1, h2⟩
theorem xe_R (post : Int32 → Prop) {lo n L st r : Nat} {tx lh ln : Nat → Nat} {sy : Nat → Nat → Nat} (o : Bool) (hL : L ≤ 13) (hst : st ≤ L) (hg : gx_R lo n aL aN aS lh ln sy) (hr : r < n) (htx : ∀ i, i < L → aT i = nI (tx i) ∧ tx i < 4)
    (H : ∀ res, (∀ j, j < 32 → (bt res j = true ↔ dv_P (fun k => dv_St (ex_E L aE) (tm_s o tx L) (sy r k)) st (ln r) j)) → post res) : wpX_endsOfRule post (xN, xT, xB, xR, xS, xE, xL, xA, xG, xC, xF, aL, aN, aS, aR, aM, aK, aT, aE) (nI (lo + r)) (nI st) (nI L) (cond o 1 0) := by
  refine nm_e ⟨ln r + 1, xe_8 post o hL hg hr htx H (ln r) 0 _ (by omega) fun j hj => ?_⟩
  rw [xb_o st (by omega) j hj, decide_eq_true_eq]
  exact Iff.rfl
end xps
end
section
/-! X: derives, and the questions -/
noncomputable def bz_I (P : Prop) : Int32 := @ite Int32 P (Classical.propDecidable P) 1 0
theorem bz_t {P : Prop} (h : P) : bz_I P = 1 := by unfold bz_I; rw [if_pos h]
theorem bz_f {P : Prop} (h : ¬ P) : bz_I P = 0 := by unfold bz_I; rw [if_neg h]
theorem bz_01 (P : Prop) : bz_I P = 0 ∨ bz_I P = 1 := by
  rcases Classical.em P with h | h
  · exact Or.inr (bz_t h)
  · exact Or.inl (bz_f h)
theorem bz_c {P Q : Prop} (h : P ↔ Q) : bz_I P = bz_I Q := by
  rcases Classical.em P with z | z
  · rw [bz_t z, bz_t (h.mp z)]
  · rw [bz_f z, bz_f (fun y => z (h.mpr y))]
theorem bz_n (P : Prop) : narrow .boolean (.int (bz_I P)) = .int (bz_I P) ∧ fits .boolean (.int (bz_I P)) = true := by
  rcases bz_01 P with h | h <;> rw [h] <;> exact ⟨rfl, rfl⟩
theorem bz_0 {P : Prop} : bz_I P = 0 ↔ ¬ P := by
  rcases Classical.em P with h | h
  · rw [bz_t h]; exact ⟨fun z => absurd z (by decide), fun z => absurd h z⟩
  · rw [bz_f h]; exact ⟨fun _ => h, fun _ => rfl⟩
theorem bz_br {x : Int32} {P A B : Prop} (h : x = bz_I P) (f : ¬ P → A) (g : P → B) : (x = 0 → A) ∧ (¬ x = 0 → B) := by
  subst h
  exact ⟨fun z => f (bz_0.mp z), fun z => g (Classical.byContradiction fun y => z (bz_0.mpr y))⟩
theorem bz_nar (P : Prop) : vp_nar .boolean (bz_I P) = bz_I P := by
  rcases bz_01 P with h | h <;> rw [h] <;> rfl
theorem bz_p1 {post : Int32 → Prop} {P : Prop} (H : post (bz_I P)) (h : P) : post 1 := by rw [bz_t h] at H; exact H
theorem bz_p0 {post : Int32 → Prop} {P : Prop} (H : post (bz_I P)) (h : ¬ P) : post 0 := by rw [bz_f h] at H; exact H
section xds
variable {xN xT xB xR xS xE xL xA xG xC xF : Int32} {aL aN aS aR aM aK aT aE : Nat → Int32}
variable {lo n L : Nat} {tx lh ln : Nat → Nat} {sy : Nat → Nat → Nat} {o : Bool}
/-- every kept end is a derivation -/
def ex_S (n L : Nat) (lh ln : Nat → Nat) (sy : Nat → Nat → Nat) (T : Nat → Nat → Nat → Prop) (e : Nat → Int32) : Prop := ∀ a i j, ex_E L e a i j → dv_D n lh ln sy T a i j
/-- rule r adds nothing at start i -/
def ex_c (L : Nat) (lh ln : Nat → Nat) (sy : Nat → Nat → Nat) (T : Nat → Nat → Nat → Prop) (e : Nat → Int32) (i r : Nat) : Prop := ∀ j, dv_P (fun k => dv_St (ex_E L e) T (sy r k)) i (ln r) j → ex_E L e (lh r) i j
noncomputable def ex_n (st : Nat) (e : Nat → Int32) : Nat := cn (fun c => bt (e (c / 14 * 14 + st)) (c % 14) = true) 168
theorem xd_pres {e e' : Nat → Int32} {i : Nat} (hs : ex_S n L lh ln sy (tm_s o tx L) e') (he : ∀ a m, a < 12 → i ≤ m → m ≤ L → e' (a * 14 + m) = e (a * 14 + m)) {r : Nat} (h : ex_c L lh ln sy (tm_s o tx L) e i r) : ex_c L lh ln sy (tm_s o tx L) e' i r := by
  intro j hp
  have mo : ∀ k m q, dv_St (ex_E L e') (tm_s o tx L) (sy r k) m q → m ≤ q := fun k m q s => dv_St_le (fun a i j h => dv_D_le tm_le (hs a i j h)) tm_le s
  have hp' : dv_P (fun k => dv_St (ex_E L e) (tm_s o tx L) (sy r k)) i (ln r) j := by
    refine dv_P_mono _ _ (fun k m q _ s => ?_) (dv_P_in mo (ln r) j hp (Nat.le_refl j))
    exact dv_St_mono (fun _ x => ⟨x.1, x.2.1, by rw [← he _ _ x.1 s.2.1 x.2.1]; exact x.2.2⟩) (fun _ t => t) s.1
  obtain ⟨a, b, c⟩ := h j hp'
  exact ⟨a, b, by rw [he _ _ a (Nat.le_refl i) b]; exact c⟩
theorem xd_fin {e : Nat → Int32} (hs : ex_S n L lh ln sy (tm_s o tx L) e) (hc : ∀ i, i ≤ L → ∀ r, r < n → ex_c L lh ln sy (tm_s o tx L) e i r) {a i j : Nat} (d : dv_D n lh ln sy (tm_s o tx L) a i j) (hi : i ≤ L) : ex_E L e a i j := by
  refine d (fun a i j => i ≤ L → ex_E L e a i j) (fun r i j hr h hi => hc i hi r hr j (dv_P_up (L := L) (fun k m q hm s => ?_) hi (ln r) j h).1) hi
  rcases s with ⟨z, b⟩ | ⟨z, b⟩
  · exact ⟨Or.inl ⟨z, b hm⟩, dv_D_bd tm_bd (hs _ _ _ (b hm)) hm⟩
  · exact ⟨Or.inr ⟨z, b⟩, tm_bd _ _ _ b⟩
theorem xd_found {e : Nat → Int32} {st r j : Nat} (hs : ex_S n L lh ln sy (tm_s o tx L) e) (hr : r < n) (h : dv_P (fun k => dv_St (ex_E L e) (tm_s o tx L) (sy r k)) st (ln r) j) : dv_D n lh ln sy (tm_s o tx L) (lh r) st j :=
  dv_cl r st j hr (dv_P_mono _ _ (fun k m q _ => dv_St_mono (fun _ x => hs _ _ _ x) (fun _ t => t)) h)
theorem xd_58 {post : Int32 → St2 → Prop} {J28 : Int32 → (Nat → Int32) → (Nat → Int32) → (Nat → Int32) → (Nat → Int32) → (Nat → Int32) → (Nat → Int32) → (Nat → Int32) → (Nat → Int32) →  Prop} {J39 : Int32 → Int32 → (Nat → Int32) → (Nat → Int32) → (Nat → Int32) → (Nat → Int32) → (Nat → Int32) → (Nat → Int32) → (Nat → Int32) → (Nat → Int32) →  Prop} {st : Nat} (x7 : Int32) {e0 : Nat → Int32} (hL : L ≤ 13) (hst : st ≤ L) (hg : gx_R lo n aL aN aS lh ln sy) (htx : ∀ i, i < L → aT i = nI (tx i) ∧ tx i < 4)
    (hJ : ∀ e x6, ex_S n L lh ln sy (tm_s o tx L) e → (∀ a m, m < 14 → m ≠ st → e (a * 14 + m) = e0 (a * 14 + m)) → ((x6 = 0 ∧ e = e0 ∧ ∀ r, r < n → ex_c L lh ln sy (tm_s o tx L) e st r) ∨ (x6 = 1 ∧ ex_n st e0 < ex_n st e)) → J39 x6 (x7 + 1) aL aN aS aR aM aK aT e) :
    ∀ d r e x6, r + d = n → ex_S n L lh ln sy (tm_s o tx L) e → (∀ a m, m < 14 → m ≠ st → e (a * 14 + m) = e0 (a * 14 + m)) → ((x6 = 0 ∧ e = e0 ∧ ∀ r', r' < r → ex_c L lh ln sy (tm_s o tx L) e st r') ∨ (x6 = 1 ∧ ex_n st e0 < ex_n st e)) →
      wX_derives_58 post J28 J39 (nI lo) (nI (lo + n)) (nI L) (cond o 1 0) (nI st) x7 xN xT xB xR xS xE xL xA xG xC xF (d + 1) x6 (nI (lo + r)) aL aN aS aR aM aK aT e := by
  intro d
  induction d with
  | zero =>
    intro r e x6 hr hs ha hx
    have er : r = n := by omega
    subst er
    have := hg.1
    exact br_t (nI_le (Nat.le_refl _) (by omega)) (nm_e (hJ e x6 hs ha hx))
  | succ d ih =>
    intro r e x6 hr hs ha hx
    have hn := hg.1
    have hl := hg.2 r (by omega)
    have h12 := hl.2.1
    refine br_f (nI_ge (by omega) (by omega)) (xe_R _ o hL hst hg (by omega) htx fun res hres => ⟨vp_in_nI (by omega) (by decide), ?_⟩)
    refine nm_r (e' := nI (lh r * 14 + st)) (by rw [nI_clamp (by omega), hl.1, xp_ix]) ⟨vp_in_nI (by omega) (by decide), ?_⟩
    have nx : nI (lo + r) + 1 = nI (lo + (r + 1)) := by rw [nI_1, Nat.add_assoc]
    refine ek_if (d := ∀ j, j < 32 → bt res j = true → bt (e (lh r * 14 + st)) j = true) (by rw [nI_clamp (by omega)]; exact xb_le) (fun hsub => nm_r nx ?_) (fun hns => ⟨vp_in_nI (by omega) (by decide), vp_in_nI (by omega) (by decide), nm_r (by rw [nI_clamp (by omega)]) (nm_r nx ?_)⟩)
    · refine ih (r + 1) e x6 (by omega) hs ha (hx.imp (fun h => ⟨h.1, h.2.1, fun r' hr' => ?_⟩) id)
      rcases Nat.lt_or_ge r' r with z | z
      · exact h.2.2 r' z
      · have er : r' = r := by omega
        subst er
        intro j hp
        have hj : j ≤ L := dv_D_bd tm_bd (xd_found hs (by omega) hp) hst
        exact ⟨h12, hst, hsub j (by omega) ((hres j (by omega)).mpr hp)⟩
    · have hd : ∀ j, bt res j = true → dv_D n lh ln sy (tm_s o tx L) (lh r) st j := fun j hj => xd_found hs (by omega) ((hres j (xb_lt hj)).mp hj)
      have hor : ∀ j, bt (upd e (lh r * 14 + st) (e (lh r * 14 + st) ||| res) (lh r * 14 + st)) j = true ↔ bt (e (lh r * 14 + st)) j = true ∨ bt res j = true := fun j => by rw [pk_us, xb_or]
      have hmo : ∀ c j, bt (e c) j = true → bt (upd e (lh r * 14 + st) (e (lh r * 14 + st) ||| res) c) j = true := by
        intro c j h
        by_cases z : c = lh r * 14 + st
        · subst z; exact (hor j).mpr (Or.inl h)
        · rw [pk_un z]; exact h
      refine ih (r + 1) _ 1 (by omega) ?_ ?_ (Or.inr ⟨rfl, ?_⟩)
      · intro a i j hE
        obtain ⟨h1, h2, h3⟩ := hE
        by_cases z : a * 14 + i = lh r * 14 + st
        · have e1 : a = lh r := by omega
          have e2 : i = st := by omega
          subst e1 e2
          rcases (hor j).mp h3 with h | h
          · exact hs _ _ _ ⟨h1, h2, h⟩
          · exact hd j h
        · rw [pk_un z] at h3
          exact hs _ _ _ ⟨h1, h2, h3⟩
      · intro a m hm hne
        rw [pk_un (by omega)]
        exact ha a m hm hne
      · obtain ⟨j, hj, hb, hnb⟩ : ∃ j, j < 32 ∧ bt res j = true ∧ ¬ bt (e (lh r * 14 + st)) j = true :=
          Classical.byContradiction fun hc => hns fun j hj hb => Classical.byContradiction fun hnb => hc ⟨j, hj, hb, hnb⟩
        have hj13 : j ≤ L := dv_D_bd tm_bd (hd j hb) hst
        have e1 : (lh r * 14 + j) / 14 = lh r := by omega
        have e2 : (lh r * 14 + j) % 14 = j := by omega
        have hlt : ex_n st e < ex_n st (upd e (lh r * 14 + st) (e (lh r * 14 + st) ||| res)) := by
          unfold ex_n
          refine cn_lt (a := lh r * 14 + j) ?_ ?_ (fun c _ h => hmo _ _ h) (by omega)
          · show ¬ bt (e ((lh r * 14 + j) / 14 * 14 + st)) ((lh r * 14 + j) % 14) = true
            rw [e1, e2]; exact hnb
          · show bt (upd e (lh r * 14 + st) (e (lh r * 14 + st) ||| res) ((lh r * 14 + j) / 14 * 14 + st)) ((lh r * 14 + j) % 14) = true
            rw [e1, e2]; exact (hor j).mpr (Or.inr hb)
        rcases hx with h | h
        · rw [← h.2.1]; exact hlt
        · exact Nat.lt_trans h.2 hlt
theorem xd_39 {post : Int32 → St2 → Prop} {J28 : Int32 → (Nat → Int32) → (Nat → Int32) → (Nat → Int32) → (Nat → Int32) → (Nat → Int32) → (Nat → Int32) → (Nat → Int32) → (Nat → Int32) →  Prop} {st : Nat} {e0 : Nat → Int32} (hL : L ≤ 13) (hst : st ≤ L) (hg : gx_R lo n aL aN aS lh ln sy) (htx : ∀ i, i < L → aT i = nI (tx i) ∧ tx i < 4)
    (hJ : ∀ e, ex_S n L lh ln sy (tm_s o tx L) e → (∀ a m, m < 14 → m ≠ st → e (a * 14 + m) = e0 (a * 14 + m)) → (∀ r, r < n → ex_c L lh ln sy (tm_s o tx L) e st r) → J28 (nI st + (-1)) aL aN aS aR aM aK aT e) :
    ∀ d p e x6, p + d = 169 → ex_S n L lh ln sy (tm_s o tx L) e → (∀ a m, m < 14 → m ≠ st → e (a * 14 + m) = e0 (a * 14 + m)) → ((x6 = 0 ∧ ∀ r, r < n → ex_c L lh ln sy (tm_s o tx L) e st r) ∨ (x6 = 1 ∧ p ≤ ex_n st e)) →
      wX_derives_39 post J28 (nI lo) (nI (lo + n)) (nI L) (cond o 1 0) (nI st) xN xT xB xR xS xE xL xA xG xC xF (d + 1) x6 (nI p) aL aN aS aR aM aK aT e := by
  intro d
  induction d with
  | zero =>
    intro p e x6 hp hs ha hx
    have ep : p = 169 := by omega
    subst ep
    refine br_t (nI_le (a := 169) (Nat.le_refl _) (by decide)) (nm_e (hJ e hs ha ?_))
    rcases hx with h | h
    · exact h.2
    · have := cn_le (fun c => bt (e (c / 14 * 14 + st)) (c % 14) = true) 168
      have h2 := h.2
      unfold ex_n at h2
      omega
  | succ d ih =>
    intro p e x6 hp hs ha hx
    refine br_f (nI_ge (b := 169) (by omega) (by decide)) ?_
    rcases hx with ⟨h, hc⟩ | ⟨h, hc⟩
    · subst h
      exact br_t rfl (nm_e (hJ e hs ha hc))
    · subst h
      refine br_f (by decide) ⟨n + 1, xd_58 (e0 := e) (nI p) hL hst hg htx (fun e' x6 hs' ha' hx' => ?_) n 0 e 0 (by omega) hs (fun _ _ _ _ => rfl) (Or.inl ⟨rfl, rfl, fun r' hr' => absurd hr' (Nat.not_lt_zero _)⟩)⟩
      rw [nI_1]
      refine ih (p + 1) e' x6 (by omega) hs' (fun a m h1 h2 => (ha' a m h1 h2).trans (ha a m h1 h2)) ?_
      rcases hx' with h | h
      · exact Or.inl ⟨h.1, h.2.2⟩
      · exact Or.inr ⟨h.1, by omega⟩
theorem xd_28 {post : Int32 → St2 → Prop} (hL : L ≤ 13) (hg : gx_R lo n aL aN aS lh ln sy) (htx : ∀ i, i < L → aT i = nI (tx i) ∧ tx i < 4)
    (H : ∀ e, post (bz_I (dv_D n lh ln sy (tm_s o tx L) 0 0 L)) (xN, xT, xB, xR, xS, xE, xL, xA, xG, xC, xF, aL, aN, aS, aR, aM, aK, aT, e)) :
    ∀ s e, s ≤ L + 1 → ex_S n L lh ln sy (tm_s o tx L) e → (∀ i, s ≤ i → i ≤ L → ∀ r, r < n → ex_c L lh ln sy (tm_s o tx L) e i r) →
      wX_derives_28 post (nI lo) (nI (lo + n)) (nI L) (cond o 1 0) xN xT xB xR xS xE xL xA xG xC xF (s + 1) (nI s + (-1)) aL aN aS aR aM aK aT e := by
  intro s
  induction s with
  | zero =>
    intro e _ hs hc
    refine br_t (by decide) (ek_if (xb_t (by omega) _) (fun z => ?_) (fun z => ?_))
    · have := H e
      rw [bz_t (hs 0 0 L ⟨by decide, Nat.zero_le L, z⟩)] at this
      exact this
    · have := H e
      rw [bz_f (fun d => z (xd_fin hs (fun i hi => hc i (Nat.zero_le i) hi) d (Nat.zero_le L)).2.2)] at this
      exact this
  | succ s ih =>
    intro e h hs hc
    rw [pk_m1]
    refine br_f (nI_pos (by omega)) ⟨169 + 1, xd_39 (e0 := e) hL (by omega) hg htx (fun e' hs' ha' hc' => ?_) 169 0 e 1 (by omega) hs (fun _ _ _ _ => rfl) (Or.inr ⟨rfl, Nat.zero_le _⟩)⟩
    refine ih e' (by omega) hs' fun i h1 h2 r hr => ?_
    rcases Nat.lt_or_ge s i with z | z
    · exact xd_pres hs' (fun a m _ hm hm2 => ha' a m (by omega) (by omega)) (hc i z h2 r hr)
    · have e : i = s := by omega
      subst e
      exact hc' r hr
theorem xd_3 {post : Int32 → St2 → Prop} (hL : L ≤ 13) (hg : gx_R lo n aL aN aS lh ln sy) (htx : ∀ i, i < L → aT i = nI (tx i) ∧ tx i < 4)
    (H : ∀ e, post (bz_I (dv_D n lh ln sy (tm_s o tx L) 0 0 L)) (xN, xT, xB, xR, xS, xE, xL, xA, xG, xC, xF, aL, aN, aS, aR, aM, aK, aT, e)) :
    ∀ d i e, i + d = 168 → (∀ c, c < i → e c = 0) → wX_derives_3 post (nI lo) (nI (lo + n)) (nI L) (cond o 1 0) xN xT xB xR xS xE xL xA xG xC xF (d + 1) (nI i) aL aN aS aR aM aK aT e := by
  intro d
  induction d with
  | zero =>
    intro i e hi he
    have ei : i = 168 := by omega
    subst ei
    have := xd_28 (o := o) (s := L + 1) hL hg htx H e (Nat.le_refl _) (fun a i j h => by
      rw [ex_E, he _ (by have := h.1; have := h.2.1; omega), b_0] at h
      exact absurd h.2.2 (by decide)) (fun i h1 h2 => by omega)
    rw [pk_m1] at this
    exact br_t (nI_le (a := 168) (Nat.le_refl _) (by decide)) ⟨_, this⟩
  | succ d ih =>
    intro i e hi he
    refine br_f (nI_ge (b := 168) (by omega) (by decide)) ⟨vp_in_nI (by omega) (by decide), nm_r (by rw [nI_clamp (by omega)]) (nm_r (nI_1 i) (ih (i + 1) _ (by omega) fun c hc => ?_))⟩
    by_cases z : c = i
    · subst z; exact pk_us
    · rw [pk_un z]; exact he c (by omega)
theorem xd_D {post : Int32 → St2 → Prop} {p0 p1 p2 p3 : Int32} (lo n L : Nat) (o : Bool) (h0 : p0 = nI lo) (h1 : p1 = nI (lo + n)) (h2 : p2 = nI L) (h3 : p3 = cond o 1 0) {tx lh ln : Nat → Nat} {sy : Nat → Nat → Nat} (hL : L ≤ 13) (hg : gx_R lo n aL aN aS lh ln sy) (htx : ∀ i, i < L → aT i = nI (tx i) ∧ tx i < 4)
    (H : ∀ e, post (bz_I (dv_D n lh ln sy (tm_s o tx L) 0 0 L)) (xN, xT, xB, xR, xS, xE, xL, xA, xG, xC, xF, aL, aN, aS, aR, aM, aK, aT, e)) : wpX_derives post (xN, xT, xB, xR, xS, xE, xL, xA, xG, xC, xF, aL, aN, aS, aR, aM, aK, aT, aE) p0 p1 p2 p3 := by
  subst h0 h1 h2 h3
  exact ⟨168 + 1, xd_3 hL hg htx H 168 0 aE rfl (fun c hc => absurd hc (Nat.not_lt_zero c))⟩
end xds
/-- a mask, bit by bit -/
noncomputable def fo_M (P : Nat → Prop) : Nat → Int32
  | 0 => 0
  | t + 1 => @ite Int32 (P t) (Classical.propDecidable (P t)) (fo_M P t ||| ((1 : Int32) <<< (nI t &&& 31))) (fo_M P t)
theorem fo_t {P : Nat → Prop} {t : Nat} (h : P t) : fo_M P (t + 1) = fo_M P t ||| ((1 : Int32) <<< (nI t &&& 31)) := by rw [fo_M, if_pos h]
theorem fo_f {P : Nat → Prop} {t : Nat} (h : ¬ P t) : fo_M P (t + 1) = fo_M P t := by rw [fo_M, if_neg h]
/-- the text with t put behind it can be completed -/
def dq_P (m : Nat) (mh mn : Nat → Nat) (my : Nat → Nat → Nat) (tx : Nat → Nat) (L t : Nat) : Prop := dv_D m mh mn my (tm_s true (fun i => if i = L then t else tx i) (L + 1)) 0 0 (L + 1)
section xqs
variable {xN xT xB xR xS xE xL xA xG xC xF : Int32} {aL aN aS aR aM aK aT aE : Nat → Int32}
variable {n m L T : Nat} {tx lh ln mh mn : Nat → Nat} {sy my : Nat → Nat → Nat}
theorem xq_63 {post : St2 → Prop} (hL : L ≤ 12) (hT : T ≤ 4) (hg : gx_R 8 m aL aN aS mh mn my)
    (H : ∀ aT' e, (∀ i, i < L → aT' i = nI (tx i) ∧ tx i < 4) → post (xN, nI T, xB, xR, xS, nI (8 + m), nI L, xA, xG, xC, fo_M (dq_P m mh mn my tx L) T, aL, aN, aS, aR, aM, aK, aT', e)) :
    ∀ d t aT e, t + d = T → (∀ i, i < L → aT i = nI (tx i) ∧ tx i < 4) → wX_answerQuestions_63 post (d + 1) (nI t) xN (nI T) xB xR xS (nI (8 + m)) (nI L) xA xG xC (fo_M (dq_P m mh mn my tx L) t) aL aN aS aR aM aK aT e := by
  intro d
  induction d with
  | zero =>
    intro t aT e ht hx
    have et : t = T := by omega
    subst et
    exact br_t (nI_le (Nat.le_refl _) (by omega)) (H aT e hx)
  | succ d ih =>
    intro t aT e ht hx
    have hx' : ∀ t' i, i < L → upd aT L t' i = nI (tx i) ∧ tx i < 4 := fun t' i hi => by rw [pk_un (by omega)]; exact hx i hi
    refine br_f (nI_ge (by omega) (by omega)) ⟨vp_in_nI (by omega) (by decide), nm_r (by rw [nI_clamp (by omega)]) ?_⟩
    refine xd_D 8 m (L + 1) true rfl rfl (nI_1 L) rfl (tx := fun i => if i = L then t else tx i) (by omega) hg (fun i hi => ?_) (fun e' => ?_)
    · by_cases z : i = L
      · subst z; rw [pk_us, if_pos rfl]; exact ⟨rfl, by omega⟩
      · rw [if_neg z]; exact hx' _ i (by omega)
    · refine bz_br (P := dq_P m mh mn my tx L t) rfl (fun z => ?_) (fun z => ?_)
      · have := ih (t + 1) (upd aT L (nI t)) e' (by omega) (hx' _)
        rw [fo_f z] at this
        exact nm_r (nI_1 t) this
      · have := ih (t + 1) (upd aT L (nI t)) e' (by omega) (hx' _)
        rw [fo_t z] at this
        exact nm_e (nm_r (nI_1 t) this)
theorem xq_A {post : St2 → Prop} (hL : L ≤ 12) (hT : T ≤ 4) (hg0 : gx_R 0 n aL aN aS lh ln sy) (hg : gx_R 8 m aL aN aS mh mn my) (htx : ∀ i, i < L → aT i = nI (tx i) ∧ tx i < 4)
    (H : ∀ aT' e, (∀ i, i < L → aT' i = nI (tx i) ∧ tx i < 4) → post (xN, nI T, xB, nI n, xS, nI (8 + m), nI L, bz_I (dv_D m mh mn my (tm_s false tx L) 0 0 L), bz_I (dv_D n lh ln sy (tm_s false tx L) 0 0 L), bz_I (dv_D m mh mn my (tm_s true tx L) 0 0 L), fo_M (dq_P m mh mn my tx L) T, aL, aN, aS, aR, aM, aK, aT', e)) :
    wpX_answerQuestions post (xN, nI T, xB, nI n, xS, nI (8 + m), nI L, xA, xG, xC, xF, aL, aN, aS, aR, aM, aK, aT, aE) := by
  unfold wpX_answerQuestions
  refine xd_D 0 n L false rfl (by rw [Nat.zero_add]) rfl rfl (by omega) hg0 htx fun e1 => ⟨(bz_n _).1, (bz_n _).2, ?_⟩
  refine xd_D 8 m L false rfl rfl rfl rfl (by omega) hg htx fun e2 => ⟨(bz_n _).1, (bz_n _).2, ?_⟩
  refine xd_D 8 m L true rfl rfl rfl rfl (by omega) hg htx fun e3 => ⟨(bz_n _).1, (bz_n _).2, T + 1, ?_⟩
  exact xq_63 hL hT hg H T 0 aT e3 (by omega) htx
end xqs
end
section
/-! A grammar as it grows, and the two tables that hold it -/
abbrev gm_G : Type := Nat × (Nat → Nat) × (Nat → Nat) × (Nat → Nat → Nat)
def gm_st (g : gm_G) (a : Nat) : gm_G := (g.1 + 1, (fun r => if r = g.1 then a else g.2.1 r), (fun r => if r = g.1 then 0 else g.2.2.1 r), g.2.2.2)
def gm_pu (g : gm_G) (s : Nat) : gm_G := (g.1, g.2.1, (fun r => if r = g.1 - 1 then g.2.2.1 r + 1 else g.2.2.1 r), (fun r k => if r = g.1 - 1 ∧ k = g.2.2.1 r then s else g.2.2.2 r k))
theorem gm_sL {g : gm_G} {a : Nat} : (gm_st g a).2.1 g.1 = a := if_pos rfl
theorem gm_sL' {g : gm_G} {a r : Nat} (h : r ≠ g.1) : (gm_st g a).2.1 r = g.2.1 r := if_neg h
theorem gm_sN {g : gm_G} {a : Nat} : (gm_st g a).2.2.1 g.1 = 0 := if_pos rfl
theorem gm_sN' {g : gm_G} {a r : Nat} (h : r ≠ g.1) : (gm_st g a).2.2.1 r = g.2.2.1 r := if_neg h
theorem gm_pN {g : gm_G} {s q : Nat} (hq : g.1 = q + 1) : (gm_pu g s).2.2.1 q = g.2.2.1 q + 1 := if_pos (by rw [hq]; rfl)
theorem gm_pN' {g : gm_G} {s q r : Nat} (hq : g.1 = q + 1) (h : r ≠ q) : (gm_pu g s).2.2.1 r = g.2.2.1 r := if_neg (by rw [hq]; exact h)
theorem gm_pS {g : gm_G} {s q : Nat} (hq : g.1 = q + 1) : (gm_pu g s).2.2.2 q (g.2.2.1 q) = s := if_pos ⟨by rw [hq]; rfl, rfl⟩
theorem gm_pS' {g : gm_G} {s q r k : Nat} (hq : g.1 = q + 1) (h : ¬ (r = q ∧ k = g.2.2.1 q)) : (gm_pu g s).2.2.2 r k = g.2.2.2 r k := if_neg (by rw [hq]; rintro ⟨a, b⟩; have a : r = q := a; subst a; exact h ⟨rfl, b⟩)
/-- where rule r's symbols begin in a packed table -/
def sr_S (ln : Nat → Nat) : Nat → Nat
  | 0 => 0
  | r + 1 => sr_S ln r + ln r
theorem sr_c {ln ln' : Nat → Nat} : ∀ r, (∀ q, q < r → ln q = ln' q) → sr_S ln r = sr_S ln' r := by
  intro r
  induction r with
  | zero => intro _; rfl
  | succ r ih =>
    intro h
    show sr_S ln r + ln r = sr_S ln' r + ln' r
    rw [ih fun q hq => h q (by omega), h r (by omega)]
theorem sr_m {ln : Nat → Nat} {r : Nat} : ∀ {n}, r < n → sr_S ln r + ln r ≤ sr_S ln n := by
  intro n
  induction n with
  | zero => intro h; omega
  | succ n ih =>
    intro h
    show _ ≤ sr_S ln n + ln n
    rcases Nat.lt_or_ge r n with z | z
    · have := ih z; omega
    · have e : r = n := by omega
      subst e
      exact Nat.le_refl _
theorem sr_st {g : gm_G} {a : Nat} : sr_S (gm_st g a).2.2.1 (g.1 + 1) = sr_S g.2.2.1 g.1 := by
  show sr_S (gm_st g a).2.2.1 g.1 + (gm_st g a).2.2.1 g.1 = _
  rw [gm_sN, Nat.add_zero]
  exact sr_c _ fun q hq => gm_sN' (by omega)
theorem sr_pu {g : gm_G} {s q : Nat} (hq : g.1 = q + 1) : sr_S (gm_pu g s).2.2.1 g.1 = sr_S g.2.2.1 g.1 + 1 := by
  rw [hq]
  show sr_S (gm_pu g s).2.2.1 q + (gm_pu g s).2.2.1 q = sr_S g.2.2.1 q + g.2.2.1 q + 1
  rw [gm_pN hq, sr_c (ln' := g.2.2.1) q fun r hr => gm_pN' hq (by omega)]
  omega
theorem sr_st' {g : gm_G} {a : Nat} : sr_S (gm_st g a).2.2.1 (gm_st g a).1 = sr_S g.2.2.1 g.1 := sr_st
theorem sr_pu' {g : gm_G} {s q : Nat} (hq : g.1 = q + 1) : sr_S (gm_pu g s).2.2.1 (gm_pu g s).1 = sr_S g.2.2.1 g.1 + 1 := sr_pu hq
def gw_X (lo : Nat) (g : gm_G) (aL aN aS : Nat → Int32) : Prop := gx_R lo g.1 aL aN aS g.2.1 g.2.2.1 g.2.2.2
theorem gw_Xst {lo ix a : Nat} {g : gm_G} {aL aN aS : Nat → Int32} (h : gw_X lo g aL aN aS) (hx : ix = lo + g.1) (ha : a < 12) (hl : lo + g.1 < 34) : gw_X lo (gm_st g a) (upd aL ix (nI a)) (upd aN ix 0) aS := by
  subst hx
  refine ⟨hl, fun r hr => ?_⟩
  by_cases z : r = g.1
  · subst z
    rw [gm_sL, gm_sN, pk_us, pk_us]
    exact ⟨rfl, ha, rfl, Nat.zero_le 5, fun k hk => absurd hk (Nat.not_lt_zero k)⟩
  · have hr' : r < g.1 := by have : r < g.1 + 1 := hr; omega
    rw [gm_sL' z, gm_sN' z, pk_un (by omega), pk_un (by omega)]
    exact h.2 r hr'
theorem gw_Xpu {lo ix q l s : Nat} {g : gm_G} {aL aN aS : Nat → Int32} (h : gw_X lo g aL aN aS) (hq : g.1 = q + 1) (hx : ix = lo + q) (hl : l = g.2.2.1 q) (hs : s < 16) (h4 : g.2.2.1 q ≤ 4) : gw_X lo (gm_pu g s) aL (upd aN ix (nI (l + 1))) (upd aS (ix * 5 + l) (nI s)) := by
  subst hx hl
  refine ⟨h.1, fun r hr => ?_⟩
  have hr : r < g.1 := hr
  obtain ⟨h1, h2, h3, h5, h6⟩ := h.2 r hr
  by_cases z : r = q
  · subst z
    rw [gm_pN hq, pk_us]
    refine ⟨h1, h2, rfl, by omega, fun k hk => ?_⟩
    by_cases y : k = g.2.2.1 r
    · subst y
      rw [gm_pS hq, pk_us]
      exact ⟨rfl, hs⟩
    · rw [gm_pS' hq (fun w => y w.2), pk_un (by omega)]
      exact h6 k (by omega)
  · rw [gm_pN' hq z, pk_un (by omega)]
    refine ⟨h1, h2, h3, h5, fun k hk => ?_⟩
    rw [gm_pS' hq (fun w => z w.1), pk_un (by omega)]
    exact h6 k hk
theorem gw_Xfr {g : gm_G} {aL aN aS bL bN bS : Nat → Int32} (h : gw_X 0 g aL aN aS) (h8 : g.1 ≤ 8) (h1 : ∀ r, r < 8 → bL r = aL r ∧ bN r = aN r) (h2 : ∀ c, c < 40 → bS c = aS c) : gw_X 0 g bL bN bS := by
  refine ⟨h.1, fun r hr => ?_⟩
  obtain ⟨a1, a2, a3, a4, a5⟩ := h.2 r hr
  rw [Nat.zero_add] at a1 a3 ⊢
  refine ⟨by rw [(h1 r (by omega)).1]; exact a1, a2, by rw [(h1 r (by omega)).2]; exact a3, a4, fun k hk => ?_⟩
  have := a5 k hk
  rw [Nat.zero_add] at this
  rw [h2 _ (by omega)]
  exact this
/-- an entered grammar -/
def gw_E (N : Nat) (g : gm_G) : Prop := ∀ r, r < g.1 → g.2.1 r < N ∧ g.2.2.1 r ≤ 4 ∧ ∀ k, k < g.2.2.1 r → g.2.2.2 r k < N ∨ (12 ≤ g.2.2.2 r k ∧ g.2.2.2 r k < 16)
theorem gw_Est {N a : Nat} {g : gm_G} (h : gw_E N g) (ha : a < N) : gw_E N (gm_st g a) := by
  intro r hr
  by_cases z : r = g.1
  · subst z
    rw [gm_sL, gm_sN]
    exact ⟨ha, Nat.zero_le 4, fun k hk => absurd hk (Nat.not_lt_zero k)⟩
  · have hr' : r < g.1 := by have : r < g.1 + 1 := hr; omega
    rw [gm_sL' z, gm_sN' z]
    exact h r hr'
theorem gw_Epu {N q s : Nat} {g : gm_G} (h : gw_E N g) (hq : g.1 = q + 1) (hl : g.2.2.1 q < 4) (hs : s < N ∨ (12 ≤ s ∧ s < 16)) : gw_E N (gm_pu g s) := by
  intro r hr
  have hr : r < g.1 := hr
  obtain ⟨h1, h2, h3⟩ := h r hr
  by_cases z : r = q
  · subst z
    rw [gm_pN hq]
    refine ⟨h1, hl, fun k hk => ?_⟩
    by_cases y : k = g.2.2.1 r
    · subst y; rw [gm_pS hq]; exact hs
    · rw [gm_pS' hq (fun w => y w.2)]; exact h3 k (by omega)
  · rw [gm_pN' hq z]
    refine ⟨h1, h2, fun k hk => ?_⟩
    rw [gm_pS' hq (fun w => z w.1)]
    exact h3 k hk
end
section
/-! Closure by stages, names of sets, kinds, the rewritten grammar: pure -/
def ws_W (E : Nat → Nat → Prop) : Nat → Nat → Nat → Prop
  | 0, a, b => E a b
  | k + 1, a, b => ws_W E k a b ∨ (ws_W E k a k ∧ ws_W E k k b)
theorem ws_s {E : Nat → Nat → Prop} {k a b : Nat} : ws_W E (k + 1) a b ↔ ws_W E k a b ∨ (ws_W E k a k ∧ ws_W E k k b) := Iff.rfl
theorem ws_c {E : Nat → Nat → Prop} {k a : Nat} : ws_W E (k + 1) a k ↔ ws_W E k a k := ⟨fun h => h.elim id And.left, Or.inl⟩
theorem ws_r {E : Nat → Nat → Prop} {k b : Nat} : ws_W E (k + 1) k b ↔ ws_W E k k b := ⟨fun h => h.elim id And.right, Or.inl⟩
theorem ws_bd {E : Nat → Nat → Prop} {N : Nat} (hE : ∀ a b, E a b → a < N ∧ b < N) : ∀ k a b, ws_W E k a b → a < N ∧ b < N := by
  intro k
  induction k with
  | zero => exact hE
  | succ k ih =>
    intro a b h
    rcases h with h | ⟨h1, h2⟩
    · exact ih a b h
    · exact ⟨(ih a k h1).1, (ih k b h2).2⟩
theorem ws_top {E : Nat → Nat → Prop} {N : Nat} (hE : ∀ a b, E a b → a < N ∧ b < N) (a b : Nat) : ∀ d, ws_W E (N + d) a b ↔ ws_W E N a b := by
  intro d
  induction d with
  | zero => exact Iff.rfl
  | succ d ih =>
    refine Iff.trans ⟨fun h => ?_, Or.inl⟩ ih
    rcases h with h | ⟨h1, _⟩
    · exact h
    · have h3 : N + d < N := (ws_bd hE _ _ _ h1).2
      omega
/-- a's set's name after the numbers below b are looked at -/
noncomputable def mt_f (R : Nat → Nat → Prop) (a : Nat) : Nat → Nat
  | 0 => a
  | b + 1 => @ite Nat (mt_f R a b = a ∧ R a b ∧ R b a) (Classical.propDecidable _) b (mt_f R a b)
theorem mt_t {R : Nat → Nat → Prop} {a b : Nat} (h : mt_f R a b = a ∧ R a b ∧ R b a) : mt_f R a (b + 1) = b := by rw [mt_f, if_pos h]
theorem mt_n {R : Nat → Nat → Prop} {a b : Nat} (h : ¬ (mt_f R a b = a ∧ R a b ∧ R b a)) : mt_f R a (b + 1) = mt_f R a b := by rw [mt_f, if_neg h]
theorem mt_le {R : Nat → Nat → Prop} {a : Nat} : ∀ b, b ≤ a → mt_f R a b ≤ a := by
  intro b
  induction b with
  | zero => intro _; exact Nat.le_refl a
  | succ b ih =>
    intro hb
    rcases Classical.em (mt_f R a b = a ∧ R a b ∧ R b a) with h | h
    · rw [mt_t h]; omega
    · rw [mt_n h]; exact ih (by omega)
theorem mt_k {R : Nat → Nat → Prop} {a b c : Nat} (h : mt_f R a b = c) (hc : c ≠ a) : ∀ d, mt_f R a (b + d) = c := by
  intro d
  induction d with
  | zero => exact h
  | succ d ih =>
    have : mt_f R a (b + d + 1) = c := by rw [mt_n (fun y => hc (ih.symm.trans y.1))]; exact ih
    exact this
noncomputable def mt_N (R : Nat → Nat → Prop) (a : Nat) : Nat := mt_f R a a
theorem mt_fst {R : Nat → Nat → Prop} {a b : Nat} (hb : b < a) (h : mt_f R a b = a ∧ R a b ∧ R b a) : mt_N R a = b := by
  have := mt_k (mt_t h) (by omega) (a - (b + 1))
  rw [show b + 1 + (a - (b + 1)) = a from by omega] at this
  exact this
section kds
variable (g : gm_G) (m : Nat → Nat)
/-- which nonterminal stands in a rule of which -/
def ed_E (n : Nat) (a b : Nat) : Prop := ∃ r k, r < n ∧ k < g.2.2.1 r ∧ g.2.1 r = a ∧ g.2.2.2 r k = b ∧ b < 12
/-- place k of rule r is a member occurrence -/
def mb_P (r k : Nat) : Prop := g.2.2.2 r k < 6 ∧ m (g.2.2.2 r k) = m (g.2.1 r)
noncomputable def mb_c (r k : Nat) : Nat := cn (fun k => mb_P g m r k) k
def kn_A (s r : Nat) : Prop := ∃ q, q < r ∧ m (g.2.1 q) = s ∧ 0 < mb_c g m q (g.2.2.1 q)
def kn_R (s r : Nat) : Prop := ∀ q, q < r → m (g.2.1 q) = s → 0 < mb_c g m q (g.2.2.1 q) → mb_c g m q (g.2.2.1 q) = 1 ∧ mb_P g m q (g.2.2.1 q - 1)
def kn_L (s r : Nat) : Prop := ∀ q, q < r → m (g.2.1 q) = s → 0 < mb_c g m q (g.2.2.1 q) → mb_c g m q (g.2.2.1 q) = 1 ∧ mb_P g m q 0
noncomputable def kn_K (s : Nat) : Nat := @ite Nat (kn_A g m s g.1) (Classical.propDecidable _) (@ite Nat (kn_R g m s g.1) (Classical.propDecidable _) 1 (@ite Nat (kn_L g m s g.1) (Classical.propDecidable _) 2 3)) 0
end kds
section kdt
variable {g : gm_G} {m : Nat → Nat} {s r : Nat}
theorem mb_t {k : Nat} (h : mb_P g m r k) : mb_c g m r (k + 1) = mb_c g m r k + 1 := by unfold mb_c; rw [cn, b01_t h]
theorem mb_f {k : Nat} (h : ¬ mb_P g m r k) : mb_c g m r (k + 1) = mb_c g m r k := by unfold mb_c; rw [cn, b01_f h]; rfl
theorem mb_le {k : Nat} : mb_c g m r k ≤ k := cn_le _ k
theorem mb_p {k : Nat} (h : 0 < mb_c g m r k) : 0 < k := Nat.lt_of_lt_of_le h mb_le
theorem kn_A0 : ¬ kn_A g m s 0 := fun ⟨q, h, _⟩ => Nat.not_lt_zero q h
theorem kn_R0 : kn_R g m s 0 := fun q h => absurd h (Nat.not_lt_zero q)
theorem kn_L0 : kn_L g m s 0 := fun q h => absurd h (Nat.not_lt_zero q)
theorem kn_As : kn_A g m s (r + 1) ↔ kn_A g m s r ∨ (m (g.2.1 r) = s ∧ 0 < mb_c g m r (g.2.2.1 r)) := by
  constructor
  · rintro ⟨q, h1, h2⟩
    rcases Nat.lt_or_ge q r with z | z
    · exact Or.inl ⟨q, z, h2⟩
    · have e : q = r := by omega
      subst e
      exact Or.inr h2
  · rintro (⟨q, h1, h2⟩ | h)
    · exact ⟨q, by omega, h2⟩
    · exact ⟨r, by omega, h⟩
theorem kn_Rs : kn_R g m s (r + 1) ↔ kn_R g m s r ∧ (m (g.2.1 r) = s → 0 < mb_c g m r (g.2.2.1 r) → mb_c g m r (g.2.2.1 r) = 1 ∧ mb_P g m r (g.2.2.1 r - 1)) := by
  constructor
  · intro h
    exact ⟨fun q hq => h q (by omega), h r (by omega)⟩
  · rintro ⟨h1, h2⟩ q hq
    rcases Nat.lt_or_ge q r with z | z
    · exact h1 q z
    · have e : q = r := by omega
      subst e
      exact h2
theorem kn_Ls : kn_L g m s (r + 1) ↔ kn_L g m s r ∧ (m (g.2.1 r) = s → 0 < mb_c g m r (g.2.2.1 r) → mb_c g m r (g.2.2.1 r) = 1 ∧ mb_P g m r 0) := by
  constructor
  · intro h
    exact ⟨fun q hq => h q (by omega), h r (by omega)⟩
  · rintro ⟨h1, h2⟩ q hq
    rcases Nat.lt_or_ge q r with z | z
    · exact h1 q z
    · have e : q = r := by omega
      subst e
      exact h2
theorem kn_0 (h : ¬ kn_A g m s g.1) : kn_K g m s = 0 := by unfold kn_K; rw [if_neg h]
theorem kn_1 (h : kn_A g m s g.1) (h1 : kn_R g m s g.1) : kn_K g m s = 1 := by unfold kn_K; rw [if_pos h, if_pos h1]
theorem kn_2 (h : kn_A g m s g.1) (h1 : ¬ kn_R g m s g.1) (h2 : kn_L g m s g.1) : kn_K g m s = 2 := by unfold kn_K; rw [if_pos h, if_neg h1, if_pos h2]
theorem kn_3 (h : kn_A g m s g.1) (h1 : ¬ kn_R g m s g.1) (h2 : ¬ kn_L g m s g.1) : kn_K g m s = 3 := by unfold kn_K; rw [if_pos h, if_neg h1, if_neg h2]
theorem kn_le : kn_K g m s ≤ 3 := by
  rcases Classical.em (kn_A g m s g.1) with h | h
  · rcases Classical.em (kn_R g m s g.1) with h1 | h1
    · rw [kn_1 h h1]; decide
    · rcases Classical.em (kn_L g m s g.1) with h2 | h2
      · rw [kn_2 h h1 h2]; decide
      · rw [kn_3 h h1 h2]; decide
  · rw [kn_0 h]; decide
end kdt
section gzs
variable (g : gm_G) (m kd : Nat → Nat)
/-- rule r rewritten behind h, k places done -/
noncomputable def gz_p (r : Nat) (h : gm_G) : Nat → gm_G
  | 0 => gm_st h (g.2.1 r)
  | k + 1 => @ite gm_G (kd (g.2.1 r) = 3 ∧ mb_P g m r k) (Classical.propDecidable _) (gm_st (gm_pu (gz_p r h k) (g.2.2.2 r k)) (6 + g.2.2.2 r k)) (gm_pu (gz_p r h k) (g.2.2.2 r k))
noncomputable def gz_f (r : Nat) (h : gm_G) : gm_G := @ite gm_G (kd (g.2.1 r) = 3) (Classical.propDecidable _) (gm_pu h (6 + g.2.1 r)) h
noncomputable def gz_B : Nat → gm_G
  | 0 => (0, fun _ => 0, fun _ => 0, fun _ _ => 0)
  | r + 1 => gz_f g kd r (gz_p g m kd r (gz_B r) (g.2.2.1 r))
noncomputable def gz_C : Nat → gm_G
  | 0 => gz_B g m kd g.1
  | a + 1 => @ite gm_G (kd a = 3) (Classical.propDecidable _) (gm_st (gz_C a) (6 + a)) (gz_C a)
end gzs
section gzt
variable {g : gm_G} {m kd : Nat → Nat} {r : Nat} {h : gm_G}
theorem gz_pt {k : Nat} (z : kd (g.2.1 r) = 3 ∧ mb_P g m r k) : gz_p g m kd r h (k + 1) = gm_st (gm_pu (gz_p g m kd r h k) (g.2.2.2 r k)) (6 + g.2.2.2 r k) := by rw [gz_p, if_pos z]
theorem gz_pf {k : Nat} (z : ¬ (kd (g.2.1 r) = 3 ∧ mb_P g m r k)) : gz_p g m kd r h (k + 1) = gm_pu (gz_p g m kd r h k) (g.2.2.2 r k) := by rw [gz_p, if_neg z]
theorem gz_ft (z : kd (g.2.1 r) = 3) : gz_f g kd r h = gm_pu h (6 + g.2.1 r) := by unfold gz_f; rw [if_pos z]
theorem gz_ff (z : ¬ kd (g.2.1 r) = 3) : gz_f g kd r h = h := by unfold gz_f; rw [if_neg z]
theorem gz_Ct {a : Nat} (z : kd a = 3) : gz_C g m kd (a + 1) = gm_st (gz_C g m kd a) (6 + a) := by rw [gz_C, if_pos z]
theorem gz_Cf {a : Nat} (z : ¬ kd a = 3) : gz_C g m kd (a + 1) = gz_C g m kd a := by rw [gz_C, if_neg z]
/-- the last rule's number and length, the count, the sum -/
theorem gz_pz : ∀ k, ∃ q, (gz_p g m kd r h k).1 = q + 1 ∧ (gz_p g m kd r h k).2.2.1 q ≤ k ∧ q ≤ h.1 + k ∧ sr_S (gz_p g m kd r h k).2.2.1 (gz_p g m kd r h k).1 = sr_S h.2.2.1 h.1 + k := by
  intro k
  induction k with
  | zero => exact ⟨h.1, rfl, by show (gm_st h _).2.2.1 h.1 ≤ 0; rw [gm_sN]; exact Nat.le_refl 0, Nat.le_refl _, sr_st⟩
  | succ k ih =>
    obtain ⟨q, h1, h2, h3, h4⟩ := ih
    rcases Classical.em (kd (g.2.1 r) = 3 ∧ mb_P g m r k) with z | z
    · rw [gz_pt z]
      refine ⟨(gm_pu (gz_p g m kd r h k) (g.2.2.2 r k)).1, rfl, by rw [gm_sN]; exact Nat.zero_le _, by show (gz_p g m kd r h k).1 ≤ _; omega, ?_⟩
      refine (sr_st (g := gm_pu (gz_p g m kd r h k) (g.2.2.2 r k))).trans ((sr_pu h1).trans ?_)
      rw [h4]; omega
    · rw [gz_pf z]
      refine ⟨q, h1, by rw [gm_pN h1]; omega, by omega, ?_⟩
      refine (sr_pu h1).trans ?_
      rw [h4]; omega
theorem gz_Bz : ∀ r, (gz_B g m kd r).1 ≤ r + sr_S g.2.2.1 r ∧ sr_S (gz_B g m kd r).2.2.1 (gz_B g m kd r).1 ≤ r + sr_S g.2.2.1 r := by
  intro r
  induction r with
  | zero => exact ⟨Nat.le_refl _, Nat.le_refl _⟩
  | succ r ih =>
    obtain ⟨q, h1, h2, h3, h4⟩ := gz_pz (g := g) (m := m) (kd := kd) (r := r) (h := gz_B g m kd r) (g.2.2.1 r)
    show (gz_f g kd r (gz_p g m kd r (gz_B g m kd r) (g.2.2.1 r))).1 ≤ r + 1 + (sr_S g.2.2.1 r + g.2.2.1 r) ∧ sr_S (gz_f g kd r (gz_p g m kd r (gz_B g m kd r) (g.2.2.1 r))).2.2.1 (gz_f g kd r (gz_p g m kd r (gz_B g m kd r) (g.2.2.1 r))).1 ≤ r + 1 + (sr_S g.2.2.1 r + g.2.2.1 r)
    rcases Classical.em (kd (g.2.1 r) = 3) with z | z
    · rw [gz_ft z]
      refine ⟨by show (gz_p g m kd r (gz_B g m kd r) (g.2.2.1 r)).1 ≤ _; omega, ?_⟩
      have := sr_pu (s := 6 + g.2.1 r) h1
      exact Nat.le_trans (Nat.le_of_eq this) (by omega)
    · rw [gz_ff z]
      exact ⟨by omega, by omega⟩
theorem gz_Cz : ∀ a, (gz_C g m kd a).1 ≤ g.1 + sr_S g.2.2.1 g.1 + a ∧ sr_S (gz_C g m kd a).2.2.1 (gz_C g m kd a).1 ≤ g.1 + sr_S g.2.2.1 g.1 := by
  intro a
  induction a with
  | zero => exact gz_Bz g.1
  | succ a ih =>
    rcases Classical.em (kd a = 3) with z | z
    · rw [gz_Ct z]
      exact ⟨by show (gz_C g m kd a).1 + 1 ≤ _; omega, Nat.le_trans (Nat.le_of_eq sr_st) ih.2⟩
    · rw [gz_Cf z]
      exact ⟨by omega, ih.2⟩
end gzt
end
section
/-! X: reached, names, kinds -/
theorem gw_X0 {g : gm_G} {aL aN aS : Nat → Int32} (h : gw_X 0 g aL aN aS) {r : Nat} (hr : r < g.1) : aL r = nI (g.2.1 r) ∧ g.2.1 r < 12 ∧ aN r = nI (g.2.2.1 r) ∧ g.2.2.1 r ≤ 5 ∧ ∀ k, k < g.2.2.1 r → aS (r * 5 + k) = nI (g.2.2.2 r k) ∧ g.2.2.2 r k < 16 := by
  have := h.2 r hr
  rw [Nat.zero_add] at this
  exact this
/-- X's masks hold a relation -/
def rr_X (N : Nat) (aR : Nat → Int32) (R : Nat → Nat → Prop) : Prop := ∀ a, a < N → ∀ b, b < 32 → (bt (aR a) b = true ↔ R a b)
section xbs
variable {xN xT xB xR xS xE xL xA xG xC xF : Int32} {aL aN aS aR aM aK aT aE : Nat → Int32}
variable {N : Nat} {g : gm_G}
theorem xr_12 {post : St2 → Prop} {J2 : Int32 → (Nat → Int32) → (Nat → Int32) → (Nat → Int32) → (Nat → Int32) → (Nat → Int32) → (Nat → Int32) → (Nat → Int32) → (Nat → Int32) →  Prop} {r : Nat} (hN : N ≤ 6) (h8 : g.1 ≤ 8) (hg : gw_X 0 g aL aN aS) (hE : gw_E N g) (hr : r < g.1)
    (hJ : ∀ q, rr_X N q (ed_E g (r + 1)) → J2 (nI (r + 1)) aL aN aS q aM aK aT aE) :
    ∀ d k q, k + d = g.2.2.1 r → rr_X N q (fun a b => ed_E g r a b ∨ (g.2.1 r = a ∧ b < 12 ∧ ∃ k', k' < k ∧ g.2.2.2 r k' = b)) → wX_findReached_12 post J2 (nI r) xN xT xB xR xS xE xL xA xG xC xF (d + 1) (nI k) aL aN aS q aM aK aT aE := by
  obtain ⟨h1, h2, h3, h4, h5⟩ := gw_X0 hg hr
  obtain ⟨e1, e2, e3⟩ := hE r hr
  have eN : aN (nI r).toNatClampNeg = nI (g.2.2.1 r) := by rw [nI_clamp (by omega)]; exact h3
  have eL : aL (nI r).toNatClampNeg = nI (g.2.1 r) := by rw [nI_clamp (by omega)]; exact h1
  intro d
  induction d with
  | zero =>
    intro k q hk hq
    refine ⟨vp_in_nI (by omega) (by decide), br_t (by rw [eN]; exact nI_le (by omega) (by omega)) (nm_r (nI_1 r) (hJ q fun a ha b hb => Iff.trans (hq a ha b hb) ?_))⟩
    constructor
    · rintro (⟨r', k', x1, x2⟩ | ⟨x1, x2, k', x3, x4⟩)
      · exact ⟨r', k', by omega, x2⟩
      · exact ⟨r, k', by omega, by omega, x1, x4, x2⟩
    · rintro ⟨r', k', x1, x2, x3, x4, x5⟩
      rcases Nat.lt_or_ge r' r with z | z
      · exact Or.inl ⟨r', k', z, x2, x3, x4, x5⟩
      · have e : r' = r := by omega
        subst e
        exact Or.inr ⟨x3, x5, k', by omega, x4⟩
  | succ d ih =>
    intro k q hk hq
    have hs := h5 k (by omega)
    refine ⟨vp_in_nI (by omega) (by decide), br_f (by rw [eN]; exact nI_ge (by omega) (by omega)) ⟨pk_in (r * 5 + k) 170 (by omega) (xp_ix5 r k), nm_r (e' := nI (g.2.2.2 r k)) (by rw [xp_ix5, nI_clamp (by omega)]; exact hs.1) ?_⟩⟩
    refine pk_le 12 (g.2.2.2 r k) (fun z => nm_r (nI_1 k) (ih (k + 1) q (by omega) fun a ha b hb => Iff.trans (hq a ha b hb) (or_congr Iff.rfl (and_congr Iff.rfl ?_)))) (fun z => ?_) rfl rfl (by decide) (by omega)
    · constructor
      · rintro ⟨x2, k', x3, x4⟩
        exact ⟨x2, k', by omega, x4⟩
      · rintro ⟨x2, k', x3, x4⟩
        rcases Nat.lt_or_ge k' k with y | y
        · exact ⟨x2, k', y, x4⟩
        · have e : k' = k := by omega
          subst e
          omega
    · have hsN : g.2.2.2 r k < N := by rcases e3 k (by omega) with y | y <;> omega
      refine ⟨vp_in_nI (by omega) (by decide), pk_in (g.2.1 r) 6 (by omega) eL, pk_in (g.2.1 r) 6 (by omega) eL, nm_r (e' := upd q (g.2.1 r) (q (g.2.1 r) ||| ((1 : Int32) <<< (nI (g.2.2.2 r k) &&& 31)))) (by rw [eL, nI_clamp (by omega)]) (nm_r (nI_1 k) (ih (k + 1) _ (by omega) fun a ha b hb => ?_))⟩
      by_cases y : a = g.2.1 r
      · subst y
        rw [pk_us, xb_os (by omega) hb, hq _ ha b hb]
        constructor
        · rintro ((x | ⟨x1, x2, k', x3, x4⟩) | x)
          · exact Or.inl x
          · exact Or.inr ⟨x1, x2, k', by omega, x4⟩
          · exact Or.inr ⟨rfl, by omega, k, by omega, x⟩
        · rintro (x | ⟨x1, x2, k', x3, x4⟩)
          · exact Or.inl (Or.inl x)
          · rcases Nat.lt_or_ge k' k with w | w
            · exact Or.inl (Or.inr ⟨x1, x2, k', w, x4⟩)
            · have e : k' = k := by omega
              subst e
              exact Or.inr x4
      · rw [pk_un y, hq a ha b hb]
        exact ⟨fun x => x.imp id fun w => absurd w.1.symm y, fun x => x.imp id fun w => absurd w.1.symm y⟩
theorem xr_rc {post : Int32 → Prop} {a b : Nat} {R : Prop} (ha : a < 6) (hb : b < 32) (hR : bt (aR a) b = true ↔ R) (H : post (bz_I R)) : wpX_reaches post (xN, xT, xB, xR, xS, xE, xL, xA, xG, xC, xF, aL, aN, aS, aR, aM, aK, aT, aE) (nI a) (nI b) := by
  refine ⟨vp_in_nI ha (by decide), ek_if (d := R) (by rw [nI_clamp (by omega)]; exact Iff.trans (xb_t hb _) hR) (fun z => ?_) (fun z => ?_)⟩
  · exact bz_p1 H z
  · exact bz_p0 H z
theorem xr_80 {post : St2 → Prop} {J70 : Int32 → (Nat → Int32) → (Nat → Int32) → (Nat → Int32) → (Nat → Int32) → (Nat → Int32) → (Nat → Int32) → (Nat → Int32) → (Nat → Int32) →  Prop} {k : Nat} {E : Nat → Nat → Prop} (hN : N ≤ 6) (hk : k < N)
    (hJ : ∀ q, rr_X N q (ws_W E (k + 1)) → J70 (nI (k + 1)) aL aN aS q aM aK aT aE) :
    ∀ d a q, a + d = N → rr_X N q (fun a' b => (a' < a ∧ ws_W E (k + 1) a' b) ∨ (a ≤ a' ∧ ws_W E k a' b)) → wX_findReached_80 post J70 (nI k) (nI N) xT xB xR xS xE xL xA xG xC xF (d + 1) (nI a) aL aN aS q aM aK aT aE := by
  intro d
  induction d with
  | zero =>
    intro a q ha hq
    refine br_t (nI_le (by omega) (by omega)) (nm_r (nI_1 k) (hJ q fun a' ha' b hb => Iff.trans (hq a' ha' b hb) ?_))
    exact ⟨fun x => x.elim (fun y => y.2) (fun y => by omega), fun x => Or.inl ⟨by omega, x⟩⟩
  | succ d ih =>
    intro a q ha hq
    have hrow : ∀ b, b < 32 → (bt (q a) b = true ↔ ws_W E k a b) := fun b hb => Iff.trans (hq a (by omega) b hb) ⟨fun x => x.elim (fun y => by omega) (fun y => y.2), fun x => Or.inr ⟨Nat.le_refl a, x⟩⟩
    have hmid : ∀ b, b < 32 → (bt (q k) b = true ↔ ws_W E k k b) := fun b hb => Iff.trans (hq k hk b hb) ⟨fun x => x.elim (fun y => ws_r.mp y.2) (fun y => y.2), fun x => by
      rcases Nat.lt_or_ge k a with z | z
      · exact Or.inl ⟨z, ws_r.mpr x⟩
      · exact Or.inr ⟨z, x⟩⟩
    have step : ∀ q', (∀ b, b < 32 → (bt (q' a) b = true ↔ ws_W E (k + 1) a b)) → (∀ a', a' ≠ a → q' a' = q a') → rr_X N q' (fun a' b => (a' < a + 1 ∧ ws_W E (k + 1) a' b) ∨ (a + 1 ≤ a' ∧ ws_W E k a' b)) := by
      intro q' h1 h2 a' ha' b hb
      by_cases z : a' = a
      · subst z
        exact Iff.trans (h1 b hb) ⟨fun x => Or.inl ⟨by omega, x⟩, fun x => x.elim (fun y => y.2) (fun y => by omega)⟩
      · rw [h2 a' z]
        refine Iff.trans (hq a' ha' b hb) (or_congr (and_congr ?_ Iff.rfl) (and_congr ?_ Iff.rfl)) <;> omega
    refine br_f (nI_ge (by omega) (by omega)) (xr_rc (by omega) (by omega) (hrow k (by omega)) (bz_br rfl (fun z => nm_r (nI_1 a) (ih (a + 1) q (by omega) (step q (fun b hb => Iff.trans (hrow b hb) ⟨Or.inl, fun x => x.elim id fun y => absurd y.1 z⟩) fun _ _ => rfl))) (fun z => ?_)))
    refine ⟨vp_in_nI (by omega) (by decide), vp_in_nI (by omega) (by decide), vp_in_nI (by omega) (by decide), nm_r (e' := upd q a (q a ||| q k)) (by rw [nI_clamp (by omega), nI_clamp (by omega)]) (nm_r (nI_1 a) (ih (a + 1) _ (by omega) (step _ (fun b hb => ?_) fun a' h => pk_un h)))⟩
    rw [pk_us, xb_or, hrow b hb, hmid b hb]
    exact ⟨fun x => x.imp id fun y => ⟨z, y⟩, fun x => x.imp id fun y => y.2⟩
theorem xr_70 {post : St2 → Prop} {E : Nat → Nat → Prop} (hN : N ≤ 6) (H : ∀ q, rr_X N q (ws_W E N) → post (nI N, xT, xB, xR, xS, xE, xL, xA, xG, xC, xF, aL, aN, aS, q, aM, aK, aT, aE)) :
    ∀ d k q, k + d = N → rr_X N q (ws_W E k) → wX_findReached_70 post (nI N) xT xB xR xS xE xL xA xG xC xF (d + 1) (nI k) aL aN aS q aM aK aT aE := by
  intro d
  induction d with
  | zero =>
    intro k q hk hq
    have e : k = N := by omega
    subst e
    exact br_t (nI_le (Nat.le_refl _) (by omega)) (H q hq)
  | succ d ih =>
    intro k q hk hq
    exact br_f (nI_ge (by omega) (by omega)) ⟨N + 1, xr_80 hN (by omega) (fun q' hq' => ih (k + 1) q' (by omega) hq') N 0 q (by omega) (fun a ha b hb => Iff.trans (hq a ha b hb) ⟨fun x => Or.inr ⟨Nat.zero_le a, x⟩, fun x => x.elim (fun y => absurd y.1 (Nat.not_lt_zero a)) (fun y => y.2)⟩)⟩
theorem xr_2 {post : St2 → Prop} (hN : N ≤ 6) (h8 : g.1 ≤ 8) (hg : gw_X 0 g aL aN aS) (hE : gw_E N g) (H : ∀ q, rr_X N q (ws_W (ed_E g g.1) N) → post (nI N, xT, xB, nI g.1, xS, xE, xL, xA, xG, xC, xF, aL, aN, aS, q, aM, aK, aT, aE)) :
    ∀ d r q, r + d = g.1 → rr_X N q (ed_E g r) → wX_findReached_2 post (nI N) xT xB (nI g.1) xS xE xL xA xG xC xF (d + 1) (nI r) aL aN aS q aM aK aT aE := by
  intro d
  induction d with
  | zero =>
    intro r q hr hq
    have e : r = g.1 := by omega
    subst e
    exact br_t (nI_le (Nat.le_refl _) (by omega)) ⟨N + 1, xr_70 hN H N 0 q (by omega) hq⟩
  | succ d ih =>
    intro r q hr hq
    exact br_f (nI_ge (by omega) (by omega)) ⟨g.2.2.1 r + 1, xr_12 hN h8 hg hE (by omega) (fun q' hq' => ih (r + 1) q' (by omega) hq') (g.2.2.1 r) 0 q (by omega) (fun a ha b hb => Iff.trans (hq a ha b hb) ⟨Or.inl, fun x => x.elim id fun ⟨_, _, k', y, _⟩ => absurd y (Nat.not_lt_zero k')⟩)⟩
theorem xr_F {post : St2 → Prop} (hN : N ≤ 6) (h8 : g.1 ≤ 8) (hg : gw_X 0 g aL aN aS) (hE : gw_E N g) (h0 : ∀ a, a < 6 → aR a = 0) (H : ∀ q, rr_X N q (ws_W (ed_E g g.1) N) → post (nI N, xT, xB, nI g.1, xS, xE, xL, xA, xG, xC, xF, aL, aN, aS, q, aM, aK, aT, aE)) : wpX_findReached post (nI N, xT, xB, nI g.1, xS, xE, xL, xA, xG, xC, xF, aL, aN, aS, aR, aM, aK, aT, aE) :=
  ⟨g.1 + 1, xr_2 hN h8 hg hE H g.1 0 aR (by omega) fun a ha b hb => by
    rw [h0 a (by omega), b_0]
    exact ⟨fun x => absurd x (by decide), fun ⟨r, k, x, _⟩ => absurd x (Nat.not_lt_zero r)⟩⟩
theorem xm_2 {post : Int32 → Prop} {R : Nat → Nat → Prop} {a : Nat} (hN : N ≤ 6) (ha : a < N) (hR : rr_X N aR R) (H : post (nI (mt_N R a))) :
    ∀ d b, b + d = a → mt_f R a b = a → wX_smallestMate_2 post (nI a) xN xT xB xR xS xE xL xA xG xC xF aL aN aS aR aM aK aT aE (d + 1) (nI b) := by
  intro d
  induction d with
  | zero =>
    intro b hb hm
    have e : b = a := by omega
    subst e
    unfold mt_N at H
    rw [hm] at H
    exact br_t (nI_le (Nat.le_refl _) (by omega)) H
  | succ d ih =>
    intro b hb hm
    have nx : ¬ (R a b ∧ R b a) → wX_smallestMate_2 post (nI a) xN xT xB xR xS xE xL xA xG xC xF aL aN aS aR aM aK aT aE (d + 1) (nI (b + 1)) := fun z => ih (b + 1) (by omega) (by rw [mt_n (fun y => z y.2)]; exact hm)
    refine br_f (nI_ge (by omega) (by omega)) (xr_rc (by omega) (by omega) (hR a ha b (by omega)) (bz_br rfl (fun z => nm_r (nI_1 b) (nx fun y => z y.1)) (fun z => ?_)))
    refine xr_rc (by omega) (by omega) (hR b (by omega) a (by omega)) (bz_br rfl (fun z2 => nm_r (nI_1 b) (nx fun y => z2 y.2)) (fun z2 => ?_))
    rw [mt_fst (by omega) ⟨hm, z, z2⟩] at H
    exact H
theorem xm_M {post : Int32 → Prop} {R : Nat → Nat → Prop} {a : Nat} (hN : N ≤ 6) (ha : a < N) (hR : rr_X N aR R) (H : post (nI (mt_N R a))) : wpX_smallestMate post (xN, xT, xB, xR, xS, xE, xL, xA, xG, xC, xF, aL, aN, aS, aR, aM, aK, aT, aE) (nI a) :=
  ⟨a + 1, xm_2 hN ha hR H a 0 (by omega) rfl⟩
theorem mt_lt {R : Nat → Nat → Prop} {a : Nat} : mt_N R a ≤ a := mt_le a (Nat.le_refl a)
theorem xm_4 {post : Int32 → St2 → Prop} {R : Nat → Nat → Prop} (hN : N ≤ 6) (hR : rr_X N aR R) (H : ∀ q, (∀ a, a < N → q a = nI (mt_N R a)) → post (nI (cn (fun a => mt_N R a = a) N)) (nI N, xT, xB, xR, xS, xE, xL, xA, xG, xC, xF, aL, aN, aS, aR, q, aK, aT, aE)) :
    ∀ d a q, a + d = N → (∀ a', a' < a → q a' = nI (mt_N R a')) → wX_nameSets_4 post (nI N) xT xB xR xS xE xL xA xG xC xF (d + 1) (nI (cn (fun a => mt_N R a = a) a)) (nI a) aL aN aS aR q aK aT aE := by
  intro d
  induction d with
  | zero =>
    intro a q ha hq
    have e : a = N := by omega
    subst e
    exact br_t (nI_le (Nat.le_refl _) (by omega)) (H q hq)
  | succ d ih =>
    intro a q ha hq
    have hm := mt_lt (R := R) (a := a)
    have hq' : ∀ a', a' < a + 1 → upd q a (nI (mt_N R a)) a' = nI (mt_N R a') := fun a' h => by
      by_cases z : a' = a
      · subst z; rw [pk_us]
      · rw [pk_un z]; exact hq a' (by omega)
    have := ih (a + 1) _ (by omega) hq'
    refine br_f (nI_ge (by omega) (by omega)) (xm_M hN (by omega) hR ⟨vp_in_nI (by omega) (by decide), nm_r (e' := upd q a (nI (mt_N R a))) (by rw [nI_clamp (by omega)]) ⟨vp_in_nI (by omega) (by decide), pk_eq (mt_N R a) a (fun z => ?_) (fun z => ?_) (by rw [nI_clamp (by omega), pk_us]) rfl⟩⟩)
    · rw [cn, b01_t z] at this
      exact nm_r (nI_1 _) (nm_r (nI_1 a) this)
    · rw [cn, b01_f z] at this
      exact nm_r (nI_1 a) this
theorem xm_S {post : Int32 → St2 → Prop} {R : Nat → Nat → Prop} (hN : N ≤ 6) (hR : rr_X N aR R) (H : ∀ q, (∀ a, a < N → q a = nI (mt_N R a)) → post (nI (cn (fun a => mt_N R a = a) N)) (nI N, xT, xB, xR, xS, xE, xL, xA, xG, xC, xF, aL, aN, aS, aR, q, aK, aT, aE)) : wpX_nameSets post (nI N, xT, xB, xR, xS, xE, xL, xA, xG, xC, xF, aL, aN, aS, aR, aM, aK, aT, aE) :=
  ⟨N + 1, xm_4 hN hR H N 0 aM (by omega) (fun a h => absurd h (Nat.not_lt_zero a))⟩
/-- names: below 6 -/
def sn_R (N : Nat) (m : Nat → Nat) (aM : Nat → Int32) : Prop := ∀ a, a < N → aM a = nI (m a) ∧ m a < 6
end xbs
end
section
/-! X: members, kinds -/
section xks
variable {xN xT xB xR xS xE xL xA xG xC xF : Int32} {aL aN aS aR aM aK aT aE : Nat → Int32}
variable {N r : Nat} {g : gm_G} {m : Nat → Nat}
theorem xk_I {post : Int32 → Prop} {k : Nat} (hN : N ≤ 6) (h8 : g.1 ≤ 8) (hg : gw_X 0 g aL aN aS) (hE : gw_E N g) (hm : sn_R N m aM) (hr : r < g.1) (hk : k < g.2.2.1 r) (H : post (bz_I (mb_P g m r k))) : wpX_isMember post (xN, xT, xB, xR, xS, xE, xL, xA, xG, xC, xF, aL, aN, aS, aR, aM, aK, aT, aE) (nI r) (nI k) := by
  obtain ⟨h1, h2, h3, h4, h5⟩ := gw_X0 hg hr
  obtain ⟨e1, e2, e3⟩ := hE r hr
  have eL : aL (nI r).toNatClampNeg = nI (g.2.1 r) := by rw [nI_clamp (by omega)]; exact h1
  have hs := h5 k hk
  have hsN := e3 k hk
  refine ⟨pk_in (r * 5 + k) 170 (by omega) (xp_ix5 r k), nm_r (e' := nI (g.2.2.2 r k)) (by rw [xp_ix5, nI_clamp (by omega)]; exact hs.1) (pk_le 6 (g.2.2.2 r k) (fun z => ?_) (fun z => ?_) rfl rfl (by decide) (by omega))⟩
  · exact bz_p0 H (fun y => by have := y.1; omega)
  · have m1 := hm (g.2.2.2 r k) (by omega)
    have m2 := hm (g.2.1 r) e1
    refine ⟨vp_in_nI z (by decide), vp_in_nI (by omega) (by decide), pk_in (g.2.1 r) 6 (by omega) eL, pk_eq (m (g.2.2.2 r k)) (m (g.2.1 r)) (fun y => ?_) (fun y => ?_) (by rw [nI_clamp (by omega)]; exact m1.1) (by rw [eL, nI_clamp (by omega)]; exact m2.1) (by have := m1.2; omega) (by have := m2.2; omega)⟩
    · exact bz_p1 H ⟨z, y⟩
    · exact bz_p0 H (fun w => y w.2)
theorem xk_4 {post : Int32 → Prop} (hN : N ≤ 6) (h8 : g.1 ≤ 8) (hg : gw_X 0 g aL aN aS) (hE : gw_E N g) (hm : sn_R N m aM) (hr : r < g.1) (H : post (nI (mb_c g m r (g.2.2.1 r)))) :
    ∀ d k, k + d = g.2.2.1 r → wX_countMembers_4 post (nI r) xN xT xB xR xS xE xL xA xG xC xF aL aN aS aR aM aK aT aE (d + 1) (nI (mb_c g m r k)) (nI k) := by
  obtain ⟨h1, h2, h3, h4, h5⟩ := gw_X0 hg hr
  have eN : aN (nI r).toNatClampNeg = nI (g.2.2.1 r) := by rw [nI_clamp (by omega)]; exact h3
  intro d
  induction d with
  | zero =>
    intro k hk
    have e : k = g.2.2.1 r := by omega
    subst e
    exact ⟨vp_in_nI (by omega) (by decide), br_t (by rw [eN]; exact nI_le (Nat.le_refl _) (by omega)) H⟩
  | succ d ih =>
    intro k hk
    have := ih (k + 1) (by omega)
    refine ⟨vp_in_nI (by omega) (by decide), br_f (by rw [eN]; exact nI_ge (by omega) (by omega)) (xk_I hN h8 hg hE hm hr (by omega) (bz_br rfl (fun z => ?_) (fun z => ?_)))⟩
    · rw [mb_f z] at this
      exact nm_r (nI_1 k) this
    · rw [mb_t z] at this
      exact nm_r (nI_1 _) (nm_r (nI_1 k) this)
theorem xk_C {post : Int32 → Prop} (hN : N ≤ 6) (h8 : g.1 ≤ 8) (hg : gw_X 0 g aL aN aS) (hE : gw_E N g) (hm : sn_R N m aM) (hr : r < g.1) (H : post (nI (mb_c g m r (g.2.2.1 r)))) : wpX_countMembers post (xN, xT, xB, xR, xS, xE, xL, xA, xG, xC, xF, aL, aN, aS, aR, aM, aK, aT, aE) (nI r) :=
  ⟨g.2.2.1 r + 1, xk_4 hN h8 hg hE hm hr H (g.2.2.1 r) 0 (by omega)⟩
theorem xk_87 {post : Int32 → Prop} {J10 : Int32 → Int32 → Int32 → Int32 → Prop} {x1 x2 z0 : Int32} {Q : Prop} (hN : N ≤ 6) (h8 : g.1 ≤ 8) (hg : gw_X 0 g aL aN aS) (hE : gw_E N g) (hm : sn_R N m aM) (hr : r < g.1) (hc : 0 < mb_c g m r (g.2.2.1 r))
    (hJ : J10 x2 z0 (bz_I (Q ∧ mb_c g m r (g.2.2.1 r) = 1 ∧ mb_P g m r 0)) (nI (r + 1))) : wX_kindOfSet_87 post J10 x1 x2 (bz_I Q) (nI r) (nI (mb_c g m r (g.2.2.1 r))) z0 xN xT xB xR xS xE xL xA xG xC xF aL aN aS aR aM aK aT aE := by
  obtain ⟨h1, h2, h3, h4, h5⟩ := gw_X0 hg hr
  have hle := mb_le (g := g) (m := m) (r := r) (k := g.2.2.1 r)
  have no : ¬ (Q ∧ mb_c g m r (g.2.2.1 r) = 1 ∧ mb_P g m r 0) → J10 x2 z0 0 (nI (r + 1)) := fun z => by rw [bz_f z] at hJ; exact hJ
  refine bz_br rfl (fun z => nm_r (nI_1 r) (no fun y => z y.1)) (fun z => pk_eq (mb_c g m r (g.2.2.1 r)) 1 (fun z2 => ?_) (fun z2 => nm_r (nI_1 r) (no fun y => z2 y.2.1)) rfl rfl (by omega) (by decide))
  refine xk_I (k := 0) hN h8 hg hE hm hr (mb_p hc) (bz_br rfl (fun z3 => nm_r (nI_1 r) (no fun y => z3 y.2.2)) (fun z3 => ?_))
  rw [bz_t (P := Q ∧ mb_c g m r (g.2.2.1 r) = 1 ∧ mb_P g m r 0) ⟨z, z2, z3⟩] at hJ
  exact nm_r (nI_1 r) hJ
theorem xk_45 {post : Int32 → Prop} {J10 : Int32 → Int32 → Int32 → Int32 → Prop} {x1 x2 : Int32} {Q1 Q2 : Prop} (hN : N ≤ 6) (h8 : g.1 ≤ 8) (hg : gw_X 0 g aL aN aS) (hE : gw_E N g) (hm : sn_R N m aM) (hr : r < g.1) (hc : 0 < mb_c g m r (g.2.2.1 r))
    (hJ : J10 0 (bz_I (Q1 ∧ mb_c g m r (g.2.2.1 r) = 1 ∧ mb_P g m r (g.2.2.1 r - 1))) (bz_I (Q2 ∧ mb_c g m r (g.2.2.1 r) = 1 ∧ mb_P g m r 0)) (nI (r + 1))) : wX_kindOfSet_45 post J10 x1 x2 (bz_I Q1) (bz_I Q2) (nI r) (nI (mb_c g m r (g.2.2.1 r))) xN xT xB xR xS xE xL xA xG xC xF aL aN aS aR aM aK aT aE := by
  obtain ⟨h1, h2, h3, h4, h5⟩ := gw_X0 hg hr
  have hle := mb_le (g := g) (m := m) (r := r) (k := g.2.2.1 r)
  have eN : aN (nI r).toNatClampNeg = nI (g.2.2.1 r) := by rw [nI_clamp (by omega)]; exact h3
  have no : ¬ (Q1 ∧ mb_c g m r (g.2.2.1 r) = 1 ∧ mb_P g m r (g.2.2.1 r - 1)) → wX_kindOfSet_86 post J10 x1 0 (bz_I Q2) (nI r) (nI (mb_c g m r (g.2.2.1 r))) xN xT xB xR xS xE xL xA xG xC xF aL aN aS aR aM aK aT aE := fun z => by
    rw [bz_f z] at hJ
    exact xk_87 hN h8 hg hE hm hr hc hJ
  refine br_f (nI_nle hc (by omega)) (bz_br rfl (fun z => no fun y => z y.1) (fun z => pk_eq (mb_c g m r (g.2.2.1 r)) 1 (fun z2 => ⟨vp_in_nI (by omega) (by decide), ?_⟩) (fun z2 => no fun y => z2 y.2.1) rfl rfl (by omega) (by decide)))
  rw [eN]
  have hp := mb_p hc
  obtain ⟨l, hl⟩ : ∃ l, g.2.2.1 r = l + 1 := ⟨g.2.2.1 r - 1, by omega⟩
  have e1 : nI (g.2.2.1 r) - 1 = nI (g.2.2.1 r - 1) := by rw [hl, nI_pred]; rfl
  rw [e1]
  refine xk_I (k := g.2.2.1 r - 1) hN h8 hg hE hm hr (by omega) (bz_br rfl (fun z3 => no fun y => z3 y.2.2) (fun z3 => ?_))
  rw [bz_t (P := Q1 ∧ mb_c g m r (g.2.2.1 r) = 1 ∧ mb_P g m r (g.2.2.1 r - 1)) ⟨z, z2, z3⟩] at hJ
  exact xk_87 hN h8 hg hE hm hr hc hJ
theorem xk_10 {post : Int32 → Prop} {s : Nat} (hs : s < 6) (hN : N ≤ 6) (h8 : g.1 ≤ 8) (hg : gw_X 0 g aL aN aS) (hE : gw_E N g) (hm : sn_R N m aM) (H : post (nI (kn_K g m s))) :
    ∀ d r, r + d = g.1 → wX_kindOfSet_10 post (nI s) xN xT xB (nI g.1) xS xE xL xA xG xC xF aL aN aS aR aM aK aT aE (d + 1) (bz_I (¬ kn_A g m s r)) (bz_I (kn_R g m s r)) (bz_I (kn_L g m s r)) (nI r) := by
  intro d
  induction d with
  | zero =>
    intro r hr
    have e : r = g.1 := by omega
    subst e
    refine br_t (nI_le (Nat.le_refl _) (by omega)) (bz_br rfl (fun z => ?_) (fun z => ?_))
    · have z := Classical.byContradiction z
      refine bz_br rfl (fun z1 => bz_br rfl (fun z2 => ?_) (fun z2 => ?_)) (fun z1 => ?_)
      · rw [kn_3 z z1 z2] at H; exact H
      · rw [kn_2 z z1 z2] at H; exact H
      · rw [kn_1 z z1] at H; exact H
    · rw [kn_0 z] at H; exact H
  | succ d ih =>
    intro r hr
    obtain ⟨h1, h2, h3, h4, h5⟩ := gw_X0 hg (r := r) (by omega)
    obtain ⟨e1, e2, e3⟩ := hE r (by omega)
    have m2 := hm (g.2.1 r) e1
    have eL : aL (nI r).toNatClampNeg = nI (g.2.1 r) := by rw [nI_clamp (by omega)]; exact h1
    have ih' := ih (r + 1) (by omega)
    have no : ¬ (m (g.2.1 r) = s ∧ 0 < mb_c g m r (g.2.2.1 r)) → wX_kindOfSet_45 post (wX_kindOfSet_10 post (nI s) xN xT xB (nI g.1) xS xE xL xA xG xC xF aL aN aS aR aM aK aT aE (d + 1)) (nI s) (bz_I (¬ kn_A g m s r)) (bz_I (kn_R g m s r)) (bz_I (kn_L g m s r)) (nI r) 0 xN xT xB (nI g.1) xS xE xL xA xG xC xF aL aN aS aR aM aK aT aE := fun z => by
      rw [bz_c (P := ¬ kn_A g m s (r + 1)) (Q := ¬ kn_A g m s r) (not_congr (kn_As.trans ⟨fun y => y.elim id fun w => absurd w z, Or.inl⟩)), bz_c (P := kn_R g m s (r + 1)) (Q := kn_R g m s r) (kn_Rs.trans ⟨And.left, fun y => ⟨y, fun w1 w2 => absurd ⟨w1, w2⟩ z⟩⟩), bz_c (P := kn_L g m s (r + 1)) (Q := kn_L g m s r) (kn_Ls.trans ⟨And.left, fun y => ⟨y, fun w1 w2 => absurd ⟨w1, w2⟩ z⟩⟩)] at ih'
      exact br_t (by decide) (nm_r (nI_1 r) ih')
    refine br_f (nI_ge (by omega) (by omega)) ⟨vp_in_nI (by omega) (by decide), pk_in (g.2.1 r) 6 (by omega) eL, pk_eq (m (g.2.1 r)) s (fun z => ?_) (fun z => no fun y => z y.1) (by rw [eL, nI_clamp (by omega)]; exact m2.1) rfl (by have := m2.2; omega) (by omega)⟩
    refine xk_C hN h8 hg hE hm (by omega) ?_
    rcases Nat.eq_zero_or_pos (mb_c g m r (g.2.2.1 r)) with y | y
    · rw [y]; exact no fun w => by have := w.2; omega
    · refine xk_45 hN h8 hg hE hm (by omega) y ?_
      rw [bz_f (P := ¬ kn_A g m s (r + 1)) (fun w => w (kn_As.mpr (Or.inr ⟨z, y⟩))), bz_c (P := kn_R g m s (r + 1)) (kn_Rs.trans (and_congr Iff.rfl ⟨fun w => w z y, fun w _ _ => w⟩)), bz_c (P := kn_L g m s (r + 1)) (kn_Ls.trans (and_congr Iff.rfl ⟨fun w => w z y, fun w _ _ => w⟩))] at ih'
      exact ih'
theorem xk_K {post : Int32 → Prop} {s : Nat} (hs : s < 6) (hN : N ≤ 6) (h8 : g.1 ≤ 8) (hg : gw_X 0 g aL aN aS) (hE : gw_E N g) (hm : sn_R N m aM) (H : post (nI (kn_K g m s))) : wpX_kindOfSet post (xN, xT, xB, nI g.1, xS, xE, xL, xA, xG, xC, xF, aL, aN, aS, aR, aM, aK, aT, aE) (nI s) := by
  have := xk_10 (xN := xN) (xT := xT) (xB := xB) (xS := xS) (xE := xE) (xL := xL) (xA := xA) (xG := xG) (xC := xC) (xF := xF) (aR := aR) (aK := aK) (aT := aT) (aE := aE) hs hN h8 hg hE hm H g.1 0 (by omega)
  rw [bz_t (P := ¬ kn_A g m s 0) kn_A0, bz_t (P := kn_R g m s 0) kn_R0, bz_t (P := kn_L g m s 0) kn_L0] at this
  exact ⟨g.1 + 1, this⟩
theorem xk_2 {post : St2 → Prop} (hN : N ≤ 6) (h8 : g.1 ≤ 8) (hg : gw_X 0 g aL aN aS) (hE : gw_E N g) (hm : sn_R N m aM) (H : ∀ q, (∀ a, a < N → q a = nI (kn_K g m (m a))) → post (nI N, xT, xB, nI g.1, xS, xE, xL, xA, xG, xC, xF, aL, aN, aS, aR, aM, q, aT, aE)) :
    ∀ d a q, a + d = N → (∀ a', a' < a → q a' = nI (kn_K g m (m a'))) → wX_findKinds_2 post (nI N) xT xB (nI g.1) xS xE xL xA xG xC xF (d + 1) (nI a) aL aN aS aR aM q aT aE := by
  intro d
  induction d with
  | zero =>
    intro a q ha hq
    have e : a = N := by omega
    subst e
    exact br_t (nI_le (Nat.le_refl _) (by omega)) (H q hq)
  | succ d ih =>
    intro a q ha hq
    have m2 := hm a (by omega)
    refine br_f (nI_ge (by omega) (by omega)) ⟨vp_in_nI (by omega) (by decide), ?_⟩
    rw [nI_clamp (by omega), m2.1]
    refine xk_K m2.2 hN h8 hg hE hm ⟨vp_in_nI (by omega) (by decide), nm_r (e' := upd q a (nI (kn_K g m (m a)))) rfl (nm_r (nI_1 a) (ih (a + 1) _ (by omega) fun a' h => ?_))⟩
    by_cases z : a' = a
    · subst z; rw [pk_us]
    · rw [pk_un z]; exact hq a' (by omega)
theorem xk_F {post : St2 → Prop} (hN : N ≤ 6) (h8 : g.1 ≤ 8) (hg : gw_X 0 g aL aN aS) (hE : gw_E N g) (hm : sn_R N m aM) (H : ∀ q, (∀ a, a < N → q a = nI (kn_K g m (m a))) → post (nI N, xT, xB, nI g.1, xS, xE, xL, xA, xG, xC, xF, aL, aN, aS, aR, aM, q, aT, aE)) : wpX_findKinds post (nI N, xT, xB, nI g.1, xS, xE, xL, xA, xG, xC, xF, aL, aN, aS, aR, aM, aK, aT, aE) :=
  ⟨N + 1, xk_2 hN h8 hg hE hm H N 0 aK (by omega) (fun a h => absurd h (Nat.not_lt_zero a))⟩
end xks
end
section
/-! X: the rewritten grammar -/
def xw_I (g h : gm_G) (aL aN aS : Nat → Int32) : Prop := gw_X 0 g aL aN aS ∧ gw_X 8 h aL aN aS
theorem xw_6 (a : Nat) : (6 : Int32) + nI a = nI (6 + a) := nI_add 6 a
section xws
variable {xN xT xB xR xS xE xL xA xG xC xF : Int32} {aL aN aS aR aM aK aT aE : Nat → Int32}
variable {N r : Nat} {g h : gm_G} {m kd : Nat → Nat}
theorem xa_S {post : St2 → Prop} {q l : Nat} {p1 : Int32} (hq : q < 34) (hl : l ≤ 4) (eN : aN q = nI l) (H : post (xN, xT, xB, xR, xS, xE, xL, xA, xG, xC, xF, aL, upd aN q (nI (l + 1)), upd aS (q * 5 + l) p1, aR, aM, aK, aT, aE)) : wpX_appendSymbol post (xN, xT, xB, xR, xS, xE, xL, xA, xG, xC, xF, aL, aN, aS, aR, aM, aK, aT, aE) (nI q) p1 := by
  have eN' : aN (nI q).toNatClampNeg = nI l := by rw [nI_clamp (by omega)]; exact eN
  refine ⟨vp_in_nI hq (by decide), pk_in (q * 5 + l) 170 (by omega) (by rw [eN', xp_ix5]), nm_r (e' := upd aS (q * 5 + l) p1) (by rw [eN', xp_ix5, nI_clamp (by omega)]) ⟨vp_in_nI hq (by decide), vp_in_nI hq (by decide), nm_r (e' := upd aN q (nI (l + 1))) (by rw [eN', nI_clamp (by omega), nI_1]) H⟩⟩
theorem xw_st {post : St2 → Prop} {a : Nat} (h8 : g.1 ≤ 8) (ha : a < 12) (hl : h.1 < 26) (hI : xw_I g h aL aN aS) (H : ∀ l n, xw_I g (gm_st h a) l n aS → post (xN, xT, xB, xR, xS, nI (8 + (h.1 + 1)), xL, xA, xG, xC, xF, l, n, aS, aR, aM, aK, aT, aE)) : wpX_startRewritten post (xN, xT, xB, xR, xS, nI (8 + h.1), xL, xA, xG, xC, xF, aL, aN, aS, aR, aM, aK, aT, aE) (nI a) := by
  refine ⟨vp_in_nI (by omega) (by decide), nm_r (e' := upd aL (8 + h.1) (nI a)) (by rw [nI_clamp (by omega)]) ⟨vp_in_nI (by omega) (by decide), nm_r (e' := upd aN (8 + h.1) 0) (by rw [nI_clamp (by omega)]) (nm_r (e' := nI (8 + (h.1 + 1))) (nI_1 (8 + h.1)) (H _ _ ⟨?_, gw_Xst hI.2 rfl ha (by omega)⟩))⟩⟩
  exact gw_Xfr hI.1 h8 (fun r hr => ⟨pk_un (by omega), pk_un (by omega)⟩) (fun _ _ => rfl)
theorem xw_pu {post : St2 → Prop} {s q : Nat} (h8 : g.1 ≤ 8) (hq : h.1 = q + 1) (hs : s < 16) (h4 : h.2.2.1 q ≤ 4) (hI : xw_I g h aL aN aS) (H : ∀ n t, xw_I g (gm_pu h s) aL n t → post (xN, xT, xB, xR, xS, nI (8 + h.1), xL, xA, xG, xC, xF, aL, n, t, aR, aM, aK, aT, aE)) : wpX_appendSymbol post (xN, xT, xB, xR, xS, nI (8 + h.1), xL, xA, xG, xC, xF, aL, aN, aS, aR, aM, aK, aT, aE) (nI (8 + h.1) - 1) (nI s) := by
  have e0 : nI (8 + h.1) - 1 = nI (8 + q) := by rw [hq]; exact nI_pred (8 + q)
  have h34 := hI.2.1
  have eN := (hI.2.2 q (by omega)).2.2.1
  rw [e0]
  refine xa_S (by omega) h4 eN (H _ _ ⟨gw_Xfr hI.1 h8 (fun r hr => ⟨rfl, pk_un (by omega)⟩) (fun c hc => pk_un (by omega)), gw_Xpu hI.2 hq rfl rfl hs h4⟩)
theorem xw_19 {post : St2 → Prop} (hN : N ≤ 6) (h8 : g.1 ≤ 8) (hE : gw_E N g) (hm : sn_R N m aM) (hr : r < g.1) (hk3 : kd (g.2.1 r) = 3) (hz : h.1 + g.2.2.1 r < 24)
    (H : ∀ l n t, xw_I g (gz_f g kd r (gz_p g m kd r h (g.2.2.1 r))) l n t → post (xN, xT, xB, xR, xS, nI (8 + (gz_f g kd r (gz_p g m kd r h (g.2.2.1 r))).1), xL, xA, xG, xC, xF, l, n, t, aR, aM, aK, aT, aE)) :
    ∀ d k aL aN aS, k + d = g.2.2.1 r → xw_I g (gz_p g m kd r h k) aL aN aS → wX_splitRule_19 post (nI r) (nI (g.2.2.1 r)) (d + 1) (nI k) xN xT xB xR xS (nI (8 + (gz_p g m kd r h k).1)) xL xA xG xC xF aL aN aS aR aM aK aT aE := by
  obtain ⟨e1, e2, e3⟩ := hE r hr
  intro d
  induction d with
  | zero =>
    intro k aL aN aS hk hI
    have e : k = g.2.2.1 r := by omega
    subst e
    obtain ⟨q, q1, q2, q3, _⟩ := gz_pz (g := g) (m := m) (kd := kd) (r := r) (h := h) (g.2.2.1 r)
    have eL : aL (nI r).toNatClampNeg = nI (g.2.1 r) := by rw [nI_clamp (by omega)]; exact (gw_X0 hI.1 hr).1
    refine br_t (nI_le (Nat.le_refl _) (by omega)) ⟨vp_in_nI (by omega) (by decide), ?_⟩
    rw [eL, xw_6]
    rw [gz_ft hk3] at H
    exact xw_pu h8 q1 (by omega) (by omega) hI fun n t hI' => H aL n t hI'
  | succ d ih =>
    intro k aL aN aS hk hI
    obtain ⟨q, q1, q2, q3, _⟩ := gz_pz (g := g) (m := m) (kd := kd) (r := r) (h := h) k
    have hs := (gw_X0 hI.1 hr).2.2.2.2 k (by omega)
    refine br_f (nI_ge (by omega) (by omega)) ⟨pk_in (r * 5 + k) 170 (by omega) (xp_ix5 r k), nm_r (e' := nI (g.2.2.2 r k)) (by rw [xp_ix5, nI_clamp (by omega)]; exact hs.1) ?_⟩
    refine xw_pu h8 q1 hs.2 (by omega) hI fun n t hI' => xk_I hN h8 hI'.1 hE hm hr (by omega) (bz_br rfl (fun z => ?_) (fun z => ?_))
    · have := ih (k + 1) aL n t (by omega)
      rw [gz_pf (fun y => z y.2)] at this
      exact nm_r (nI_1 k) (this hI')
    · rw [xw_6]
      refine xw_st (h := gm_pu (gz_p g m kd r h k) (g.2.2.2 r k)) h8 (by have := z.1; omega) (by show (gz_p g m kd r h k).1 < 26; omega) hI' fun l n' hI'' => ?_
      have := ih (k + 1) l n' t (by omega)
      rw [gz_pt ⟨hk3, z⟩] at this
      exact nm_r (nI_1 k) (this hI'')
theorem xw_S {post : St2 → Prop} (hN : N ≤ 6) (h8 : g.1 ≤ 8) (hE : gw_E N g) (hm : sn_R N m aM) (hr : r < g.1) (hk3 : kd (g.2.1 r) = 3) (hz : h.1 + g.2.2.1 r < 24) (hI : xw_I g h aL aN aS)
    (H : ∀ l n t, xw_I g (gz_f g kd r (gz_p g m kd r h (g.2.2.1 r))) l n t → post (xN, xT, xB, xR, xS, nI (8 + (gz_f g kd r (gz_p g m kd r h (g.2.2.1 r))).1), xL, xA, xG, xC, xF, l, n, t, aR, aM, aK, aT, aE)) : wpX_splitRule post (xN, xT, xB, xR, xS, nI (8 + h.1), xL, xA, xG, xC, xF, aL, aN, aS, aR, aM, aK, aT, aE) (nI r) := by
  obtain ⟨h1, h2, h3, h4, h5⟩ := gw_X0 hI.1 hr
  refine ⟨vp_in_nI (by omega) (by decide), nm_r (e' := nI (g.2.2.1 r)) (by rw [nI_clamp (by omega)]; exact h3) ⟨vp_in_nI (by omega) (by decide), ?_⟩⟩
  rw [nI_clamp (by omega), h1]
  exact xw_st h8 h2 (by omega) hI fun l n hI' => ⟨g.2.2.1 r + 1, xw_19 hN h8 hE hm hr hk3 hz H (g.2.2.1 r) 0 l n aS (by omega) hI'⟩
theorem xw_c19 {post : St2 → Prop} (h8 : g.1 ≤ 8) (hE : gw_E N g) (hr : r < g.1) (hk3 : ¬ kd (g.2.1 r) = 3) (hz : h.1 + g.2.2.1 r < 24)
    (H : ∀ l n t, xw_I g (gz_f g kd r (gz_p g m kd r h (g.2.2.1 r))) l n t → post (xN, xT, xB, xR, xS, nI (8 + (gz_f g kd r (gz_p g m kd r h (g.2.2.1 r))).1), xL, xA, xG, xC, xF, l, n, t, aR, aM, aK, aT, aE)) :
    ∀ d k aL aN aS, k + d = g.2.2.1 r → xw_I g (gz_p g m kd r h k) aL aN aS → wX_copyRule_19 post (nI r) (nI (g.2.2.1 r)) (d + 1) (nI k) xN xT xB xR xS (nI (8 + (gz_p g m kd r h k).1)) xL xA xG xC xF aL aN aS aR aM aK aT aE := by
  obtain ⟨e1, e2, e3⟩ := hE r hr
  intro d
  induction d with
  | zero =>
    intro k aL aN aS hk hI
    have e : k = g.2.2.1 r := by omega
    subst e
    rw [gz_ff hk3] at H
    exact br_t (nI_le (Nat.le_refl _) (by omega)) (H aL aN aS hI)
  | succ d ih =>
    intro k aL aN aS hk hI
    obtain ⟨q, q1, q2, q3, _⟩ := gz_pz (g := g) (m := m) (kd := kd) (r := r) (h := h) k
    have hs := (gw_X0 hI.1 hr).2.2.2.2 k (by omega)
    refine br_f (nI_ge (by omega) (by omega)) ⟨pk_in (r * 5 + k) 170 (by omega) (xp_ix5 r k), ?_⟩
    rw [xp_ix5, nI_clamp (by omega), hs.1]
    refine xw_pu h8 q1 hs.2 (by omega) hI fun n t hI' => ?_
    have := ih (k + 1) aL n t (by omega)
    rw [gz_pf (fun y => hk3 y.1)] at this
    exact nm_r (nI_1 k) (this hI')
theorem xw_C {post : St2 → Prop} (h8 : g.1 ≤ 8) (hE : gw_E N g) (hr : r < g.1) (hk3 : ¬ kd (g.2.1 r) = 3) (hz : h.1 + g.2.2.1 r < 24) (hI : xw_I g h aL aN aS)
    (H : ∀ l n t, xw_I g (gz_f g kd r (gz_p g m kd r h (g.2.2.1 r))) l n t → post (xN, xT, xB, xR, xS, nI (8 + (gz_f g kd r (gz_p g m kd r h (g.2.2.1 r))).1), xL, xA, xG, xC, xF, l, n, t, aR, aM, aK, aT, aE)) : wpX_copyRule post (xN, xT, xB, xR, xS, nI (8 + h.1), xL, xA, xG, xC, xF, aL, aN, aS, aR, aM, aK, aT, aE) (nI r) := by
  obtain ⟨h1, h2, h3, h4, h5⟩ := gw_X0 hI.1 hr
  refine ⟨vp_in_nI (by omega) (by decide), nm_r (e' := nI (g.2.2.1 r)) (by rw [nI_clamp (by omega)]; exact h3) ⟨vp_in_nI (by omega) (by decide), ?_⟩⟩
  rw [nI_clamp (by omega), h1]
  exact xw_st h8 h2 (by omega) hI fun l n hI' => ⟨g.2.2.1 r + 1, xw_c19 h8 hE hr hk3 hz H (g.2.2.1 r) 0 l n aS (by omega) hI'⟩
theorem xw_46 {post : St2 → Prop} (hN : N ≤ 6) (h8 : g.1 ≤ 8) (h12 : sr_S g.2.2.1 g.1 ≤ 12) (hK : ∀ a, a < N → aK a = nI (kd a) ∧ kd a ≤ 3)
    (H : ∀ l n t, xw_I g (gz_C g m kd N) l n t → post (nI N, xT, xB, xR, xS, nI (8 + (gz_C g m kd N).1), xL, xA, xG, xC, xF, l, n, t, aR, aM, aK, aT, aE)) :
    ∀ d a aL aN aS, a + d = N → xw_I g (gz_C g m kd a) aL aN aS → wX_rewrite_46 post (d + 1) (nI a) (nI N) xT xB xR xS (nI (8 + (gz_C g m kd a).1)) xL xA xG xC xF aL aN aS aR aM aK aT aE := by
  intro d
  induction d with
  | zero =>
    intro a aL aN aS ha hI
    have e : a = N := by omega
    subst e
    exact br_t (nI_le (Nat.le_refl _) (by omega)) (H aL aN aS hI)
  | succ d ih =>
    intro a aL aN aS ha hI
    have hk := hK a (by omega)
    have hz := (gz_Cz (g := g) (m := m) (kd := kd) a).1
    refine br_f (nI_ge (by omega) (by omega)) ⟨vp_in_nI (by omega) (by decide), pk_eq (kd a) 3 (fun z => ?_) (fun z => ?_) (by rw [nI_clamp (by omega)]; exact hk.1) rfl (by omega) (by decide)⟩
    · rw [xw_6]
      refine xw_st h8 (by omega) (by omega) hI fun l n hI' => ?_
      have := ih (a + 1) l n aS (by omega)
      rw [gz_Ct z] at this
      exact nm_r (nI_1 a) (this hI')
    · have := ih (a + 1) aL aN aS (by omega)
      rw [gz_Cf z] at this
      exact nm_r (nI_1 a) (this hI)
theorem xw_2 {post : St2 → Prop} (hN : N ≤ 6) (h8 : g.1 ≤ 8) (h12 : sr_S g.2.2.1 g.1 ≤ 12) (hE : gw_E N g) (hm : sn_R N m aM) (hK : ∀ a, a < N → aK a = nI (kd a) ∧ kd a ≤ 3)
    (H : ∀ l n t, xw_I g (gz_C g m kd N) l n t → post (nI N, xT, xB, nI g.1, xS, nI (8 + (gz_C g m kd N).1), xL, xA, xG, xC, xF, l, n, t, aR, aM, aK, aT, aE)) :
    ∀ d r aL aN aS, r + d = g.1 → xw_I g (gz_B g m kd r) aL aN aS → wX_rewrite_2 post (d + 1) (nI r) (nI N) xT xB (nI g.1) xS (nI (8 + (gz_B g m kd r).1)) xL xA xG xC xF aL aN aS aR aM aK aT aE := by
  intro d
  induction d with
  | zero =>
    intro r aL aN aS hr hI
    have e : r = g.1 := by omega
    subst e
    exact br_t (nI_le (Nat.le_refl _) (by omega)) ⟨N + 1, xw_46 hN h8 h12 hK H N 0 aL aN aS (by omega) hI⟩
  | succ d ih =>
    intro r aL aN aS hr hI
    obtain ⟨h1, h2, h3, h4, h5⟩ := gw_X0 hI.1 (r := r) (by omega)
    obtain ⟨e1, e2, e3⟩ := hE r (by omega)
    have hk := hK (g.2.1 r) e1
    have hz := (gz_Bz (g := g) (m := m) (kd := kd) r).1
    have hsm := sr_m (ln := g.2.2.1) (r := r) (n := g.1) (by omega)
    have eL : aL (nI r).toNatClampNeg = nI (g.2.1 r) := by rw [nI_clamp (by omega)]; exact h1
    refine br_f (nI_ge (by omega) (by omega)) ⟨vp_in_nI (by omega) (by decide), pk_in (g.2.1 r) 6 (by omega) eL, pk_eq (kd (g.2.1 r)) 3 (fun z => ?_) (fun z => ?_) (by rw [eL, nI_clamp (by omega)]; exact hk.1) rfl (by omega) (by decide)⟩
    · exact xw_S hN h8 hE hm (by omega) z (by omega) hI fun l n t hI' => nm_r (nI_1 r) (ih (r + 1) l n t (by omega) hI')
    · exact xw_C (m := m) h8 hE (by omega) z (by omega) hI fun l n t hI' => nm_r (nI_1 r) (ih (r + 1) l n t (by omega) hI')
theorem gz_X8 {aL aN aS : Nat → Int32} : gw_X 8 (gz_B g m kd 0) aL aN aS := ⟨by show 8 + 0 ≤ 34; decide, fun r hr => absurd hr (Nat.not_lt_zero r)⟩
theorem xw_R {post : St2 → Prop} (hN : N ≤ 6) (h8 : g.1 ≤ 8) (h12 : sr_S g.2.2.1 g.1 ≤ 12) (hE : gw_E N g) (hm : sn_R N m aM) (hK : ∀ a, a < N → aK a = nI (kd a) ∧ kd a ≤ 3) (hg : gw_X 0 g aL aN aS)
    (H : ∀ l n t, xw_I g (gz_C g m kd N) l n t → post (nI N, xT, xB, nI g.1, xS, nI (8 + (gz_C g m kd N).1), xL, xA, xG, xC, xF, l, n, t, aR, aM, aK, aT, aE)) : wpX_rewrite post (nI N, xT, xB, nI g.1, xS, nI 8, xL, xA, xG, xC, xF, aL, aN, aS, aR, aM, aK, aT, aE) :=
  ⟨g.1 + 1, xw_2 hN h8 h12 hE hm hK H g.1 0 aL aN aS (by omega) ⟨hg, gz_X8⟩⟩
end xws
end
section
/-! L(G) is a part of L(G2); they are the same where no set is self-embedding -/
/-- h' has h's rows below n -/
def pe_R (n : Nat) (h h' : gm_G) : Prop := n ≤ h'.1 ∧ ∀ r, r < n → h'.2.1 r = h.2.1 r ∧ h'.2.2.1 r = h.2.2.1 r ∧ ∀ k, h'.2.2.2 r k = h.2.2.2 r k
theorem pe_rf {h : gm_G} {n : Nat} (hn : n ≤ h.1) : pe_R n h h := ⟨hn, fun _ _ => ⟨rfl, rfl, fun _ => rfl⟩⟩
theorem pe_tr {n n' : Nat} {h h' h'' : gm_G} (a : pe_R n h h') (b : pe_R n' h' h'') (hn : n ≤ n') : pe_R n h h'' :=
  ⟨Nat.le_trans hn b.1, fun r hr => ⟨((b.2 r (by omega)).1).trans (a.2 r hr).1, ((b.2 r (by omega)).2.1).trans (a.2 r hr).2.1, fun k => ((b.2 r (by omega)).2.2 k).trans ((a.2 r hr).2.2 k)⟩⟩
theorem pe_st {h : gm_G} {a : Nat} : pe_R h.1 h (gm_st h a) :=
  ⟨Nat.le_succ _, fun r hr => ⟨gm_sL' (by omega), gm_sN' (by omega), fun _ => rfl⟩⟩
theorem pe_pu {h : gm_G} {s q : Nat} (hq : h.1 = q + 1) : pe_R q h (gm_pu h s) :=
  ⟨by show q ≤ h.1; omega, fun r hr => ⟨rfl, gm_pN' hq (by omega), fun k => gm_pS' hq (by omega)⟩⟩
section pes
variable {g : gm_G} {m kd : Nat → Nat}
theorem pe_p0 {r : Nat} {h : gm_G} : ∀ k, pe_R h.1 h (gz_p g m kd r h k) ∧ h.1 < (gz_p g m kd r h k).1 := by
  intro k
  induction k with
  | zero => exact ⟨pe_st, Nat.lt_succ_self _⟩
  | succ k ih =>
    obtain ⟨q, q1, _⟩ := gz_pz (g := g) (m := m) (kd := kd) (r := r) (h := h) k
    have h1 : pe_R h.1 h (gm_pu (gz_p g m kd r h k) (g.2.2.2 r k)) := pe_tr ih.1 (pe_pu q1) (by have := ih.2; omega)
    rcases Classical.em (kd (g.2.1 r) = 3 ∧ mb_P g m r k) with z | z
    · rw [gz_pt z]
      exact ⟨pe_tr h1 pe_st (by show h.1 ≤ (gz_p g m kd r h k).1; have := ih.2; omega), by show h.1 < (gz_p g m kd r h k).1 + 1; have := ih.2; omega⟩
    · rw [gz_pf z]
      exact ⟨h1, ih.2⟩
theorem pe_f {r q : Nat} {h : gm_G} (hq : h.1 = q + 1) : pe_R q h (gz_f g kd r h) := by
  rcases Classical.em (kd (g.2.1 r) = 3) with z | z
  · rw [gz_ft z]; exact pe_pu hq
  · rw [gz_ff z]; exact pe_rf (by omega)
theorem pe_p {r : Nat} {h : gm_G} {k q : Nat} (hq : (gz_p g m kd r h k).1 = q + 1) : ∀ d, pe_R q (gz_p g m kd r h k) (gz_p g m kd r h (k + d)) ∧ q < (gz_p g m kd r h (k + d)).1 := by
  intro d
  induction d with
  | zero => exact ⟨pe_rf (by show q ≤ (gz_p g m kd r h k).1; omega), by show q < (gz_p g m kd r h k).1; omega⟩
  | succ d ih =>
    obtain ⟨q', q1, _⟩ := gz_pz (g := g) (m := m) (kd := kd) (r := r) (h := h) (k + d)
    have h1 : pe_R q (gz_p g m kd r h k) (gm_pu (gz_p g m kd r h (k + d)) (g.2.2.2 r (k + d))) := pe_tr ih.1 (pe_pu q1) (by have := ih.2; omega)
    show pe_R q (gz_p g m kd r h k) (gz_p g m kd r h (k + d + 1)) ∧ q < (gz_p g m kd r h (k + d + 1)).1
    rcases Classical.em (kd (g.2.1 r) = 3 ∧ mb_P g m r (k + d)) with z | z
    · rw [gz_pt z]
      exact ⟨pe_tr h1 pe_st (by show q ≤ (gz_p g m kd r h (k + d)).1; have := ih.2; omega), by show q < (gz_p g m kd r h (k + d)).1 + 1; have := ih.2; omega⟩
    · rw [gz_pf z]
      exact ⟨h1, ih.2⟩
theorem pe_B1 (r : Nat) : pe_R (gz_B g m kd r).1 (gz_B g m kd r) (gz_B g m kd (r + 1)) := by
  obtain ⟨q, q1, _⟩ := gz_pz (g := g) (m := m) (kd := kd) (r := r) (h := gz_B g m kd r) (g.2.2.1 r)
  have := pe_p0 (g := g) (m := m) (kd := kd) (r := r) (h := gz_B g m kd r) (g.2.2.1 r)
  exact pe_tr this.1 (pe_f q1) (by have := this.2; omega)
theorem pe_B (r : Nat) : ∀ d, pe_R (gz_B g m kd r).1 (gz_B g m kd r) (gz_B g m kd (r + d)) := by
  intro d
  induction d with
  | zero => exact pe_rf (Nat.le_refl _)
  | succ d ih => exact pe_tr ih (pe_B1 (r + d)) ih.1
theorem pe_C1 (a : Nat) : pe_R (gz_C g m kd a).1 (gz_C g m kd a) (gz_C g m kd (a + 1)) := by
  rcases Classical.em (kd a = 3) with z | z
  · rw [gz_Ct z]; exact pe_st
  · rw [gz_Cf z]; exact pe_rf (Nat.le_refl _)
theorem pe_C (a : Nat) : ∀ d, pe_R (gz_C g m kd a).1 (gz_C g m kd a) (gz_C g m kd (a + d)) := by
  intro d
  induction d with
  | zero => exact pe_rf (Nat.le_refl _)
  | succ d ih => exact pe_tr ih (pe_C1 (a + d)) ih.1
/-- what stands after rule r stands in the end -/
theorem pe_E {r N : Nat} (hr : r < g.1) : pe_R (gz_B g m kd (r + 1)).1 (gz_B g m kd (r + 1)) (gz_C g m kd N) := by
  have a := pe_B (g := g) (m := m) (kd := kd) (r + 1) (g.1 - (r + 1))
  rw [show r + 1 + (g.1 - (r + 1)) = g.1 from by omega] at a
  have b := pe_C (g := g) (m := m) (kd := kd) 0 N
  rw [Nat.zero_add] at b
  exact pe_tr a b a.1
end pes
section sbs
variable {g : gm_G} {m kd : Nat → Nat} {N : Nat} {T : Nat → Nat → Nat → Prop}
/-- a row that stands in G2 gives derivations -/
theorem sb_row {h : gm_G} {q i j : Nat} (hp : pe_R (q + 1) h (gz_C g m kd N)) (h1 : dv_P (fun x => dv_St (dv_D (gz_C g m kd N).1 (gz_C g m kd N).2.1 (gz_C g m kd N).2.2.1 (gz_C g m kd N).2.2.2 T) T (h.2.2.2 q x)) i (h.2.2.1 q) j) : dv_D (gz_C g m kd N).1 (gz_C g m kd N).2.1 (gz_C g m kd N).2.2.1 (gz_C g m kd N).2.2.2 T (h.2.1 q) i j := by
  obtain ⟨e1, e2, e3⟩ := hp.2 q (Nat.lt_succ_self q)
  rw [← e1]
  refine dv_cl q i j (by have := hp.1; omega) ?_
  rw [e2]
  refine dv_P_mono _ _ (fun x a b _ s => ?_) h1
  rw [e3 x]
  exact s
theorem sb_eps {a : Nat} (ha : a < N) (h3 : kd a = 3) (j : Nat) : dv_D (gz_C g m kd N).1 (gz_C g m kd N).2.1 (gz_C g m kd N).2.2.1 (gz_C g m kd N).2.2.2 T (6 + a) j j := by
  have b := pe_C (g := g) (m := m) (kd := kd) (a + 1) (N - (a + 1))
  rw [show a + 1 + (N - (a + 1)) = N from by omega, gz_Ct h3] at b
  have := sb_row (g := g) (m := m) (kd := kd) (N := N) (T := T) (h := gm_st (gz_C g m kd a) (6 + a)) (q := (gz_C g m kd a).1) (i := j) (j := j) b (by rw [gm_sN]; exact rfl)
  rw [gm_sL] at this
  exact this
/-- the relation that the entered rules keep -/
def sb_S (g : gm_G) (m kd : Nat → Nat) (N : Nat) (T : Nat → Nat → Nat → Prop) (a i j : Nat) : Prop :=
  dv_D (gz_C g m kd N).1 (gz_C g m kd N).2.1 (gz_C g m kd N).2.2.1 (gz_C g m kd N).2.2.2 T a i j ∧ (kd a = 3 → ∀ z, dv_D (gz_C g m kd N).1 (gz_C g m kd N).2.1 (gz_C g m kd N).2.2.1 (gz_C g m kd N).2.2.2 T (6 + a) j z → dv_D (gz_C g m kd N).1 (gz_C g m kd N).2.1 (gz_C g m kd N).2.2.1 (gz_C g m kd N).2.2.2 T a i z)
theorem sb_k {r i : Nat} (hr : r < g.1) (hkd : ∀ a b, m a = m b → kd a = kd b) :
    ∀ k p, k ≤ g.2.2.1 r → dv_P (fun k => dv_St (sb_S g m kd N T) T (g.2.2.2 r k)) i k p → ∃ q y, (gz_p g m kd r (gz_B g m kd r) k).1 = q + 1 ∧ dv_P (fun x => dv_St (dv_D (gz_C g m kd N).1 (gz_C g m kd N).2.1 (gz_C g m kd N).2.2.1 (gz_C g m kd N).2.2.2 T) T ((gz_p g m kd r (gz_B g m kd r) k).2.2.2 q x)) y ((gz_p g m kd r (gz_B g m kd r) k).2.2.1 q) p ∧ (∀ z, dv_D (gz_C g m kd N).1 (gz_C g m kd N).2.1 (gz_C g m kd N).2.2.1 (gz_C g m kd N).2.2.2 T ((gz_p g m kd r (gz_B g m kd r) k).2.1 q) y z → dv_D (gz_C g m kd N).1 (gz_C g m kd N).2.1 (gz_C g m kd N).2.2.1 (gz_C g m kd N).2.2.2 T (g.2.1 r) i z) := by
  intro k
  induction k with
  | zero =>
    intro p _ hp
    refine ⟨(gz_B g m kd r).1, i, rfl, ?_, fun z hz => ?_⟩
    · show dv_P _ i ((gm_st (gz_B g m kd r) (g.2.1 r)).2.2.1 (gz_B g m kd r).1) p
      rw [gm_sN]; exact hp
    · have : (gz_p g m kd r (gz_B g m kd r) 0).2.1 (gz_B g m kd r).1 = g.2.1 r := gm_sL
      rw [this] at hz
      exact hz
  | succ k ih =>
    intro p hk hp
    obtain ⟨p', hp1, hp2⟩ := hp
    obtain ⟨q, y, q1, hy, hz⟩ := ih p' (by omega) hp1
    have hup : ∀ w, dv_St (dv_D (gz_C g m kd N).1 (gz_C g m kd N).2.1 (gz_C g m kd N).2.2.1 (gz_C g m kd N).2.2.2 T) T (g.2.2.2 r k) p' w → dv_P (fun x => dv_St (dv_D (gz_C g m kd N).1 (gz_C g m kd N).2.1 (gz_C g m kd N).2.2.1 (gz_C g m kd N).2.2.2 T) T ((gm_pu (gz_p g m kd r (gz_B g m kd r) k) (g.2.2.2 r k)).2.2.2 q x)) y ((gm_pu (gz_p g m kd r (gz_B g m kd r) k) (g.2.2.2 r k)).2.2.1 q) w := by
      intro w hw
      rw [gm_pN q1]
      refine ⟨p', dv_P_mono _ _ (fun x a b hx s => ?_) hy, ?_⟩
      · rw [gm_pS' q1 (by omega)]; exact s
      · dsimp only
        rw [gm_pS q1]; exact hw
    rcases Classical.em (kd (g.2.1 r) = 3 ∧ mb_P g m r k) with z | z
    · rw [gz_pt z]
      refine ⟨(gz_p g m kd r (gz_B g m kd r) k).1, p, rfl, by rw [show (gm_st (gm_pu (gz_p g m kd r (gz_B g m kd r) k) (g.2.2.2 r k)) (6 + g.2.2.2 r k)).2.2.1 (gz_p g m kd r (gz_B g m kd r) k).1 = 0 from gm_sN (g := gm_pu (gz_p g m kd r (gz_B g m kd r) k) (g.2.2.2 r k))]; exact rfl, fun w hw => ?_⟩
      rw [show (gm_st (gm_pu (gz_p g m kd r (gz_B g m kd r) k) (g.2.2.2 r k)) (6 + g.2.2.2 r k)).2.1 (gz_p g m kd r (gz_B g m kd r) k).1 = 6 + g.2.2.2 r k from gm_sL (g := gm_pu (gz_p g m kd r (gz_B g m kd r) k) (g.2.2.2 r k))] at hw
      have hb := z.2.1
      have hS : sb_S g m kd N T (g.2.2.2 r k) p' p := by
        rcases hp2 with ⟨_, x⟩ | ⟨x, _⟩
        · exact x
        · omega
      have hd := hS.2 ((hkd _ _ z.2.2).trans z.1) w hw
      refine hz w ?_
      have hpe : pe_R (q + 1) (gm_pu (gz_p g m kd r (gz_B g m kd r) k) (g.2.2.2 r k)) (gz_C g m kd N) := by
        have a1 : pe_R (q + 1) (gm_pu (gz_p g m kd r (gz_B g m kd r) k) (g.2.2.2 r k)) (gz_p g m kd r (gz_B g m kd r) (k + 1)) := by
          rw [gz_pt z]
          have := pe_st (h := gm_pu (gz_p g m kd r (gz_B g m kd r) k) (g.2.2.2 r k)) (a := 6 + g.2.2.2 r k)
          rw [show (gm_pu (gz_p g m kd r (gz_B g m kd r) k) (g.2.2.2 r k)).1 = q + 1 from q1] at this
          exact this
        have a2 := (pe_p (g := g) (m := m) (kd := kd) (r := r) (h := gz_B g m kd r) (k := k + 1) (q := q + 1) (by rw [gz_pt z]; show (gz_p g m kd r (gz_B g m kd r) k).1 + 1 = _; omega) (g.2.2.1 r - (k + 1)))
        rw [show k + 1 + (g.2.2.1 r - (k + 1)) = g.2.2.1 r from by omega] at a2
        obtain ⟨q', q1', _⟩ := gz_pz (g := g) (m := m) (kd := kd) (r := r) (h := gz_B g m kd r) (g.2.2.1 r)
        have a3 := pe_tr (pe_tr a1 a2.1 (Nat.le_refl _)) (pe_f (g := g) (kd := kd) (r := r) q1') (by have := a2.2; omega)
        have a4 := pe_E (g := g) (m := m) (kd := kd) (N := N) hr
        exact pe_tr a3 a4 (by have := a3.1; exact this)
      exact sb_row (h := gm_pu (gz_p g m kd r (gz_B g m kd r) k) (g.2.2.2 r k)) hpe (hup w (Or.inl ⟨by omega, hd⟩))
    · rw [gz_pf z]
      refine ⟨q, y, q1, hup p (dv_St_mono (fun _ x => x.1) (fun _ t => t) hp2), fun w hw => hz w hw⟩
theorem sb_cl (hkd : ∀ a b, m a = m b → kd a = kd b) (hN : ∀ r, r < g.1 → g.2.1 r < N) (hN6 : ∀ r, r < g.1 → g.2.1 r < 6) : dv_Cl g.1 g.2.1 g.2.2.1 g.2.2.2 T (sb_S g m kd N T) := by
  intro r i j hr hp
  obtain ⟨q, y, q1, hy, hz⟩ := sb_k (N := N) (T := T) hr hkd (g.2.2.1 r) j (Nat.le_refl _) hp
  have a4 := pe_E (g := g) (m := m) (kd := kd) (N := N) hr
  have e0 : gz_B g m kd (r + 1) = gz_f g kd r (gz_p g m kd r (gz_B g m kd r) (g.2.2.1 r)) := rfl
  rcases Classical.em (kd (g.2.1 r) = 3) with z | z
  · rw [e0, gz_ft z, show (gm_pu (gz_p g m kd r (gz_B g m kd r) (g.2.2.1 r)) (6 + g.2.1 r)).1 = q + 1 from q1] at a4
    have key : ∀ w, dv_D (gz_C g m kd N).1 (gz_C g m kd N).2.1 (gz_C g m kd N).2.2.1 (gz_C g m kd N).2.2.2 T (6 + g.2.1 r) j w → dv_D (gz_C g m kd N).1 (gz_C g m kd N).2.1 (gz_C g m kd N).2.2.1 (gz_C g m kd N).2.2.2 T (g.2.1 r) i w := by
      intro w hw
      refine hz w (sb_row (h := gm_pu (gz_p g m kd r (gz_B g m kd r) (g.2.2.1 r)) (6 + g.2.1 r)) a4 ?_)
      rw [gm_pN q1]
      refine ⟨j, dv_P_mono _ _ (fun x a b hx s => ?_) hy, ?_⟩
      · rw [gm_pS' q1 (by omega)]; exact s
      · dsimp only
        rw [gm_pS q1]
        exact Or.inl ⟨by have := hN6 r hr; omega, hw⟩
    exact ⟨key j (sb_eps (hN r hr) z j), fun _ => key⟩
  · rw [e0, gz_ff z, q1] at a4
    exact ⟨hz j (sb_row a4 hy), fun w => absurd w z⟩
end sbs
theorem sb_sub {g : gm_G} {m kd : Nat → Nat} {N : Nat} {T : Nat → Nat → Nat → Prop} (hkd : ∀ a b, m a = m b → kd a = kd b) (hN : ∀ r, r < g.1 → g.2.1 r < N) (hN6 : ∀ r, r < g.1 → g.2.1 r < 6) {a i j : Nat} (d : dv_D g.1 g.2.1 g.2.2.1 g.2.2.2 T a i j) : dv_D (gz_C g m kd N).1 (gz_C g m kd N).2.1 (gz_C g m kd N).2.2.1 (gz_C g m kd N).2.2.2 T a i j :=
  (d (sb_S g m kd N T) (sb_cl hkd hN hN6)).1
section nbs
variable {g : gm_G} {m kd : Nat → Nat} {N : Nat}
theorem nb_p {r : Nat} {h : gm_G} (z : ¬ kd (g.2.1 r) = 3) : ∀ k, (gz_p g m kd r h k).1 = h.1 + 1 ∧ (gz_p g m kd r h k).2.1 h.1 = g.2.1 r ∧ (gz_p g m kd r h k).2.2.1 h.1 = k ∧ ∀ x, x < k → (gz_p g m kd r h k).2.2.2 h.1 x = g.2.2.2 r x := by
  intro k
  induction k with
  | zero => exact ⟨rfl, gm_sL, gm_sN, fun x hx => absurd hx (Nat.not_lt_zero x)⟩
  | succ k ih =>
    obtain ⟨h1, h2, h3, h4⟩ := ih
    rw [gz_pf (fun y => z y.1)]
    refine ⟨h1, h2, by rw [gm_pN h1, h3], fun x hx => ?_⟩
    by_cases y : x = k
    · subst y
      have := gm_pS (s := g.2.2.2 r x) h1
      rw [h3] at this
      exact this
    · rw [gm_pS' h1 (by rw [h3]; exact fun w => y w.2)]
      exact h4 x (by omega)
theorem nb_B (z : ∀ r, r < g.1 → ¬ kd (g.2.1 r) = 3) : ∀ r, r ≤ g.1 → (gz_B g m kd r).1 = r ∧ ∀ r', r' < r → (gz_B g m kd r).2.1 r' = g.2.1 r' ∧ (gz_B g m kd r).2.2.1 r' = g.2.2.1 r' ∧ ∀ x, x < g.2.2.1 r' → (gz_B g m kd r).2.2.2 r' x = g.2.2.2 r' x := by
  intro r
  induction r with
  | zero => intro _; exact ⟨rfl, fun r' h => absurd h (Nat.not_lt_zero r')⟩
  | succ r ih =>
    intro hr
    obtain ⟨i1, i2⟩ := ih (by omega)
    have zr := z r (by omega)
    have e0 : gz_B g m kd (r + 1) = gz_p g m kd r (gz_B g m kd r) (g.2.2.1 r) := gz_ff zr
    obtain ⟨n1, n2, n3, n4⟩ := nb_p (m := m) (h := gz_B g m kd r) zr (g.2.2.1 r)
    have hp := (pe_p0 (g := g) (m := m) (kd := kd) (r := r) (h := gz_B g m kd r) (g.2.2.1 r)).1
    rw [i1] at n1 n2 n3 n4 hp
    rw [e0]
    refine ⟨n1, fun r' hr' => ?_⟩
    by_cases y : r' = r
    · subst y
      exact ⟨n2, n3, n4⟩
    · obtain ⟨p1, p2, p3⟩ := hp.2 r' (by omega)
      obtain ⟨j1, j2, j3⟩ := i2 r' (by omega)
      exact ⟨p1.trans j1, p2.trans j2, fun x hx => (p3 x).trans (j3 x hx)⟩
theorem nb_C (z : ∀ a, a < N → ¬ kd a = 3) : ∀ a, a ≤ N → gz_C g m kd a = gz_B g m kd g.1 := by
  intro a
  induction a with
  | zero => intro _; rfl
  | succ a ih => intro h; rw [gz_Cf (z a (by omega))]; exact ih (by omega)
theorem nb_D {T : Nat → Nat → Nat → Prop} (z : ∀ a, a < N → ¬ kd a = 3) (hN : ∀ r, r < g.1 → g.2.1 r < N) {a i j : Nat} (d : dv_D (gz_C g m kd N).1 (gz_C g m kd N).2.1 (gz_C g m kd N).2.2.1 (gz_C g m kd N).2.2.2 T a i j) : dv_D g.1 g.2.1 g.2.2.1 g.2.2.2 T a i j := by
  rw [nb_C z N (Nat.le_refl N)] at d
  obtain ⟨b1, b2⟩ := nb_B (m := m) (kd := kd) (fun r hr => z _ (hN r hr)) g.1 (Nat.le_refl _)
  refine d _ fun r i j hr h => ?_
  rw [b1] at hr
  obtain ⟨e1, e2, e3⟩ := b2 r hr
  rw [e1]
  refine dv_cl r i j hr ?_
  rw [e2] at h
  refine dv_P_mono _ _ (fun x p q hx s => ?_) h
  rw [e3 x hx] at s
  exact s
end nbs
end
section
/-! The class's methods, from any state that matches the picture -/
def jr_G (N T : Nat) (g : gm_G) : Prop := (1 ≤ N ∧ N ≤ 6) ∧ (1 ≤ T ∧ T ≤ 4) ∧ g.1 ≤ 8 ∧ sr_S g.2.2.1 g.1 ≤ 12 ∧ gw_E N g
/-- while the grammar is entered -/
def jr_E (N T : Nat) (u : St2) : Prop := match u with
  | (xN, xT, xB, xR, xS, xE, xL, xA, xG, xC, xF, aL, aN, aS, aR, aM, aK, aT, aE) => ∃ g : gm_G, jr_G N T g ∧ xN = nI N ∧ xT = nI T ∧ xB = 0 ∧ xR = nI g.1 ∧ xS = nI (sr_S g.2.2.1 g.1) ∧ xE = nI 8 ∧ xL = nI 0 ∧ gw_X 0 g aL aN aS ∧ ∀ a, a < 6 → aR a = 0
/-- built, w of length L, its tokens tx -/
def jr_B (N T L : Nat) (g : gm_G) (m kd tx : Nat → Nat) (u : St2) : Prop := match u with
  | (xN, xT, xB, xR, xS, xE, xL, xA, xG, xC, xF, aL, aN, aS, aR, aM, aK, aT, aE) => jr_G N T g ∧ L ≤ 12 ∧ (∀ a b, m a = m b → kd a = kd b) ∧ xN = nI N ∧ xT = nI T ∧ xB = 1 ∧ xR = nI g.1 ∧ xE = nI (8 + (gz_C g m kd N).1) ∧ xL = nI L ∧
    xG = bz_I (dv_D g.1 g.2.1 g.2.2.1 g.2.2.2 (tm_s false tx L) 0 0 L) ∧ xA = bz_I (dv_D (gz_C g m kd N).1 (gz_C g m kd N).2.1 (gz_C g m kd N).2.2.1 (gz_C g m kd N).2.2.2 (tm_s false tx L) 0 0 L) ∧ xC = bz_I (dv_D (gz_C g m kd N).1 (gz_C g m kd N).2.1 (gz_C g m kd N).2.2.1 (gz_C g m kd N).2.2.2 (tm_s true tx L) 0 0 L) ∧ xF = fo_M (dq_P (gz_C g m kd N).1 (gz_C g m kd N).2.1 (gz_C g m kd N).2.2.1 (gz_C g m kd N).2.2.2 tx L) T ∧
    gw_X 0 g aL aN aS ∧ gw_X 8 (gz_C g m kd N) aL aN aS ∧ (∀ a, a < N → aK a = nI (kd a) ∧ kd a ≤ 3) ∧ (∀ i, i < L → aT i = nI (tx i) ∧ tx i < 4)
theorem jm_rule {N T : Nat} {u : St2} (h : jr_E N T u) (v1 : Int32) {post : Int32 → St2 → Prop} (H : ∀ r u', jr_E N T u' → post r u') : wpX_rule post u v1 := by
  have h' := h
  obtain ⟨xN, xT, xB, xR, xS, xE, xL, xA, xG, xC, xF, aL, aN, aS, aR, aM, aK, aT, aE⟩ := u
  obtain ⟨g, ⟨⟨hN1, hN6⟩, ⟨hT1, hT4⟩, h8, h12, hE⟩, rfl, rfl, rfl, rfl, rfl, rfl, rfl, hX, hR⟩ := h
  refine br_t rfl ?_
  rcases pk_ix v1 (n := N) (by omega) with y | y | ⟨a, ha, rfl⟩
  · exact br_t y (H _ _ h')
  · exact br_f (Int32.not_lt.mpr (Int32.le_trans (nI_pos' (by omega)) y)) (br_f (Int32.not_lt.mpr y) (H _ _ h'))
  · refine br_f (nI_pos (by omega)) (br_t (nI_lt ha (by omega)) (pk_lt g.1 8 (fun z => ?_) (fun z => H _ _ h') rfl rfl (by omega) (by decide)))
    refine ⟨vp_in_nI (by omega) (by decide), nm_r (e' := upd aL g.1 (nI a)) (by rw [nI_clamp (by omega)]) ⟨vp_in_nI (by omega) (by decide), nm_r (e' := upd aN g.1 0) (by rw [nI_clamp (by omega)]) (nm_r (nI_1 g.1) (H _ _ ?_))⟩⟩
    refine ⟨gm_st g a, ⟨⟨hN1, hN6⟩, ⟨hT1, hT4⟩, z, ?_, gw_Est hE ha⟩, rfl, rfl, rfl, rfl, congrArg nI sr_st'.symm, rfl, rfl, gw_Xst hX (by rw [Nat.zero_add]) (by omega) (by omega), hR⟩
    rw [sr_st']; exact h12
theorem jm_ent {N T : Nat} {u : St2} (h : jr_E N T u) (v1 : Int32) (B c : Nat) (hB : B ≤ 6) (hs : ∀ t, t < B → c + t < N ∨ (12 ≤ c + t ∧ c + t < 16)) {post : Int32 → St2 → Prop} (H : ∀ r u', jr_E N T u' → post r u') : wpX_enterSymbol post u v1 (nI B) (nI c) := by
  have h' := h
  obtain ⟨xN, xT, xB, xR, xS, xE, xL, xA, xG, xC, xF, aL, aN, aS, aR, aM, aK, aT, aE⟩ := u
  obtain ⟨g, ⟨⟨hN1, hN6⟩, ⟨hT1, hT4⟩, h8, h12, hE⟩, rfl, rfl, rfl, rfl, rfl, rfl, rfl, hX, hR⟩ := h
  refine br_t rfl ?_
  rcases Nat.eq_zero_or_pos g.1 with h0 | h0
  · exact br_t (by rw [h0]; rfl) (H _ _ h')
  obtain ⟨q, hq⟩ : ∃ q, g.1 = q + 1 := ⟨g.1 - 1, by omega⟩
  have eq : nI g.1 - 1 = nI q := by rw [hq]; exact nI_pred q
  refine br_f (nI_ne0 h0 (by omega)) ?_
  rcases pk_ix v1 (n := B) (by omega) with y | y | ⟨t, ht, rfl⟩
  · exact br_t y (H _ _ h')
  · exact br_f (Int32.not_lt.mpr (Int32.le_trans (nI_pos' (by omega)) y)) (br_f (Int32.not_lt.mpr y) (H _ _ h'))
  · obtain ⟨x1, x2, x3, x4, x5⟩ := gw_X0 hX (r := q) (by omega)
    have eN : aN (nI q).toNatClampNeg = nI (g.2.2.1 q) := by rw [nI_clamp (by omega)]; exact x3
    refine br_f (nI_pos (by omega)) (br_t (nI_lt ht (by omega)) (nm_r eq ⟨vp_in_nI (by omega) (by decide), pk_le 4 (g.2.2.1 q) (fun z => H _ _ h') (fun z => pk_lt (sr_S g.2.2.1 g.1) 12 (fun w => ?_) (fun w => H _ _ h') rfl rfl (by omega) (by decide)) rfl eN (by decide) (by omega)⟩))
    have hs16 : c + t < 16 := by have := hs t ht; omega
    rw [nI_add]
    refine xa_S (l := g.2.2.1 q) (by omega) (by omega) x3 (nm_r (nI_1 _) ⟨vp_in_nI (by omega) (by decide), H _ _ ?_⟩)
    refine ⟨gm_pu g (c + t), ⟨⟨hN1, hN6⟩, ⟨hT1, hT4⟩, h8, ?_, gw_Epu hE hq z (hs t ht)⟩, rfl, rfl, rfl, rfl, congrArg nI (sr_pu' hq).symm, rfl, rfl, gw_Xpu hX hq (by rw [Nat.zero_add]) rfl hs16 (by omega), hR⟩
    rw [sr_pu' hq]; exact w
theorem jr_T {N T : Nat} {u : St2} (h : jr_E N T u) : N ≤ 6 ∧ T ≤ 4 ∧ 1 ≤ N ∧ 1 ≤ T := by
  obtain ⟨xN, xT, xB, xR, xS, xE, xL, xA, xG, xC, xF, aL, aN, aS, aR, aM, aK, aT, aE⟩ := u
  obtain ⟨g, ⟨⟨hN1, hN6⟩, ⟨hT1, hT4⟩, _⟩, _⟩ := h
  exact ⟨hN6, hT4, hN1, hT1⟩
theorem jm_term {N T : Nat} {u : St2} (h : jr_E N T u) (v1 : Int32) {post : Int32 → St2 → Prop} (H : ∀ r u', jr_E N T u' → post r u') : wpX_terminal post u v1 := by
  have hT := jr_T h
  have h' := h
  obtain ⟨xN, xT, xB, xR, xS, xE, xL, xA, xG, xC, xF, aL, aN, aS, aR, aM, aK, aT, aE⟩ := u
  obtain ⟨g, hG, rfl, rfl, rfl, rfl, rfl, rfl, rfl, hX, hR⟩ := h
  unfold wpX_terminal
  refine jm_ent h' v1 T 12 (by omega) (fun t ht => Or.inr ⟨by omega, by omega⟩) fun r u' hu => ?_
  obtain ⟨xN, xT, xB, xR, xS, xE, xL, xA, xG, xC, xF, aL, aN, aS, aR, aM, aK, aT, aE⟩ := u'
  exact H r _ hu
theorem jm_nont {N T : Nat} {u : St2} (h : jr_E N T u) (v1 : Int32) {post : Int32 → St2 → Prop} (H : ∀ r u', jr_E N T u' → post r u') : wpX_nonterminal post u v1 := by
  have hT := jr_T h
  have h' := h
  obtain ⟨xN, xT, xB, xR, xS, xE, xL, xA, xG, xC, xF, aL, aN, aS, aR, aM, aK, aT, aE⟩ := u
  obtain ⟨g, hG, rfl, rfl, rfl, rfl, rfl, rfl, rfl, hX, hR⟩ := h
  unfold wpX_nonterminal
  refine jm_ent h' v1 N 0 (by omega) (fun t ht => Or.inl (by omega)) fun r u' hu => ?_
  obtain ⟨xN, xT, xB, xR, xS, xE, xL, xA, xG, xC, xF, aL, aN, aS, aR, aM, aK, aT, aE⟩ := u'
  exact H r _ hu
theorem jm_build {N T : Nat} {u : St2} (h : jr_E N T u) {post : Int32 → St2 → Prop} (H : ∀ r u' g m kd, jr_B N T 0 g m kd (fun _ => 0) u' → post r u') : wpX_build post u := by
  obtain ⟨xN, xT, xB, xR, xS, xE, xL, xA, xG, xC, xF, aL, aN, aS, aR, aM, aK, aT, aE⟩ := u
  obtain ⟨g, hG, rfl, rfl, rfl, rfl, rfl, rfl, rfl, hX, hR⟩ := h
  have hG' := hG
  obtain ⟨⟨hN1, hN6⟩, ⟨hT1, hT4⟩, h8, h12, hE⟩ := hG'
  unfold wpX_build
  have hlt : ∀ a, a < N → mt_N (ws_W (ed_E g g.1) N) a < 6 := fun a ha => by have := mt_lt (R := ws_W (ed_E g g.1) N) (a := a); omega
  refine br_t rfl (xr_F hN6 h8 hX hE hR fun q hq => xm_S hN6 hq fun q2 hq2 => xk_F (m := mt_N (ws_W (ed_E g g.1) N)) hN6 h8 hX hE (fun a ha => ⟨hq2 a ha, hlt a ha⟩) fun q3 hq3 => xw_R (m := mt_N (ws_W (ed_E g g.1) N)) (kd := fun a => kn_K g (mt_N (ws_W (ed_E g g.1) N)) (mt_N (ws_W (ed_E g g.1) N) a)) hN6 h8 h12 hE (fun a ha => ⟨hq2 a ha, hlt a ha⟩) (fun a ha => ⟨hq3 a ha, kn_le⟩) hX fun l n t hI => ?_)
  refine xq_A (L := 0) (tx := fun _ => 0) (by decide) hT4 hI.1 hI.2 (fun i hi => absurd hi (Nat.not_lt_zero i)) fun aT' e' hT' => ?_
  refine H _ _ g (mt_N (ws_W (ed_E g g.1) N)) (fun a => kn_K g (mt_N (ws_W (ed_E g g.1) N)) (mt_N (ws_W (ed_E g g.1) N) a)) ⟨hG, by decide, fun a b e => congrArg (kn_K g (mt_N (ws_W (ed_E g g.1) N))) e, rfl, rfl, rfl, rfl, rfl, rfl, rfl, rfl, rfl, rfl, hI.1, hI.2, fun a ha => ⟨hq3 a ha, kn_le⟩, fun i hi => absurd hi (Nat.not_lt_zero i)⟩
section jms
variable {N T L : Nat} {g : gm_G} {m kd tx : Nat → Nat} {u : St2}
theorem jm_feed (h : jr_B N T L g m kd tx u) {t : Nat} (ht : t < T) (tx' : Nat → Nat) (h1 : ∀ i, i < L → tx' i = tx i) (h2 : tx' L = t) {post : Int32 → St2 → Prop} (H : L < 12 → ∀ u', jr_B N T (L + 1) g m kd tx' u' → post (nI (L + 1)) u') (H3 : ¬ L < 12 → post (-3) u) : wpX_feed post u (nI t) := by
  obtain ⟨xN, xT, xB, xR, xS, xE, xL, xA, xG, xC, xF, aL, aN, aS, aR, aM, aK, aT, aE⟩ := u
  obtain ⟨hG, hL, hkd, rfl, rfl, rfl, rfl, rfl, rfl, rfl, rfl, rfl, rfl, hX, hX2, hK, hT⟩ := h
  have hG' := hG
  obtain ⟨⟨hN1, hN6⟩, ⟨hT1, hT4⟩, h8, h12, hE⟩ := hG'
  unfold wpX_feed
  refine br_f (by decide) (br_f (nI_pos (by omega)) (br_t (nI_lt ht (by omega)) (pk_lt L 12 (fun z => ⟨vp_in_nI (by omega) (by decide), nm_r (e' := upd aT L (nI t)) (by rw [nI_clamp (by omega)]) (nm_r (nI_1 L) ?_)⟩) (fun z => H3 (by omega)) rfl rfl (by omega) (by decide))))
  refine xq_A (L := L + 1) (tx := tx') (by omega) hT4 hX hX2 (fun i hi => ?_) fun aT' e' hT' => ?_
  · by_cases w : i = L
    · subst w; rw [pk_us, h2]; exact ⟨rfl, by omega⟩
    · rw [pk_un w, h1 i (by omega)]; exact hT i (by omega)
  · exact H z _ ⟨hG, z, hkd, rfl, rfl, rfl, rfl, rfl, rfl, rfl, rfl, rfl, rfl, hX, hX2, hK, hT'⟩
theorem jm_clear (h : jr_B N T L g m kd tx u) (tx' : Nat → Nat) {post : Int32 → St2 → Prop} (H : ∀ u', jr_B N T 0 g m kd tx' u' → post 0 u') : wpX_clearInput post u := by
  obtain ⟨xN, xT, xB, xR, xS, xE, xL, xA, xG, xC, xF, aL, aN, aS, aR, aM, aK, aT, aE⟩ := u
  obtain ⟨hG, hL, hkd, rfl, rfl, rfl, rfl, rfl, rfl, rfl, rfl, rfl, rfl, hX, hX2, hK, hT⟩ := h
  have hG' := hG
  obtain ⟨⟨hN1, hN6⟩, ⟨hT1, hT4⟩, h8, h12, hE⟩ := hG'
  unfold wpX_clearInput
  refine br_f (by decide) ?_
  refine xq_A (L := 0) (tx := tx') (by decide) hT4 hX hX2 (fun i hi => absurd hi (Nat.not_lt_zero i)) fun aT' e' hT' => ?_
  exact H _ ⟨hG, by decide, hkd, rfl, rfl, rfl, rfl, rfl, rfl, rfl, rfl, rfl, rfl, hX, hX2, hK, hT'⟩
theorem jm_ga (h : jr_B N T L g m kd tx u) {post : Int32 → Prop} (H : post (bz_I (dv_D g.1 g.2.1 g.2.2.1 g.2.2.2 (tm_s false tx L) 0 0 L))) : wpX_grammarAccepts post u := by
  obtain ⟨xN, xT, xB, xR, xS, xE, xL, xA, xG, xC, xF, aL, aN, aS, aR, aM, aK, aT, aE⟩ := u
  obtain ⟨hG, hL, hkd, rfl, rfl, rfl, rfl, rfl, rfl, rfl, rfl, rfl, rfl, hX, hX2, hK, hT⟩ := h
  exact br_f (by decide) (bz_br rfl (fun z => bz_p0 H z) (fun z => bz_p1 H z))
theorem jm_aa (h : jr_B N T L g m kd tx u) {post : Int32 → Prop} (H : post (bz_I (dv_D (gz_C g m kd N).1 (gz_C g m kd N).2.1 (gz_C g m kd N).2.2.1 (gz_C g m kd N).2.2.2 (tm_s false tx L) 0 0 L))) : wpX_approxAccepts post u := by
  obtain ⟨xN, xT, xB, xR, xS, xE, xL, xA, xG, xC, xF, aL, aN, aS, aR, aM, aK, aT, aE⟩ := u
  obtain ⟨hG, hL, hkd, rfl, rfl, rfl, rfl, rfl, rfl, rfl, rfl, rfl, rfl, hX, hX2, hK, hT⟩ := h
  exact br_f (by decide) (bz_br rfl (fun z => bz_p0 H z) (fun z => bz_p1 H z))
theorem jm_al (h : jr_B N T L g m kd tx u) {post : Int32 → Prop} (H : post (bz_I (dv_D (gz_C g m kd N).1 (gz_C g m kd N).2.1 (gz_C g m kd N).2.2.1 (gz_C g m kd N).2.2.2 (tm_s true tx L) 0 0 L))) : wpX_approxLive post u := by
  obtain ⟨xN, xT, xB, xR, xS, xE, xL, xA, xG, xC, xF, aL, aN, aS, aR, aM, aK, aT, aE⟩ := u
  obtain ⟨hG, hL, hkd, rfl, rfl, rfl, rfl, rfl, rfl, rfl, rfl, rfl, rfl, hX, hX2, hK, hT⟩ := h
  exact br_f (by decide) (bz_br rfl (fun z => bz_p0 H z) (fun z => bz_p1 H z))
theorem jm_nm (h : jr_B N T L g m kd tx u) {post : Int32 → Prop} (H : post (fo_M (dq_P (gz_C g m kd N).1 (gz_C g m kd N).2.1 (gz_C g m kd N).2.2.1 (gz_C g m kd N).2.2.2 tx L) T)) : wpX_nextMask post u := by
  obtain ⟨xN, xT, xB, xR, xS, xE, xL, xA, xG, xC, xF, aL, aN, aS, aR, aM, aK, aT, aE⟩ := u
  obtain ⟨hG, hL, hkd, rfl, rfl, rfl, rfl, rfl, rfl, rfl, rfl, rfl, rfl, hX, hX2, hK, hT⟩ := h
  exact br_f (by decide) H
end jms
section jns
variable {xN xT xB xR xS xE xL xA xG xC xF : Int32} {aL aN aS aR aM aK aT aE : Nat → Int32}
variable {N : Nat} {kd : Nat → Nat}
theorem rd_xs {post : Int32 → Prop} (hN : N ≤ 6) (hK : ∀ a, a < N → aK a = nI (kd a) ∧ kd a ≤ 3) (H : post (bz_I (∃ a, a < N ∧ kd a = 3))) :
    ∀ d a, a + d = N → (∀ a', a' < a → kd a' ≠ 3) → wX_selfEmbedding_11 post (nI N) xT xB xR xS xE xL xA xG xC xF aL aN aS aR aM aK aT aE (d + 1) (nI a) := by
  intro d
  induction d with
  | zero =>
    intro a ha hn
    rw [bz_f (P := ∃ a, a < N ∧ kd a = 3) (fun ⟨a', h1, h2⟩ => hn a' (by omega) h2)] at H
    exact br_t (nI_le (by omega) (by omega)) H
  | succ d ih =>
    intro a ha hn
    have hk := hK a (by omega)
    refine br_f (nI_ge (by omega) (by omega)) ⟨vp_in_nI (by omega) (by decide), pk_eq (kd a) 3 (fun z => ?_) (fun z => nm_r (nI_1 a) (ih (a + 1) (by omega) fun a' h' => ?_)) (by rw [nI_clamp (by omega)]; exact hk.1) rfl (by omega) (by decide)⟩
    · exact bz_p1 H ⟨a, by omega, z⟩
    · by_cases y : a' = a
      · subst y; exact z
      · exact hn a' (by omega)
end jns
theorem jm_se {N T L : Nat} {g : gm_G} {m kd tx : Nat → Nat} {u : St2} (h : jr_B N T L g m kd tx u) {post : Int32 → Prop} (H : post (bz_I (∃ a, a < N ∧ kd a = 3))) : wpX_selfEmbedding post u := by
  obtain ⟨xN, xT, xB, xR, xS, xE, xL, xA, xG, xC, xF, aL, aN, aS, aR, aM, aK, aT, aE⟩ := u
  obtain ⟨⟨⟨hN1, hN6⟩, ⟨hT1, hT4⟩, h8, h12, hE⟩, hL, hkd, rfl, rfl, rfl, rfl, rfl, rfl, rfl, rfl, rfl, rfl, hX, hX2, hK, hT⟩ := h
  exact br_f (by decide) ⟨N + 1, rd_xs hN6 hK H N 0 (by omega) (fun a h => absurd h (Nat.not_lt_zero a))⟩
theorem jr_b {N T L : Nat} {g : gm_G} {m kd tx : Nat → Nat} {u : St2} (h : jr_B N T L g m kd tx u) : jr_G N T g ∧ L ≤ 12 ∧ (∀ a b, m a = m b → kd a = kd b) ∧ ∀ i, i < L → tx i < 4 := by
  obtain ⟨xN, xT, xB, xR, xS, xE, xL, xA, xG, xC, xF, aL, aN, aS, aR, aM, aK, aT, aE⟩ := u
  obtain ⟨hG, hL, hkd, _, _, _, _, _, _, _, _, _, _, hX, hX2, hK, hT⟩ := h
  exact ⟨hG, hL, hkd, fun i hi => (hT i hi).2⟩
end
section
/-! the word kept in a long: rows of the kit's pages (BITS), and of mine; masks -/
theorem wb_tb (n : Nat) : (lN n).toBitVec = BitVec.ofNat 64 n := rfl
theorem wb_inj {a b : Int64} (h : a.toBitVec = b.toBitVec) : a = b := Int64.toBitVec_inj.mp h
theorem wb_tn {n : Nat} (h : n < 2 ^ 64) : (lN n).toBitVec.toNat = n := by rw [wb_tb, BitVec.toNat_ofNat, Nat.mod_eq_of_lt h]
theorem wb_c : ∀ k, k < 64 → ((nI k).toInt64 &&& 63) = lN k := by decide +kernel
theorem wb_sm : ∀ k, k < 64 → (BitVec.ofNat 64 k).smod 64 = BitVec.ofNat 64 k := by decide +kernel
theorem wb_lt2 {a b : Nat} (h : a < b) : 2 ^ a < 2 ^ b := Nat.pow_lt_pow_right (by decide) h
theorem wb_shl (n : Nat) {k : Nat} (hk : k < 64) : lN n <<< ((nI k).toInt64 &&& 63) = lN (n * 2 ^ k) := by
  rw [wb_c k hk]
  apply wb_inj
  rw [Int64.toBitVec_shiftLeft, wb_tb, wb_tb, wb_tb, wb_sm k hk]
  apply BitVec.eq_of_toNat_eq
  rw [BitVec.shiftLeft_eq', BitVec.toNat_shiftLeft, BitVec.toNat_ofNat, BitVec.toNat_ofNat, BitVec.toNat_ofNat, Nat.mod_eq_of_lt (show k < 2 ^ 64 by omega), Nat.shiftLeft_eq, Nat.mul_mod, Nat.mod_mod, ← Nat.mul_mod]
theorem wb_and {a b : Nat} (ha : a < 2 ^ 64) (hb : b < 2 ^ 64) : lN a &&& lN b = lN (a &&& b) := by
  apply wb_inj
  rw [Int64.toBitVec_and, wb_tb, wb_tb, wb_tb]
  apply BitVec.eq_of_toNat_eq
  rw [BitVec.toNat_and, BitVec.toNat_ofNat, BitVec.toNat_ofNat, BitVec.toNat_ofNat, Nat.mod_eq_of_lt ha, Nat.mod_eq_of_lt hb, Nat.mod_eq_of_lt (Nat.and_lt_two_pow _ hb)]
theorem wb_mask {n k : Nat} (hn : n < 2 ^ 64) (hk : k < 64) : lN n &&& lN (2 ^ k - 1) = lN (n % 2 ^ k) := by
  rw [wb_and hn (by have := wb_lt2 hk; omega), Nat.and_two_pow_sub_one_eq_mod]
theorem u_tn {n : Nat} (h : n < 2 ^ 64) : (UInt64.ofNat n).toNat = n := Nat.mod_eq_of_lt h
theorem g_or {k p a b : Nat} (hp : 2 ^ k = p) (ha : a < p) (h : b * p + a < 2 ^ 64) : lN (b * p) ||| lN a = lN (b * p + a) := by
  subst hp
  have h1 : b * 2 ^ k ||| a = b * 2 ^ k + a := by rw [← Nat.shiftLeft_eq, Nat.shiftLeft_add_eq_or_of_lt ha]
  have h3 : UInt64.ofNat (b * 2 ^ k) ||| UInt64.ofNat a = UInt64.ofNat (b * 2 ^ k + a) := UInt64.toNat_inj.mp (by rw [UInt64.toNat_or, u_tn (by omega), u_tn (by omega), u_tn h, h1])
  have h2 := congrArg UInt64.toInt64 h3
  exact h2
theorem g_or' {k p a b : Nat} (hp : 2 ^ k = p) (ha : a < p) (h : a + b * p < 2 ^ 64) : lN a ||| lN (b * p) = lN (a + b * p) := by
  rw [Int64.or_comm, g_or hp ha (by omega), Nat.add_comm]
theorem pf_lI {a : Nat} (h : a < 2 ^ 63) : (lN a).toInt = (a : Int) := lg_ofNat_toInt h
theorem pf_shr {a d : Nat} {D : Int64} (hD : (D.toBitVec.smod 64).toNat = d) (h : a < 2 ^ 62) : lN a >>> D = lN (a / 2 ^ d) := by
  have hd : a / 2 ^ d ≤ a := Nat.div_le_self _ _
  apply Int64.toInt_inj.mp
  have e : (lN a >>> D).toInt = (lN a).toInt >>> d := by
    rw [← hD]
    exact BitVec.toInt_sshiftRight ..
  rw [e, Int.shiftRight_eq_div_pow, pf_lI (by omega), pf_lI (by omega)]
  rfl
/-- K holds len tokens, two bits each -/
def cr_R (T K len : Nat) (tx : Nat → Nat) : Prop := K < 2 ^ (2 * len) ∧ ∀ i, i < len → tx i = K / 2 ^ (2 * i) % 4 ∧ tx i < T
theorem cr_0 {T : Nat} {tx : Nat → Nat} : cr_R T 0 0 tx := ⟨by decide, fun i h => absurd h (Nat.not_lt_zero i)⟩
theorem cr_p {a b : Nat} (h : a < b) : 2 ^ (2 * b) = 4 * 2 ^ (2 * (b - a - 1)) * 2 ^ (2 * a) := by
  rw [show (4 : Nat) = 2 ^ 2 from rfl, ← Nat.pow_add, ← Nat.pow_add]
  congr 1
  omega
theorem cr_add {T K len t : Nat} {tx : Nat → Nat} (h : cr_R T K len tx) (ht : t < T) (hT : T ≤ 4) : cr_R T (K + t * 2 ^ (2 * len)) (len + 1) (fun i => if i = len then t else tx i) := by
  obtain ⟨h1, h2⟩ := h
  have hp : 0 < 2 ^ (2 * len) := Nat.pow_pos (by decide)
  constructor
  · have e : 2 ^ (2 * (len + 1)) = 4 * 2 ^ (2 * len) := by
      rw [show 2 * (len + 1) = 2 + 2 * len from by omega, Nat.pow_add]
    rw [e]
    have : t * 2 ^ (2 * len) ≤ 3 * 2 ^ (2 * len) := Nat.mul_le_mul_right _ (by omega)
    omega
  · intro i hi
    dsimp only
    by_cases z : i = len
    · subst z
      rw [if_pos rfl, Nat.add_mul_div_right _ _ hp, Nat.div_eq_of_lt h1]
      omega
    · rw [if_neg z]
      obtain ⟨a, b⟩ := h2 i (by omega)
      refine ⟨?_, b⟩
      rw [cr_p (show i < len by omega), ← Nat.mul_assoc, Nat.add_mul_div_right _ _ (Nat.pow_pos (by decide)), a]
      rw [show t * (4 * 2 ^ (2 * (len - i - 1))) = 4 * (t * 2 ^ (2 * (len - i - 1))) from by rw [Nat.mul_left_comm], Nat.add_mul_mod_self_left]
theorem cr_2 (i : Nat) : 2 * nI i = nI (2 * i) := by rw [show (2 : Int32) = nI 2 from rfl, pk_mul]
theorem cr_b {K len : Nat} (h : K < 2 ^ (2 * len)) (hl : len ≤ 12) : K < 16777216 := Nat.lt_of_lt_of_le h (Nat.le_trans (Nat.pow_le_pow_right (by decide) (show 2 * len ≤ 24 by omega)) (by decide))
theorem cr_get {T K len i : Nat} {tx : Nat → Nat} (h : cr_R T K len tx) (hl : len ≤ 12) (hi : i < len) : ((lN K >>> ((2 * nI i).toInt64 &&& 63)) &&& 3).toInt32 = nI (tx i) := by
  have hK := cr_b h.1 hl
  rw [cr_2, pf_shr (d := 2 * i) (by rw [wb_c _ (by omega), wb_tb, wb_sm _ (by omega), BitVec.toNat_ofNat, Nat.mod_eq_of_lt (by omega)]) (by omega)]
  rw [show (3 : Int64) = lN (2 ^ 2 - 1) from rfl, wb_mask (Nat.lt_of_le_of_lt (Nat.div_le_self _ _) (by omega)) (by decide), lN_i, (h.2 i hi).1]
theorem cr_put {T K len t : Nat} {tx : Nat → Nat} (h : cr_R T K len tx) (hl : len < 12) (ht : t < 4) : lN K ||| ((nI t).toInt64 <<< ((2 * nI len).toInt64 &&& 63)) = lN (K + t * 2 ^ (2 * len)) := by
  have hp : 2 ^ (2 * len) ≤ 16777216 := Nat.le_trans (Nat.pow_le_pow_right (by decide) (show 2 * len ≤ 24 by omega)) (by decide)
  have hm : t * 2 ^ (2 * len) ≤ 3 * 16777216 := Nat.mul_le_mul (by omega) hp
  have hK := cr_b h.1 (by omega)
  rw [nI_l (by omega), cr_2, wb_shl _ (by omega), g_or' rfl h.1 (by omega)]
theorem fo_s : ∀ t, t < 4 → ∀ k, k < 16 → k < 2 ^ t → (nI k ||| ((1 : Int32) <<< (nI t &&& 31))) = nI (k + 2 ^ t) := by decide +kernel
theorem fo_1 : ∀ t, t < 5 → ((1 : Int32) <<< (nI t &&& 31)) = nI (2 ^ t) := by decide +kernel
theorem fo_k {P : Nat → Prop} : ∀ t, t ≤ 4 → ∃ k, k < 2 ^ t ∧ fo_M P t = nI k := by
  intro t
  induction t with
  | zero => intro _; exact ⟨0, by decide, rfl⟩
  | succ t ih =>
    intro ht
    obtain ⟨k, h1, h2⟩ := ih (by omega)
    have hp : 2 ^ (t + 1) = 2 ^ t + 2 ^ t := by rw [Nat.pow_succ]; omega
    have h16 : 2 ^ t ≤ 16 := Nat.le_trans (Nat.pow_le_pow_right (by decide) (show t ≤ 4 by omega)) (by decide)
    rcases Classical.em (P t) with z | z
    · exact ⟨k + 2 ^ t, by omega, by rw [fo_t z, h2, fo_s t (by omega) k (by omega) h1]⟩
    · exact ⟨k, by omega, by rw [fo_f z, h2]⟩
theorem fo_b {P : Nat → Prop} : ∀ t, t ≤ 32 → ∀ x, x < 32 → (bt (fo_M P t) x = true ↔ x < t ∧ P x) := by
  intro t
  induction t with
  | zero =>
    intro _ x _
    rw [show fo_M P 0 = 0 from rfl, b_0]
    exact ⟨fun h => absurd h (by decide), fun h => absurd h.1 (Nat.not_lt_zero x)⟩
  | succ t ih =>
    intro ht x hx
    have := ih (by omega) x hx
    rcases Classical.em (P t) with z | z
    · rw [fo_t z, xb_os (by omega) hx, this]
      constructor
      · rintro (h | h)
        · exact ⟨by omega, h.2⟩
        · subst h; exact ⟨by omega, z⟩
      · rintro ⟨h1, h2⟩
        rcases Nat.lt_or_ge x t with y | y
        · exact Or.inl ⟨y, h2⟩
        · exact Or.inr (by omega)
    · rw [fo_f z, this]
      refine ⟨fun h => ⟨by omega, h.2⟩, fun h => ⟨?_, h.2⟩⟩
      rcases Nat.lt_or_ge x t with y | y
      · exact y
      · have e : x = t := by omega
        subst e
        exact absurd h.2 z
end
section
/-! The law's loops -/
theorem la_neg {y : Int32} (h : ¬ 0 ≤ y) : ¬ (-(y + 1)) < 0 := by
  have h1 : y.toInt < 0 := by
    have := Int32.not_le.mp h
    rw [Int32.lt_iff_toInt_lt] at this
    exact this
  have h2 : -2147483648 ≤ y.toInt := Int32.le_toInt y
  have e1 : (y + 1).toInt = y.toInt + 1 := by
    rw [Int32.toInt_add, show (1 : Int32).toInt = 1 from rfl]
    exact Int.bmod_eq_of_le (by omega) (by omega)
  have e2 : (-(y + 1)).toInt = -(y.toInt + 1) := by
    rw [Int32.toInt_neg, e1]
    exact Int.bmod_eq_of_le (by omega) (by omega)
  rw [Int32.lt_iff_toInt_lt, e2, show (0 : Int32).toInt = 0 from rfl]
  omega
theorem la_nz {P : Int32 → Prop} (H : ∀ c, c < 2 ^ 31 → P (nI c)) (y : Int32) : wpL_nz P () y := by
  by_cases h : 0 ≤ y
  · obtain ⟨c, hc, e⟩ := nI_of (x := y) (Int32.not_lt.mpr h)
    exact br_t h (by rw [e]; exact H c hc)
  · obtain ⟨c, hc, e⟩ := nI_of (x := -(y + 1)) (la_neg h)
    exact br_f h (by rw [e]; exact H c hc)
theorem la_cz {P : Int32 → Prop} {Z : Nat} {xs : Nat → Int32} {j : Nat} (hZ : Z ≤ 260) (hj : j < 1000) (H : ∀ c, c < 2 ^ 31 → P (nI c)) : wpL_cell (fun r => wpL_nz P () r) Z xs () (nI j) :=
  pk_le Z j (fun _ => la_nz H 0) (fun z => ⟨vp_in_nI z (by omega), la_nz H _⟩)
section las
variable {post : Int32 → Prop} {Z : Nat} {xs : Nat → Int32} {kc ks N T : Nat} {g : gm_G} {m kd : Nat → Nat}
theorem la_484 {J197 : Int32 → Int64 → Int32 → Int32 → Int32 → Int32 → Int32 → Int32 → Int32 → Int32 → Int32 → Int32 → Int32 → Int32 → Int32 → (Nat → Int32) → (Nat → Int32) → (Nat → Int32) → (Nat → Int32) → (Nat → Int32) → (Nat → Int32) → (Nat → Int32) → (Nat → Int32) →  Prop} {x1 : Int32} {K len s : Nat} {tx : Nat → Nat} (hlen : len ≤ 12) (hK : cr_R T K len tx)
    (hJ : ∀ (xN xT xB xR xS xE xL xA xG xC xF : Int32) (aL aN aS aR aM aK aT aE : Nat → Int32), jr_B N T len g m kd tx (xN, xT, xB, xR, xS, xE, xL, xA, xG, xC, xF, aL, aN, aS, aR, aM, aK, aT, aE) → J197 x1 (lN K) (nI len) (nI (s + 1)) xN xT xB xR xS xE xL xA xG xC xF aL aN aS aR aM aK aT aE) :
    ∀ (d i : Nat) (xN xT xB xR xS xE xL xA xG xC xF : Int32) (aL aN aS aR aM aK aT aE : Nat → Int32), i + d = len → jr_B N T i g m kd tx (xN, xT, xB, xR, xS, xE, xL, xA, xG, xC, xF, aL, aN, aS, aR, aM, aK, aT, aE) → wL_law_484 post Z xs J197 x1 (nI T) (lN K) (nI len) (nI s) kc ks (d + 1) (nI i) xN xT xB xR xS xE xL xA xG xC xF aL aN aS aR aM aK aT aE := by
  intro d
  induction d with
  | zero =>
    intro i xN xT xB xR xS xE xL xA xG xC xF aL aN aS aR aM aK aT aE hi hB
    have e : i = len := by omega
    subst e
    exact br_t (nI_le (Nat.le_refl _) (by omega)) (nm_r (nI_1 s) (hJ _ _ _ _ _ _ _ _ _ _ _ _ _ _ _ _ _ _ _ hB))
  | succ d ih =>
    intro i xN xT xB xR xS xE xL xA xG xC xF aL aN aS aR aM aK aT aE hi hB
    refine br_f (nI_ge (by omega) (by omega)) ?_
    rw [cr_get hK hlen (by omega)]
    refine jm_feed hB (hK.2 i (by omega)).2 tx (fun _ _ => rfl) rfl (fun _ u' hu => ?_) (fun z => absurd (by omega) z)
    obtain ⟨xN, xT, xB, xR, xS, xE, xL, xA, xG, xC, xF, aL, aN, aS, aR, aM, aK, aT, aE⟩ := u'
    exact nm_r (nI_1 i) (ih (i + 1) _ _ _ _ _ _ _ _ _ _ _ _ _ _ _ _ _ _ _ (by omega) hu)
theorem la_400 {J197 : Int32 → Int64 → Int32 → Int32 → Int32 → Int32 → Int32 → Int32 → Int32 → Int32 → Int32 → Int32 → Int32 → Int32 → Int32 → (Nat → Int32) → (Nat → Int32) → (Nat → Int32) → (Nat → Int32) → (Nat → Int32) → (Nat → Int32) → (Nat → Int32) → (Nat → Int32) →  Prop} {J385 : Int32 → Int32 → Int32 → Int32 → Int32 → Int32 → Int32 → Int32 → Int32 → Int32 → Int32 → Int32 → (Nat → Int32) → (Nat → Int32) → (Nat → Int32) → (Nat → Int32) → (Nat → Int32) → (Nat → Int32) → (Nat → Int32) → (Nat → Int32) →  Prop} {x1 : Int32} {K len s x : Nat} {tx : Nat → Nat} (hlen : len < 12) (hK : cr_R T K len tx) (hx : x < T) (hT : T ≤ 4)
    (hJ : ∀ (xN xT xB xR xS xE xL xA xG xC xF : Int32) (aL aN aS aR aM aK aT aE : Nat → Int32), (∃ L' tx', jr_B N T L' g m kd tx' (xN, xT, xB, xR, xS, xE, xL, xA, xG, xC, xF, aL, aN, aS, aR, aM, aK, aT, aE)) → J385 (nI (x + 1)) xN xT xB xR xS xE xL xA xG xC xF aL aN aS aR aM aK aT aE) :
    ∀ (d i : Nat) (xN xT xB xR xS xE xL xA xG xC xF : Int32) (aL aN aS aR aM aK aT aE : Nat → Int32), i + d = len → jr_B N T i g m kd tx (xN, xT, xB, xR, xS, xE, xL, xA, xG, xC, xF, aL, aN, aS, aR, aM, aK, aT, aE) → wL_law_400 post Z xs J197 J385 x1 (nI T) (lN K) (nI len) (nI s) (fo_M (dq_P (gz_C g m kd N).1 (gz_C g m kd N).2.1 (gz_C g m kd N).2.2.1 (gz_C g m kd N).2.2.2 tx len) T) (nI x) kc ks (d + 1) (nI i) xN xT xB xR xS xE xL xA xG xC xF aL aN aS aR aM aK aT aE := by
  intro d
  induction d with
  | zero =>
    intro i xN xT xB xR xS xE xL xA xG xC xF aL aN aS aR aM aK aT aE hi hB
    have e : i = len := by omega
    subst e
    refine br_t (nI_le (Nat.le_refl _) (by omega)) (jm_feed hB hx (fun p => if p = i then x else tx p) (fun p hp => if_neg (by omega)) (if_pos rfl) (fun _ u' hu => ?_) (fun z => absurd hlen z))
    obtain ⟨xN, xT, xB, xR, xS, xE, xL, xA, xG, xC, xF, aL, aN, aS, aR, aM, aK, aT, aE⟩ := u'
    refine jm_al hu (ek_if (d := dq_P (gz_C g m kd N).1 (gz_C g m kd N).2.1 (gz_C g m kd N).2.2.1 (gz_C g m kd N).2.2.2 tx i x) (Iff.trans (xb_t (by omega) _) (Iff.trans (fo_b T (by omega) x (by omega)) ⟨And.right, fun y => ⟨hx, y⟩⟩)) (fun z => ?_) (fun z => ?_))
    · exact br_t (bz_t z).symm (nm_r (nI_1 x) (hJ _ _ _ _ _ _ _ _ _ _ _ _ _ _ _ _ _ _ _ ⟨_, _, hu⟩))
    · exact br_t (bz_f z).symm (nm_r (nI_1 x) (hJ _ _ _ _ _ _ _ _ _ _ _ _ _ _ _ _ _ _ _ ⟨_, _, hu⟩))
  | succ d ih =>
    intro i xN xT xB xR xS xE xL xA xG xC xF aL aN aS aR aM aK aT aE hi hB
    refine br_f (nI_ge (by omega) (by omega)) ?_
    rw [cr_get hK (by omega) (by omega)]
    refine jm_feed hB (hK.2 i (by omega)).2 tx (fun _ _ => rfl) rfl (fun _ u' hu => ?_) (fun z => absurd (by omega) z)
    obtain ⟨xN, xT, xB, xR, xS, xE, xL, xA, xG, xC, xF, aL, aN, aS, aR, aM, aK, aT, aE⟩ := u'
    exact nm_r (nI_1 i) (ih (i + 1) _ _ _ _ _ _ _ _ _ _ _ _ _ _ _ _ _ _ _ (by omega) hu)
theorem la_385 {J197 : Int32 → Int64 → Int32 → Int32 → Int32 → Int32 → Int32 → Int32 → Int32 → Int32 → Int32 → Int32 → Int32 → Int32 → Int32 → (Nat → Int32) → (Nat → Int32) → (Nat → Int32) → (Nat → Int32) → (Nat → Int32) → (Nat → Int32) → (Nat → Int32) → (Nat → Int32) →  Prop} {x1 : Int32} {K len s : Nat} {tx : Nat → Nat} (hlen : len < 12) (hK : cr_R T K len tx) (hT : T ≤ 4)
    (hJ : ∀ (xN xT xB xR xS xE xL xA xG xC xF : Int32) (aL aN aS aR aM aK aT aE : Nat → Int32), jr_B N T len g m kd tx (xN, xT, xB, xR, xS, xE, xL, xA, xG, xC, xF, aL, aN, aS, aR, aM, aK, aT, aE) → J197 x1 (lN K) (nI len) (nI (s + 1)) xN xT xB xR xS xE xL xA xG xC xF aL aN aS aR aM aK aT aE) :
    ∀ (d x : Nat) (xN xT xB xR xS xE xL xA xG xC xF : Int32) (aL aN aS aR aM aK aT aE : Nat → Int32), x + d = T → (∃ L' tx', jr_B N T L' g m kd tx' (xN, xT, xB, xR, xS, xE, xL, xA, xG, xC, xF, aL, aN, aS, aR, aM, aK, aT, aE)) → wL_law_385 post Z xs J197 x1 (nI T) (lN K) (nI len) (nI s) (fo_M (dq_P (gz_C g m kd N).1 (gz_C g m kd N).2.1 (gz_C g m kd N).2.2.1 (gz_C g m kd N).2.2.2 tx len) T) kc ks (d + 1) (nI x) xN xT xB xR xS xE xL xA xG xC xF aL aN aS aR aM aK aT aE := by
  intro d
  induction d with
  | zero =>
    intro x xN xT xB xR xS xE xL xA xG xC xF aL aN aS aR aM aK aT aE hx hB
    obtain ⟨L', tx', hB⟩ := hB
    refine br_t (nI_le (by omega) (by omega)) (jm_clear hB tx fun u' hu => ?_)
    obtain ⟨xN, xT, xB, xR, xS, xE, xL, xA, xG, xC, xF, aL, aN, aS, aR, aM, aK, aT, aE⟩ := u'
    exact ⟨len + 1, la_484 (by omega) hK hJ len 0 _ _ _ _ _ _ _ _ _ _ _ _ _ _ _ _ _ _ _ (by omega) hu⟩
  | succ d ih =>
    intro x xN xT xB xR xS xE xL xA xG xC xF aL aN aS aR aM aK aT aE hx hB
    obtain ⟨L', tx', hB⟩ := hB
    refine br_f (nI_ge (by omega) (by omega)) (jm_clear hB tx fun u' hu => ?_)
    obtain ⟨xN, xT, xB, xR, xS, xE, xL, xA, xG, xC, xF, aL, aN, aS, aR, aM, aK, aT, aE⟩ := u'
    exact ⟨len + 1, la_400 hlen hK (by omega) hT (fun xN xT xB xR xS xE xL xA xG xC xF aL aN aS aR aM aK aT aE h => ih (x + 1) _ _ _ _ _ _ _ _ _ _ _ _ _ _ _ _ _ _ _ (by omega) h) len 0 _ _ _ _ _ _ _ _ _ _ _ _ _ _ _ _ _ _ _ (by omega) hu⟩
theorem la_287 {J197 : Int32 → Int64 → Int32 → Int32 → Int32 → Int32 → Int32 → Int32 → Int32 → Int32 → Int32 → Int32 → Int32 → Int32 → Int32 → (Nat → Int32) → (Nat → Int32) → (Nat → Int32) → (Nat → Int32) → (Nat → Int32) → (Nat → Int32) → (Nat → Int32) → (Nat → Int32) →  Prop} {x1 : Int32} {K len s : Nat} {tx : Nat → Nat} (hK : cr_R T K len tx)
    (hJ : ∀ (xN xT xB xR xS xE xL xA xG xC xF : Int32) (aL aN aS aR aM aK aT aE : Nat → Int32), jr_B N T len g m kd tx (xN, xT, xB, xR, xS, xE, xL, xA, xG, xC, xF, aL, aN, aS, aR, aM, aK, aT, aE) → J197 x1 (lN K) (nI len) (nI (s + 1)) xN xT xB xR xS xE xL xA xG xC xF aL aN aS aR aM aK aT aE) (xN xT xB xR xS xE xL xA xG xC xF : Int32) (aL aN aS aR aM aK aT aE : Nat → Int32) (hB : jr_B N T len g m kd tx (xN, xT, xB, xR, xS, xE, xL, xA, xG, xC, xF, aL, aN, aS, aR, aM, aK, aT, aE)) : wL_law_287 post Z xs J197 x1 (nI T) (lN K) (nI len) (nI s) kc ks xN xT xB xR xS xE xL xA xG xC xF aL aN aS aR aM aK aT aE := by
  obtain ⟨⟨⟨hN1, hN6⟩, ⟨hT1, hT4⟩, h8, h12, hE⟩, hlen, hkd, _⟩ := jr_b hB
  have hsub : dv_D g.1 g.2.1 g.2.2.1 g.2.2.2 (tm_s false tx len) 0 0 len → dv_D (gz_C g m kd N).1 (gz_C g m kd N).2.1 (gz_C g m kd N).2.2.1 (gz_C g m kd N).2.2.2 (tm_s false tx len) 0 0 len :=
    fun d => sb_sub hkd (fun r hr => (hE r hr).1) (fun r hr => by have := (hE r hr).1; omega) d
  obtain ⟨k, hk, ek⟩ := fo_k (P := dq_P (gz_C g m kd N).1 (gz_C g m kd N).2.1 (gz_C g m kd N).2.2.1 (gz_C g m kd N).2.2.2 tx len) T hT4
  have h16 : 2 ^ T ≤ 16 := Nat.le_trans (Nat.pow_le_pow_right (by decide) hT4) (by decide)
  have h360 : wL_law_360 post Z xs J197 x1 (nI T) (lN K) (nI len) (nI s) (fo_M (dq_P (gz_C g m kd N).1 (gz_C g m kd N).2.1 (gz_C g m kd N).2.2.1 (gz_C g m kd N).2.2.2 tx len) T) kc ks xN xT xB xR xS xE xL xA xG xC xF aL aN aS aR aM aK aT aE := by
    refine pk_le 12 len (fun z => nm_r (nI_1 s) (hJ _ _ _ _ _ _ _ _ _ _ _ _ _ _ _ _ _ _ _ hB)) (fun z => br_f (by rw [ek]; exact nI_pos (by omega)) (br_t (by rw [ek, fo_1 T (by omega)]; exact nI_lt hk (by omega)) ⟨T + 1, la_385 z hK hT4 hJ T 0 _ _ _ _ _ _ _ _ _ _ _ _ _ _ _ _ _ _ _ (by omega) ⟨_, _, hB⟩⟩))
  have h348 : wL_law_348 post Z xs J197 x1 (nI T) (lN K) (nI len) (nI s) (bz_I (dv_D (gz_C g m kd N).1 (gz_C g m kd N).2.1 (gz_C g m kd N).2.2.1 (gz_C g m kd N).2.2.2 (tm_s false tx len) 0 0 len)) (bz_I (dv_D (gz_C g m kd N).1 (gz_C g m kd N).2.1 (gz_C g m kd N).2.2.1 (gz_C g m kd N).2.2.2 (tm_s true tx len) 0 0 len)) (fo_M (dq_P (gz_C g m kd N).1 (gz_C g m kd N).2.1 (gz_C g m kd N).2.2.1 (gz_C g m kd N).2.2.2 tx len) T) kc ks xN xT xB xR xS xE xL xA xG xC xF aL aN aS aR aM aK aT aE :=
    bz_br rfl (fun _ => h360) (fun z => br_f (fun y => bz_0.mp y (dv_tm tm_co z)) h360)
  have h334 : wL_law_334 post Z xs J197 x1 (nI T) (lN K) (nI len) (nI s) (bz_I (dv_D g.1 g.2.1 g.2.2.1 g.2.2.2 (tm_s false tx len) 0 0 len)) (bz_I (dv_D (gz_C g m kd N).1 (gz_C g m kd N).2.1 (gz_C g m kd N).2.2.1 (gz_C g m kd N).2.2.2 (tm_s false tx len) 0 0 len)) (bz_I (∃ a, a < N ∧ kd a = 3)) (bz_I (dv_D (gz_C g m kd N).1 (gz_C g m kd N).2.1 (gz_C g m kd N).2.2.1 (gz_C g m kd N).2.2.2 (tm_s true tx len) 0 0 len)) (fo_M (dq_P (gz_C g m kd N).1 (gz_C g m kd N).2.1 (gz_C g m kd N).2.2.1 (gz_C g m kd N).2.2.2 tx len) T) kc ks xN xT xB xR xS xE xL xA xG xC xF aL aN aS aR aM aK aT aE :=
    bz_br rfl (fun z => br_t (bz_c ⟨hsub, fun d => nb_D (fun a ha y => z ⟨a, ha, y⟩) (fun r hr => (hE r hr).1) d⟩) h348) (fun _ => h348)
  unfold wL_law_287
  refine jm_ga hB (jm_aa hB (jm_se hB (jm_al hB (jm_nm hB ?_))))
  exact bz_br rfl (fun _ => h334) (fun z => br_f (fun y => bz_0.mp y (hsub z)) h334)
theorem la_197 (hZ : Z ≤ 260) (hp : post 1) (hT : 1 ≤ T) (hT4 : T ≤ 4) :
    ∀ (d s j K len : Nat) (tx : Nat → Nat) (xN xT xB xR xS xE xL xA xG xC xF : Int32) (aL aN aS aR aM aK aT aE : Nat → Int32), s + d = 17 → j ≤ 60 + s → cr_R T K len tx → jr_B N T len g m kd tx (xN, xT, xB, xR, xS, xE, xL, xA, xG, xC, xF, aL, aN, aS, aR, aM, aK, aT, aE) → wL_law_197 post Z xs (nI T) kc ks (d + 1) (nI j) (lN K) (nI len) (nI s) xN xT xB xR xS xE xL xA xG xC xF aL aN aS aR aM aK aT aE := by
  intro d
  induction d with
  | zero =>
    intro s j K len tx xN xT xB xR xS xE xL xA xG xC xF aL aN aS aR aM aK aT aE hs hj hK hB
    have e : s = 17 := by omega
    subst e
    exact br_t (by decide) hp
  | succ d ih =>
    intro s j K len tx xN xT xB xR xS xE xL xA xG xC xF aL aN aS aR aM aK aT aE hs hj hK hB
    have hlen := (jr_b hB).2.1
    refine br_f (nI_nlt (b := s) (a := 16) (by omega) (by omega)) (pk_le s 0 (fun z => la_287 hK (fun xN xT xB xR xS xE xL xA xG xC xF aL aN aS aR aM aK aT aE h => ih (s + 1) j K len tx _ _ _ _ _ _ _ _ _ _ _ _ _ _ _ _ _ _ _ (by omega) (by omega) hK h) _ _ _ _ _ _ _ _ _ _ _ _ _ _ _ _ _ _ _ hB) (fun z => nm_r (nI_1 j) (la_cz hZ (by omega) fun c hc => ⟨by decide, ?_⟩)))
    refine pk_eq (c % 8) 7 (fun z7 => ?_) (fun z7 => ⟨nI_ne0 (by omega) (by omega), nm_r (e' := nI (c % T)) (pk_rem hc (by omega) (by omega)) ?_⟩) (pk_rem (d := 8) hc (by decide) (by decide)) rfl (by omega) (by decide)
    · refine jm_clear hB tx fun u' hu => ?_
      obtain ⟨xN, xT, xB, xR, xS, xE, xL, xA, xG, xC, xF, aL, aN, aS, aR, aM, aK, aT, aE⟩ := u'
      exact la_287 (K := 0) (len := 0) cr_0 (fun xN xT xB xR xS xE xL xA xG xC xF aL aN aS aR aM aK aT aE h => ih (s + 1) (j + 1) 0 0 tx _ _ _ _ _ _ _ _ _ _ _ _ _ _ _ _ _ _ _ (by omega) (by omega) cr_0 h) _ _ _ _ _ _ _ _ _ _ _ _ _ _ _ _ _ _ _ hu
    · have hct : c % T < T := Nat.mod_lt _ (by omega)
      refine jm_feed hB hct (fun i => if i = len then c % T else tx i) (fun i hi => if_neg (by omega)) (if_pos rfl) (fun hlt u' hu => ?_) (fun hge => ?_)
      · obtain ⟨xN, xT, xB, xR, xS, xE, xL, xA, xG, xC, xF, aL, aN, aS, aR, aM, aK, aT, aE⟩ := u'
        have hK' := cr_add hK hct hT4
        exact br_t (nI_1 len).symm (nm_r (cr_put hK hlt (by omega)) (nm_r (nI_1 len) (la_287 hK' (fun xN xT xB xR xS xE xL xA xG xC xF aL aN aS aR aM aK aT aE h => ih (s + 1) (j + 1) _ (len + 1) _ _ _ _ _ _ _ _ _ _ _ _ _ _ _ _ _ _ _ _ (by omega) (by omega) hK' h) _ _ _ _ _ _ _ _ _ _ _ _ _ _ _ _ _ _ _ hu)))
      · have e : len = 12 := by omega
        subst e
        exact br_f (by decide) (la_287 hK (fun xN xT xB xR xS xE xL xA xG xC xF aL aN aS aR aM aK aT aE h => ih (s + 1) (j + 1) K 12 tx _ _ _ _ _ _ _ _ _ _ _ _ _ _ _ _ _ _ _ (by omega) (by omega) hK h) _ _ _ _ _ _ _ _ _ _ _ _ _ _ _ _ _ _ _ hB)
theorem la_111 {J67 : Int32 → Int32 → Int32 → Int32 → Int32 → Int32 → Int32 → Int32 → Int32 → Int32 → Int32 → Int32 → Int32 → (Nat → Int32) → (Nat → Int32) → (Nat → Int32) → (Nat → Int32) → (Nat → Int32) → (Nat → Int32) → (Nat → Int32) → (Nat → Int32) →  Prop} {x5 : Int32} {r B Q : Nat} (hZ : Z ≤ 260) (hB : B ≤ 100) (hQ : Q ≤ 4)
    (hJ : ∀ (j : Nat) (xN xT xB xR xS xE xL xA xG xC xF : Int32) (aL aN aS aR aM aK aT aE : Nat → Int32), j ≤ B + Q → jr_E N T (xN, xT, xB, xR, xS, xE, xL, xA, xG, xC, xF, aL, aN, aS, aR, aM, aK, aT, aE) → J67 (nI j) (nI (r + 1)) xN xT xB xR xS xE xL xA xG xC xF aL aN aS aR aM aK aT aE) :
    ∀ (d k j : Nat) (xN xT xB xR xS xE xL xA xG xC xF : Int32) (aL aN aS aR aM aK aT aE : Nat → Int32), k + d = Q → j ≤ B + k → jr_E N T (xN, xT, xB, xR, xS, xE, xL, xA, xG, xC, xF, aL, aN, aS, aR, aM, aK, aT, aE) → wL_law_111 post Z xs J67 (nI N) (nI T) x5 (nI r) (nI Q) kc ks (d + 1) (nI j) (nI k) xN xT xB xR xS xE xL xA xG xC xF aL aN aS aR aM aK aT aE := by
  intro d
  induction d with
  | zero =>
    intro k j xN xT xB xR xS xE xL xA xG xC xF aL aN aS aR aM aK aT aE hk hj h
    exact br_t (nI_le (by omega) (by omega)) (nm_r (nI_1 r) (hJ j _ _ _ _ _ _ _ _ _ _ _ _ _ _ _ _ _ _ _ (by omega) h))
  | succ d ih =>
    intro k j xN xT xB xR xS xE xL xA xG xC xF aL aN aS aR aM aK aT aE hk hj h
    obtain ⟨a1, a2, a3, a4⟩ := jr_T h
    refine br_f (nI_ge (by omega) (by omega)) (nm_r (nI_1 j) (la_cz hZ (by omega) fun c hc => br_c (fun _ => ⟨nI_ne0 (by omega) (by omega), jm_term h _ fun r' u' hu => ?_⟩) (fun _ => ⟨nI_ne0 (by omega) (by omega), jm_nont h _ fun r' u' hu => ?_⟩)))
    · obtain ⟨xN, xT, xB, xR, xS, xE, xL, xA, xG, xC, xF, aL, aN, aS, aR, aM, aK, aT, aE⟩ := u'
      exact nm_r (nI_1 k) (ih (k + 1) (j + 1) _ _ _ _ _ _ _ _ _ _ _ _ _ _ _ _ _ _ _ (by omega) (by omega) hu)
    · obtain ⟨xN, xT, xB, xR, xS, xE, xL, xA, xG, xC, xF, aL, aN, aS, aR, aM, aK, aT, aE⟩ := u'
      exact nm_r (nI_1 k) (ih (k + 1) (j + 1) _ _ _ _ _ _ _ _ _ _ _ _ _ _ _ _ _ _ _ (by omega) (by omega) hu)
theorem la_67 {R : Nat} (hZ : Z ≤ 260) (hp : post 1) (hR : R ≤ 8) :
    ∀ (d r j : Nat) (xN xT xB xR xS xE xL xA xG xC xF : Int32) (aL aN aS aR aM aK aT aE : Nat → Int32), r + d = R → j ≤ 3 + 6 * r → jr_E N T (xN, xT, xB, xR, xS, xE, xL, xA, xG, xC, xF, aL, aN, aS, aR, aM, aK, aT, aE) → wL_law_67 post Z xs (nI N) (nI T) (nI R) kc ks (d + 1) (nI j) (nI r) xN xT xB xR xS xE xL xA xG xC xF aL aN aS aR aM aK aT aE := by
  intro d
  induction d with
  | zero =>
    intro r j xN xT xB xR xS xE xL xA xG xC xF aL aN aS aR aM aK aT aE hr hj h
    obtain ⟨a1, a2, a3, a4⟩ := jr_T h
    refine br_t (nI_le (by omega) (by omega)) (jm_build h fun r' u' g m kd hB => ?_)
    obtain ⟨xN, xT, xB, xR, xS, xE, xL, xA, xG, xC, xF, aL, aN, aS, aR, aM, aK, aT, aE⟩ := u'
    exact br_c (fun _ => ⟨17 + 1, la_197 hZ hp a4 a2 17 0 j 0 0 _ _ _ _ _ _ _ _ _ _ _ _ _ _ _ _ _ _ _ _ (by omega) (by omega) cr_0 hB⟩) (fun _ => hp)
  | succ d ih =>
    intro r j xN xT xB xR xS xE xL xA xG xC xF aL aN aS aR aM aK aT aE hr hj h
    obtain ⟨a1, a2, a3, a4⟩ := jr_T h
    refine br_f (nI_ge (by omega) (by omega)) (nm_r (nI_1 j) (la_cz hZ (by omega) fun c hc => ⟨nI_ne0 (by omega) (by omega), jm_rule h _ fun r' u' hu => ?_⟩))
    obtain ⟨xN, xT, xB, xR, xS, xE, xL, xA, xG, xC, xF, aL, aN, aS, aR, aM, aK, aT, aE⟩ := u'
    refine nm_r (nI_1 (j + 1)) (la_cz hZ (by omega) fun c2 hc2 => ⟨by decide, nm_r (e' := nI (c2 % 5)) (pk_rem (d := 5) hc2 (by decide) (by decide)) ⟨c2 % 5 + 1, ?_⟩⟩)
    exact la_111 (B := j + 2) hZ (by omega) (by omega) (fun j' xN xT xB xR xS xE xL xA xG xC xF aL aN aS aR aM aK aT aE hj' h' => ih (r + 1) j' _ _ _ _ _ _ _ _ _ _ _ _ _ _ _ _ _ _ _ (by omega) (by omega) h') (c2 % 5) 0 (j + 2) _ _ _ _ _ _ _ _ _ _ _ _ _ _ _ _ _ _ _ (by omega) (by omega) hu
end las
theorem la_ini {N T : Nat} {post : St2 → Prop} (hN1 : 1 ≤ N) (hN6 : N ≤ 6) (hT1 : 1 ≤ T) (hT4 : T ≤ 4) (H : ∀ u, jr_E N T u → post u) : wpX_init post 8 437 (0, 0, 0, 0, 0, 0, 0, 0, 0, 0, 0) (nI N) (nI T) := by
  unfold wpX_init
  refine ⟨by decide, by decide, by decide, by decide, by decide, by decide, by decide, by decide, by decide, by decide, by decide, by decide, by decide, by decide, by decide, by decide, ?_⟩
  refine br_t (nI_le (a := 1) hN1 (by omega)) (br_t (nI_le (b := 6) hN6 (by decide)) (br_t (nI_le (a := 1) hT1 (by omega)) (br_t (nI_le (b := 4) hT4 (by decide)) (H _ ?_))))
  exact ⟨(0, fun _ => 0, fun _ => 0, fun _ _ => 0), ⟨⟨hN1, hN6⟩, ⟨hT1, hT4⟩, Nat.zero_le _, Nat.zero_le _, fun r hr => absurd hr (Nat.not_lt_zero r)⟩, rfl, rfl, rfl, rfl, rfl, rfl, rfl, ⟨by decide, fun r hr => absurd hr (Nat.not_lt_zero r)⟩, fun _ _ => rfl⟩
end
section
/-! The owed statement -/
theorem ow_r {c d : Nat} (hc : c < 2 ^ 31) (hd : 0 < d) (hd2 : d < 100) : 1 + (nI c - nI c / nI d * nI d) = nI (1 + c % d) := by
  rw [pk_rem hc hd (by omega)]
  exact nI_add 1 _
theorem i_vc (xs : Nat → Int32) (L : Nat) (hL : L ≤ 260) : wpL_law (fun r => r = 1) L xs := by
  unfold wpL_law
  refine nm_r (e' := nI 1) (by decide) (la_cz (j := 0) hL (by decide) fun c1 h1 => ⟨by decide, nm_r (e' := nI (1 + c1 % 6)) (ow_r (d := 6) h1 (by decide) (by decide)) (nm_r (e' := nI 2) (nI_1 1) ?_)⟩)
  refine la_cz (j := 1) hL (by decide) fun c2 h2 => ⟨by decide, nm_r (e' := nI (1 + c2 % 4)) (ow_r (d := 4) h2 (by decide) (by decide)) ⟨8, 437, by decide, by decide, ?_⟩⟩
  refine la_ini (by omega) (by omega) (by omega) (by omega) fun u hu => ?_
  obtain ⟨xN, xT, xB, xR, xS, xE, xL, xA, xG, xC, xF, aL, aN, aS, aR, aM, aK, aT, aE⟩ := u
  refine nm_r (e' := nI 3) (nI_1 2) (la_cz (j := 2) hL (by decide) fun c3 h3 => ⟨by decide, nm_r (e' := nI (1 + c3 % 8)) (ow_r (d := 8) h3 (by decide) (by decide)) ⟨1 + c3 % 8 + 1, ?_⟩⟩)
  exact la_67 (post := fun r => r = 1) (xs := xs) (kc := 1 + 8) (ks := 19 + 437) (R := 1 + c3 % 8) hL rfl (by omega) (1 + c3 % 8) 0 3 _ _ _ _ _ _ _ _ _ _ _ _ _ _ _ _ _ _ _ (by omega) (by omega) hu
end
