/-! the word kept in a long: rows of the kit's pages (BITS), and of mine; masks -/
theorem wb_tb (n : Nat) : (lN n).toBitVec = BitVec.ofNat 64 n := rfl
theorem wb_inj {a b : Int64} (h : a.toBitVec = b.toBitVec) : a = b := Int64.toBitVec_inj.mp h
theorem wb_tn {n : Nat} (h : n < 2 ^ 64) : (lN n).toBitVec.toNat = n := by rw [wb_tb, BitVec.toNat_ofNat, Nat.mod_eq_of_lt h]
theorem wb_c : ∀ k, k < 64 → ((nI k).toInt64 &&& 63) = lN k := by decide +kernel
theorem wb_sm : ∀ k, k < 64 → (BitVec.ofNat 64 k).smod 64 = BitVec.ofNat 64 k := by decide +kernel
theorem wb_lt2 {a b : Nat} (h : a < b) : 2 ^ a < 2 ^ b := Nat.pow_lt_pow_right (by decide) h
theorem wb_shl (n : Nat) {k : Nat} (hk : k < 64) : lN n <<< ((nI k).toInt64 &&& 63) = lN (n * 2 ^ k) := by
  rw [wb_c k hk]
  apply wb_inj
  rw [Int64.toBitVec_shiftLeft, wb_tb, wb_tb, wb_tb, wb_sm k hk]
  apply BitVec.eq_of_toNat_eq
  rw [BitVec.shiftLeft_eq', BitVec.toNat_shiftLeft, BitVec.toNat_ofNat, BitVec.toNat_ofNat, BitVec.toNat_ofNat, Nat.mod_eq_of_lt (show k < 2 ^ 64 by omega), Nat.shiftLeft_eq, Nat.mul_mod, Nat.mod_mod, ← Nat.mul_mod]
theorem wb_and {a b : Nat} (ha : a < 2 ^ 64) (hb : b < 2 ^ 64) : lN a &&& lN b = lN (a &&& b) := by
  apply wb_inj
  rw [Int64.toBitVec_and, wb_tb, wb_tb, wb_tb]
  apply BitVec.eq_of_toNat_eq
  rw [BitVec.toNat_and, BitVec.toNat_ofNat, BitVec.toNat_ofNat, BitVec.toNat_ofNat, Nat.mod_eq_of_lt ha, Nat.mod_eq_of_lt hb, Nat.mod_eq_of_lt (Nat.and_lt_two_pow _ hb)]
theorem wb_mask {n k : Nat} (hn : n < 2 ^ 64) (hk : k < 64) : lN n &&& lN (2 ^ k - 1) = lN (n % 2 ^ k) := by
  rw [wb_and hn (by have := wb_lt2 hk; omega), Nat.and_two_pow_sub_one_eq_mod]
theorem u_tn {n : Nat} (h : n < 2 ^ 64) : (UInt64.ofNat n).toNat = n := Nat.mod_eq_of_lt h
theorem g_or {k p a b : Nat} (hp : 2 ^ k = p) (ha : a < p) (h : b * p + a < 2 ^ 64) : lN (b * p) ||| lN a = lN (b * p + a) := by
  subst hp
  have h1 : b * 2 ^ k ||| a = b * 2 ^ k + a := by rw [← Nat.shiftLeft_eq, Nat.shiftLeft_add_eq_or_of_lt ha]
  have h3 : UInt64.ofNat (b * 2 ^ k) ||| UInt64.ofNat a = UInt64.ofNat (b * 2 ^ k + a) := UInt64.toNat_inj.mp (by rw [UInt64.toNat_or, u_tn (by omega), u_tn (by omega), u_tn h, h1])
  have h2 := congrArg UInt64.toInt64 h3
  exact h2
theorem g_or' {k p a b : Nat} (hp : 2 ^ k = p) (ha : a < p) (h : a + b * p < 2 ^ 64) : lN a ||| lN (b * p) = lN (a + b * p) := by
  rw [Int64.or_comm, g_or hp ha (by omega), Nat.add_comm]
theorem pf_lI {a : Nat} (h : a < 2 ^ 63) : (lN a).toInt = (a : Int) := lg_ofNat_toInt h
theorem pf_shr {a d : Nat} {D : Int64} (hD : (D.toBitVec.smod 64).toNat = d) (h : a < 2 ^ 62) : lN a >>> D = lN (a / 2 ^ d) := by
  have hd : a / 2 ^ d ≤ a := Nat.div_le_self _ _
  apply Int64.toInt_inj.mp
  have e : (lN a >>> D).toInt = (lN a).toInt >>> d := by
    rw [← hD]
    exact BitVec.toInt_sshiftRight ..
  rw [e, Int.shiftRight_eq_div_pow, pf_lI (by omega), pf_lI (by omega)]
  rfl
/-- K holds len tokens, two bits each -/
def cr_R (T K len : Nat) (tx : Nat → Nat) : Prop := K < 2 ^ (2 * len) ∧ ∀ i, i < len → tx i = K / 2 ^ (2 * i) % 4 ∧ tx i < T
theorem cr_0 {T : Nat} {tx : Nat → Nat} : cr_R T 0 0 tx := ⟨by decide, fun i h => absurd h (Nat.not_lt_zero i)⟩
theorem cr_p {a b : Nat} (h : a < b) : 2 ^ (2 * b) = 4 * 2 ^ (2 * (b - a - 1)) * 2 ^ (2 * a) := by
  rw [show (4 : Nat) = 2 ^ 2 from rfl, ← Nat.pow_add, ← Nat.pow_add]
  congr 1
  omega
theorem cr_add {T K len t : Nat} {tx : Nat → Nat} (h : cr_R T K len tx) (ht : t < T) (hT : T ≤ 4) : cr_R T (K + t * 2 ^ (2 * len)) (len + 1) (fun i => if i = len then t else tx i) := by
  obtain ⟨h1, h2⟩ := h
  have hp : 0 < 2 ^ (2 * len) := Nat.pow_pos (by decide)
  constructor
  · have e : 2 ^ (2 * (len + 1)) = 4 * 2 ^ (2 * len) := by
      rw [show 2 * (len + 1) = 2 + 2 * len from by omega, Nat.pow_add]
    rw [e]
    have : t * 2 ^ (2 * len) ≤ 3 * 2 ^ (2 * len) := Nat.mul_le_mul_right _ (by omega)
    omega
  · intro i hi
    dsimp only
    by_cases z : i = len
    · subst z
      rw [if_pos rfl, Nat.add_mul_div_right _ _ hp, Nat.div_eq_of_lt h1]
      omega
    · rw [if_neg z]
      obtain ⟨a, b⟩ := h2 i (by omega)
      refine ⟨?_, b⟩
      rw [cr_p (show i < len by omega), ← Nat.mul_assoc, Nat.add_mul_div_right _ _ (Nat.pow_pos (by decide)), a]
      rw [show t * (4 * 2 ^ (2 * (len - i - 1))) = 4 * (t * 2 ^ (2 * (len - i - 1))) from by rw [Nat.mul_left_comm], Nat.add_mul_mod_self_left]
theorem cr_2 (i : Nat) : 2 * nI i = nI (2 * i) := by rw [show (2 : Int32) = nI 2 from rfl, pk_mul]
theorem cr_b {K len : Nat} (h : K < 2 ^ (2 * len)) (hl : len ≤ 12) : K < 16777216 := Nat.lt_of_lt_of_le h (Nat.le_trans (Nat.pow_le_pow_right (by decide) (show 2 * len ≤ 24 by omega)) (by decide))
theorem cr_get {T K len i : Nat} {tx : Nat → Nat} (h : cr_R T K len tx) (hl : len ≤ 12) (hi : i < len) : ((lN K >>> ((2 * nI i).toInt64 &&& 63)) &&& 3).toInt32 = nI (tx i) := by
  have hK := cr_b h.1 hl
  rw [cr_2, pf_shr (d := 2 * i) (by rw [wb_c _ (by omega), wb_tb, wb_sm _ (by omega), BitVec.toNat_ofNat, Nat.mod_eq_of_lt (by omega)]) (by omega)]
  rw [show (3 : Int64) = lN (2 ^ 2 - 1) from rfl, wb_mask (Nat.lt_of_le_of_lt (Nat.div_le_self _ _) (by omega)) (by decide), lN_i, (h.2 i hi).1]
theorem cr_put {T K len t : Nat} {tx : Nat → Nat} (h : cr_R T K len tx) (hl : len < 12) (ht : t < 4) : lN K ||| ((nI t).toInt64 <<< ((2 * nI len).toInt64 &&& 63)) = lN (K + t * 2 ^ (2 * len)) := by
  have hp : 2 ^ (2 * len) ≤ 16777216 := Nat.le_trans (Nat.pow_le_pow_right (by decide) (show 2 * len ≤ 24 by omega)) (by decide)
  have hm : t * 2 ^ (2 * len) ≤ 3 * 16777216 := Nat.mul_le_mul (by omega) hp
  have hK := cr_b h.1 (by omega)
  rw [nI_l (by omega), cr_2, wb_shl _ (by omega), g_or' rfl h.1 (by omega)]
theorem fo_s : ∀ t, t < 4 → ∀ k, k < 16 → k < 2 ^ t → (nI k ||| ((1 : Int32) <<< (nI t &&& 31))) = nI (k + 2 ^ t) := by decide +kernel
theorem fo_1 : ∀ t, t < 5 → ((1 : Int32) <<< (nI t &&& 31)) = nI (2 ^ t) := by decide +kernel
theorem fo_k {P : Nat → Prop} : ∀ t, t ≤ 4 → ∃ k, k < 2 ^ t ∧ fo_M P t = nI k := by
  intro t
  induction t with
  | zero => intro _; exact ⟨0, by decide, rfl⟩
  | succ t ih =>
    intro ht
    obtain ⟨k, h1, h2⟩ := ih (by omega)
    have hp : 2 ^ (t + 1) = 2 ^ t + 2 ^ t := by rw [Nat.pow_succ]; omega
    have h16 : 2 ^ t ≤ 16 := Nat.le_trans (Nat.pow_le_pow_right (by decide) (show t ≤ 4 by omega)) (by decide)
    rcases Classical.em (P t) with z | z
    · exact ⟨k + 2 ^ t, by omega, by rw [fo_t z, h2, fo_s t (by omega) k (by omega) h1]⟩
    · exact ⟨k, by omega, by rw [fo_f z, h2]⟩
theorem fo_b {P : Nat → Prop} : ∀ t, t ≤ 32 → ∀ x, x < 32 → (bt (fo_M P t) x = true ↔ x < t ∧ P x) := by
  intro t
  induction t with
  | zero =>
    intro _ x _
    rw [show fo_M P 0 = 0 from rfl, b_0]
    exact ⟨fun h => absurd h (by decide), fun h => absurd h.1 (Nat.not_lt_zero x)⟩
  | succ t ih =>
    intro ht x hx
    have := ih (by omega) x hx
    rcases Classical.em (P t) with z | z
    · rw [fo_t z, xb_os (by omega) hx, this]
      constructor
      · rintro (h | h)
        · exact ⟨by omega, h.2⟩
        · subst h; exact ⟨by omega, z⟩
      · rintro ⟨h1, h2⟩
        rcases Nat.lt_or_ge x t with y | y
        · exact Or.inl ⟨y, h2⟩
        · exact Or.inr (by omega)
    · rw [fo_f z, this]
      refine ⟨fun h => ⟨by omega, h.2⟩, fun h => ⟨?_, h.2⟩⟩
      rcases Nat.lt_or_ge x t with y | y
      · exact y
      · have e : x = t := by omega
        subst e
        exact absurd h.2 z
