/-! A grammar as it grows, and the two tables that hold it -/
abbrev gm_G : Type := Nat × (Nat → Nat) × (Nat → Nat) × (Nat → Nat → Nat)
def gm_st (g : gm_G) (a : Nat) : gm_G := (g.1 + 1, (fun r => if r = g.1 then a else g.2.1 r), (fun r => if r = g.1 then 0 else g.2.2.1 r), g.2.2.2)
def gm_pu (g : gm_G) (s : Nat) : gm_G := (g.1, g.2.1, (fun r => if r = g.1 - 1 then g.2.2.1 r + 1 else g.2.2.1 r), (fun r k => if r = g.1 - 1 ∧ k = g.2.2.1 r then s else g.2.2.2 r k))
theorem gm_sL {g : gm_G} {a : Nat} : (gm_st g a).2.1 g.1 = a := if_pos rfl
theorem gm_sL' {g : gm_G} {a r : Nat} (h : r ≠ g.1) : (gm_st g a).2.1 r = g.2.1 r := if_neg h
theorem gm_sN {g : gm_G} {a : Nat} : (gm_st g a).2.2.1 g.1 = 0 := if_pos rfl
theorem gm_sN' {g : gm_G} {a r : Nat} (h : r ≠ g.1) : (gm_st g a).2.2.1 r = g.2.2.1 r := if_neg h
theorem gm_pN {g : gm_G} {s q : Nat} (hq : g.1 = q + 1) : (gm_pu g s).2.2.1 q = g.2.2.1 q + 1 := if_pos (by rw [hq]; rfl)
theorem gm_pN' {g : gm_G} {s q r : Nat} (hq : g.1 = q + 1) (h : r ≠ q) : (gm_pu g s).2.2.1 r = g.2.2.1 r := if_neg (by rw [hq]; exact h)
theorem gm_pS {g : gm_G} {s q : Nat} (hq : g.1 = q + 1) : (gm_pu g s).2.2.2 q (g.2.2.1 q) = s := if_pos ⟨by rw [hq]; rfl, rfl⟩
theorem gm_pS' {g : gm_G} {s q r k : Nat} (hq : g.1 = q + 1) (h : ¬ (r = q ∧ k = g.2.2.1 q)) : (gm_pu g s).2.2.2 r k = g.2.2.2 r k := if_neg (by rw [hq]; rintro ⟨a, b⟩; have a : r = q := a; subst a; exact h ⟨rfl, b⟩)
/-- where rule r's symbols begin in a packed table -/
def sr_S (ln : Nat → Nat) : Nat → Nat
  | 0 => 0
  | r + 1 => sr_S ln r + ln r
theorem sr_c {ln ln' : Nat → Nat} : ∀ r, (∀ q, q < r → ln q = ln' q) → sr_S ln r = sr_S ln' r := by
  intro r
  induction r with
  | zero => intro _; rfl
  | succ r ih =>
    intro h
    show sr_S ln r + ln r = sr_S ln' r + ln' r
    rw [ih fun q hq => h q (by omega), h r (by omega)]
theorem sr_m {ln : Nat → Nat} {r : Nat} : ∀ {n}, r < n → sr_S ln r + ln r ≤ sr_S ln n := by
  intro n
  induction n with
  | zero => intro h; omega
  | succ n ih =>
    intro h
    show _ ≤ sr_S ln n + ln n
    rcases Nat.lt_or_ge r n with z | z
    · have := ih z; omega
    · have e : r = n := by omega
      subst e
      exact Nat.le_refl _
theorem sr_st {g : gm_G} {a : Nat} : sr_S (gm_st g a).2.2.1 (g.1 + 1) = sr_S g.2.2.1 g.1 := by
  show sr_S (gm_st g a).2.2.1 g.1 + (gm_st g a).2.2.1 g.1 = _
  rw [gm_sN, Nat.add_zero]
  exact sr_c _ fun q hq => gm_sN' (by omega)
theorem sr_pu {g : gm_G} {s q : Nat} (hq : g.1 = q + 1) : sr_S (gm_pu g s).2.2.1 g.1 = sr_S g.2.2.1 g.1 + 1 := by
  rw [hq]
  show sr_S (gm_pu g s).2.2.1 q + (gm_pu g s).2.2.1 q = sr_S g.2.2.1 q + g.2.2.1 q + 1
  rw [gm_pN hq, sr_c (ln' := g.2.2.1) q fun r hr => gm_pN' hq (by omega)]
  omega
theorem sr_st' {g : gm_G} {a : Nat} : sr_S (gm_st g a).2.2.1 (gm_st g a).1 = sr_S g.2.2.1 g.1 := sr_st
theorem sr_pu' {g : gm_G} {s q : Nat} (hq : g.1 = q + 1) : sr_S (gm_pu g s).2.2.1 (gm_pu g s).1 = sr_S g.2.2.1 g.1 + 1 := sr_pu hq
def gw_X (lo : Nat) (g : gm_G) (aL aN aS : Nat → Int32) : Prop := gx_R lo g.1 aL aN aS g.2.1 g.2.2.1 g.2.2.2
theorem gw_Xst {lo ix a : Nat} {g : gm_G} {aL aN aS : Nat → Int32} (h : gw_X lo g aL aN aS) (hx : ix = lo + g.1) (ha : a < 12) (hl : lo + g.1 < 34) : gw_X lo (gm_st g a) (upd aL ix (nI a)) (upd aN ix 0) aS := by
  subst hx
  refine ⟨hl, fun r hr => ?_⟩
  by_cases z : r = g.1
  · subst z
    rw [gm_sL, gm_sN, pk_us, pk_us]
    exact ⟨rfl, ha, rfl, Nat.zero_le 5, fun k hk => absurd hk (Nat.not_lt_zero k)⟩
  · have hr' : r < g.1 := by have : r < g.1 + 1 := hr; omega
    rw [gm_sL' z, gm_sN' z, pk_un (by omega), pk_un (by omega)]
    exact h.2 r hr'
theorem gw_Xpu {lo ix q l s : Nat} {g : gm_G} {aL aN aS : Nat → Int32} (h : gw_X lo g aL aN aS) (hq : g.1 = q + 1) (hx : ix = lo + q) (hl : l = g.2.2.1 q) (hs : s < 16) (h4 : g.2.2.1 q ≤ 4) : gw_X lo (gm_pu g s) aL (upd aN ix (nI (l + 1))) (upd aS (ix * 5 + l) (nI s)) := by
  subst hx hl
  refine ⟨h.1, fun r hr => ?_⟩
  have hr : r < g.1 := hr
  obtain ⟨h1, h2, h3, h5, h6⟩ := h.2 r hr
  by_cases z : r = q
  · subst z
    rw [gm_pN hq, pk_us]
    refine ⟨h1, h2, rfl, by omega, fun k hk => ?_⟩
    by_cases y : k = g.2.2.1 r
    · subst y
      rw [gm_pS hq, pk_us]
      exact ⟨rfl, hs⟩
    · rw [gm_pS' hq (fun w => y w.2), pk_un (by omega)]
      exact h6 k (by omega)
  · rw [gm_pN' hq z, pk_un (by omega)]
    refine ⟨h1, h2, h3, h5, fun k hk => ?_⟩
    rw [gm_pS' hq (fun w => z w.1), pk_un (by omega)]
    exact h6 k hk
theorem gw_Xfr {g : gm_G} {aL aN aS bL bN bS : Nat → Int32} (h : gw_X 0 g aL aN aS) (h8 : g.1 ≤ 8) (h1 : ∀ r, r < 8 → bL r = aL r ∧ bN r = aN r) (h2 : ∀ c, c < 40 → bS c = aS c) : gw_X 0 g bL bN bS := by
  refine ⟨h.1, fun r hr => ?_⟩
  obtain ⟨a1, a2, a3, a4, a5⟩ := h.2 r hr
  rw [Nat.zero_add] at a1 a3 ⊢
  refine ⟨by rw [(h1 r (by omega)).1]; exact a1, a2, by rw [(h1 r (by omega)).2]; exact a3, a4, fun k hk => ?_⟩
  have := a5 k hk
  rw [Nat.zero_add] at this
  rw [h2 _ (by omega)]
  exact this
/-- an entered grammar -/
def gw_E (N : Nat) (g : gm_G) : Prop := ∀ r, r < g.1 → g.2.1 r < N ∧ g.2.2.1 r ≤ 4 ∧ ∀ k, k < g.2.2.1 r → g.2.2.2 r k < N ∨ (12 ≤ g.2.2.2 r k ∧ g.2.2.2 r k < 16)
theorem gw_Est {N a : Nat} {g : gm_G} (h : gw_E N g) (ha : a < N) : gw_E N (gm_st g a) := by
  intro r hr
  by_cases z : r = g.1
  · subst z
    rw [gm_sL, gm_sN]
    exact ⟨ha, Nat.zero_le 4, fun k hk => absurd hk (Nat.not_lt_zero k)⟩
  · have hr' : r < g.1 := by have : r < g.1 + 1 := hr; omega
    rw [gm_sL' z, gm_sN' z]
    exact h r hr'
theorem gw_Epu {N q s : Nat} {g : gm_G} (h : gw_E N g) (hq : g.1 = q + 1) (hl : g.2.2.1 q < 4) (hs : s < N ∨ (12 ≤ s ∧ s < 16)) : gw_E N (gm_pu g s) := by
  intro r hr
  have hr : r < g.1 := hr
  obtain ⟨h1, h2, h3⟩ := h r hr
  by_cases z : r = q
  · subst z
    rw [gm_pN hq]
    refine ⟨h1, hl, fun k hk => ?_⟩
    by_cases y : k = g.2.2.1 r
    · subst y; rw [gm_pS hq]; exact hs
    · rw [gm_pS' hq (fun w => y w.2)]; exact h3 k (by omega)
  · rw [gm_pN' hq z]
    refine ⟨h1, h2, fun k hk => ?_⟩
    rw [gm_pS' hq (fun w => z w.1)]
    exact h3 k hk
