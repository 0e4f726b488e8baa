/-! The class's methods, from any state that matches the picture -/
def jr_G (N T : Nat) (g : gm_G) : Prop := (1 ≤ N ∧ N ≤ 6) ∧ (1 ≤ T ∧ T ≤ 4) ∧ g.1 ≤ 8 ∧ sr_S g.2.2.1 g.1 ≤ 12 ∧ gw_E N g
/-- while the grammar is entered -/
def jr_E (N T : Nat) (u : St2) : Prop := match u with
  | (xN, xT, xB, xR, xS, xE, xL, xA, xG, xC, xF, aL, aN, aS, aR, aM, aK, aT, aE) => ∃ g : gm_G, jr_G N T g ∧ xN = nI N ∧ xT = nI T ∧ xB = 0 ∧ xR = nI g.1 ∧ xS = nI (sr_S g.2.2.1 g.1) ∧ xE = nI 8 ∧ xL = nI 0 ∧ gw_X 0 g aL aN aS ∧ ∀ a, a < 6 → aR a = 0
/-- built, w of length L, its tokens tx -/
def jr_B (N T L : Nat) (g : gm_G) (m kd tx : Nat → Nat) (u : St2) : Prop := match u with
  | (xN, xT, xB, xR, xS, xE, xL, xA, xG, xC, xF, aL, aN, aS, aR, aM, aK, aT, aE) => jr_G N T g ∧ L ≤ 12 ∧ (∀ a b, m a = m b → kd a = kd b) ∧ xN = nI N ∧ xT = nI T ∧ xB = 1 ∧ xR = nI g.1 ∧ xE = nI (8 + (gz_C g m kd N).1) ∧ xL = nI L ∧
    xG = bz_I (dv_D g.1 g.2.1 g.2.2.1 g.2.2.2 (tm_s false tx L) 0 0 L) ∧ xA = bz_I (dv_D (gz_C g m kd N).1 (gz_C g m kd N).2.1 (gz_C g m kd N).2.2.1 (gz_C g m kd N).2.2.2 (tm_s false tx L) 0 0 L) ∧ xC = bz_I (dv_D (gz_C g m kd N).1 (gz_C g m kd N).2.1 (gz_C g m kd N).2.2.1 (gz_C g m kd N).2.2.2 (tm_s true tx L) 0 0 L) ∧ xF = fo_M (dq_P (gz_C g m kd N).1 (gz_C g m kd N).2.1 (gz_C g m kd N).2.2.1 (gz_C g m kd N).2.2.2 tx L) T ∧
    gw_X 0 g aL aN aS ∧ gw_X 8 (gz_C g m kd N) aL aN aS ∧ (∀ a, a < N → aK a = nI (kd a) ∧ kd a ≤ 3) ∧ (∀ i, i < L → aT i = nI (tx i) ∧ tx i < 4)
theorem jm_rule {N T : Nat} {u : St2} (h : jr_E N T u) (v1 : Int32) {post : Int32 → St2 → Prop} (H : ∀ r u', jr_E N T u' → post r u') : wpX_rule post u v1 := by
  have h' := h
  obtain ⟨xN, xT, xB, xR, xS, xE, xL, xA, xG, xC, xF, aL, aN, aS, aR, aM, aK, aT, aE⟩ := u
  obtain ⟨g, ⟨⟨hN1, hN6⟩, ⟨hT1, hT4⟩, h8, h12, hE⟩, rfl, rfl, rfl, rfl, rfl, rfl, rfl, hX, hR⟩ := h
  refine br_t rfl ?_
  rcases pk_ix v1 (n := N) (by omega) with y | y | ⟨a, ha, rfl⟩
  · exact br_t y (H _ _ h')
  · exact br_f (Int32.not_lt.mpr (Int32.le_trans (nI_pos' (by omega)) y)) (br_f (Int32.not_lt.mpr y) (H _ _ h'))
  · refine br_f (nI_pos (by omega)) (br_t (nI_lt ha (by omega)) (pk_lt g.1 8 (fun z => ?_) (fun z => H _ _ h') rfl rfl (by omega) (by decide)))
    refine ⟨vp_in_nI (by omega) (by decide), nm_r (e' := upd aL g.1 (nI a)) (by rw [nI_clamp (by omega)]) ⟨vp_in_nI (by omega) (by decide), nm_r (e' := upd aN g.1 0) (by rw [nI_clamp (by omega)]) (nm_r (nI_1 g.1) (H _ _ ?_))⟩⟩
    refine ⟨gm_st g a, ⟨⟨hN1, hN6⟩, ⟨hT1, hT4⟩, z, ?_, gw_Est hE ha⟩, rfl, rfl, rfl, rfl, congrArg nI sr_st'.symm, rfl, rfl, gw_Xst hX (by rw [Nat.zero_add]) (by omega) (by omega), hR⟩
    rw [sr_st']; exact h12
theorem jm_ent {N T : Nat} {u : St2} (h : jr_E N T u) (v1 : Int32) (B c : Nat) (hB : B ≤ 6) (hs : ∀ t, t < B → c + t < N ∨ (12 ≤ c + t ∧ c + t < 16)) {post : Int32 → St2 → Prop} (H : ∀ r u', jr_E N T u' → post r u') : wpX_enterSymbol post u v1 (nI B) (nI c) := by
  have h' := h
  obtain ⟨xN, xT, xB, xR, xS, xE, xL, xA, xG, xC, xF, aL, aN, aS, aR, aM, aK, aT, aE⟩ := u
  obtain ⟨g, ⟨⟨hN1, hN6⟩, ⟨hT1, hT4⟩, h8, h12, hE⟩, rfl, rfl, rfl, rfl, rfl, rfl, rfl, hX, hR⟩ := h
  refine br_t rfl ?_
  rcases Nat.eq_zero_or_pos g.1 with h0 | h0
  · exact br_t (by rw [h0]; rfl) (H _ _ h')
  obtain ⟨q, hq⟩ : ∃ q, g.1 = q + 1 := ⟨g.1 - 1, by omega⟩
  have eq : nI g.1 - 1 = nI q := by rw [hq]; exact nI_pred q
  refine br_f (nI_ne0 h0 (by omega)) ?_
  rcases pk_ix v1 (n := B) (by omega) with y | y | ⟨t, ht, rfl⟩
  · exact br_t y (H _ _ h')
  · exact br_f (Int32.not_lt.mpr (Int32.le_trans (nI_pos' (by omega)) y)) (br_f (Int32.not_lt.mpr y) (H _ _ h'))
  · obtain ⟨x1, x2, x3, x4, x5⟩ := gw_X0 hX (r := q) (by omega)
    have eN : aN (nI q).toNatClampNeg = nI (g.2.2.1 q) := by rw [nI_clamp (by omega)]; exact x3
    refine br_f (nI_pos (by omega)) (br_t (nI_lt ht (by omega)) (nm_r eq ⟨vp_in_nI (by omega) (by decide), pk_le 4 (g.2.2.1 q) (fun z => H _ _ h') (fun z => pk_lt (sr_S g.2.2.1 g.1) 12 (fun w => ?_) (fun w => H _ _ h') rfl rfl (by omega) (by decide)) rfl eN (by decide) (by omega)⟩))
    have hs16 : c + t < 16 := by have := hs t ht; omega
    rw [nI_add]
    refine xa_S (l := g.2.2.1 q) (by omega) (by omega) x3 (nm_r (nI_1 _) ⟨vp_in_nI (by omega) (by decide), H _ _ ?_⟩)
    refine ⟨gm_pu g (c + t), ⟨⟨hN1, hN6⟩, ⟨hT1, hT4⟩, h8, ?_, gw_Epu hE hq z (hs t ht)⟩, rfl, rfl, rfl, rfl, congrArg nI (sr_pu' hq).symm, rfl, rfl, gw_Xpu hX hq (by rw [Nat.zero_add]) rfl hs16 (by omega), hR⟩
    rw [sr_pu' hq]; exact w
theorem jr_T {N T : Nat} {u : St2} (h : jr_E N T u) : N ≤ 6 ∧ T ≤ 4 ∧ 1 ≤ N ∧ 1 ≤ T := by
  obtain ⟨xN, xT, xB, xR, xS, xE, xL, xA, xG, xC, xF, aL, aN, aS, aR, aM, aK, aT, aE⟩ := u
  obtain ⟨g, ⟨⟨hN1, hN6⟩, ⟨hT1, hT4⟩, _⟩, _⟩ := h
  exact ⟨hN6, hT4, hN1, hT1⟩
theorem jm_term {N T : Nat} {u : St2} (h : jr_E N T u) (v1 : Int32) {post : Int32 → St2 → Prop} (H : ∀ r u', jr_E N T u' → post r u') : wpX_terminal post u v1 := by
  have hT := jr_T h
  have h' := h
  obtain ⟨xN, xT, xB, xR, xS, xE, xL, xA, xG, xC, xF, aL, aN, aS, aR, aM, aK, aT, aE⟩ := u
  obtain ⟨g, hG, rfl, rfl, rfl, rfl, rfl, rfl, rfl, hX, hR⟩ := h
  unfold wpX_terminal
  refine jm_ent h' v1 T 12 (by omega) (fun t ht => Or.inr ⟨by omega, by omega⟩) fun r u' hu => ?_
  obtain ⟨xN, xT, xB, xR, xS, xE, xL, xA, xG, xC, xF, aL, aN, aS, aR, aM, aK, aT, aE⟩ := u'
  exact H r _ hu
theorem jm_nont {N T : Nat} {u : St2} (h : jr_E N T u) (v1 : Int32) {post : Int32 → St2 → Prop} (H : ∀ r u', jr_E N T u' → post r u') : wpX_nonterminal post u v1 := by
  have hT := jr_T h
  have h' := h
  obtain ⟨xN, xT, xB, xR, xS, xE, xL, xA, xG, xC, xF, aL, aN, aS, aR, aM, aK, aT, aE⟩ := u
  obtain ⟨g, hG, rfl, rfl, rfl, rfl, rfl, rfl, rfl, hX, hR⟩ := h
  unfold wpX_nonterminal
  refine jm_ent h' v1 N 0 (by omega) (fun t ht => Or.inl (by omega)) fun r u' hu => ?_
  obtain ⟨xN, xT, xB, xR, xS, xE, xL, xA, xG, xC, xF, aL, aN, aS, aR, aM, aK, aT, aE⟩ := u'
  exact H r _ hu
theorem jm_build {N T : Nat} {u : St2} (h : jr_E N T u) {post : Int32 → St2 → Prop} (H : ∀ r u' g m kd, jr_B N T 0 g m kd (fun _ => 0) u' → post r u') : wpX_build post u := by
  obtain ⟨xN, xT, xB, xR, xS, xE, xL, xA, xG, xC, xF, aL, aN, aS, aR, aM, aK, aT, aE⟩ := u
  obtain ⟨g, hG, rfl, rfl, rfl, rfl, rfl, rfl, rfl, hX, hR⟩ := h
  have hG' := hG
  obtain ⟨⟨hN1, hN6⟩, ⟨hT1, hT4⟩, h8, h12, hE⟩ := hG'
  unfold wpX_build
  have hlt : ∀ a, a < N → mt_N (ws_W (ed_E g g.1) N) a < 6 := fun a ha => by have := mt_lt (R := ws_W (ed_E g g.1) N) (a := a); omega
  refine br_t rfl (xr_F hN6 h8 hX hE hR fun q hq => xm_S hN6 hq fun q2 hq2 => xk_F (m := mt_N (ws_W (ed_E g g.1) N)) hN6 h8 hX hE (fun a ha => ⟨hq2 a ha, hlt a ha⟩) fun q3 hq3 => xw_R (m := mt_N (ws_W (ed_E g g.1) N)) (kd := fun a => kn_K g (mt_N (ws_W (ed_E g g.1) N)) (mt_N (ws_W (ed_E g g.1) N) a)) hN6 h8 h12 hE (fun a ha => ⟨hq2 a ha, hlt a ha⟩) (fun a ha => ⟨hq3 a ha, kn_le⟩) hX fun l n t hI => ?_)
  refine xq_A (L := 0) (tx := fun _ => 0) (by decide) hT4 hI.1 hI.2 (fun i hi => absurd hi (Nat.not_lt_zero i)) fun aT' e' hT' => ?_
  refine H _ _ g (mt_N (ws_W (ed_E g g.1) N)) (fun a => kn_K g (mt_N (ws_W (ed_E g g.1) N)) (mt_N (ws_W (ed_E g g.1) N) a)) ⟨hG, by decide, fun a b e => congrArg (kn_K g (mt_N (ws_W (ed_E g g.1) N))) e, rfl, rfl, rfl, rfl, rfl, rfl, rfl, rfl, rfl, rfl, hI.1, hI.2, fun a ha => ⟨hq3 a ha, kn_le⟩, fun i hi => absurd hi (Nat.not_lt_zero i)⟩
section jms
variable {N T L : Nat} {g : gm_G} {m kd tx : Nat → Nat} {u : St2}
theorem jm_feed (h : jr_B N T L g m kd tx u) {t : Nat} (ht : t < T) (tx' : Nat → Nat) (h1 : ∀ i, i < L → tx' i = tx i) (h2 : tx' L = t) {post : Int32 → St2 → Prop} (H : L < 12 → ∀ u', jr_B N T (L + 1) g m kd tx' u' → post (nI (L + 1)) u') (H3 : ¬ L < 12 → post (-3) u) : wpX_feed post u (nI t) := by
  obtain ⟨xN, xT, xB, xR, xS, xE, xL, xA, xG, xC, xF, aL, aN, aS, aR, aM, aK, aT, aE⟩ := u
  obtain ⟨hG, hL, hkd, rfl, rfl, rfl, rfl, rfl, rfl, rfl, rfl, rfl, rfl, hX, hX2, hK, hT⟩ := h
  have hG' := hG
  obtain ⟨⟨hN1, hN6⟩, ⟨hT1, hT4⟩, h8, h12, hE⟩ := hG'
  unfold wpX_feed
  refine br_f (by decide) (br_f (nI_pos (by omega)) (br_t (nI_lt ht (by omega)) (pk_lt L 12 (fun z => ⟨vp_in_nI (by omega) (by decide), nm_r (e' := upd aT L (nI t)) (by rw [nI_clamp (by omega)]) (nm_r (nI_1 L) ?_)⟩) (fun z => H3 (by omega)) rfl rfl (by omega) (by decide))))
  refine xq_A (L := L + 1) (tx := tx') (by omega) hT4 hX hX2 (fun i hi => ?_) fun aT' e' hT' => ?_
  · by_cases w : i = L
    · subst w; rw [pk_us, h2]; exact ⟨rfl, by omega⟩
    · rw [pk_un w, h1 i (by omega)]; exact hT i (by omega)
  · exact H z _ ⟨hG, z, hkd, rfl, rfl, rfl, rfl, rfl, rfl, rfl, rfl, rfl, rfl, hX, hX2, hK, hT'⟩
theorem jm_clear (h : jr_B N T L g m kd tx u) (tx' : Nat → Nat) {post : Int32 → St2 → Prop} (H : ∀ u', jr_B N T 0 g m kd tx' u' → post 0 u') : wpX_clearInput post u := by
  obtain ⟨xN, xT, xB, xR, xS, xE, xL, xA, xG, xC, xF, aL, aN, aS, aR, aM, aK, aT, aE⟩ := u
  obtain ⟨hG, hL, hkd, rfl, rfl, rfl, rfl, rfl, rfl, rfl, rfl, rfl, rfl, hX, hX2, hK, hT⟩ := h
  have hG' := hG
  obtain ⟨⟨hN1, hN6⟩, ⟨hT1, hT4⟩, h8, h12, hE⟩ := hG'
  unfold wpX_clearInput
  refine br_f (by decide) ?_
  refine xq_A (L := 0) (tx := tx') (by decide) hT4 hX hX2 (fun i hi => absurd hi (Nat.not_lt_zero i)) fun aT' e' hT' => ?_
  exact H _ ⟨hG, by decide, hkd, rfl, rfl, rfl, rfl, rfl, rfl, rfl, rfl, rfl, rfl, hX, hX2, hK, hT'⟩
theorem jm_ga (h : jr_B N T L g m kd tx u) {post : Int32 → Prop} (H : post (bz_I (dv_D g.1 g.2.1 g.2.2.1 g.2.2.2 (tm_s false tx L) 0 0 L))) : wpX_grammarAccepts post u := by
  obtain ⟨xN, xT, xB, xR, xS, xE, xL, xA, xG, xC, xF, aL, aN, aS, aR, aM, aK, aT, aE⟩ := u
  obtain ⟨hG, hL, hkd, rfl, rfl, rfl, rfl, rfl, rfl, rfl, rfl, rfl, rfl, hX, hX2, hK, hT⟩ := h
  exact br_f (by decide) (bz_br rfl (fun z => bz_p0 H z) (fun z => bz_p1 H z))
theorem jm_aa (h : jr_B N T L g m kd tx u) {post : Int32 → Prop} (H : post (bz_I (dv_D (gz_C g m kd N).1 (gz_C g m kd N).2.1 (gz_C g m kd N).2.2.1 (gz_C g m kd N).2.2.2 (tm_s false tx L) 0 0 L))) : wpX_approxAccepts post u := by
  obtain ⟨xN, xT, xB, xR, xS, xE, xL, xA, xG, xC, xF, aL, aN, aS, aR, aM, aK, aT, aE⟩ := u
  obtain ⟨hG, hL, hkd, rfl, rfl, rfl, rfl, rfl, rfl, rfl, rfl, rfl, rfl, hX, hX2, hK, hT⟩ := h
  exact br_f (by decide) (bz_br rfl (fun z => bz_p0 H z) (fun z => bz_p1 H z))
theorem jm_al (h : jr_B N T L g m kd tx u) {post : Int32 → Prop} (H : post (bz_I (dv_D (gz_C g m kd N).1 (gz_C g m kd N).2.1 (gz_C g m kd N).2.2.1 (gz_C g m kd N).2.2.2 (tm_s true tx L) 0 0 L))) : wpX_approxLive post u := by
  obtain ⟨xN, xT, xB, xR, xS, xE, xL, xA, xG, xC, xF, aL, aN, aS, aR, aM, aK, aT, aE⟩ := u
  obtain ⟨hG, hL, hkd, rfl, rfl, rfl, rfl, rfl, rfl, rfl, rfl, rfl, rfl, hX, hX2, hK, hT⟩ := h
  exact br_f (by decide) (bz_br rfl (fun z => bz_p0 H z) (fun z => bz_p1 H z))
theorem jm_nm (h : jr_B N T L g m kd tx u) {post : Int32 → Prop} (H : post (fo_M (dq_P (gz_C g m kd N).1 (gz_C g m kd N).2.1 (gz_C g m kd N).2.2.1 (gz_C g m kd N).2.2.2 tx L) T)) : wpX_nextMask post u := by
  obtain ⟨xN, xT, xB, xR, xS, xE, xL, xA, xG, xC, xF, aL, aN, aS, aR, aM, aK, aT, aE⟩ := u
  obtain ⟨hG, hL, hkd, rfl, rfl, rfl, rfl, rfl, rfl, rfl, rfl, rfl, rfl, hX, hX2, hK, hT⟩ := h
  exact br_f (by decide) H
end jms
section jns
variable {xN xT xB xR xS xE xL xA xG xC xF : Int32} {aL aN aS aR aM aK aT aE : Nat → Int32}
variable {N : Nat} {kd : Nat → Nat}
theorem rd_xs {post : Int32 → Prop} (hN : N ≤ 6) (hK : ∀ a, a < N → aK a = nI (kd a) ∧ kd a ≤ 3) (H : post (bz_I (∃ a, a < N ∧ kd a = 3))) :
    ∀ d a, a + d = N → (∀ a', a' < a → kd a' ≠ 3) → wX_selfEmbedding_11 post (nI N) xT xB xR xS xE xL xA xG xC xF aL aN aS aR aM aK aT aE (d + 1) (nI a) := by
  intro d
  induction d with
  | zero =>
    intro a ha hn
    rw [bz_f (P := ∃ a, a < N ∧ kd a = 3) (fun ⟨a', h1, h2⟩ => hn a' (by omega) h2)] at H
    exact br_t (nI_le (by omega) (by omega)) H
  | succ d ih =>
    intro a ha hn
    have hk := hK a (by omega)
    refine br_f (nI_ge (by omega) (by omega)) ⟨vp_in_nI (by omega) (by decide), pk_eq (kd a) 3 (fun z => ?_) (fun z => nm_r (nI_1 a) (ih (a + 1) (by omega) fun a' h' => ?_)) (by rw [nI_clamp (by omega)]; exact hk.1) rfl (by omega) (by decide)⟩
    · exact bz_p1 H ⟨a, by omega, z⟩
    · by_cases y : a' = a
      · subst y; exact z
      · exact hn a' (by omega)
end jns
theorem jm_se {N T L : Nat} {g : gm_G} {m kd tx : Nat → Nat} {u : St2} (h : jr_B N T L g m kd tx u) {post : Int32 → Prop} (H : post (bz_I (∃ a, a < N ∧ kd a = 3))) : wpX_selfEmbedding post u := by
  obtain ⟨xN, xT, xB, xR, xS, xE, xL, xA, xG, xC, xF, aL, aN, aS, aR, aM, aK, aT, aE⟩ := u
  obtain ⟨⟨⟨hN1, hN6⟩, ⟨hT1, hT4⟩, h8, h12, hE⟩, hL, hkd, rfl, rfl, rfl, rfl, rfl, rfl, rfl, rfl, rfl, rfl, hX, hX2, hK, hT⟩ := h
  exact br_f (by decide) ⟨N + 1, rd_xs hN6 hK H N 0 (by omega) (fun a h => absurd h (Nat.not_lt_zero a))⟩
theorem jr_b {N T L : Nat} {g : gm_G} {m kd tx : Nat → Nat} {u : St2} (h : jr_B N T L g m kd tx u) : jr_G N T g ∧ L ≤ 12 ∧ (∀ a b, m a = m b → kd a = kd b) ∧ ∀ i, i < L → tx i < 4 := by
  obtain ⟨xN, xT, xB, xR, xS, xE, xL, xA, xG, xC, xF, aL, aN, aS, aR, aM, aK, aT, aE⟩ := u
  obtain ⟨hG, hL, hkd, _, _, _, _, _, _, _, _, _, _, hX, hX2, hK, hT⟩ := h
  exact ⟨hG, hL, hkd, fun i hi => (hT i hi).2⟩
