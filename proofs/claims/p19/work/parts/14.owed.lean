/-! The owed statement -/
theorem ow_r {c d : Nat} (hc : c < 2 ^ 31) (hd : 0 < d) (hd2 : d < 100) : 1 + (nI c - nI c / nI d * nI d) = nI (1 + c % d) := by
  rw [pk_rem hc hd (by omega)]
  exact nI_add 1 _
theorem i_vc (xs : Nat → Int32) (L : Nat) (hL : L ≤ 260) : wpL_law (fun r => r = 1) L xs := by
  unfold wpL_law
  refine nm_r (e' := nI 1) (by decide) (la_cz (j := 0) hL (by decide) fun c1 h1 => ⟨by decide, nm_r (e' := nI (1 + c1 % 6)) (ow_r (d := 6) h1 (by decide) (by decide)) (nm_r (e' := nI 2) (nI_1 1) ?_)⟩)
  refine la_cz (j := 1) hL (by decide) fun c2 h2 => ⟨by decide, nm_r (e' := nI (1 + c2 % 4)) (ow_r (d := 4) h2 (by decide) (by decide)) ⟨8, 437, by decide, by decide, ?_⟩⟩
  refine la_ini (by omega) (by omega) (by omega) (by omega) fun u hu => ?_
  obtain ⟨xN, xT, xB, xR, xS, xE, xL, xA, xG, xC, xF, aL, aN, aS, aR, aM, aK, aT, aE⟩ := u
  refine nm_r (e' := nI 3) (nI_1 2) (la_cz (j := 2) hL (by decide) fun c3 h3 => ⟨by decide, nm_r (e' := nI (1 + c3 % 8)) (ow_r (d := 8) h3 (by decide) (by decide)) ⟨1 + c3 % 8 + 1, ?_⟩⟩)
  exact la_67 (post := fun r => r = 1) (xs := xs) (kc := 1 + 8) (ks := 19 + 437) (R := 1 + c3 % 8) hL rfl (by omega) (1 + c3 % 8) 0 3 _ _ _ _ _ _ _ _ _ _ _ _ _ _ _ _ _ _ _ (by omega) (by omega) hu
