set_option maxRecDepth 100000 in
set_option maxHeartbeats 8000000 in
theorem law_run (L : Nat) (xs : Nat → Int32) (hL : L ≤ 384) : ∀ (n k : Nat) (M : ow_M), ow_I M → k < 1000 → L < k + 6 * (n + 1) → lpL_law L xs (fun _ _ => some 1) (n + 1) (nI k) M = some 1 := by
  intro n
  induction n with
  | zero =>
    intro k M hI hk hn
    unfold lpL_law
    rw [if_pos]
    rcases Nat.lt_or_ge L 6 with h | h
    · exact Int32.lt_of_lt_of_le (pk_sneg (b := 6) (by decide) h) (nI_pos' (by omega))
    · show nI L - nI 6 < nI k
      rw [pk_sub h]
      exact nI_lt (by omega) (by omega)
  | succ n ih =>
    intro k M hI hk hn
    unfold lpL_law
    by_cases hx : (Int32.ofNat L - 6) < nI k
    · rw [if_pos hx]
    rw [if_neg hx]
    have hk6 : k + 6 ≤ L := by
      rcases Nat.lt_or_ge L 6 with h | h
      · exact absurd (Int32.lt_of_lt_of_le (pk_sneg (b := 6) (by decide) h) (nI_pos' (by omega))) hx
      · have h2 : ¬ nI L - nI 6 < nI k := hx
        rw [pk_sub h] at h2
        rcases Nat.lt_or_ge (L - 6) k with h3 | h3
        · exact absurd (nI_lt h3 (by omega)) h2
        · omega
    have hj : ∀ c, c < 6 → ow_inn (nI k + nI c) L := fun c hc => by rw [nI_add]; exact (inn_nI (by omega)).mpr (by omega)
    have i0 : ow_inn (nI k) L := (inn_nI (by omega)).mpr (by omega)
    have i1 : ow_inn (nI k + 1) L := hj 1 (by decide)
    have i2 : ow_inn (nI k + 2) L := hj 2 (by decide)
    have i3 : ow_inn (nI k + 3) L := hj 3 (by decide)
    have i4 : ow_inn (nI k + 4) L := hj 4 (by decide)
    have i5 : ow_inn (nI k + 5) L := hj 5 (by decide)
    have go : ∀ M2, ow_I M2 → lpL_law L xs (fun _ _ => some 1) (n + 1) (nI k + 6) M2 = some 1 := by
      intro M2 h2
      have := ih (k + 6) M2 h2 (by omega) (by omega)
      rw [← nI_add] at this
      exact this
    rw [if_pos i0]
    generalize hy1 : xs (nI k + 1).toNatClampNeg = y1
    generalize hy2 : xs (nI k + 2).toNatClampNeg = y2
    generalize hy3 : xs (nI k + 3).toNatClampNeg = y3
    generalize hy4 : xs (nI k + 4).toNatClampNeg = y4
    generalize hy5 : xs (nI k + 5).toNatClampNeg = y5
    generalize xs (nI k).toNatClampNeg &&& 31 = y0
    by_cases hc : y0 = 0
    · rw [if_pos hc]
      obtain ⟨r, M1, M2, e1, e2, h2⟩ := sp_wire hI y1 y2 y3 y4
      rw [if_pos i1, if_pos i2, if_pos i3, if_pos i4, e1, ow_bd_eq, if_pos i1, if_pos i2, if_pos i3, if_pos i4, e2, ow_bd_eq]
      rw [if_pos rfl]
      exact go _ h2
    rw [if_neg hc]
    by_cases hc : y0 = 1
    · rw [if_pos hc]
      obtain ⟨r, e1, e2⟩ := sp_ofPerson hI y1 y2
      rw [if_pos i1, if_pos i2, e1, ow_obs, if_pos i1, if_pos i2, e2, ow_obs]
      rw [if_pos rfl]
      exact go _ hI
    rw [if_neg hc]
    by_cases hc : y0 = 2
    · rw [if_pos hc]
      rw [if_pos i1, if_pos i2]
      by_cases hz : y2 = 0
      · rw [if_pos hz]
        obtain ⟨r, M1, M2, e1, e2, h2⟩ := sp_grudge hI y1 0 (Or.inl rfl)
        show jL_law_273 L xs (nI k) y1 0 (lpL_law L xs (fun _ _ => some 1) (n + 1)) (fun _ _ => some 1) M = some 1
        unfold jL_law_273
        rw [e1, ow_bd_eq, if_pos i1, if_pos i2, hy1, hy2, if_pos hz]
        unfold jL_law_295
        rw [e2, ow_bd_eq, if_pos rfl]
        exact go _ h2
      · rw [if_neg hz]
        obtain ⟨r, M1, M2, e1, e2, h2⟩ := sp_grudge hI y1 1 (Or.inr rfl)
        show jL_law_273 L xs (nI k) y1 1 (lpL_law L xs (fun _ _ => some 1) (n + 1)) (fun _ _ => some 1) M = some 1
        unfold jL_law_273
        rw [e1, ow_bd_eq, if_pos i1, if_pos i2, hy1, hy2, if_neg hz]
        unfold jL_law_295
        rw [e2, ow_bd_eq, if_pos rfl]
        exact go _ h2
    rw [if_neg hc]
    by_cases hc : y0 = 3
    · rw [if_pos hc]
      obtain ⟨r, M1, M2, e1, e2, h2⟩ := sp_hand hI y1
      rw [if_pos i1, e1, ow_bd_eq, if_pos i1, e2, ow_bd_eq]
      rw [if_pos rfl]
      exact go _ h2
    rw [if_neg hc]
    by_cases hc : y0 = 4
    · rw [if_pos hc]
      obtain ⟨r, M1, M2, e1, e2, h2⟩ := sp_wish hI y1 y2
      rw [if_pos i1, if_pos i2, e1, ow_bd_eq, if_pos i1, if_pos i2, e2, ow_bd_eq]
      rw [if_pos rfl]
      exact go _ h2
    rw [if_neg hc]
    by_cases hc : y0 = 5
    · rw [if_pos hc]
      obtain ⟨r, M1, M2, e1, e2, h2⟩ := sp_news hI y1 y2 y3 y4
      rw [if_pos i1, if_pos i2, if_pos i3, if_pos i4, e1, ow_bd_eq, if_pos i1, if_pos i2, if_pos i3, if_pos i4, e2, ow_bd_eq]
      rw [if_pos rfl]
      exact go _ h2
    rw [if_neg hc]
    by_cases hc : y0 = 6
    · rw [if_pos hc]
      obtain ⟨r, M1, M2, e1, e2, h2⟩ := sp_said hI y1 y2 y3 y4
      rw [if_pos i1, if_pos i2, if_pos i3, if_pos i4, e1, ow_bd_eq, if_pos i1, if_pos i2, if_pos i3, if_pos i4, e2, ow_bd_eq]
      rw [if_pos rfl]
      exact go _ h2
    rw [if_neg hc]
    by_cases hc : y0 = 7
    · rw [if_pos hc]
      obtain ⟨r, M1, M2, e1, e2, h2⟩ := sp_fewest hI 
      rw [e1, ow_bd_eq, e2, ow_bd_eq]
      rw [if_pos rfl]
      exact go _ h2
    rw [if_neg hc]
    by_cases hc : y0 = 8
    · rw [if_pos hc]
      obtain ⟨r, M1, M2, e1, e2, h2⟩ := sp_soonest hI 
      rw [e1, ow_bd_eq, e2, ow_bd_eq]
      rw [if_pos rfl]
      exact go _ h2
    rw [if_neg hc]
    by_cases hc : y0 = 9
    · rw [if_pos hc]
      obtain ⟨r, e1, e2⟩ := sp_cut hI y1
      rw [if_pos i1, e1, ow_obs, if_pos i1, e2, ow_obs]
      rw [if_pos rfl]
      exact go _ hI
    rw [if_neg hc]
    by_cases hc : y0 = 10
    · rw [if_pos hc]
      obtain ⟨r, M1, M2, e1, e2, h2⟩ := sp_order hI y1 y2 y3 y4 y5
      rw [if_pos i1, if_pos i2, if_pos i3, if_pos i4, if_pos i5, e1, ow_bd_eq, if_pos i1, if_pos i2, if_pos i3, if_pos i4, if_pos i5, e2, ow_bd_eq]
      rw [if_pos rfl]
      exact go _ h2
    rw [if_neg hc]
    by_cases hc : y0 = 11
    · rw [if_pos hc]
      obtain ⟨r, M1, M2, e1, e2, h2⟩ := sp_coming hI 
      rw [e1, ow_bd_eq, e2, ow_bd_eq]
      rw [if_pos rfl]
      exact go _ h2
    rw [if_neg hc]
    by_cases hc : y0 = 12
    · rw [if_pos hc]
      obtain ⟨r, M1, M2, e1, e2, h2⟩ := sp_letters hI y1
      rw [if_pos i1, e1, ow_bd_eq, if_pos i1, e2, ow_bd_eq]
      rw [if_pos rfl]
      exact go _ h2
    rw [if_neg hc]
    by_cases hc : y0 = 13
    · rw [if_pos hc]
      obtain ⟨r, e1, e2⟩ := sp_heard hI y1 y2 y3
      rw [if_pos i1, if_pos i2, if_pos i3, e1, ow_obs, if_pos i1, if_pos i2, if_pos i3, e2, ow_obs]
      rw [if_pos (ow_lgeq r)]
      exact go _ hI
    rw [if_neg hc]
    by_cases hc : y0 = 14
    · rw [if_pos hc]
      obtain ⟨r, e1, e2⟩ := sp_stand hI y1
      rw [if_pos i1, e1, ow_obs, if_pos i1, e2, ow_obs]
      rw [if_pos rfl]
      exact go _ hI
    rw [if_neg hc]
    by_cases hc : y0 = 15
    · rw [if_pos hc]
      obtain ⟨r, M1, M2, e1, e2, h2⟩ := sp_reading hI y1 y2 y3 y4
      rw [if_pos i1, if_pos i2, if_pos i3, if_pos i4, e1, ow_bd_eq, if_pos i1, if_pos i2, if_pos i3, if_pos i4, e2, ow_bd_eq]
      rw [if_pos rfl]
      exact go _ h2
    rw [if_neg hc]
    by_cases hc : y0 = 16
    · rw [if_pos hc]
      obtain ⟨r, M1, M2, e1, e2, h2⟩ := sp_back hI y1
      rw [if_pos i1, e1, ow_bd_eq, if_pos i1, e2, ow_bd_eq]
      rw [if_pos rfl]
      exact go _ h2
    rw [if_neg hc]
    by_cases hc : y0 = 17
    · rw [if_pos hc]
      obtain ⟨r, M1, M2, e1, e2, h2⟩ := sp_kinds hI y1
      rw [if_pos i1, e1, ow_bd_eq, if_pos i1, e2, ow_bd_eq]
      rw [if_pos rfl]
      exact go _ h2
    rw [if_neg hc]
    by_cases hc : y0 = 18
    · rw [if_pos hc]
      obtain ⟨r, M1, M2, e1, e2, h2⟩ := sp_walls hI 
      rw [e1, ow_bd_eq, e2, ow_bd_eq]
      rw [if_pos rfl]
      exact go _ h2
    rw [if_neg hc]
    by_cases hc : y0 = 19
    · rw [if_pos hc]
      obtain ⟨r, M1, M2, e1, e2, h2⟩ := sp_sheet hI y1 y2 y3
      rw [if_pos i1, if_pos i2, if_pos i3, e1, ow_bd_eq, if_pos i1, if_pos i2, if_pos i3, e2, ow_bd_eq]
      rw [if_pos rfl]
      exact go _ h2
    rw [if_neg hc]
    by_cases hc : y0 = 20
    · rw [if_pos hc]
      obtain ⟨r, M1, M2, e1, e2, h2⟩ := sp_lose hI y1
      rw [if_pos i1, e1, ow_bd_eq, if_pos i1, e2, ow_bd_eq]
      rw [if_pos rfl]
      exact go _ h2
    rw [if_neg hc]
    by_cases hc : y0 = 21
    · rw [if_pos hc]
      obtain ⟨r, M1, M2, e1, e2, h2⟩ := sp_put hI y1 y2 y3
      rw [if_pos i1, if_pos i2, if_pos i3, e1, ow_bd_eq, if_pos i1, if_pos i2, if_pos i3, e2, ow_bd_eq]
      rw [if_pos rfl]
      exact go _ h2
    rw [if_neg hc]
    by_cases hc : y0 = 22
    · rw [if_pos hc]
      obtain ⟨r, M1, M2, e1, e2, h2⟩ := sp_cell hI y1 y2 y3
      rw [if_pos i1, if_pos i2, if_pos i3, e1, ow_bd_eq, if_pos i1, if_pos i2, if_pos i3, e2, ow_bd_eq]
      rw [if_pos (ow_lgeq r)]
      exact go _ h2
    rw [if_neg hc]
    by_cases hc : y0 = 23
    · rw [if_pos hc]
      obtain ⟨r, M1, M2, e1, e2, h2⟩ := sp_copy hI y1 y2 y3 y4 y5
      rw [if_pos i1, if_pos i2, if_pos i3, if_pos i4, if_pos i5, e1, ow_bd_eq, if_pos i1, if_pos i2, if_pos i3, if_pos i4, if_pos i5, e2, ow_bd_eq]
      rw [if_pos rfl]
      exact go _ h2
    rw [if_neg hc]
    by_cases hc : y0 = 24
    · rw [if_pos hc]
      obtain ⟨r, M1, M2, e1, e2, h2⟩ := sp_tell hI y1
      rw [if_pos i1, e1, ow_bd_eq, if_pos i1, e2, ow_bd_eq]
      rw [if_pos rfl]
      exact go _ h2
    rw [if_neg hc]
    by_cases hc : y0 = 25
    · rw [if_pos hc]
      obtain ⟨r, M1, M2, e1, e2, h2⟩ := sp_lean hI y1
      rw [if_pos i1, e1, ow_bd_eq, if_pos i1, e2, ow_bd_eq]
      rw [if_pos rfl]
      exact go _ h2
    rw [if_neg hc]
    by_cases hc : y0 = 26
    · rw [if_pos hc]
      obtain ⟨r, M1, M2, e1, e2, h2⟩ := sp_as hI y1 y2
      rw [if_pos i1, if_pos i2, e1, ow_bd_eq, if_pos i1, if_pos i2, e2, ow_bd_eq]
      rw [if_pos rfl]
      exact go _ h2
    rw [if_neg hc]
    by_cases hc : y0 = 27
    · rw [if_pos hc]
      obtain ⟨r, e1, e2⟩ := sp_trace hI 
      rw [e1, ow_obs, e2, ow_obs]
      rw [if_pos rfl]
      exact go _ hI
    rw [if_neg hc]
    by_cases hc : y0 = 28
    · rw [if_pos hc]
      obtain ⟨r, e1, e2⟩ := sp_fault hI 
      rw [e1, ow_obs, e2, ow_obs]
      rw [if_pos rfl]
      exact go _ hI
    rw [if_neg hc]
    by_cases hc : y0 = 29
    · rw [if_pos hc]
      obtain ⟨r, e1, e2⟩ := sp_many hI y1
      rw [if_pos i1, e1, ow_obs, if_pos i1, e2, ow_obs]
      rw [if_pos rfl]
      exact go _ hI
    rw [if_neg hc]
    exact go _ hI
theorem law_pure (L : Nat) (xs : Nat → Int32) (hL : L ≤ 384) : lpL_law L xs (fun _ _ => some 1) ow_N 0 ow_M0 = some 1 :=
  law_run L xs hL 19999 0 ow_M0 ow_I0 (by decide) (by omega)
