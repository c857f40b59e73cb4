def ow_key2 : List Nat := [2, 3, 4, 5, 6, 7, 21, 22, 23, 24, 25, 38, 39, 40, 41, 53, 54, 55, 56]
theorem key2_x : ∀ a, a ∈ ow_key2 → a ∉ [0, 26, 27, 28, 29, 30, 31, 32, 33, 34, 35, 36, 37] := by decide
theorem key2_ne {a b : Nat} (h : a ∈ ow_key2) (hb : b ∈ [0, 26, 27, 28, 29, 30, 31, 32, 33, 34, 35, 36, 37]) : a ≠ b := fun e => key2_x a h (e ▸ hb)
theorem key2_s {a k : Nat} (h : a ∈ ow_key2) (hk : k < 4) : a ≠ 26 + 2 * k ∧ a ≠ 27 + 2 * k := by
  match k, hk with
  | 0, _ => exact ⟨key2_ne h (by decide), key2_ne h (by decide)⟩
  | 1, _ => exact ⟨key2_ne h (by decide), key2_ne h (by decide)⟩
  | 2, _ => exact ⟨key2_ne h (by decide), key2_ne h (by decide)⟩
  | 3, _ => exact ⟨key2_ne h (by decide), key2_ne h (by decide)⟩
/-- the sheets may be others -/
theorem ow_I_sh {M N : ow_M} (hI : ow_I M) (h : ∀ a, a ∈ ow_key2 → N.1 a = M.1 a) (h34 : ∀ j, j ∈ [5, 6, 7, 27] → N.1 34 j = M.1 34 j) (hS : iS N) (hT : N.1 34 1 = N.1 0 7) (hF : N.1 34 0 = N.1 0 8) : ow_I N := by
  have key : ow_I (fun a b => if a ∈ ow_key2 ∨ (a = 34 ∧ b ∈ [5, 6, 7, 27]) then N.1 a b else M.1 a b, N.2) := by
    refine ow_I_eq (M := M) ?_ ?_ hI
    · intro a ha
      funext b
      show (if a ∈ ow_key2 ∨ (a = 34 ∧ b ∈ [5, 6, 7, 27]) then N.1 a b else M.1 a b) = M.1 a b
      have h1 : a ≠ 34 := by
        rintro rfl
        exact absurd ha (by decide)
      by_cases q : a ∈ ow_key2
      · rw [if_pos (Or.inl q), h a q]
      · rw [if_neg (fun z => z.elim q (fun z => h1 z.1))]
    · intro j hj
      show (if 34 ∈ ow_key2 ∨ (34 = 34 ∧ j ∈ [5, 6, 7, 27]) then N.1 34 j else M.1 34 j) = M.1 34 j
      by_cases q : j ∈ [5, 6, 7, 27]
      · rw [if_pos (Or.inr ⟨rfl, q⟩), h34 j q]
      · rw [if_neg]
        rintro (z | z)
        · exact absurd z (by decide)
        · exact q z.2
  obtain ⟨n, lp, g, rc, hA, hB, hR, -, -, -⟩ := key
  exact ⟨n, lp, g, rc, hA, hB, hR, hS, hT, hF⟩
theorem ow_up_id {M : ow_M} {o k : Nat} {v : Int32} (h : M.1 o k = v) : ow_up M o k v = M := by
  apply Prod.ext
  · funext a b
    rw [ow_up_1]
    split
    · rename_i q; rw [q.1, q.2, h]
    · rfl
  · rfl
theorem sp_lose {M : ow_M} (hI : ow_I M) (a1 : Int32) : ∃ r M1 M2, fX7_lose a1 M = some (r, M1) ∧ fX8_lose a1 M1 = some (r, M2) ∧ ow_I M2 := by
  obtain ⟨n, lp, g, rc, hA, hB, hR, hS, hT, hF⟩ := id hI
  unfold fX7_lose
  rcases g_S a1 with ⟨k, hk, rfl, e1, e2⟩ | ⟨e1, e2⟩
  · have hi : ow_inn (nI k) 4 := (inn_nI (by omega)).mpr hk
    have hc : (nI k).toNatClampNeg = k := nI_clamp (by omega)
    obtain ⟨⟨len, h5, hl, hl2⟩, ht, hce⟩ := hS k hk
    simp only [e1, ow_obs, ow_10, reduceIte, if_pos hi, hc]
    rcases ht with ⟨t1, t2⟩ | ⟨t1, la, hla, t2, t3⟩
    · rw [if_pos t1]
      refine ⟨_, _, M, rfl, ?_, hI⟩
      unfold fX8_lose
      simp only [e2, ow_obs, ow_10, reduceIte, if_pos hi, hc, if_pos t2, ow_up_id t2]
    · rw [if_neg (by rw [t1]; decide)]
      refine ⟨_, _, ow_up (ow_up M (26 + 2 * k) 0 0) 35 k (-9), rfl, ?_, ?_⟩
      · unfold fX8_lose
        have q9 : ¬ (ow_up M (26 + 2 * k) 0 0).1 35 k = -9 := by
          rw [ow_up_f (Or.inl (by omega)), t3]
          exact fun h => (nI_m9 (by omega)).mp h
        simp only [e2, ow_obs, ow_10, reduceIte, if_pos hi, hc, if_neg q9]
      · refine ow_I_sh hI (fun a ha => ?_) (fun j hj => ?_) ?_ ?_ ?_
        · rw [ow_up_c (key2_ne ha (by decide)), ow_up_c (key2_s ha hk).1]
        · rw [ow_up_f (Or.inl (by decide)), ow_up_f (Or.inl (by omega))]
        · intro q hq
          obtain ⟨⟨len2, g5, gl, gl2⟩, gt, gce⟩ := hS q hq
          refine ⟨⟨len2, g5, ?_, ?_⟩, ?_, ?_⟩
          · rw [ow_up_f (Or.inl (by omega)), ow_up_f (Or.inr (by decide))]; exact gl
          · rw [ow_up_f (Or.inl (by decide)), ow_up_f (Or.inl (by omega))]; exact gl2
          · by_cases hqk : q = k
            · subst hqk
              refine Or.inl ⟨?_, ow_up_s⟩
              rw [ow_up_f (Or.inl (by omega)), ow_up_s]
            · rw [ow_up_f (o := 35) (a := 26 + 2 * q) (Or.inl (by omega)), ow_up_f (a := 26 + 2 * q) (Or.inl (by omega)), ow_up_f (o := 35) (a := 26 + 2 * q) (Or.inl (by omega)), ow_up_f (a := 26 + 2 * q) (Or.inl (by omega)), ow_up_f (a := 35) (Or.inr hqk), ow_up_f (a := 35) (Or.inl (by omega))]
              exact gt
          · intro i hi2
            rw [ow_up_f (a := 37) (Or.inl (by decide)), ow_up_f (a := 37) (Or.inl (by omega)), ow_up_f (a := 27 + 2 * q) (Or.inl (by omega)), ow_up_f (a := 27 + 2 * q) (Or.inl (by omega))]
            exact gce i hi2
        · rw [ow_up_f (a := 34) (Or.inl (by decide)), ow_up_f (a := 34) (Or.inl (by omega)), ow_up_f (a := 0) (Or.inl (by decide)), ow_up_f (a := 0) (Or.inl (by omega))]
          exact hT
        · rw [ow_up_f (a := 34) (Or.inl (by decide)), ow_up_f (a := 34) (Or.inl (by omega)), ow_up_f (a := 0) (Or.inl (by decide)), ow_up_f (a := 0) (Or.inl (by omega))]
          exact hF
  · rw [e1]
    refine ⟨_, _, _, rfl, ?_, hI⟩
    unfold fX8_lose
    rw [e2]
    rfl
theorem w_len (x : Int32) {len : Nat} (h5 : len ≤ 50) : (∃ a, a < len ∧ x = nI a ∧ fX8_within x 0 (nI len - 1) = some 1) ∨ ((x < 0 ∨ ∃ a, a < 2 ^ 31 ∧ x = nI a ∧ len ≤ a) ∧ fX8_within x 0 (nI len - 1) = some 0) := by
  unfold fX8_within
  by_cases h0 : x < 0
  · rw [if_pos h0]; exact Or.inr ⟨Or.inl h0, rfl⟩
  · rw [if_neg h0]
    obtain ⟨j, hj, rfl⟩ := nI_of h0
    have e : (nI len - 1 < nI j) ↔ len ≤ j := by
      rw [l_1, Int32.lt_iff_toInt_lt, sub_toInt (by omega) (by omega), nI_toInt (by omega)]
      omega
    by_cases h1 : nI len - 1 < nI j
    · rw [if_pos h1]
      exact Or.inr ⟨Or.inr ⟨j, hj, rfl, e.mp h1⟩, rfl⟩
    · rw [if_neg h1]
      rw [e] at h1
      exact Or.inl ⟨j, by omega, rfl, rfl⟩
theorem has1 {M : ow_M} {o len : Nat} (hl : M.1 o 2 = nI len) (h5 : len ≤ 50) (i : Int32) : (∃ a, a < len ∧ i = nI a ∧ fX4_hasCells o i 1 M = some 1 ∧ fX8_within i 0 (nI len - 1) = some 1) ∨ (fX4_hasCells o i 1 M = some 0 ∧ fX8_within i 0 (nI len - 1) = some 0) := by
  rcases hasC hl h5 i 1 with ⟨a, b, ha, hb, hab, hh⟩ | ⟨hh, hx⟩
  · have b1 : b = 1 := by
      rw [l_1] at hb
      exact ((nI_eq (by decide) (by omega)).mp hb).symm
    subst b1
    rcases w_len i h5 with ⟨a2, ha2, e2, hw⟩ | ⟨hx, hw⟩
    · exact Or.inl ⟨a2, ha2, e2, hh, hw⟩
    · exfalso
      subst ha
      rcases hx with hx | ⟨a2, ha2, e2, hx⟩
      · exact nI_pos (by omega) hx
      · have := (nI_eq (by omega) (by omega)).mp e2
        omega
  · rcases w_len i h5 with ⟨a2, ha2, e2, hw⟩ | ⟨_, hw⟩
    · exfalso
      subst e2
      rcases hx with hx | hx | ⟨a, b, ha, hb, e, e1, hx⟩
      · exact absurd hx (by decide)
      · exact nI_pos (by omega) hx
      · have q1 := (nI_eq (by omega) (by omega)).mp e
        rw [l_1] at e1
        have q2 := (nI_eq (by decide) (by omega)).mp e1
        omega
    · exact Or.inr ⟨hh, hw⟩
theorem ix50 {k a : Nat} (hk : k < 4) (ha : a < 50) : (50 : Int32) * nI k + nI a = nI (50 * k + a) ∧ ow_inn ((50 : Int32) * nI k + nI a) 200 ∧ ((50 : Int32) * nI k + nI a).toNatClampNeg = 50 * k + a := by
  have e : (50 : Int32) * nI k + nI a = nI (50 * k + a) := by rw [l_50, pk_mul, nI_add]
  rw [e]
  exact ⟨rfl, (inn_nI (by omega)).mpr (by omega), nI_clamp (by omega)⟩
theorem sp_cell {M : ow_M} (hI : ow_I M) (a1 a2 a3 : Int32) : ∃ r M1 M2, fX7_cell a1 a2 a3 M = some (r, M1) ∧ fX8_cell a1 a2 a3 M1 = some (r, M2) ∧ ow_I M2 := by
  obtain ⟨n, lp, g, rc, hA, hB, hR, hS, hT, hF⟩ := id hI
  unfold fX7_cell
  rcases g_S a1 with ⟨k, hk, rfl, e1, e2⟩ | ⟨e1, e2⟩
  · have hi : ow_inn (nI k) 4 := (inn_nI (by omega)).mpr hk
    have hc : (nI k).toNatClampNeg = k := nI_clamp (by omega)
    rcases g_L a3 with ⟨la, hla, rfl, l1, l2⟩ | ⟨l1, l2⟩
    · simp only [e1, l1, ow_obs, ow_10, reduceIte, if_pos hi, hc]
      obtain ⟨⟨len, h5, hl, hl2⟩, ht, hce⟩ := hS k hk
      have z0 : (ow_up M 0 8 0).1 (26 + 2 * k) = M.1 (26 + 2 * k) := ow_up_c (by omega)
      unfold fX4_faultOfCells jX4_faultOfCells_17
      rw [z0]
      rcases ht with ⟨t1, t2⟩ | ⟨t1, lb, hlb, t2, t3⟩
      · rw [t1, if_pos rfl, if_pos rfl, ow_obs, if_neg (by decide)]
        refine ⟨_, _, _, rfl, ?_, ow_I_ff2 hI 1 0⟩
        unfold fX8_cell jX8_cell_50
        have q1 : (ow_up (ow_up (ow_up M 0 8 0) 0 8 1) 34 0 0).1 35 k = -9 := t2
        simp only [e2, l2, ow_obs, ow_10, reduceIte, if_pos hi, hc, if_pos q1]
        rfl
      · rw [t1, t2, if_neg (by decide)]
        have q9 : ¬ nI lb = -9 := fun h => (nI_m9 (by omega)).mp h
        have q8 : ∀ f, ¬ (ow_up (ow_up (ow_up M 0 8 0) 0 8 f) 34 0 0).1 35 k = -9 := fun f h => q9 (t3.symm.trans h)
        have q7 : ¬ (ow_up (ow_up M 0 8 0) 34 0 0).1 35 k = -9 := fun h => q9 (t3.symm.trans h)
        by_cases q : nI lb = nI la
        · rw [if_pos q, if_neg (by decide), if_pos (by decide)]
          have q6 : ∀ f, (ow_up (ow_up (ow_up M 0 8 0) 0 8 f) 34 0 0).1 35 k = nI la := fun f => t3.trans q
          have q5 : (ow_up (ow_up M 0 8 0) 34 0 0).1 35 k = nI la := t3.trans q
          rcases has1 (M := ow_up M 0 8 0) (o := 26 + 2 * k) (by rw [z0]; exact hl) h5 a2 with ⟨a, ha, rfl, h1, h2⟩ | ⟨h1, h2⟩
          · have i5 : ow_inn (nI a) 50 := (inn_nI (by omega)).mpr (by omega)
            have ic : (nI a).toNatClampNeg = a := nI_clamp (by omega)
            simp only [h1, ow_obs, ow_10, reduceIte, if_pos i5, ic]
            refine ⟨_, _, _, rfl, ?_, ow_I_ff hI 0⟩
            unfold fX8_cell jX8_cell_50
            obtain ⟨x1, x2, x3⟩ := ix50 (k := k) (a := a) hk (by omega)
            have y36 : (ow_up (ow_up M 0 8 0) 34 0 0).1 36 k = nI len := hl2
            simp only [e2, l2, ow_obs, ow_10, reduceIte, if_pos hi, hc, if_neg q7, if_pos q5, y36, h2, if_pos x2, x3]
            have y37 : (ow_up (ow_up M 0 8 0) 34 0 0).1 37 (50 * k + a) = M.1 (27 + 2 * k) a := hce a (by omega)
            have y27 : (ow_up M 0 8 0).1 (26 + 2 * k + 1) a = M.1 (27 + 2 * k) a := by rw [show 26 + 2 * k + 1 = 27 + 2 * k by omega, ow_up_f (Or.inl (by omega))]
            rw [y37, y27]
          · simp only [h1, ow_obs, reduceIte]
            rw [if_neg (by decide)]
            refine ⟨_, _, _, rfl, ?_, ow_I_ff2 hI 3 0⟩
            unfold fX8_cell jX8_cell_50
            have y36 : (ow_up (ow_up (ow_up M 0 8 0) 0 8 3) 34 0 0).1 36 k = nI len := hl2
            simp only [e2, l2, ow_obs, ow_10, reduceIte, if_pos hi, hc, if_neg (q8 3), if_pos (q6 3), y36, h2]
            rfl
        · rw [if_neg q, ow_obs, if_neg (by decide)]
          refine ⟨_, _, _, rfl, ?_, ow_I_ff2 hI 2 0⟩
          unfold fX8_cell
          have q4 : ¬ (ow_up (ow_up (ow_up M 0 8 0) 0 8 2) 34 0 0).1 35 k = nI la := fun h => q (t3.symm.trans h)
          simp only [e2, l2, ow_obs, ow_10, reduceIte, if_pos hi, hc, if_neg (q8 2), if_neg q4]
          rfl
    · simp only [e1, l1, ow_obs, ow_10, reduceIte]
      refine ⟨_, _, _, rfl, ?_, ow_I_ff hI 0⟩
      unfold fX8_cell
      simp only [e2, l2, ow_obs, ow_10, reduceIte]
  · rw [e1]
    refine ⟨_, _, _, rfl, ?_, ow_I_ff hI 0⟩
    unfold fX8_cell
    rw [e2]
    rfl
