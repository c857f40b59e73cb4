theorem sub_toInt {a b : Nat} (ha : a < 2 ^ 31) (hb : b < 2 ^ 31) : (nI a - nI b).toInt = (a : Int) - b := by
  rw [Int32.toInt_sub, nI_toInt ha, nI_toInt hb]
  exact Int.bmod_eq_of_le (by omega) (by omega)
theorem w_in (x : Int32) {m : Nat} (hm : m < 2 ^ 31 - 1) : (∃ k, k < m + 1 ∧ x = nI k ∧ fX8_within x 0 (nI m) = some 1) ∨ ((x < 0 ∨ nI (m + 1) ≤ x) ∧ fX8_within x 0 (nI m) = some 0) := by
  unfold fX8_within
  by_cases h0 : x < 0
  · rw [if_pos h0]; exact Or.inr ⟨Or.inl h0, rfl⟩
  · rw [if_neg h0]
    obtain ⟨j, hj, rfl⟩ := nI_of h0
    by_cases h1 : nI m < nI j
    · rw [if_pos h1]
      rw [nI_ltI (by omega) (by omega)] at h1
      exact Or.inr ⟨Or.inr ((nI_leI (by omega) (by omega)).mpr (by omega)), rfl⟩
    · rw [if_neg h1]
      rw [nI_ltI (by omega) (by omega)] at h1
      exact Or.inl ⟨j, by omega, rfl, rfl⟩
theorem c_in (x : Int32) {m : Nat} (hm : m < 2 ^ 31) : (∃ k, k < m ∧ x = nI k) ∨ (x < 0 ∨ nI m ≤ x) := by
  rcases pk_ix x hm with h | h | h
  · exact Or.inr (Or.inl h)
  · exact Or.inr (Or.inr h)
  · exact Or.inl h
theorem in_not {x : Int32} {m k : Nat} (hm : m < 2 ^ 31) (hk : k < m) (e : x = nI k) : ¬ (x < 0 ∨ nI m ≤ x) := by
  subst e
  rintro (h | h)
  · exact nI_pos (by omega) h
  · exact absurd ((nI_leI (by omega) (by omega)).mp h) (by omega)
theorem g_S (x : Int32) : (∃ k, k < 4 ∧ x = nI k ∧ fX7_isSheet x = some 1 ∧ fX8_isSheet x = some 1) ∨ (fX7_isSheet x = some 0 ∧ fX8_isSheet x = some 0) := by
  have c8 : fX8_isSheet x = Option.bind (fX8_within x 0 (nI 3)) (fun v2 => if v2 = 0 ∨ v2 = 1 then some v2 else none) := rfl
  rw [c8]
  unfold fX7_isSheet
  rw [l_4]
  rcases w_in x (m := 3) (by decide) with ⟨k, hk, e, hw⟩ | ⟨hx, hw⟩
  · rw [hw, if_neg (fun h => in_not (by decide) hk e (Or.inl h)), if_neg (fun h => in_not (by decide) hk e (Or.inr h))]
    exact Or.inl ⟨k, hk, e, rfl, rfl⟩
  · rw [hw]
    refine Or.inr ⟨?_, rfl⟩
    by_cases h0 : x < 0
    · rw [if_pos h0]
    · rw [if_neg h0, if_pos (hx.resolve_left h0)]
theorem g_L (x : Int32) : (∃ k, k < 3 ∧ x = nI k ∧ fX7_isLane x = some 1 ∧ fX8_isSort x = some 1) ∨ (fX7_isLane x = some 0 ∧ fX8_isSort x = some 0) := by
  have c8 : fX8_isSort x = Option.bind (fX8_within x 0 (nI 2)) (fun v2 => if v2 = 0 ∨ v2 = 1 then some v2 else none) := rfl
  rw [c8]
  unfold fX7_isLane
  rw [l_3]
  rcases w_in x (m := 2) (by decide) with ⟨k, hk, e, hw⟩ | ⟨hx, hw⟩
  · rw [hw, if_neg (fun h => in_not (by decide) hk e (Or.inl h)), if_neg (fun h => in_not (by decide) hk e (Or.inr h))]
    exact Or.inl ⟨k, hk, e, rfl, rfl⟩
  · rw [hw]
    refine Or.inr ⟨?_, rfl⟩
    by_cases h0 : x < 0
    · rw [if_pos h0]
    · rw [if_neg h0, if_pos (hx.resolve_left h0)]
theorem g_N (x : Int32) : (∃ k, k < 100 ∧ x = nI k ∧ fX7_isNumber x = some 1 ∧ fX8_isNumber x = some 1) ∨ (fX7_isNumber x = some 0 ∧ fX8_isNumber x = some 0) := by
  have c8 : fX8_isNumber x = Option.bind (fX8_within x 0 (nI 99)) (fun v2 => if v2 = 0 ∨ v2 = 1 then some v2 else none) := rfl
  rw [c8]
  unfold fX7_isNumber
  rw [l_100]
  rcases w_in x (m := 99) (by decide) with ⟨k, hk, e, hw⟩ | ⟨hx, hw⟩
  · rw [hw, if_neg (fun h => in_not (by decide) hk e (Or.inl h)), if_neg (fun h => in_not (by decide) hk e (Or.inr h))]
    exact Or.inl ⟨k, hk, e, rfl, rfl⟩
  · rw [hw]
    refine Or.inr ⟨?_, rfl⟩
    by_cases h0 : x < 0
    · rw [if_pos h0]
    · rw [if_neg h0, if_pos (hx.resolve_left h0)]
theorem hasC {M : ow_M} {o len : Nat} (hl : M.1 o 2 = nI len) (h5 : len ≤ 50) (i n : Int32) : (∃ a b, i = nI a ∧ n = nI b ∧ a + b ≤ len ∧ fX4_hasCells o i n M = some 1) ∨ (fX4_hasCells o i n M = some 0 ∧ (n < 0 ∨ i < 0 ∨ ∃ a b, a < 2 ^ 31 ∧ b < 2 ^ 31 ∧ i = nI a ∧ n = nI b ∧ len < a + b)) := by
  unfold fX4_hasCells
  rw [hl]
  by_cases h0 : n < 0
  · rw [if_pos h0]; exact Or.inr ⟨rfl, Or.inl h0⟩
  rw [if_neg h0]
  by_cases h1 : i < 0
  · rw [if_pos h1]; exact Or.inr ⟨rfl, Or.inr (Or.inl h1)⟩
  rw [if_neg h1]
  obtain ⟨b, hb, rfl⟩ := nI_of h0
  obtain ⟨a, ha, rfl⟩ := nI_of h1
  have e : (nI len - nI b < nI a) ↔ len < a + b := by
    rw [Int32.lt_iff_toInt_lt, sub_toInt (by omega) hb, nI_toInt ha]
    omega
  by_cases h2 : nI len - nI b < nI a
  · rw [if_pos h2]; exact Or.inr ⟨rfl, Or.inr (Or.inr ⟨a, b, ha, hb, rfl, rfl, e.mp h2⟩)⟩
  · rw [if_neg h2]
    rw [e] at h2
    exact Or.inl ⟨a, b, rfl, rfl, by omega, rfl⟩
/-- the FAULTS of cells that are read, the same on both sides -/
theorem g_F {M N : ow_M} (hS : iS M) (h35 : N.1 35 = M.1 35) (h36 : N.1 36 = M.1 36) {k : Nat} (hk : k < 4) {la : Nat} (hla : la < 3) (i n : Int32) :
    (∃ a b len, a + b ≤ len ∧ len ≤ 50 ∧ i = nI a ∧ n = nI b ∧ M.1 (26 + 2 * k) 2 = nI len ∧ M.1 (26 + 2 * k) 0 = 1 ∧ M.1 (26 + 2 * k) 1 = nI la ∧ fX4_faultOfCells (26 + 2 * k) (nI la) i n M = some 0 ∧ fX8_against (nI k) (nI la) i n N = some 0) ∨
    (∃ f, (f = 1 ∨ f = 2 ∨ f = 3 ∨ f = 4) ∧ fX4_faultOfCells (26 + 2 * k) (nI la) i n M = some f ∧ fX8_against (nI k) (nI la) i n N = some f) := by
  obtain ⟨⟨len, h5, hl, hl2⟩, ht, -⟩ := hS k hk
  have hi : ow_inn (nI k) 4 := (inn_nI (by omega)).mpr hk
  have hc : (nI k).toNatClampNeg = k := nI_clamp (by omega)
  unfold fX4_faultOfCells fX8_against jX4_faultOfCells_17 jX8_against_23
  simp only [if_pos hi, hc, h35, h36, hl2]
  rcases ht with ⟨t1, t2⟩ | ⟨t1, la2, hla2, t2, t3⟩
  · refine Or.inr ⟨1, Or.inl rfl, ?_, ?_⟩
    · rw [t1, if_pos rfl, if_pos rfl]
    · rw [t2, if_pos rfl, if_pos rfl]
  · rw [t1, t2, t3]
    have q9 : ¬ nI la2 = -9 := fun h => (nI_m9 (by omega)).mp h
    rw [if_neg (by decide), if_neg q9]
    by_cases q : nI la2 = nI la
    · rw [if_pos q, if_pos q, if_neg (by decide), if_neg q9]
      have hq : la2 = la := (nI_eq (by omega) (by omega)).mp q
      subst hq
      by_cases z0 : 0 ≤ n
      · rw [if_pos z0, if_pos z0]
        rcases hasC hl h5 i n with ⟨a, b, rfl, rfl, hab, hh⟩ | ⟨hh, hx⟩
        · refine Or.inl ⟨a, b, len, hab, h5, rfl, rfl, hl, rfl, rfl, ?_, ?_⟩
          · rw [hh, ow_obs, if_neg (by decide)]
          · rw [if_neg (nI_pos (by omega)), if_neg (by rw [nI_ltI (by omega) (by omega)]; omega), if_pos]
            rw [Int32.le_iff_toInt_le, sub_toInt (by omega) (by omega), nI_toInt (by omega)]
            omega
        · refine Or.inr ⟨3, Or.inr (Or.inr (Or.inl rfl)), ?_, ?_⟩
          · rw [hh, ow_obs, if_pos rfl]
          · rcases hx with hx | hx | ⟨a, b, ha, hb, rfl, rfl, hab⟩
            · exact absurd hx (Int32.not_lt.mpr z0)
            · rw [if_pos hx]
            · rw [if_neg (nI_pos ha)]
              by_cases z1 : nI len < nI a
              · rw [if_pos z1]
              · rw [if_neg z1, if_neg]
                rw [Int32.le_iff_toInt_le, sub_toInt (by omega) (by omega), nI_toInt (by omega)]
                omega
      · rw [if_neg z0, if_neg z0]
        exact Or.inr ⟨4, Or.inr (Or.inr (Or.inr rfl)), rfl, rfl⟩
    · rw [if_neg q, if_neg q]
      exact Or.inr ⟨2, Or.inr (Or.inl rfl), rfl, rfl⟩
