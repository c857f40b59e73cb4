/-! numbers: Int32 of small naturals -/
theorem l_0 : (0 : Int32) = nI 0 := rfl
theorem l_1 : (1 : Int32) = nI 1 := rfl
theorem l_2 : (2 : Int32) = nI 2 := rfl
theorem l_3 : (3 : Int32) = nI 3 := rfl
theorem l_4 : (4 : Int32) = nI 4 := rfl
theorem l_5 : (5 : Int32) = nI 5 := rfl
theorem l_6 : (6 : Int32) = nI 6 := rfl
theorem l_7 : (7 : Int32) = nI 7 := rfl
theorem l_8 : (8 : Int32) = nI 8 := rfl
theorem l_9 : (9 : Int32) = nI 9 := rfl
theorem l_10 : (10 : Int32) = nI 10 := rfl
theorem l_12 : (12 : Int32) = nI 12 := rfl
theorem l_31 : (31 : Int32) = nI 31 := rfl
theorem l_37 : (37 : Int32) = nI 37 := rfl
theorem l_48 : (48 : Int32) = nI 48 := rfl
theorem l_49 : (49 : Int32) = nI 49 := rfl
theorem l_50 : (50 : Int32) = nI 50 := rfl
theorem l_57 : (57 : Int32) = nI 57 := rfl
theorem l_59 : (59 : Int32) = nI 59 := rfl
theorem l_64 : (64 : Int32) = nI 64 := rfl
theorem l_70 : (70 : Int32) = nI 70 := rfl
theorem l_99 : (99 : Int32) = nI 99 := rfl
theorem l_100 : (100 : Int32) = nI 100 := rfl
theorem l_103 : (103 : Int32) = nI 103 := rfl
theorem l_112 : (112 : Int32) = nI 112 := rfl
theorem l_116 : (116 : Int32) = nI 116 := rfl
theorem l_119 : (119 : Int32) = nI 119 := rfl
theorem l_128 : (128 : Int32) = nI 128 := rfl
theorem l_200 : (200 : Int32) = nI 200 := rfl
theorem l_256 : (256 : Int32) = nI 256 := rfl
theorem l_630 : (630 : Int32) = nI 630 := rfl
theorem l_1000 : (1000 : Int32) = nI 1000 := rfl
theorem l_16384 : (16384 : Int32) = nI 16384 := rfl
theorem ow_10 : ((1 : Int32) = 0) = False := by decide
theorem ow_01 : ((0 : Int32) = 1) = False := by decide
def bI (b : Bool) : Int32 := if b then 1 else 0
theorem inn_nI {k n : Nat} (hk : k < 2 ^ 31) : ow_inn (nI k) n ↔ k < n := by
  unfold ow_inn
  rw [nI_clamp hk]
  constructor
  · intro h
    rcases Nat.lt_or_ge k n with q | q
    · exact q
    · exact absurd (Or.inr q) h
  · intro h q
    rcases q with q | q
    · exact nI_pos hk q
    · omega
theorem nI_neg {k : Nat} (hk : k < 2 ^ 31) : (nI k < 0) ↔ False := ⟨fun h => nI_pos hk h, False.elim⟩
theorem nI_m9 {k : Nat} (hk : k < 2 ^ 31) : (nI k = -9) ↔ False := by
  constructor
  · intro h
    have := congrArg Int32.toInt h
    rw [nI_toInt hk] at this
    have e : (-9 : Int32).toInt = -9 := by decide
    rw [e] at this
    omega
  · exact False.elim
theorem nI_m1 {k : Nat} (hk : k < 2 ^ 31) : (nI k = -1) ↔ False := by
  constructor
  · intro h
    have := congrArg Int32.toInt h
    rw [nI_toInt hk] at this
    have e : (-1 : Int32).toInt = -1 := by decide
    rw [e] at this
    omega
  · exact False.elim
theorem x_range {x : Int32} {n : Nat} (hn : n < 2 ^ 31) (h0 : ¬ x < 0) (h1 : ¬ nI n ≤ x) : ∃ k, k < n ∧ x = nI k := by
  rcases pk_ix x hn with h | h | h
  · exact absurd h h0
  · exact absurd h h1
  · exact h
theorem ow_bd_eq {α β : Type} (v : α) (M : ow_M) (f : α → ow_M → Option β) : ow_bd (some (v, M)) f = f v M := rfl
theorem ow_obs {α β : Type} (v : α) (f : α → Option β) : Option.bind (some v) f = f v := rfl
theorem ow_lgeq (r : Int64) : lg_cmp r r = 0 := by
  unfold lg_cmp
  rw [if_neg (show ¬ r > r from Int64.lt_irrefl), if_pos rfl]
/-! memory -/
theorem ow_up_1 (M : ow_M) (o j : Nat) (v : Int32) (a b : Nat) : (ow_up M o j v).1 a b = if a = o ∧ b = j then v else M.1 a b := rfl
theorem ow_up_2 (M : ow_M) (o j : Nat) (v : Int32) : (ow_up M o j v).2 = M.2 := rfl
theorem ow_up_c {M : ow_M} {o j : Nat} {v : Int32} {a : Nat} (h : a ≠ o) : (ow_up M o j v).1 a = M.1 a := ow_up_ne h
theorem ow_up_f {M : ow_M} {o j : Nat} {v : Int32} {a b : Nat} (h : a ≠ o ∨ b ≠ j) : (ow_up M o j v).1 a b = M.1 a b := by
  rw [ow_up_1, if_neg]
  rintro ⟨h1, h2⟩
  rcases h with h | h
  · exact h h1
  · exact h h2
theorem ow_up_s {M : ow_M} {o j : Nat} {v : Int32} : (ow_up M o j v).1 o j = v := by rw [ow_up_1, if_pos ⟨rfl, rfl⟩]
/-! the invariant -/
def oed (n : Nat) (lp : Bool) : Nat := if lp then n else n - 1
/-- the line of the class -/
def iA (M : ow_M) (n : Nat) (lp : Bool) (g : Nat) : Prop :=
  (n = 0 ∧ lp = false ∨ 2 ≤ n) ∧ n ≤ 7 ∧ M.1 2 0 = nI n ∧ M.1 2 1 = nI (oed n lp) ∧ M.1 2 2 = bI lp ∧ g < 2 ^ oed n lp ∧ (∀ i, i < 7 → M.1 7 i = bI (g.testBit i)) ∧
  ∀ i, i < n → (∃ v, v < 3 ∧ M.1 3 i = nI v) ∧ (∃ v, v < 10 ∧ M.1 4 i = nI v) ∧ (∃ v, v < 4 ∧ M.1 5 i = nI v) ∧ ∃ v, v < 4 ∧ M.1 6 i = nI v
/-- the line of the reference -/
def iB (M : ow_M) (n : Nat) (lp : Bool) (g : Nat) : Prop :=
  M.1 34 5 = nI n ∧ M.1 34 6 = bI lp ∧ M.1 34 7 = nI g ∧ ∀ i, i < n → M.1 38 i = M.1 3 i ∧ M.1 39 i = M.1 4 i ∧ M.1 40 i = M.1 5 i ∧ M.1 41 i = M.1 6 i
def iR (M : ow_M) (n rc : Nat) : Prop :=
  rc ≤ 8 ∧ M.1 21 0 = nI rc ∧ M.1 34 27 = nI rc ∧ ∀ i, i < rc → (∃ t, t < n ∧ M.1 22 i = nI t ∧ M.1 53 i = nI t) ∧ (∃ v, v < 100 ∧ M.1 23 i = nI v ∧ M.1 54 i = nI v) ∧ (∃ t, t < n ∧ M.1 24 i = nI t ∧ M.1 55 i = nI t) ∧ M.1 56 i = M.1 25 i ∧ (M.1 25 i = -9 ∨ ∃ v, v < 100 ∧ M.1 25 i = nI v)
def iS (M : ow_M) : Prop := ∀ k, k < 4 → (∃ len, len ≤ 50 ∧ M.1 (26 + 2 * k) 2 = nI len ∧ M.1 36 k = nI len) ∧ ((M.1 (26 + 2 * k) 0 = 0 ∧ M.1 35 k = -9) ∨ (M.1 (26 + 2 * k) 0 = 1 ∧ ∃ la, la < 3 ∧ M.1 (26 + 2 * k) 1 = nI la ∧ M.1 35 k = nI la)) ∧ ∀ i, i < 50 → M.1 37 (50 * k + i) = M.1 (27 + 2 * k) i
def ow_I (M : ow_M) : Prop := ∃ (n : Nat) (lp : Bool) (g rc : Nat), iA M n lp g ∧ iB M n lp g ∧ iR M n rc ∧ iS M ∧ M.1 34 1 = M.1 0 7 ∧ M.1 34 0 = M.1 0 8
theorem ow_I0 : ow_I ow_M0 := by
  refine ⟨0, false, 0, 0, ⟨Or.inl ⟨rfl, rfl⟩, by decide, rfl, rfl, rfl, by decide, fun i _ => ?_, fun i h => by omega⟩, ⟨rfl, rfl, rfl, fun i h => by omega⟩, ⟨by decide, rfl, rfl, fun i h => by omega⟩, ?_, rfl, rfl⟩
  · rw [Nat.zero_testBit]; rfl
  · intro k hk
    match k, hk with
    | 0, _ => exact ⟨⟨0, by decide, rfl, rfl⟩, Or.inl ⟨rfl, rfl⟩, fun i _ => rfl⟩
    | 1, _ => exact ⟨⟨0, by decide, rfl, rfl⟩, Or.inl ⟨rfl, rfl⟩, fun i _ => rfl⟩
    | 2, _ => exact ⟨⟨0, by decide, rfl, rfl⟩, Or.inl ⟨rfl, rfl⟩, fun i _ => rfl⟩
    | 3, _ => exact ⟨⟨0, by decide, rfl, rfl⟩, Or.inl ⟨rfl, rfl⟩, fun i _ => rfl⟩
/-- the invariant reads these cells alone -/
theorem ow_I_eq {M N : ow_M} (h : ∀ a, a ∈ [0, 2, 3, 4, 5, 6, 7, 21, 22, 23, 24, 25, 26, 27, 28, 29, 30, 31, 32, 33, 35, 36, 37, 38, 39, 40, 41, 53, 54, 55, 56] → N.1 a = M.1 a) (h34 : ∀ j, j ∈ [0, 1, 5, 6, 7, 27] → N.1 34 j = M.1 34 j) (hI : ow_I M) : ow_I N := by
  obtain ⟨n, lp, g, rc, hA, hB, hR, hS, hT, hF⟩ := hI
  unfold iA at hA
  unfold iB at hB
  unfold iR at hR
  unfold iS at hS
  have c0 := h 0 (by decide); have c2 := h 2 (by decide); have c3 := h 3 (by decide); have c4 := h 4 (by decide); have c5 := h 5 (by decide); have c6 := h 6 (by decide); have c7 := h 7 (by decide)
  have c21 := h 21 (by decide); have c22 := h 22 (by decide); have c23 := h 23 (by decide); have c24 := h 24 (by decide); have c25 := h 25 (by decide)
  have c35 := h 35 (by decide); have c36 := h 36 (by decide); have c37 := h 37 (by decide); have c38 := h 38 (by decide); have c39 := h 39 (by decide); have c40 := h 40 (by decide); have c41 := h 41 (by decide)
  have c53 := h 53 (by decide); have c54 := h 54 (by decide); have c55 := h 55 (by decide); have c56 := h 56 (by decide)
  have e0 := h34 0 (by decide); have e1 := h34 1 (by decide); have e5 := h34 5 (by decide); have e6 := h34 6 (by decide); have e7 := h34 7 (by decide); have e27 := h34 27 (by decide)
  refine ⟨n, lp, g, rc, ?_, ?_, ?_, ?_, ?_, ?_⟩
  · unfold iA; rw [c2, c3, c4, c5, c6, c7]; exact hA
  · unfold iB; rw [c3, c4, c5, c6, c38, c39, c40, c41, e5, e6, e7]; exact hB
  · unfold iR; rw [c21, c22, c23, c24, c25, c53, c54, c55, c56, e27]; exact hR
  · intro k hk
    have s1 : N.1 (26 + 2 * k) = M.1 (26 + 2 * k) := h _ (by match k, hk with | 0, _ => decide | 1, _ => decide | 2, _ => decide | 3, _ => decide)
    have s2 : N.1 (27 + 2 * k) = M.1 (27 + 2 * k) := h _ (by match k, hk with | 0, _ => decide | 1, _ => decide | 2, _ => decide | 3, _ => decide)
    rw [s1, s2, c35, c36, c37]
    exact hS k hk
  · rw [c0, e1]; exact hT
  · rw [c0, e0]; exact hF
/-! guards -/
theorem g_P0 {M : ow_M} {n : Nat} (hn : M.1 2 0 = nI n) (h7 : n ≤ 7) (x : Int32) : (∃ k, k < n ∧ x = nI k ∧ fX0_isPerson x M = some 1) ∨ ((¬ ∃ k, k < n ∧ x = nI k) ∧ fX0_isPerson x M = some 0) := by
  unfold fX0_isPerson
  rw [hn]
  by_cases h0 : x < 0
  · rw [if_pos h0]
    refine Or.inr ⟨?_, rfl⟩
    rintro ⟨k, hk, rfl⟩
    exact nI_pos (by omega) h0
  · rw [if_neg h0]
    by_cases h1 : nI n ≤ x
    · rw [if_pos h1]
      refine Or.inr ⟨?_, rfl⟩
      rintro ⟨k, hk, rfl⟩
      exact absurd ((nI_leI (by omega) (by omega)).mp h1) (by omega)
    · rw [if_neg h1]
      obtain ⟨k, hk, e⟩ := x_range (by omega) h0 h1
      exact Or.inl ⟨k, hk, e, rfl⟩
theorem g_P8 {M : ow_M} {n : Nat} (hn : M.1 34 5 = nI n) (h7 : n ≤ 7) (x : Int32) : (∃ k, k < n ∧ x = nI k ∧ fX8_isPerson x M = some 1) ∨ ((¬ ∃ k, k < n ∧ x = nI k) ∧ fX8_isPerson x M = some 0) := by
  unfold fX8_isPerson
  rw [hn]
  by_cases h0 : x < 0
  · rw [if_pos h0]
    refine Or.inr ⟨?_, rfl⟩
    rintro ⟨k, hk, rfl⟩
    exact nI_pos (by omega) h0
  · rw [if_neg h0]
    by_cases h1 : nI n ≤ x
    · rw [if_pos h1]
      refine Or.inr ⟨?_, rfl⟩
      rintro ⟨k, hk, rfl⟩
      exact absurd ((nI_leI (by omega) (by omega)).mp h1) (by omega)
    · rw [if_neg h1]
      obtain ⟨k, hk, e⟩ := x_range (by omega) h0 h1
      exact Or.inl ⟨k, hk, e, rfl⟩
/-- both say the same of who is a PERSON -/
theorem g_P {M N : ow_M} {n : Nat} (hn : M.1 2 0 = nI n) (hm : N.1 34 5 = nI n) (h7 : n ≤ 7) (x : Int32) : (∃ k, k < n ∧ x = nI k ∧ fX0_isPerson x M = some 1 ∧ fX8_isPerson x N = some 1) ∨ (fX0_isPerson x M = some 0 ∧ fX8_isPerson x N = some 0) := by
  rcases g_P0 hn h7 x with ⟨k, hk, e, h⟩ | ⟨hx, h⟩
  · rcases g_P8 hm h7 x with ⟨_, _, _, h2⟩ | ⟨hx, _⟩
    · exact Or.inl ⟨k, hk, e, h, h2⟩
    · exact absurd ⟨k, hk, e⟩ hx
  · rcases g_P8 hm h7 x with ⟨k, hk, e, h2⟩ | ⟨_, h2⟩
    · exact absurd ⟨k, hk, e⟩ hx
    · exact Or.inr ⟨h, h2⟩
theorem oed_le {n : Nat} {lp : Bool} (h : n ≤ 7) : oed n lp ≤ 7 := by unfold oed; split <;> omega
theorem e_edges {M : ow_M} {n : Nat} {lp : Bool} (h5 : M.1 34 5 = nI n) (h6 : M.1 34 6 = bI lp) (h7 : n ≤ 7) (h0 : n = 0 ∧ lp = false ∨ 2 ≤ n) : fX8_edges M = some (nI (oed n lp)) := by
  unfold fX8_edges oed
  rw [h5, h6]
  cases lp with
  | true => rw [if_neg (by decide)]; rfl
  | false =>
    rw [if_pos (show bI false = 0 from rfl)]
    rcases h0 with ⟨h0, _⟩ | h0
    · subst h0; rfl
    · rw [if_neg (by rw [l_0, nI_eq (by omega) (by omega)]; omega), l_1, pk_sub (by omega)]; rfl
theorem g_E {M N : ow_M} {n : Nat} {lp : Bool} (hn : M.1 2 1 = nI (oed n lp)) (hm : fX8_edges N = some (nI (oed n lp))) (h7 : n ≤ 7) (x : Int32) : (∃ k, k < oed n lp ∧ x = nI k ∧ fX0_isEdge x M = some 1 ∧ fX8_isEdge x N = some 1) ∨ (fX0_isEdge x M = some 0 ∧ fX8_isEdge x N = some 0) := by
  have h8 := oed_le (lp := lp) h7
  unfold fX0_isEdge fX8_isEdge
  rw [hn, hm, ow_obs]
  by_cases h0 : x < 0
  · rw [if_pos h0]; exact Or.inr ⟨rfl, rfl⟩
  · rw [if_neg h0]
    by_cases h1 : nI (oed n lp) ≤ x
    · rw [if_pos h1]; exact Or.inr ⟨rfl, rfl⟩
    · rw [if_neg h1]
      obtain ⟨k, hk, e⟩ := x_range (by omega) h0 h1
      exact Or.inl ⟨k, hk, e, rfl, rfl⟩
