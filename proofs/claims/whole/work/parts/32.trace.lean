def ow_key : List Nat := [2, 3, 4, 5, 6, 7, 21, 22, 23, 24, 25, 26, 27, 28, 29, 30, 31, 32, 33, 35, 36, 37, 38, 39, 40, 41, 53, 54, 55, 56]
theorem key_0 : ∀ a, a ∈ ow_key → a ≠ 0 ∧ a ≠ 34 := by decide
theorem key_s : ∀ a, a ∈ ow_key → a ∉ [0, 1, 8, 9, 10, 11, 12, 13, 14, 15, 16, 17, 18, 19, 20, 34, 42, 43, 44, 45, 46, 47, 48, 49, 50, 51, 52] := by decide
/-- all but trace and fault is as it was -/
theorem ow_I_tf {M N : ow_M} (hI : ow_I M) (h : ∀ a, a ∈ ow_key → N.1 a = M.1 a) (h34 : ∀ j, j ∈ [5, 6, 7, 27] → N.1 34 j = M.1 34 j) (hT : N.1 34 1 = N.1 0 7) (hF : N.1 34 0 = N.1 0 8) : ow_I N := by
  have key : ow_I (fun a b => if a = 0 then M.1 a b else if a = 34 ∧ (b = 0 ∨ b = 1) then M.1 a b else N.1 a b, N.2) := by
    refine ow_I_eq (M := M) ?_ ?_ hI
    · intro a ha
      funext b
      have h1 : a = 0 ∨ a ∈ ow_key := by
        revert a
        decide
      rcases h1 with h1 | h1
      · subst h1; rfl
      · show (if a = 0 then M.1 a b else if a = 34 ∧ (b = 0 ∨ b = 1) then M.1 a b else N.1 a b) = M.1 a b
        rw [if_neg (key_0 a h1).1, if_neg (fun q => (key_0 a h1).2 q.1), h a h1]
    · intro j hj
      show (if 34 = 0 then M.1 34 j else if 34 = 34 ∧ (j = 0 ∨ j = 1) then M.1 34 j else N.1 34 j) = M.1 34 j
      rw [if_neg (by decide)]
      by_cases q : j = 0 ∨ j = 1
      · rw [if_pos ⟨rfl, q⟩]
      · rw [if_neg (fun z => q z.2)]
        exact h34 j (by
          have h1 : j = 0 ∨ j = 1 ∨ j ∈ [5, 6, 7, 27] := by
            revert j
            decide
          rcases h1 with h1 | h1 | h1
          · exact absurd (Or.inl h1) q
          · exact absurd (Or.inr h1) q
          · exact h1)
  obtain ⟨n, lp, g, rc, hA, hB, hR, hS, -, -⟩ := key
  have hS2 : iS N := by
    intro k hk
    match k, hk with
    | 0, hk => exact hS 0 hk
    | 1, hk => exact hS 1 hk
    | 2, hk => exact hS 2 hk
    | 3, hk => exact hS 3 hk
  exact ⟨n, lp, g, rc, hA, hB, hR, hS2, hT, hF⟩
theorem up34 {M : ow_M} {j : Nat} {v : Int32} : ∀ a, a ∈ ow_key → (ow_up M 34 j v).1 a = M.1 a := fun a ha => ow_up_c (key_0 a ha).2
theorem up0 {M : ow_M} {j : Nat} {v : Int32} : ∀ a, a ∈ ow_key → (ow_up M 0 j v).1 a = M.1 a := fun a ha => ow_up_c (key_0 a ha).1
theorem up034 {M : ow_M} {j k : Nat} {v u : Int32} : ∀ a, a ∈ ow_key → (ow_up (ow_up M 0 j v) 34 k u).1 a = M.1 a := fun a ha => (up34 a ha).trans (up0 a ha)
theorem j34 {M : ow_M} {k : Nat} {v : Int32} (hk : k = 0 ∨ k = 1) : ∀ j, j ∈ [5, 6, 7, 27] → (ow_up M 34 k v).1 34 j = M.1 34 j := by
  intro j hj
  refine ow_up_f (Or.inr ?_)
  rintro rfl
  rcases hk with rfl | rfl <;> exact absurd hj (by decide)
theorem j0 {M : ow_M} {k : Nat} {v : Int32} : ∀ j, j ∈ [5, 6, 7, 27] → (ow_up M 0 k v).1 34 j = M.1 34 j := fun _ _ => ow_up_f (Or.inl (by decide))
/-- the fault of a call that both set -/
theorem ow_I_ff {M : ow_M} (hI : ow_I M) (f : Int32) : ow_I (ow_up (ow_up M 0 8 f) 34 0 f) := by
  obtain ⟨n, lp, g, rc, hA, hB, hR, hS, hT, hF⟩ := id hI
  exact ow_I_tf hI up034 (fun j hj => (j34 (Or.inl rfl) j hj).trans (j0 j hj)) hT rfl
theorem ow_I_ff2 {M : ow_M} (hI : ow_I M) (f e : Int32) : ow_I (ow_up (ow_up (ow_up (ow_up M 0 8 e) 0 8 f) 34 0 e) 34 0 f) := by
  obtain ⟨n, lp, g, rc, hA, hB, hR, hS, hT, hF⟩ := id hI
  exact ow_I_tf hI (fun a ha => (up34 a ha).trans ((up034 a ha).trans (up0 a ha))) (fun j hj => (j34 (Or.inl rfl) j hj).trans ((j34 (Or.inl rfl) j hj).trans ((j0 j hj).trans (j0 j hj)))) hT rfl
theorem ow_I_tt {M : ow_M} (hI : ow_I M) (f : Int32) : ow_I (ow_up (ow_up M 0 7 f) 34 1 f) := by
  obtain ⟨n, lp, g, rc, hA, hB, hR, hS, hT, hF⟩ := id hI
  exact ow_I_tf hI up034 (fun j hj => (j34 (Or.inr rfl) j hj).trans (j0 j hj)) rfl hF
theorem sp_as {M : ow_M} (hI : ow_I M) (a1 a2 : Int32) : ∃ r M1 M2, fX7_as a1 a2 M = some (r, M1) ∧ fX8_as a1 a2 M1 = some (r, M2) ∧ ow_I M2 := by
  obtain ⟨n, lp, g, rc, hA, hB, hR, hS, hT, hF⟩ := id hI
  obtain ⟨h0, h7, hn, he, hl, hg, hw, hv⟩ := id hA
  obtain ⟨b1, b2, b3, b4⟩ := id hB
  unfold fX7_as
  rcases g_P (M := ow_up M 0 8 0) (N := M) hn b1 h7 a1 with ⟨k, hk, rfl, e1, e2⟩ | ⟨e1, e2⟩
  · have hi : ow_inn (nI k) 7 := (inn_nI (by omega)).mpr (by omega)
    have hc : (nI k).toNatClampNeg = k := nI_clamp (by omega)
    have e3 : ∀ f, fX8_isPerson (nI k) (ow_up (ow_up M 0 8 f) 34 0 0) = some 1 := fun f => e2
    have e4 : ∀ f e, fX8_isPerson (nI k) (ow_up (ow_up (ow_up M 0 8 e) 0 8 f) 34 0 0) = some 1 := fun _ _ => e2
    simp only [e1, ow_obs, ow_10, reduceIte, if_pos hi, hc]
    by_cases c0 : a2 < 0
    · rw [if_pos c0]
      refine ⟨_, _, _, rfl, ?_, ow_I_ff hI 0⟩
      unfold fX8_as fX8_within
      rw [e3, ow_obs, if_neg (by decide), if_pos c0, ow_obs, if_pos rfl]
    · rw [if_neg c0]
      obtain ⟨v, hv31, rfl⟩ := nI_of c0
      have hw2 : (nI v < 3) = (v < 3) := by rw [l_3]; exact propext (nI_ltI (by omega) (by omega))
      by_cases c3 : nI v < 3
      · rw [if_pos c3]
        have hv3 : v < 3 := by rw [hw2] at c3; exact c3
        have w2 : fX8_within (nI v) 0 2 = some 1 := by
          unfold fX8_within
          rw [if_neg c0, if_neg (by rw [l_2, nI_ltI (by omega) (by omega)]; omega)]
        by_cases c5 : M.1 3 k < nI v
        · have c6 : (ow_up M 0 8 0).1 3 k < nI v := c5
          rw [if_pos c6]
          refine ⟨_, _, _, rfl, ?_, ow_I_ff2 hI 2 0⟩
          unfold fX8_as
          rw [e4, ow_obs, if_neg (by decide), w2, ow_obs, if_neg (by decide)]
          simp only [if_pos hi, hc]
          rw [if_pos]
          · rfl
          · show M.1 38 k < nI v
            rw [(b4 k hk).1]; exact c5
        · have c6 : ¬ (ow_up M 0 8 0).1 3 k < nI v := c5
          rw [if_neg c6]
          refine ⟨_, _, _, rfl, ?_, ow_I_ff hI 0⟩
          unfold fX8_as
          rw [e3, ow_obs, if_neg (by decide), w2, ow_obs, if_neg (by decide)]
          simp only [if_pos hi, hc]
          rw [if_neg]
          show ¬ M.1 38 k < nI v
          rw [(b4 k hk).1]; exact c5
      · rw [if_neg c3]
        refine ⟨_, _, _, rfl, ?_, ow_I_ff hI 0⟩
        unfold fX8_as fX8_within
        rw [e3, ow_obs, if_neg (by decide), if_neg c0, if_pos, ow_obs, if_pos rfl]
        rw [hw2] at c3
        rw [l_2, nI_ltI (by omega) (by omega)]
        omega
  · have e3 : fX8_isPerson a1 (ow_up (ow_up M 0 8 0) 34 0 0) = some 0 := e2
    rw [e1]
    refine ⟨_, _, _, rfl, ?_, ow_I_ff hI 0⟩
    unfold fX8_as
    rw [e3]
    rfl
theorem sp_lean {M : ow_M} (hI : ow_I M) (a1 : Int32) : ∃ r M1 M2, fX7_lean a1 M = some (r, M1) ∧ fX8_lean a1 M1 = some (r, M2) ∧ ow_I M2 := by
  obtain ⟨n, lp, g, rc, hA, hB, hR, hS, hT, hF⟩ := id hI
  obtain ⟨h0, h7, hn, he, hl, hg, hw, hv⟩ := id hA
  obtain ⟨b1, b2, b3, b4⟩ := id hB
  unfold fX7_lean
  rcases g_P (M := M) (N := M) hn b1 h7 a1 with ⟨k, hk, rfl, e1, e2⟩ | ⟨e1, e2⟩
  · have hi : ow_inn (nI k) 7 := (inn_nI (by omega)).mpr (by omega)
    have hc : (nI k).toNatClampNeg = k := nI_clamp (by omega)
    simp only [e1, ow_obs, ow_10, reduceIte, if_pos hi, hc]
    have e3 : ∀ f, fX8_isPerson (nI k) (ow_up M 0 7 f) = some 1 := fun f => e2
    by_cases c : M.1 3 k = 2
    · rw [if_pos c]
      refine ⟨_, _, ow_up (ow_up M 0 7 (31 * M.1 0 7 + 5)) 34 1 (31 * M.1 0 7 + 5), rfl, ?_, ow_I_tt hI _⟩
      unfold fX8_lean jX8_lean_26 fX8_begins
      rw [e3, ow_obs, if_neg (by decide)]
      simp only [if_pos hi, hc, ow_obs]
      have q1 : (ow_up M 0 7 (31 * M.1 0 7 + 5)).1 38 k = 2 := by show M.1 38 k = 2; rw [(b4 k hk).1]; exact c
      rw [if_pos q1]
      have q2 : (ow_up (ow_up M 0 7 (31 * M.1 0 7 + 5)) 34 1 (31 * (ow_up M 0 7 (31 * M.1 0 7 + 5)).1 34 1 + 5)).1 38 k = 2 := q1
      rw [if_pos q2]
      have q3 : (ow_up M 0 7 (31 * M.1 0 7 + 5)).1 34 1 = M.1 0 7 := hT
      rw [q3]
    · rw [if_neg c]
      refine ⟨_, _, ow_up (ow_up M 0 7 (31 * M.1 0 7 + 4)) 34 1 (31 * M.1 0 7 + 4), rfl, ?_, ow_I_tt hI _⟩
      unfold fX8_lean jX8_lean_26 fX8_begins
      rw [e3, ow_obs, if_neg (by decide)]
      simp only [if_pos hi, hc, ow_obs]
      have q1 : ¬ (ow_up M 0 7 (31 * M.1 0 7 + 4)).1 38 k = 2 := by show ¬ M.1 38 k = 2; rw [(b4 k hk).1]; exact c
      rw [if_neg q1]
      have q2 : ¬ (ow_up (ow_up M 0 7 (31 * M.1 0 7 + 4)) 34 1 (31 * (ow_up M 0 7 (31 * M.1 0 7 + 4)).1 34 1 + 4)).1 38 k = 2 := q1
      rw [if_neg q2]
      have q3 : (ow_up M 0 7 (31 * M.1 0 7 + 4)).1 34 1 = M.1 0 7 := hT
      rw [q3]
  · rw [e1]
    refine ⟨_, _, _, rfl, ?_, hI⟩
    unfold fX8_lean
    rw [e2]
    rfl
