theorem sp_trace {M : ow_M} (hI : ow_I M) : ∃ r, fX7_trace M = some r ∧ fX8_trace M = some r := by
  obtain ⟨n, lp, g, rc, hA, hB, hR, hS, hT, hF⟩ := hI
  exact ⟨_, rfl, by unfold fX8_trace; rw [hT]⟩
theorem sp_fault {M : ow_M} (hI : ow_I M) : ∃ r, fX7_fault M = some r ∧ fX8_fault M = some r := by
  obtain ⟨n, lp, g, rc, hA, hB, hR, hS, hT, hF⟩ := hI
  exact ⟨_, rfl, by unfold fX8_fault; rw [hF]⟩
theorem sp_ofPerson {M : ow_M} (hI : ow_I M) (a1 a2 : Int32) : ∃ r, fX7_ofPerson a1 a2 M = some r ∧ fX8_ofPerson a1 a2 M = some r := by
  obtain ⟨n, lp, g, rc, hA, hB, hR, hS, hT, hF⟩ := hI
  obtain ⟨h0, h7, hn, he, hl, hg, hw, hv⟩ := hA
  obtain ⟨b1, b2, b3, b4⟩ := hB
  unfold fX7_ofPerson fX8_ofPerson
  rcases g_P hn b1 h7 a1 with ⟨k, hk, rfl, e1, e2⟩ | ⟨e1, e2⟩
  · obtain ⟨c1, c2, c3, c4⟩ := b4 k hk
    have hi : ow_inn (nI k) 7 := (inn_nI (by omega)).mpr (by omega)
    have hc : (nI k).toNatClampNeg = k := nI_clamp (by omega)
    simp only [e1, e2, ow_obs, ow_10, reduceIte, if_pos hi, hc, c1, c2, c3, c4]
    by_cases q0 : a2 = 0
    · simp only [if_pos q0]; exact ⟨_, rfl, rfl⟩
    · simp only [if_neg q0]
      by_cases q1 : a2 = 1
      · simp only [if_pos q1]; exact ⟨_, rfl, rfl⟩
      · simp only [if_neg q1]
        by_cases q2 : a2 = 2
        · simp only [if_pos q2]; exact ⟨_, rfl, rfl⟩
        · simp only [if_neg q2]
          by_cases q3 : a2 = 3
          · simp only [if_pos q3]; exact ⟨_, rfl, rfl⟩
          · simp only [if_neg q3]; exact ⟨_, rfl, rfl⟩
  · rw [e1, e2]
    exact ⟨_, rfl, rfl⟩
theorem sp_wish {M : ow_M} (hI : ow_I M) (a1 a2 : Int32) : ∃ r M1 M2, fX7_wish a1 a2 M = some (r, M1) ∧ fX8_wish a1 a2 M1 = some (r, M2) ∧ ow_I M2 := by
  obtain ⟨n, lp, g, rc, hA, hB, hR, hS, hT, hF⟩ := id hI
  obtain ⟨h0, h7, hn, he, hl, hg, hw, hv⟩ := id hA
  obtain ⟨b1, b2, b3, b4⟩ := id hB
  unfold fX7_wish
  rcases g_P hn b1 h7 a1 with ⟨k, hk, rfl, e1, e2⟩ | ⟨e1, e2⟩
  · have hi : ow_inn (nI k) 7 := (inn_nI (by omega)).mpr (by omega)
    have hc : (nI k).toNatClampNeg = k := nI_clamp (by omega)
    simp only [e1, ow_obs, ow_10, reduceIte, if_pos hi, hc]
    by_cases c0 : a2 < 0
    · rw [if_pos c0]
      refine ⟨_, _, M, rfl, ?_, hI⟩
      unfold fX8_wish fX8_within
      rw [e2, ow_obs, if_neg (by decide), if_pos c0, ow_obs, if_pos rfl]
    · rw [if_neg c0]
      by_cases c4 : a2 < 4
      · rw [if_pos c4]
        obtain ⟨v, hv4, rfl⟩ : ∃ v, v < 4 ∧ a2 = nI v := x_range (n := 4) (by decide) c0 (Int32.not_le.mpr c4)
        refine ⟨_, _, ow_up (ow_up M 6 k (nI v)) 41 k (nI v), rfl, ?_, ?_⟩
        · unfold fX8_wish fX8_within
          have e3 : fX8_isPerson (nI k) (ow_up M 6 k (nI v)) = some 1 := e2
          rw [e3, ow_obs, if_neg (by decide), if_neg c0, if_neg (by rw [l_3, nI_ltI (by omega) (by omega)]; omega), ow_obs, if_neg (by decide)]
          simp only [if_pos hi, hc]
          rw [ow_up_f (a := 41) (Or.inl (by decide)), (b4 k hk).2.2.2]
        · refine ⟨n, lp, g, rc, ⟨h0, h7, hn, he, hl, hg, hw, ?_⟩, ⟨b1, b2, b3, ?_⟩, hR, ?_, hT, hF⟩
          · intro i hi
            obtain ⟨q1, q2, q3, q4⟩ := hv i hi
            refine ⟨q1, q2, q3, ?_⟩
            by_cases hik : i = k
            · subst hik
              exact ⟨v, hv4, by rw [ow_up_f (a := 6) (Or.inl (by decide)), ow_up_s]⟩
            · rw [ow_up_f (a := 6) (Or.inl (by decide)), ow_up_f (Or.inr hik)]; exact q4
          · intro i hi
            obtain ⟨q1, q2, q3, q4⟩ := b4 i hi
            refine ⟨q1, q2, q3, ?_⟩
            by_cases hik : i = k
            · subst hik
              rw [ow_up_s, ow_up_f (a := 6) (Or.inl (by decide)), ow_up_s]
            · rw [ow_up_f (Or.inr hik), ow_up_f (a := 41) (Or.inl (by decide)), ow_up_f (a := 6) (Or.inl (by decide)), ow_up_f (Or.inr hik)]; exact q4
          · intro q hq
            match q, hq with
            | 0, hq => exact hS 0 hq
            | 1, hq => exact hS 1 hq
            | 2, hq => exact hS 2 hq
            | 3, hq => exact hS 3 hq
      · rw [if_neg c4]
        refine ⟨_, _, M, rfl, ?_, hI⟩
        unfold fX8_wish fX8_within
        rw [e2, ow_obs, if_neg (by decide), if_neg c0, if_pos, ow_obs, if_pos rfl]
        rcases nI_of c0 with ⟨j, hj, rfl⟩
        rw [l_3, nI_ltI (by omega) (by omega)]
        rw [l_4, nI_ltI (by omega) (by omega)] at c4
        omega
  · rw [e1]
    refine ⟨_, _, M, rfl, ?_, hI⟩
    unfold fX8_wish
    rw [e2]
    rfl
