def ore (n e : Nat) : Nat := if e + 1 < n then e + 1 else 0
theorem ore_lt {n e : Nat} (hn : 0 < n) : ore n e < n := by unfold ore; split <;> omega
theorem e_re {M : ow_M} {n e : Nat} (hn : M.1 2 0 = nI n) (h7 : n ≤ 7) (he : e < n) : fX0_rightEnd (nI e) M = some (nI (ore n e)) := by
  unfold fX0_rightEnd ore
  rw [hn, nI_1]
  by_cases h : e + 1 < n
  · rw [if_neg (by rw [nI_leI (by omega) (by omega)]; omega), if_pos h]
  · rw [if_pos ((nI_leI (by omega) (by omega)).mpr (by omega)), if_neg h]; rfl
theorem e_fe {M : ow_M} {n e : Nat} (hn : M.1 34 5 = nI n) (h7 : n ≤ 7) (he : e < n) : fX8_farEnd (nI e) M = some (nI (ore n e)) := by
  unfold fX8_farEnd ore
  rw [hn, nI_1]
  by_cases h : e + 1 < n
  · rw [if_neg (by rw [nI_eq (by omega) (by omega)]; omega), if_pos h]
  · rw [if_pos ((nI_eq (by omega) (by omega)).mpr (by omega)), if_neg h]; rfl
theorem oed_n {n e : Nat} {lp : Bool} (h : e < oed n lp) : e < n := by unfold oed at h; split at h <;> omega
theorem sp_hand {M : ow_M} (hI : ow_I M) (a1 : Int32) : ∃ r M1 M2, fX7_hand a1 M = some (r, M1) ∧ fX8_hand a1 M1 = some (r, M2) ∧ ow_I M2 := by
  obtain ⟨n, lp, g, rc, hA, hB, hR, hS, hT, hF⟩ := id hI
  obtain ⟨h0, h7, hn, he, hl, hg, hw, hv⟩ := id hA
  obtain ⟨b1, b2, b3, b4⟩ := id hB
  have hgl := g128 h7 hg
  have hed := oed_le (lp := lp) h7
  unfold fX7_hand
  rcases g_E (M := M) (N := M) he (e_edges b1 b2 h7 h0) h7 a1 with ⟨e, hk, rfl, e1, e2⟩ | ⟨e1, e2⟩
  · have hen := oed_n hk
    have hi : ow_inn (nI e) 7 := (inn_nI (by omega)).mpr (by omega)
    have hc : (nI e).toNatClampNeg = e := nI_clamp (by omega)
    simp only [e1, ow_obs, ow_10, reduceIte, if_pos hi, hc]
    rw [hw e (by omega)]
    by_cases q : g.testBit e = false
    · rw [if_pos (show bI (g.testBit e) = 0 by rw [q]; rfl)]
      have hr := ore_lt (n := n) (e := e) (by omega)
      generalize hre : ore n e = r at hr
      have hir : ow_inn (nI r) 7 := (inn_nI (by omega)).mpr (by omega)
      have hcr : (nI r).toNatClampNeg = r := nI_clamp (by omega)
      have ech : fX0_changeGoods (nI e) M = some (ow_up (ow_up M 5 e (M.1 5 r)) 5 r (M.1 5 e)) := by
        unfold fX0_changeGoods
        rw [e1, ow_obs, if_neg (by decide), e_re hn h7 hen, ow_obs, hre]
        simp only [if_pos hi, if_pos hir, hc, hcr]
      rw [ech, ow_obs]
      refine ⟨_, _, ow_up (ow_up (ow_up (ow_up M 5 e (M.1 5 r)) 5 r (M.1 5 e)) 40 e (M.1 40 r)) 40 r (M.1 40 e), rfl, ?_, ?_⟩
      · unfold fX8_hand
        have e3 : fX8_isEdge (nI e) (ow_up (ow_up M 5 e (M.1 5 r)) 5 r (M.1 5 e)) = some 1 := e2
        have e4 : fX8_isOpen (nI e) (ow_up (ow_up M 5 e (M.1 5 r)) 5 r (M.1 5 e)) = some (bI (!g.testBit e)) := e_open b3 (by omega) (by omega)
        have e5 : fX8_farEnd (nI e) (ow_up (ow_up M 5 e (M.1 5 r)) 5 r (M.1 5 e)) = some (nI r) := by rw [← hre]; exact e_fe b1 h7 hen
        have e6 : ∀ v, fX8_farEnd (nI e) (ow_up (ow_up (ow_up M 5 e (M.1 5 r)) 5 r (M.1 5 e)) 40 e v) = some (nI r) := by intro v; rw [← hre]; exact e_fe b1 h7 hen
        rw [e3, ow_obs, if_neg (by decide), e4, q, ow_obs, if_neg (by decide)]
        simp only [e5, e6, ow_obs, if_pos hi, if_pos hir, hc, hcr]
        rfl
      · have hS2 : iS (ow_up (ow_up (ow_up (ow_up M 5 e (M.1 5 r)) 5 r (M.1 5 e)) 40 e (M.1 40 r)) 40 r (M.1 40 e)) := by
          intro q hq
          match q, hq with
          | 0, hq => exact hS 0 hq
          | 1, hq => exact hS 1 hq
          | 2, hq => exact hS 2 hq
          | 3, hq => exact hS 3 hq
        have x5 : ∀ i, (ow_up (ow_up (ow_up (ow_up M 5 e (M.1 5 r)) 5 r (M.1 5 e)) 40 e (M.1 40 r)) 40 r (M.1 40 e)).1 5 i = if i = r then M.1 5 e else if i = e then M.1 5 r else M.1 5 i := by
          intro i
          rw [ow_up_f (a := 5) (Or.inl (by decide)), ow_up_f (a := 5) (Or.inl (by decide)), ow_up_1, ow_up_1]
          simp only [true_and]
        have x40 : ∀ i, (ow_up (ow_up (ow_up (ow_up M 5 e (M.1 5 r)) 5 r (M.1 5 e)) 40 e (M.1 40 r)) 40 r (M.1 40 e)).1 40 i = if i = r then M.1 40 e else if i = e then M.1 40 r else M.1 40 i := by
          intro i
          rw [ow_up_1, ow_up_1, ow_up_f (a := 40) (Or.inl (by decide)), ow_up_f (a := 40) (Or.inl (by decide))]
          simp only [true_and]
        refine ⟨n, lp, g, rc, ⟨h0, h7, hn, he, hl, hg, hw, fun i hi => ?_⟩, ⟨b1, b2, b3, fun i hi => ?_⟩, hR, hS2, hT, hF⟩
        · obtain ⟨q1, q2, q3, q4⟩ := hv i hi
          refine ⟨q1, q2, ?_, q4⟩
          rw [x5]
          by_cases z1 : i = r
          · rw [if_pos z1]; exact (hv e hen).2.2.1
          · rw [if_neg z1]
            by_cases z2 : i = e
            · rw [if_pos z2]; exact (hv r hr).2.2.1
            · rw [if_neg z2]; exact q3
        · obtain ⟨q1, q2, q3, q4⟩ := b4 i hi
          refine ⟨q1, q2, ?_, q4⟩
          rw [x5, x40, (b4 e hen).2.2.1, (b4 r hr).2.2.1, q3]
    · rw [if_neg (show ¬ bI (g.testBit e) = 0 by rw [bI_0]; exact q)]
      refine ⟨_, _, M, rfl, ?_, hI⟩
      unfold fX8_hand
      have qt : g.testBit e = true := by revert q; cases g.testBit e <;> decide
      rw [e2, ow_obs, if_neg (by decide), e_open b3 (by omega) (by omega), qt, ow_obs, if_pos (by decide)]
  · rw [e1]
    refine ⟨_, _, M, rfl, ?_, hI⟩
    unfold fX8_hand
    rw [e2]
    rfl
theorem read_I {M : ow_M} {n : Nat} {lp : Bool} {g rc : Nat} (hA : iA M n lp g) (hB : iB M n lp g) (hR : iR M n rc) (hS : iS M) (hT : M.1 34 1 = M.1 0 7) (hF : M.1 34 0 = M.1 0 8) (hrc : rc < 8) {f v t : Nat} (hf : f < n) (hv : v < 100) (ht : t < n) {x : Int32} (hx : x = -9 ∨ ∃ u, u < 100 ∧ x = nI u) :
    ow_I (ow_up (ow_up (ow_up (ow_up (ow_up (ow_up (ow_up (ow_up (ow_up (ow_up M 22 rc (nI f)) 23 rc (nI v)) 24 rc (nI t)) 25 rc x) 21 0 (nI (rc + 1))) 53 rc (nI f)) 54 rc (nI v)) 55 rc (nI t)) 56 rc x) 34 27 (nI (rc + 1))) := by
  obtain ⟨r8, r1, r2, r3⟩ := hR
  refine ⟨n, lp, g, rc + 1, hA, hB, ⟨by omega, rfl, rfl, fun i hi => ?_⟩, ?_, hT, hF⟩
  · have e22 : (ow_up (ow_up (ow_up (ow_up (ow_up (ow_up (ow_up (ow_up (ow_up (ow_up M 22 rc (nI f)) 23 rc (nI v)) 24 rc (nI t)) 25 rc x) 21 0 (nI (rc + 1))) 53 rc (nI f)) 54 rc (nI v)) 55 rc (nI t)) 56 rc x) 34 27 (nI (rc + 1))).1 22 i = if i = rc then nI f else M.1 22 i := by
      rw [ow_up_f (Or.inl (by decide)), ow_up_f (Or.inl (by decide)), ow_up_f (Or.inl (by decide)), ow_up_f (Or.inl (by decide)), ow_up_f (Or.inl (by decide)), ow_up_f (Or.inl (by decide)), ow_up_f (Or.inl (by decide)), ow_up_f (Or.inl (by decide)), ow_up_f (Or.inl (by decide)), ow_up_1]
      simp only [true_and]
    have e23 : (ow_up (ow_up (ow_up (ow_up (ow_up (ow_up (ow_up (ow_up (ow_up (ow_up M 22 rc (nI f)) 23 rc (nI v)) 24 rc (nI t)) 25 rc x) 21 0 (nI (rc + 1))) 53 rc (nI f)) 54 rc (nI v)) 55 rc (nI t)) 56 rc x) 34 27 (nI (rc + 1))).1 23 i = if i = rc then nI v else M.1 23 i := by
      rw [ow_up_f (Or.inl (by decide)), ow_up_f (Or.inl (by decide)), ow_up_f (Or.inl (by decide)), ow_up_f (Or.inl (by decide)), ow_up_f (Or.inl (by decide)), ow_up_f (Or.inl (by decide)), ow_up_f (Or.inl (by decide)), ow_up_f (Or.inl (by decide)), ow_up_1, ow_up_f (a := 23) (Or.inl (by decide))]
      simp only [true_and]
    have e24 : (ow_up (ow_up (ow_up (ow_up (ow_up (ow_up (ow_up (ow_up (ow_up (ow_up M 22 rc (nI f)) 23 rc (nI v)) 24 rc (nI t)) 25 rc x) 21 0 (nI (rc + 1))) 53 rc (nI f)) 54 rc (nI v)) 55 rc (nI t)) 56 rc x) 34 27 (nI (rc + 1))).1 24 i = if i = rc then nI t else M.1 24 i := by
      rw [ow_up_f (Or.inl (by decide)), ow_up_f (Or.inl (by decide)), ow_up_f (Or.inl (by decide)), ow_up_f (Or.inl (by decide)), ow_up_f (Or.inl (by decide)), ow_up_f (Or.inl (by decide)), ow_up_f (Or.inl (by decide)), ow_up_1, ow_up_f (a := 24) (Or.inl (by decide)), ow_up_f (a := 24) (Or.inl (by decide))]
      simp only [true_and]
    have e25 : (ow_up (ow_up (ow_up (ow_up (ow_up (ow_up (ow_up (ow_up (ow_up (ow_up M 22 rc (nI f)) 23 rc (nI v)) 24 rc (nI t)) 25 rc x) 21 0 (nI (rc + 1))) 53 rc (nI f)) 54 rc (nI v)) 55 rc (nI t)) 56 rc x) 34 27 (nI (rc + 1))).1 25 i = if i = rc then x else M.1 25 i := by
      rw [ow_up_f (Or.inl (by decide)), ow_up_f (Or.inl (by decide)), ow_up_f (Or.inl (by decide)), ow_up_f (Or.inl (by decide)), ow_up_f (Or.inl (by decide)), ow_up_f (Or.inl (by decide)), ow_up_1, ow_up_f (a := 25) (Or.inl (by decide)), ow_up_f (a := 25) (Or.inl (by decide)), ow_up_f (a := 25) (Or.inl (by decide))]
      simp only [true_and]
    have e53 : (ow_up (ow_up (ow_up (ow_up (ow_up (ow_up (ow_up (ow_up (ow_up (ow_up M 22 rc (nI f)) 23 rc (nI v)) 24 rc (nI t)) 25 rc x) 21 0 (nI (rc + 1))) 53 rc (nI f)) 54 rc (nI v)) 55 rc (nI t)) 56 rc x) 34 27 (nI (rc + 1))).1 53 i = if i = rc then nI f else M.1 53 i := by
      rw [ow_up_f (Or.inl (by decide)), ow_up_f (Or.inl (by decide)), ow_up_f (Or.inl (by decide)), ow_up_f (Or.inl (by decide)), ow_up_1]
      simp only [true_and]
      rw [ow_up_f (a := 53) (Or.inl (by decide)), ow_up_f (a := 53) (Or.inl (by decide)), ow_up_f (a := 53) (Or.inl (by decide)), ow_up_f (a := 53) (Or.inl (by decide)), ow_up_f (a := 53) (Or.inl (by decide))]
    have e54 : (ow_up (ow_up (ow_up (ow_up (ow_up (ow_up (ow_up (ow_up (ow_up (ow_up M 22 rc (nI f)) 23 rc (nI v)) 24 rc (nI t)) 25 rc x) 21 0 (nI (rc + 1))) 53 rc (nI f)) 54 rc (nI v)) 55 rc (nI t)) 56 rc x) 34 27 (nI (rc + 1))).1 54 i = if i = rc then nI v else M.1 54 i := by
      rw [ow_up_f (Or.inl (by decide)), ow_up_f (Or.inl (by decide)), ow_up_f (Or.inl (by decide)), ow_up_1]
      simp only [true_and]
      rw [ow_up_f (a := 54) (Or.inl (by decide)), ow_up_f (a := 54) (Or.inl (by decide)), ow_up_f (a := 54) (Or.inl (by decide)), ow_up_f (a := 54) (Or.inl (by decide)), ow_up_f (a := 54) (Or.inl (by decide)), ow_up_f (a := 54) (Or.inl (by decide))]
    have e55 : (ow_up (ow_up (ow_up (ow_up (ow_up (ow_up (ow_up (ow_up (ow_up (ow_up M 22 rc (nI f)) 23 rc (nI v)) 24 rc (nI t)) 25 rc x) 21 0 (nI (rc + 1))) 53 rc (nI f)) 54 rc (nI v)) 55 rc (nI t)) 56 rc x) 34 27 (nI (rc + 1))).1 55 i = if i = rc then nI t else M.1 55 i := by
      rw [ow_up_f (Or.inl (by decide)), ow_up_f (Or.inl (by decide)), ow_up_1]
      simp only [true_and]
      rw [ow_up_f (a := 55) (Or.inl (by decide)), ow_up_f (a := 55) (Or.inl (by decide)), ow_up_f (a := 55) (Or.inl (by decide)), ow_up_f (a := 55) (Or.inl (by decide)), ow_up_f (a := 55) (Or.inl (by decide)), ow_up_f (a := 55) (Or.inl (by decide)), ow_up_f (a := 55) (Or.inl (by decide))]
    have e56 : (ow_up (ow_up (ow_up (ow_up (ow_up (ow_up (ow_up (ow_up (ow_up (ow_up M 22 rc (nI f)) 23 rc (nI v)) 24 rc (nI t)) 25 rc x) 21 0 (nI (rc + 1))) 53 rc (nI f)) 54 rc (nI v)) 55 rc (nI t)) 56 rc x) 34 27 (nI (rc + 1))).1 56 i = if i = rc then x else M.1 56 i := by
      rw [ow_up_f (Or.inl (by decide)), ow_up_1]
      simp only [true_and]
      rw [ow_up_f (a := 56) (Or.inl (by decide)), ow_up_f (a := 56) (Or.inl (by decide)), ow_up_f (a := 56) (Or.inl (by decide)), ow_up_f (a := 56) (Or.inl (by decide)), ow_up_f (a := 56) (Or.inl (by decide)), ow_up_f (a := 56) (Or.inl (by decide)), ow_up_f (a := 56) (Or.inl (by decide)), ow_up_f (a := 56) (Or.inl (by decide))]
    rw [e22, e23, e24, e25, e53, e54, e55, e56]
    by_cases q : i = rc
    · simp only [if_pos q]
      exact ⟨⟨f, hf, rfl, rfl⟩, ⟨v, hv, rfl, rfl⟩, ⟨t, ht, rfl, rfl⟩, trivial, hx⟩
    · simp only [if_neg q]
      exact r3 i (by omega)
  · intro q hq
    match q, hq with
    | 0, hq => exact hS 0 hq
    | 1, hq => exact hS 1 hq
    | 2, hq => exact hS 2 hq
    | 3, hq => exact hS 3 hq
