theorem nx_and (a b : Nat) : nI a &&& nI b = nI (a &&& b) := by
  apply Int32.toBitVec_inj.1
  show BitVec.ofNat 32 a &&& BitVec.ofNat 32 b = BitVec.ofNat 32 (a &&& b)
  apply BitVec.eq_of_getLsbD_eq
  intro i hi
  simp [hi]
theorem nx_xor (a b : Nat) : nI a ^^^ nI b = nI (a ^^^ b) := by
  apply Int32.toBitVec_inj.1
  show BitVec.ofNat 32 a ^^^ BitVec.ofNat 32 b = BitVec.ofNat 32 (a ^^^ b)
  apply BitVec.eq_of_getLsbD_eq
  intro i hi
  simp [hi]
theorem nx_or (a b : Nat) : nI a ||| nI b = nI (a ||| b) := by
  apply Int32.toBitVec_inj.1
  show BitVec.ofNat 32 a ||| BitVec.ofNat 32 b = BitVec.ofNat 32 (a ||| b)
  apply BitVec.eq_of_getLsbD_eq
  intro i hi
  simp [hi]
theorem sh31 : ∀ e, e < 32 → ((nI e &&& 31).toBitVec.smod 32).toNat = e := by decide +kernel
theorem shr_e {g e : Nat} (hg : g < 2 ^ 31) (he : e < 32) : nI g >>> (nI e &&& 31) = nI (g / 2 ^ e) := pk_shrN hg _ e (sh31 e he)
theorem shl_e {n e : Nat} (he : e < 32) (h : n * 2 ^ e < 2 ^ 32) : nI n <<< (nI e &&& 31) = nI (n * 2 ^ e) := pk_shlN _ e (sh31 e he) h
theorem one_e {e : Nat} (he : e < 32) : (1 : Int32) <<< (nI e &&& 31) = nI (2 ^ e) := by
  rw [l_1, shl_e he (by rw [Nat.one_mul]; exact Nat.pow_lt_pow_right (by decide) he), Nat.one_mul]
theorem and1 {n : Nat} (h : n < 2 ^ 32) : nI n &&& 1 = nI (n % 2) := by
  have := pk_andN (n := n) h (m := 1) 1 (by decide)
  rw [this]
theorem bit_e {g e : Nat} (hg : g < 2 ^ 31) (he : e < 32) : (nI g >>> (nI e &&& 31)) &&& 1 = bI (g.testBit e) := by
  rw [shr_e hg he, and1 (by have := Nat.div_le_self g (2 ^ e); omega), Nat.testBit_eq_decide_div_mod_eq]
  rcases Nat.mod_two_eq_zero_or_one (g / 2 ^ e) with h | h
  · rw [h]; rfl
  · rw [h]; rfl
theorem bI_0 (b : Bool) : (bI b = 0) = (b = false) := by cases b <;> simp [bI]
theorem bI_1 (b : Bool) : (bI b = 1) = (b = true) := by cases b <;> simp [bI]
theorem e_open {M : ow_M} {g e : Nat} (h : M.1 34 7 = nI g) (hg : g < 2 ^ 31) (he : e < 32) : fX8_isOpen (nI e) M = some (bI (!g.testBit e)) := by
  unfold fX8_isOpen
  rw [h, bit_e hg he]
  cases g.testBit e <;> rfl
theorem g128 {n g : Nat} {lp : Bool} (h7 : n ≤ 7) (hg : g < 2 ^ oed n lp) : g < 128 := by
  have := Nat.pow_le_pow_right (n := 2) (by decide) (oed_le (lp := lp) h7)
  omega
theorem sp_grudge {M : ow_M} (hI : ow_I M) (a1 a2 : Int32) (ha : a2 = 0 ∨ a2 = 1) : ∃ r M1 M2, fX7_grudge a1 a2 M = some (r, M1) ∧ fX8_grudge a1 a2 M1 = some (r, M2) ∧ ow_I M2 := by
  obtain ⟨n, lp, g, rc, hA, hB, hR, hS, hT, hF⟩ := id hI
  obtain ⟨h0, h7, hn, he, hl, hg, hw, hv⟩ := id hA
  obtain ⟨b1, b2, b3, b4⟩ := id hB
  have hgl := g128 h7 hg
  have hed := oed_le (lp := lp) h7
  unfold fX7_grudge
  rcases g_E (M := M) (N := M) he (e_edges b1 b2 h7 h0) h7 a1 with ⟨e, hk, rfl, e1, e2⟩ | ⟨e1, e2⟩
  · have hi : ow_inn (nI e) 7 := (inn_nI (by omega)).mpr (by omega)
    have hc : (nI e).toNatClampNeg = e := nI_clamp (by omega)
    simp only [e1, ow_obs, ow_10, reduceIte, if_pos hi, hc]
    rw [hw e (by omega)]
    obtain ⟨c, rfl⟩ : ∃ c : Bool, a2 = bI c := by
      rcases ha with h | h
      · exact ⟨false, h⟩
      · exact ⟨true, h⟩
    have hnar : vp_nar .boolean (bI c) = bI c := by cases c <;> decide +kernel
    by_cases q : bI (g.testBit e) = bI c
    · rw [if_pos q]
      refine ⟨_, _, M, rfl, ?_, hI⟩
      unfold fX8_grudge
      rw [e2, ow_obs, if_neg (by decide), e_open b3 (by omega) (by omega), ow_obs, if_neg]
      intro z
      rw [← q] at z
      revert z
      cases g.testBit e <;> decide
    · rw [if_neg q, hnar]
      refine ⟨_, _, ow_up (ow_up M 7 e (bI c)) 34 7 (nI (g ^^^ 2 ^ e)), rfl, ?_, ?_⟩
      · unfold fX8_grudge
        have e3 : fX8_isEdge (nI e) (ow_up M 7 e (bI c)) = some 1 := e2
        have e4 : fX8_isOpen (nI e) (ow_up M 7 e (bI c)) = some (bI (!g.testBit e)) := e_open b3 (by omega) (by omega)
        rw [e3, ow_obs, if_neg (by decide), e4, ow_obs, if_pos]
        · have : (ow_up M 7 e (bI c)).1 34 7 = nI g := b3
          rw [this, one_e (by omega), nx_xor]
        · revert q
          cases g.testBit e <;> cases c <;> decide
      · have hb : (g ^^^ 2 ^ e).testBit e = c := by
          rw [Nat.testBit_xor, Nat.testBit_two_pow_self]
          revert q
          cases g.testBit e <;> cases c <;> decide
        have ho : ∀ i, i ≠ e → (g ^^^ 2 ^ e).testBit i = g.testBit i := by
          intro i hie
          rw [Nat.testBit_xor, Nat.testBit_two_pow_of_ne (fun z => hie z.symm), Bool.xor_false]
        refine ⟨n, lp, g ^^^ 2 ^ e, rc, ⟨h0, h7, hn, he, hl, ?_, ?_, hv⟩, ⟨b1, b2, rfl, b4⟩, hR, ?_, hT, hF⟩
        · exact Nat.xor_lt_two_pow hg (Nat.pow_lt_pow_right (by decide) hk)
        · intro i hi7
          by_cases hie : i = e
          · subst hie
            rw [hb, ow_up_f (a := 7) (Or.inl (by decide)), ow_up_s]
          · rw [ho i hie, ow_up_f (a := 7) (Or.inl (by decide)), ow_up_f (Or.inr hie)]
            exact hw i hi7
        · intro q hq
          match q, hq with
          | 0, hq => exact hS 0 hq
          | 1, hq => exact hS 1 hq
          | 2, hq => exact hS 2 hq
          | 3, hq => exact hS 3 hq
  · rw [e1]
    refine ⟨_, _, M, rfl, ?_, hI⟩
    unfold fX8_grudge
    rw [e2]
    rfl
theorem sp_back {M : ow_M} (hI : ow_I M) (a1 : Int32) : ∃ r M1 M2, fX7_back a1 M = some (r, M1) ∧ fX8_back a1 M1 = some (r, M2) ∧ ow_I M2 := by
  obtain ⟨n, lp, g, rc, hA, hB, hR, hS, hT, hF⟩ := id hI
  obtain ⟨r8, r1, r2, r3⟩ := id hR
  unfold fX7_back
  rw [r1]
  by_cases c0 : a1 < 0
  · rw [if_pos c0]
    refine ⟨_, _, M, rfl, ?_, hI⟩
    unfold fX8_back fX8_within
    rw [if_pos c0]
    rfl
  · rw [if_neg c0]
    obtain ⟨v, hv, rfl⟩ := nI_of c0
    by_cases c1 : nI v ≤ nI rc
    · have hvr : v ≤ rc := (nI_leI (by omega) (by omega)).mp c1
      rw [if_pos c1, pk_sub hvr, ow_up_s]
      refine ⟨_, _, ow_up (ow_up M 21 0 (nI (rc - v))) 34 27 (nI (rc - v)), rfl, ?_, ?_⟩
      · unfold fX8_back fX8_within
        have q1 : (ow_up M 21 0 (nI (rc - v))).1 34 27 = nI rc := r2
        rw [q1, if_neg c0, if_neg (Int32.not_lt.mpr c1), ow_obs, if_neg (by decide), pk_sub hvr, ow_up_s]
      · refine ⟨n, lp, g, rc - v, hA, hB, ⟨by omega, rfl, rfl, fun i hi => r3 i (by omega)⟩, ?_, hT, hF⟩
        intro q hq
        match q, hq with
        | 0, hq => exact hS 0 hq
        | 1, hq => exact hS 1 hq
        | 2, hq => exact hS 2 hq
        | 3, hq => exact hS 3 hq
    · rw [if_neg c1]
      refine ⟨_, _, M, rfl, ?_, hI⟩
      unfold fX8_back fX8_within
      rw [r2, if_neg c0, if_pos (Int32.not_le.mp c1)]
      rfl
theorem tp {N : ow_M} {n k : Nat} (hn : N.1 2 0 = nI n) (h7 : n ≤ 7) (hk : k < n) : fX7_tellPerson (nI k) N = some (N.1 4 k, ow_up N 0 7 (31 * N.1 0 7 + 1)) := by
  have hi : ow_inn (nI k) 7 := (inn_nI (by omega)).mpr (by omega)
  have hc : (nI k).toNatClampNeg = k := nI_clamp (by omega)
  have e1 : fX0_isPerson (nI k) (ow_up N 0 7 (31 * N.1 0 7 + 1)) = some 1 := by
    rcases g_P0 (M := ow_up N 0 7 (31 * N.1 0 7 + 1)) hn h7 (nI k) with ⟨_, _, _, h⟩ | ⟨hx, _⟩
    · exact h
    · exact absurd ⟨k, hk, rfl⟩ hx
  unfold fX7_tellPerson fX7_leaveTrace
  simp only [ow_obs, e1, ow_10, reduceIte, if_pos hi, hc]
  rfl
theorem tg {N : ow_M} {n k : Nat} (hn : N.1 2 0 = nI n) (h7 : n ≤ 7) (hk : k < n) : fX7_tellGrudger (nI k) N = some (N.1 4 k + 100, ow_up (ow_up N 0 7 (31 * N.1 0 7 + 2)) 0 7 (31 * (31 * N.1 0 7 + 2) + 1)) := by
  unfold fX7_tellGrudger fX7_leaveTrace
  rw [ow_obs, tp (N := ow_up N 0 7 (31 * N.1 0 7 + 2)) hn h7 hk]
  rfl
theorem tt {N : ow_M} {n k : Nat} (hn : N.1 2 0 = nI n) (h7 : n ≤ 7) (hk : k < n) : fX7_tellTalker (nI k) N = some (N.1 4 k + 100 + N.1 4 k, ow_up (ow_up (ow_up (ow_up N 0 7 (31 * N.1 0 7 + 3)) 0 7 (31 * (31 * N.1 0 7 + 3) + 2)) 0 7 (31 * (31 * (31 * N.1 0 7 + 3) + 2) + 1)) 0 7 (31 * (31 * (31 * (31 * N.1 0 7 + 3) + 2) + 1) + 1)) := by
  unfold fX7_tellTalker fX7_leaveTrace
  rw [ow_obs, tg (N := ow_up N 0 7 (31 * N.1 0 7 + 3)) hn h7 hk, ow_bd_eq, tp (N := ow_up (ow_up (ow_up N 0 7 (31 * N.1 0 7 + 3)) 0 7 _) 0 7 _) hn h7 hk]
  rfl
theorem sp_tell {M : ow_M} (hI : ow_I M) (a1 : Int32) : ∃ r M1 M2, fX7_tell a1 M = some (r, M1) ∧ fX8_tell a1 M1 = some (r, M2) ∧ ow_I M2 := by
  obtain ⟨n, lp, g, rc, hA, hB, hR, hS, hT, hF⟩ := id hI
  obtain ⟨h0, h7, hn, he, hl, hg, hw, hv⟩ := id hA
  obtain ⟨b1, b2, b3, b4⟩ := id hB
  unfold fX7_tell
  rcases g_P (M := M) (N := M) hn b1 h7 a1 with ⟨k, hk, rfl, e1, e2⟩ | ⟨e1, e2⟩
  · have hi : ow_inn (nI k) 7 := (inn_nI (by omega)).mpr (by omega)
    have hc : (nI k).toNatClampNeg = k := nI_clamp (by omega)
    obtain ⟨c1, c2, c3, c4⟩ := b4 k hk
    obtain ⟨⟨kd, hkd, hk3⟩, ⟨sv, hsv, hs4⟩, -⟩ := hv k hk
    simp only [e1, ow_obs, ow_10, reduceIte, if_pos hi, hc]
    have j4 : ∀ N : ow_M, (∀ j, j ∈ [5, 6, 7, 27] → N.1 34 j = M.1 34 j) → ∀ v, ∀ j, j ∈ [5, 6, 7, 27] → (ow_up N 34 1 v).1 34 j = M.1 34 j := fun N h v j hj => (j34 (Or.inr rfl) j hj).trans (h j hj)
    by_cases d1 : M.1 3 k = 1
    · rw [if_pos d1, tg hn h7 hk, ow_bd_eq]
      refine ⟨_, _, ow_up (ow_up (ow_up (ow_up M 0 7 (31 * M.1 0 7 + 2)) 0 7 (31 * (31 * M.1 0 7 + 2) + 1)) 34 1 (31 * M.1 34 1 + 2)) 34 1 (31 * (31 * M.1 34 1 + 2) + 1), rfl, ?_, ?_⟩
      · unfold fX8_tell fX8_begins
        have e3 : fX8_isPerson (nI k) (ow_up (ow_up M 0 7 (31 * M.1 0 7 + 2)) 0 7 (31 * (31 * M.1 0 7 + 2) + 1)) = some 1 := e2
        have d2 : (ow_up (ow_up M 0 7 (31 * M.1 0 7 + 2)) 0 7 (31 * (31 * M.1 0 7 + 2) + 1)).1 38 k = 1 := c1.trans d1
        simp only [e3, ow_obs, ow_10, reduceIte, if_pos hi, hc, if_pos d2]
        have d3 : (ow_up (ow_up M 0 7 (31 * M.1 0 7 + 2)) 0 7 (31 * (31 * M.1 0 7 + 2) + 1)).1 39 k = M.1 4 k := c2
        rw [d3]
        rfl
      · refine ow_I_tf hI (fun a ha => ?_) (j4 _ (j4 _ (fun j hj => (j0 j hj).trans (j0 j hj)) _) _) ?_ hF
        · rw [up34 a ha, up34 a ha, up0 a ha, up0 a ha]
        · show 31 * (31 * M.1 34 1 + 2) + 1 = 31 * (31 * M.1 0 7 + 2) + 1
          rw [hT]
    · rw [if_neg d1]
      by_cases d2 : M.1 3 k = 2
      · rw [if_pos d2, tt hn h7 hk, ow_bd_eq]
        refine ⟨_, _, ow_up (ow_up (ow_up (ow_up (ow_up (ow_up (ow_up (ow_up M 0 7 (31 * M.1 0 7 + 3)) 0 7 (31 * (31 * M.1 0 7 + 3) + 2)) 0 7 (31 * (31 * (31 * M.1 0 7 + 3) + 2) + 1)) 0 7 (31 * (31 * (31 * (31 * M.1 0 7 + 3) + 2) + 1) + 1)) 34 1 (31 * M.1 34 1 + 3)) 34 1 (31 * (31 * M.1 34 1 + 3) + 2)) 34 1 (31 * (31 * (31 * M.1 34 1 + 3) + 2) + 1)) 34 1 (31 * (31 * (31 * (31 * M.1 34 1 + 3) + 2) + 1) + 1), rfl, ?_, ?_⟩
        · unfold fX8_tell fX8_begins
          have e3 : ∀ N : ow_M, N.1 34 5 = nI n → fX8_isPerson (nI k) N = some 1 := by
            intro N hN
            rcases g_P8 hN h7 (nI k) with ⟨_, _, _, h⟩ | ⟨hx, _⟩
            · exact h
            · exact absurd ⟨k, hk, rfl⟩ hx
          rw [e3 (ow_up (ow_up (ow_up (ow_up M 0 7 _) 0 7 _) 0 7 _) 0 7 _) b1, ow_obs, if_neg (by decide)]
          simp only [if_pos hi, hc]
          have d3 : ¬ (ow_up (ow_up (ow_up (ow_up M 0 7 (31 * M.1 0 7 + 3)) 0 7 (31 * (31 * M.1 0 7 + 3) + 2)) 0 7 (31 * (31 * (31 * M.1 0 7 + 3) + 2) + 1)) 0 7 (31 * (31 * (31 * (31 * M.1 0 7 + 3) + 2) + 1) + 1)).1 38 k = 1 := fun z => d1 (c1.symm.trans z)
          have d4 : (ow_up (ow_up (ow_up (ow_up M 0 7 (31 * M.1 0 7 + 3)) 0 7 (31 * (31 * M.1 0 7 + 3) + 2)) 0 7 (31 * (31 * (31 * M.1 0 7 + 3) + 2) + 1)) 0 7 (31 * (31 * (31 * (31 * M.1 0 7 + 3) + 2) + 1) + 1)).1 38 k = 2 := c1.trans d2
          have d5 : (ow_up (ow_up (ow_up (ow_up M 0 7 (31 * M.1 0 7 + 3)) 0 7 (31 * (31 * M.1 0 7 + 3) + 2)) 0 7 (31 * (31 * (31 * M.1 0 7 + 3) + 2) + 1)) 0 7 (31 * (31 * (31 * (31 * M.1 0 7 + 3) + 2) + 1) + 1)).1 39 k = M.1 4 k := c2
          rw [if_neg d3, if_pos d4, d5, ow_obs, ow_obs, ow_obs, ow_obs]
          have d6 : 2 * M.1 4 k + 100 = M.1 4 k + 100 + M.1 4 k := by
            rw [hs4, l_2, l_100, pk_mul, nI_add, nI_add, nI_add]
            congr 1
            omega
          rw [d6]
          rfl
        · refine ow_I_tf hI (fun a ha => ?_) (j4 _ (j4 _ (j4 _ (j4 _ (fun j hj => (j0 j hj).trans ((j0 j hj).trans ((j0 j hj).trans (j0 j hj)))) _) _) _) _) ?_ hF
          · rw [up34 a ha, up34 a ha, up34 a ha, up34 a ha, up0 a ha, up0 a ha, up0 a ha, up0 a ha]
          · show 31 * (31 * (31 * (31 * M.1 34 1 + 3) + 2) + 1) + 1 = 31 * (31 * (31 * (31 * M.1 0 7 + 3) + 2) + 1) + 1
            rw [hT]
      · rw [if_neg d2, tp hn h7 hk, ow_bd_eq]
        refine ⟨_, _, ow_up (ow_up M 0 7 (31 * M.1 0 7 + 1)) 34 1 (31 * M.1 0 7 + 1), rfl, ?_, ow_I_tt hI _⟩
        unfold fX8_tell fX8_begins
        have e3 : fX8_isPerson (nI k) (ow_up M 0 7 (31 * M.1 0 7 + 1)) = some 1 := e2
        have d3 : ¬ (ow_up M 0 7 (31 * M.1 0 7 + 1)).1 38 k = 1 := fun z => d1 (c1.symm.trans z)
        have d4 : ¬ (ow_up M 0 7 (31 * M.1 0 7 + 1)).1 38 k = 2 := fun z => d2 (c1.symm.trans z)
        simp only [e3, ow_obs, ow_10, reduceIte, if_pos hi, hc, if_neg d3, if_neg d4]
        have d5 : (ow_up M 0 7 (31 * M.1 0 7 + 1)).1 39 k = M.1 4 k := c2
        have d6 : (ow_up M 0 7 (31 * M.1 0 7 + 1)).1 34 1 = M.1 0 7 := hT
        rw [d5, d6]
  · rw [e1]
    refine ⟨_, _, _, rfl, ?_, hI⟩
    unfold fX8_tell
    rw [e2]
    rfl
