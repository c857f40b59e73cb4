/-- the class: one set -/
theorem lr_in {n : Nat} {lp : Bool} {W : Nat → Option Nat} {sm : Nat → Nat → Bool} {T a : Nat} (h7 : n ≤ 7) (hT : T < 2 ^ n) (ta : T.testBit a = true) (hB : ∀ U u, W U = some u → u ≤ 900) (x2 : Int32) : ∀ (f b : Nat) (acc : Option Nat) (C : ow_M), C.1 2 0 = nI n → C.1 2 2 = bI lp → smC C = sm → (∀ U, U < T → C.1 20 U = e9 (W U)) → C.1 20 T = e9 acc → (∀ u, acc = some u → u ≤ 906) → a < b → b ≤ n → n - b < f →
    ∀ K, lpX1_leastReaders_50 x2 (nI T) (nI a) K f (nI b) C = K (nI n) (ow_up C 20 T (e9 (fmn (hLt W sm (bwf n lp) T a) (n - b) b acc))) := by
  have hN := p2_128 h7
  have i1 : ow_inn (nI T) 128 := (inn_nI (by omega)).mpr (by omega)
  have c1 : (nI T).toNatClampNeg = T := nI_clamp (by omega)
  intro f
  induction f with
  | zero => intro b acc C _ _ _ _ _ _ _ _ h; omega
  | succ f ih =>
    intro b acc C hn hl hsm hW hacc hab' hab hb hf K
    unfold lpX1_leastReaders_50
    by_cases h : n ≤ b
    · have : b = n := by omega
      subst this
      have z : C.1 2 0 ≤ nI b := by rw [hn]; exact (nI_leI (by omega) (by omega)).mpr h
      rw [if_pos z, Nat.sub_self]
      show _ = K (nI b) (ow_up C 20 T (e9 acc))
      rw [ow_up_id hacc]
    · have z : ¬ C.1 2 0 ≤ nI b := by rw [hn, nI_leI (by omega) (by omega)]; exact h
      have rd := rdw (C := C) (lp := lp) h7 hn hl hab (show b < n by omega) hT ta hW hB
      rw [hsm] at rd
      rw [if_neg z, rd, ow_obs, show n - b = (n - (b + 1)) + 1 by omega]
      have es : fmn (hLt W sm (bwf n lp) T a) (n - (b + 1) + 1) b acc = fmn (hLt W sm (bwf n lp) T a) (n - (b + 1)) (b + 1) (omn acc (hLt W sm (bwf n lp) T a b)) := rfl
      rw [es]
      have st : ∀ v acc2, acc2 = some v → v ≤ 906 → lpX1_leastReaders_50 x2 (nI T) (nI a) K f (nI (b + 1)) (ow_up C 20 T (nI v)) = K (nI n) (ow_up C 20 T (e9 (fmn (hLt W sm (bwf n lp) T a) (n - (b + 1)) (b + 1) acc2))) := by
        intro v acc2 e hv
        subst e
        have hs2 : smC (ow_up C 20 T (nI v)) = sm := by
          rw [← hsm]; funext x y; unfold smC; rw [ow_up_c (a := 6) (by decide)]
        rw [ih (b + 1) (some v) (ow_up C 20 T (nI v)) (by rw [ow_up_c (by decide)]; exact hn) (by rw [ow_up_c (by decide)]; exact hl) hs2 (fun U hU => by rw [ow_up_f (Or.inr (by omega))]; exact hW U hU) ow_up_s (fun u hu => by cases hu; exact hv) (by omega) (by omega) (by omega), up_up]
      cases hh : hLt W sm (bwf n lp) T a b with
      | none =>
        have eo : omn acc none = acc := by cases acc <;> rfl
        rw [if_pos (show e9 none = -9 from rfl), nI_1, eo]
        exact ih (b + 1) acc C hn hl hsm hW hacc hab' (by omega) (by omega) (by omega) K
      | some v =>
        have hv := hLt_b (n := n) (bwf_b h7 a b (by omega) (by omega)) hB hh
        have zv : ¬ e9 (some v) = -9 := fun w => (nI_m9 (by omega)).mp w
        simp only [if_neg zv, if_pos i1, c1, hacc, nI_1]
        cases acc with
        | none =>
          rw [if_pos (show e9 none = -9 from rfl)]
          exact st v _ rfl hv
        | some u =>
          have hu := hab' u rfl
          have zu : ¬ e9 (some u) = -9 := fun w => (nI_m9 (by omega)).mp w
          have el : (e9 (some u) ≤ e9 (some v)) = (u ≤ v) := propext (nI_leI (by omega) (by omega))
          simp only [if_neg zu, el]
          by_cases q : u ≤ v
          · rw [if_pos q]
            have eo : omn (some u) (some v) = some u := by simp only [omn, if_pos q]
            rw [eo]
            exact ih (b + 1) (some u) C hn hl hsm hW hacc hab' (by omega) (by omega) (by omega) K
          · rw [if_neg q]
            have eo : omn (some u) (some v) = some v := by simp only [omn, if_neg q]
            rw [eo]
            exact st v _ rfl hv
theorem lr_out {n : Nat} {lp : Bool} {sm : Nat → Nat → Bool} (h7 : n ≤ 7) : ∀ (f S : Nat) (C : ow_M), C.1 2 0 = nI n → C.1 2 2 = bI lp → smC C = sm → 0 < S → S ≤ 2 ^ n → 2 ^ n - S < f → (∀ U, U < S → C.1 20 U = e9 (LTb sm (bwf n lp) n U)) →
    ∃ C2, (∀ K, lpX1_leastReaders_16 (nI (2 ^ n)) K f (nI S) C = K (nI (2 ^ n)) C2) ∧ ow_x 20 C C2 ∧ ∀ U, U < 2 ^ n → C2.1 20 U = e9 (LTb sm (bwf n lp) n U) := by
  have hN := p2_128 h7
  intro f
  induction f with
  | zero => intro S C _ _ _ _ _ h; omega
  | succ f ih =>
    intro S C hn hl hsm h0 hS hf hW
    unfold lpX1_leastReaders_16
    by_cases h : 2 ^ n ≤ S
    · have e : S = 2 ^ n := by omega
      rw [e] at hW ⊢
      have z : nI (2 ^ n) ≤ nI (2 ^ n) := (nI_leI (by omega) (by omega)).mpr (Nat.le_refl _)
      simp only [if_pos z]
      exact ⟨C, fun _ => rfl, ow_x_rf, hW⟩
    · have z : ¬ nI (2 ^ n) ≤ nI S := by rw [nI_leI (by omega) (by omega)]; exact h
      have z2 : ¬ (128 : Int32) ≤ nI S := by rw [l_128, nI_leI (by omega) (by omega)]; omega
      have i1 : ow_inn (nI S) 128 := (inn_nI (by omega)).mpr (by omega)
      have c1 : (nI S).toNatClampNeg = S := nI_clamp (by omega)
      obtain ⟨s1, s2⟩ := lb_s n (by omega) S (by omega) (by omega)
      have hs2 : ∀ v, smC (ow_up C 20 S v) = sm := by
        intro v
        rw [← hsm]; funext x y; unfold smC; rw [ow_up_c (a := 6) (by decide)]
      have step := lr_in (n := n) (lp := lp) (W := fun U => if U < 2 ^ n then LTb sm (bwf n lp) n U else none) (sm := sm) (T := S) (a := lbq S) h7 (by omega) s1 (fun U u hu => by
        by_cases hU : U < 2 ^ n
        · simp only [if_pos hU] at hu; exact LTb_b h7 (bwf_b h7) hU hu
        · simp only [if_neg hU] at hu; cases hu) (nI (2 ^ n)) ow_N (lbq S + 1) none (ow_up C 20 S (-9)) (by rw [ow_up_c (by decide)]; exact hn) (by rw [ow_up_c (by decide)]; exact hl) (hs2 _) (fun U hU => by
          have hU2 : U < 2 ^ n := by omega
          simp only [if_pos hU2]
          rw [ow_up_f (Or.inr (by omega))]; exact hW U hU) ow_up_s (fun u hu => by cases hu) (by omega) (by omega) (by unfold ow_N; omega)
      have ef : fmn (hLt (fun U => if U < 2 ^ n then LTb sm (bwf n lp) n U else none) sm (bwf n lp) S (lbq S)) (n - (lbq S + 1)) (lbq S + 1) none = LTb sm (bwf n lp) n S := by
        rw [LTb_eq h7 (by omega) (by omega)]
        apply fmn_congr
        intro c k1 k2
        unfold hLt
        by_cases w : S.testBit c = true ∧ sm (lbq S) c = false
        · have xl := x2_lt h7 (show S < 2 ^ n by omega) s2 (show c < n by omega) (by omega) s1 w.1
          have xl2 : S ^^^ 2 ^ lbq S ^^^ 2 ^ c < 2 ^ n := by omega
          rw [if_pos w, if_pos w]
          simp only [if_pos xl2]
        · rw [if_neg w, if_neg w]
      rw [ef, up_up] at step
      obtain ⟨C2, k1, k2, k3⟩ := ih (S + 1) (ow_up C 20 S (e9 (LTb sm (bwf n lp) n S))) (by rw [ow_up_c (by decide)]; exact hn) (by rw [ow_up_c (by decide)]; exact hl) (hs2 _) (by omega) (by omega) (by omega) (fun U hU => by
        by_cases q : U = S
        · subst q; exact ow_up_s
        · rw [ow_up_f (Or.inr q)]; exact hW U (by omega))
      refine ⟨C2, fun K => ?_, ow_x_tr (ow_x_up ow_x_rf) k2, k3⟩
      simp only [if_neg z, if_neg z2, if_pos i1, c1]
      rw [lb_c S (by omega), ow_obs, nI_1 (lbq S), nI_1 S, step]
      exact k1 K
/-! the reference -/
def cpl (n T : Nat) : Nat := (2 ^ n - 1) ^^^ T
theorem cp_lt : ∀ n, n < 8 → ∀ T, T < 2 ^ n → cpl n T < 2 ^ n := by decide +kernel
theorem cp_bit : ∀ n, n < 8 → ∀ T, T < 2 ^ n → ∀ b, b < n → (cpl n T).testBit b = !T.testBit b := by decide +kernel
theorem cp_cp : ∀ n, n < 8 → ∀ T, T < 2 ^ n → cpl n (cpl n T) = T := by decide +kernel
theorem cp_gt : ∀ n, n < 8 → ∀ s, s < 2 ^ n → ∀ U, U < 2 ^ n → U < cpl n s → s < cpl n U := by decide +kernel
theorem cp_or {n T a b : Nat} (hn : n ≤ 7) (hT : T < 2 ^ n) (ha : a < n) (hb : b < n) (hab : a ≠ b) (ta : T.testBit a = true) (tb : T.testBit b = true) : cpl n T ||| 2 ^ a ||| 2 ^ b = cpl n (T ^^^ 2 ^ a ^^^ 2 ^ b) := by
  apply Nat.eq_of_testBit_eq
  intro i
  unfold cpl
  rw [Nat.testBit_or, Nat.testBit_or, Nat.testBit_xor, Nat.testBit_xor, Nat.testBit_xor, Nat.testBit_xor, Nat.testBit_two_pow_sub_one]
  by_cases ia : i = a
  · subst ia; rw [ta, Nat.testBit_two_pow_self, Nat.testBit_two_pow_of_ne (fun z => hab z.symm), decide_eq_true ha]; rfl
  · by_cases ib : i = b
    · subst ib; rw [tb, Nat.testBit_two_pow_self, Nat.testBit_two_pow_of_ne hab, decide_eq_true hb]; rfl
    · rw [Nat.testBit_two_pow_of_ne (fun z => ia z.symm), Nat.testBit_two_pow_of_ne (fun z => ib z.symm)]; simp
theorem ll_first {n S a : Nat} (h7 : n ≤ 7) (hS : S < 2 ^ n) (ha : a ≤ n) (h1 : ∀ b, b < a → S.testBit b = true) (h2 : a = n ∨ S.testBit a = false) {D : ow_M} (hn : D.1 34 5 = nI n) (x1 : Int32) (K : Int32 → Option ow_M) : ∀ (f c : Nat), c ≤ a → a - c < f → lpX8_layLetters_17 x1 (nI S) D K f (nI c) = K (nI a) := by
  have hN := p2_128 h7
  intro f
  induction f with
  | zero => intro c _ h; omega
  | succ f ih =>
    intro c hc hf
    unfold lpX8_layLetters_17
    by_cases h : n ≤ c
    · have : c = a := by omega
      subst this
      rw [if_pos (by rw [hn]; exact (nI_leI (by omega) (by omega)).mpr h)]
    · rw [if_neg (by rw [hn, nI_leI (by omega) (by omega)]; exact h)]
      simp only [bit_e (show S < 2 ^ 31 by omega) (show c < 32 by omega), bI_1, nI_1]
      by_cases q : c = a
      · subst q
        rcases h2 with h2 | h2
        · omega
        · rw [if_neg (by rw [h2]; decide)]
      · rw [if_pos (h1 c (by omega)), ih (c + 1) (by omega) (by omega)]
def smD (D : ow_M) (a b : Nat) : Bool := decide (D.1 41 a = D.1 41 b)
theorem ll_in {n : Nat} {lp : Bool} {W : Nat → Option Nat} {sm : Nat → Nat → Bool} {T a : Nat} (h7 : n ≤ 7) (hT : T < 2 ^ n) (ta : T.testBit a = true) (hB : ∀ U u, W U = some u → u ≤ 900) (x1 : Int32) : ∀ (f b : Nat) (acc : Option Nat) (D : ow_M), D.1 34 5 = nI n → D.1 34 6 = bI lp → (∀ i j, i < n → j < n → smD D i j = sm i j) → (∀ U, U < T → D.1 52 (cpl n U) = eK (W U)) → D.1 52 (cpl n T) = eK acc → (∀ u, acc = some u → u ≤ 906) → a < b → b ≤ n → n - b < f →
    ∀ K, lpX8_layLetters_63 x1 (nI (cpl n T)) (nI a) K f (nI b) D = K (nI n) (ow_up D 52 (cpl n T) (eK (fmn (hLt W sm (bwf n lp) T a) (n - b) b acc))) := by
  have hN := p2_128 h7
  have hS := cp_lt n (by omega) T hT
  have i1 : ow_inn (nI (cpl n T)) 128 := (inn_nI (by omega)).mpr (by omega)
  have c1 : (nI (cpl n T)).toNatClampNeg = cpl n T := nI_clamp (by omega)
  intro f
  induction f with
  | zero => intro b acc C _ _ _ _ _ _ _ _ h; omega
  | succ f ih =>
    intro b acc D hn hl hsm hW hacc hab' hab hb hf K
    unfold lpX8_layLetters_63
    by_cases h : n ≤ b
    · have : b = n := by omega
      subst this
      have z : D.1 34 5 ≤ nI b := by rw [hn]; exact (nI_leI (by omega) (by omega)).mpr h
      rw [if_pos z, Nat.sub_self]
      show _ = K (nI b) (ow_up D 52 (cpl b T) (eK acc))
      rw [ow_up_id hacc]
    · have z : ¬ D.1 34 5 ≤ nI b := by rw [hn, nI_leI (by omega) (by omega)]; exact h
      rw [if_neg z, show n - b = (n - (b + 1)) + 1 by omega]
      have es : fmn (hLt W sm (bwf n lp) T a) (n - (b + 1) + 1) b acc = fmn (hLt W sm (bwf n lp) T a) (n - (b + 1)) (b + 1) (omn acc (hLt W sm (bwf n lp) T a b)) := rfl
      rw [es]
      have eo : omn acc none = acc := by cases acc <;> rfl
      have st : ∀ acc2, (∀ u, acc2 = some u → u ≤ 906) → lpX8_layLetters_63 x1 (nI (cpl n T)) (nI a) K f (nI (b + 1)) (ow_up D 52 (cpl n T) (eK acc2)) = K (nI n) (ow_up D 52 (cpl n T) (eK (fmn (hLt W sm (bwf n lp) T a) (n - (b + 1)) (b + 1) acc2))) := by
        intro acc2 hv
        rw [ih (b + 1) acc2 (ow_up D 52 (cpl n T) (eK acc2)) (by rw [ow_up_c (by decide)]; exact hn) (by rw [ow_up_c (by decide)]; exact hl) (fun i j hi hj => by unfold smD; rw [ow_up_c (a := 41) (by decide)]; exact hsm i j hi hj) (fun U hU => by
          have hne : cpl n U ≠ cpl n T := by
            intro e
            have := congrArg (cpl n) e
            rw [cp_cp n (by omega) U (by omega), cp_cp n (by omega) T hT] at this
            omega
          rw [ow_up_f (Or.inr hne)]; exact hW U hU) ow_up_s hv (by omega) (by omega) (by omega), up_up]
      have skip : lpX8_layLetters_63 x1 (nI (cpl n T)) (nI a) K f (nI (b + 1)) D = K (nI n) (ow_up D 52 (cpl n T) (eK (fmn (hLt W sm (bwf n lp) T a) (n - (b + 1)) (b + 1) acc))) := ih (b + 1) acc D hn hl hsm hW hacc hab' (by omega) (by omega) (by omega) K
      simp only [bit_e (show cpl n T < 2 ^ 31 by omega) (show b < 32 by omega), bI_0, cp_bit n (show n < 8 by omega) T hT b (show b < n by omega), nI_1]
      cases tb : T.testBit b with
      | false =>
        have hh : hLt W sm (bwf n lp) T a b = none := by unfold hLt; rw [if_neg (by rw [tb]; simp)]
        rw [if_neg (by decide), hh, eo]
        exact skip
      | true =>
        have i2 : ow_inn (nI a) 7 := (inn_nI (by omega)).mpr (by omega)
        have i3 : ow_inn (nI b) 7 := (inn_nI (by omega)).mpr (by omega)
        have c2 : (nI a).toNatClampNeg = a := nI_clamp (by omega)
        have c3 : (nI b).toNatClampNeg = b := nI_clamp (by omega)
        rw [if_pos (by rfl), if_pos i2, if_pos i3, c2, c3]
        have hs := hsm a b (by omega) (by omega)
        unfold smD at hs
        by_cases q : D.1 41 a = D.1 41 b
        · rw [decide_eq_true q] at hs
          have hh : hLt W sm (bwf n lp) T a b = none := by unfold hLt; rw [if_neg (by rw [← hs]; simp)]
          rw [if_pos q, hh, eo]
          exact skip
        · rw [decide_eq_false q] at hs
          have xl := x2_lt h7 hT (show a < n by omega) (show b < n by omega) (by omega) ta tb
          have hU := cp_lt n (by omega) (T ^^^ 2 ^ a ^^^ 2 ^ b) (by omega)
          have i4 : ow_inn (nI (cpl n (T ^^^ 2 ^ a ^^^ 2 ^ b))) 128 := (inn_nI (by omega)).mpr (by omega)
          have c4 : (nI (cpl n (T ^^^ 2 ^ a ^^^ 2 ^ b))).toNatClampNeg = cpl n (T ^^^ 2 ^ a ^^^ 2 ^ b) := nI_clamp (by omega)
          have hbb := bwf_b (lp := lp) h7 a b (by omega) (by omega)
          simp only [if_neg q, btw_m h7 hn hl hab (show b < n by omega), ow_obs, one_e (show a < 32 by omega), one_e (show b < 32 by omega), nx_or, cp_or h7 hT (show a < n by omega) (show b < n by omega) (show a ≠ b by omega) ta tb, if_pos i4, if_pos i1, c4, c1, hW _ xl, hacc]
          have hh : hLt W sm (bwf n lp) T a b = (W (T ^^^ 2 ^ a ^^^ 2 ^ b)).map (fun v => v + bwf n lp a b) := by unfold hLt; rw [if_pos ⟨tb, hs.symm⟩]
          cases hw : W (T ^^^ 2 ^ a ^^^ 2 ^ b) with
          | none =>
            rw [hw] at hh
            have hh2 : hLt W sm (bwf n lp) T a b = none := hh
            have le : eK acc ≤ nI (bwf n lp a b) + eK none := by
              show eK acc ≤ nI (bwf n lp a b) + nI 1000
              rw [nI_add]
              cases acc with
              | none => exact (nI_leI (by omega) (by omega)).mpr (by omega)
              | some u => have := hab' u rfl; exact (nI_leI (by omega) (by omega)).mpr (by omega)
            rw [if_pos le, hh2, eo]
            exact st acc hab'
          | some u =>
            rw [hw] at hh
            have hh2 : hLt W sm (bwf n lp) T a b = some (u + bwf n lp a b) := hh
            have hu := hB _ _ hw
            have e2 : nI (bwf n lp a b) + eK (some u) = nI (u + bwf n lp a b) := by
              show nI (bwf n lp a b) + nI u = _
              rw [nI_add, Nat.add_comm]
            rw [e2, hh2]
            cases acc with
            | none =>
              rw [if_neg (show ¬ eK none ≤ nI (u + bwf n lp a b) from fun w => absurd ((nI_leI (by omega) (by omega)).mp w) (by omega))]
              exact st (some (u + bwf n lp a b)) (fun w hw => by cases hw; omega)
            | some y =>
              have hy := hab' y rfl
              have el : (eK (some y) ≤ nI (u + bwf n lp a b)) = (y ≤ u + bwf n lp a b) := propext (nI_leI (by omega) (by omega))
              simp only [el]
              by_cases q2 : y ≤ u + bwf n lp a b
              · have eo : omn (some y) (some (u + bwf n lp a b)) = some y := by simp only [omn, if_pos q2]
                rw [if_pos q2, eo]
                exact st (some y) hab'
              · have eo : omn (some y) (some (u + bwf n lp a b)) = some (u + bwf n lp a b) := by simp only [omn, if_neg q2]
                rw [if_neg q2, eo]
                exact st (some (u + bwf n lp a b)) (fun w hw => by cases hw; omega)
theorem ll_out {n : Nat} {lp : Bool} {sm : Nat → Nat → Bool} (h7 : n ≤ 7) : ∀ (s f : Nat) (D : ow_M), D.1 34 5 = nI n → D.1 34 6 = bI lp → (∀ i j, i < n → j < n → smD D i j = sm i j) → s ≤ 2 ^ n → s < f → (∀ S, s ≤ S → S < 2 ^ n → D.1 52 S = eK (LTb sm (bwf n lp) n (cpl n S))) →
    ∃ D2, (∀ K, lpX8_layLetters_11 (nI (2 ^ n - 1)) K f (nI s + (-1)) D = K (-1) D2) ∧ ow_x 52 D D2 ∧ ∀ S, S < 2 ^ n → D2.1 52 S = eK (LTb sm (bwf n lp) n (cpl n S)) := by
  have hN := p2_128 h7
  have hN1 : 0 < 2 ^ n := Nat.pow_pos (by decide)
  intro s
  induction s with
  | zero =>
    intro f D _ _ _ _ hf hW
    obtain ⟨f, rfl⟩ : ∃ g, f = g + 1 := ⟨f - 1, by omega⟩
    unfold lpX8_layLetters_11
    have z : nI 0 + (-1) < 0 := by decide
    simp only [if_pos z]
    exact ⟨D, fun K => rfl, ow_x_rf, fun S hS => hW S (by omega) hS⟩
  | succ s ih =>
    intro f D hn hl hsm hs hf hW
    obtain ⟨f, rfl⟩ : ∃ g, f = g + 1 := ⟨f - 1, by omega⟩
    unfold lpX8_layLetters_11
    have z : ¬ nI s < 0 := nI_pos (by omega)
    simp only [pk_m1, if_neg z]
    have i1 : ow_inn (nI s) 128 := (inn_nI (by omega)).mpr (by omega)
    have c1 : (nI s).toNatClampNeg = s := nI_clamp (by omega)
    have eqs : (nI s = nI (2 ^ n - 1)) = (s = 2 ^ n - 1) := propext (nI_eq (by omega) (by omega))
    unfold jX8_layLetters_40 jX8_layLetters_57
    simp only [eqs, if_pos i1, c1]
    have hT : cpl n s < 2 ^ n := cp_lt n (by omega) s (by omega)
    have ecc : cpl n (cpl n s) = s := cp_cp n (by omega) s (by omega)
    have nxt : ∃ D2, (∀ K, lpX8_layLetters_11 (nI (2 ^ n - 1)) K f (nI s + (-1)) (ow_up D 52 s (eK (LTb sm (bwf n lp) n (cpl n s)))) = K (-1) D2) ∧ ow_x 52 D D2 ∧ ∀ S, S < 2 ^ n → D2.1 52 S = eK (LTb sm (bwf n lp) n (cpl n S)) := by
      obtain ⟨D2, k1, k2, k3⟩ := ih f (ow_up D 52 s (eK (LTb sm (bwf n lp) n (cpl n s)))) (by rw [ow_up_c (by decide)]; exact hn) (by rw [ow_up_c (by decide)]; exact hl) (fun i j hi hj => by unfold smD; rw [ow_up_c (a := 41) (by decide)]; exact hsm i j hi hj) (by omega) (by omega) (fun S h1 h2 => by
        by_cases q : S = s
        · subst q; exact ow_up_s
        · rw [ow_up_f (Or.inr q)]; exact hW S (by omega) h2)
      exact ⟨D2, k1, ow_x_tr (ow_x_up ow_x_rf) k2, k3⟩
    obtain ⟨D2, k1, k2, k3⟩ := nxt
    refine ⟨D2, fun K => ?_, k2, k3⟩
    by_cases q : s = 2 ^ n - 1
    · have ft := ll_first (n := n) (S := s) (a := n) h7 (by omega) (Nat.le_refl _) (fun b hb => by
        have e0 := cp_bit n (by omega) 0 hN1 b hb
        have e1 : cpl n 0 = s := by unfold cpl; rw [Nat.xor_zero]; exact q.symm
        rw [e1, Nat.zero_testBit] at e0; exact e0) (Or.inl rfl) hn (nI (2 ^ n - 1)) (fun u4 => if s = 2 ^ n - 1 then
          lpX8_layLetters_63 (nI (2 ^ n - 1)) (nI s) u4 (fun u20 M21 => lpX8_layLetters_11 (nI (2 ^ n - 1)) K f (nI s + -1) M21) ow_N (u4 + 1) (ow_up D 52 s 0)
        else
          lpX8_layLetters_63 (nI (2 ^ n - 1)) (nI s) u4 (fun u20 M21 => lpX8_layLetters_11 (nI (2 ^ n - 1)) K f (nI s + -1) M21) ow_N (u4 + 1) (ow_up D 52 s 1000)) ow_N 0 (by omega) (by unfold ow_N; omega)
      rw [nI_0] at ft
      refine ft.trans ?_
      rw [if_pos q]
      have hc0 : cpl n s = 0 := by rw [q]; unfold cpl; exact Nat.xor_self _
      rw [hc0, LTb_0] at k1
      have eN : ow_N = 19999 + 1 := rfl
      rw [eN]
      unfold lpX8_layLetters_63
      rw [if_pos (by rw [ow_up_c (by decide), hn, nI_1]; exact (nI_leI (by omega) (by omega)).mpr (by omega))]
      exact k1 K
    · have hT0 : cpl n s ≠ 0 := by
        intro e
        have := congrArg (cpl n) e
        rw [ecc] at this
        apply q
        rw [this]; unfold cpl; rw [Nat.xor_zero]
      obtain ⟨s1, s2⟩ := lb_s n (by omega) (cpl n s) hT hT0
      have bits : ∀ b, b < n → s.testBit b = !(cpl n s).testBit b := by
        intro b hb
        have := cp_bit n (by omega) (cpl n s) hT b hb
        rw [ecc] at this; exact this
      have ft := ll_first (n := n) (S := s) (a := lbq (cpl n s)) h7 (by omega) (by omega) (fun b hb => by
        rw [bits b (by omega), lb_m _ (by omega) b hb]; rfl) (Or.inr (by rw [bits _ s2, s1]; rfl)) hn (nI (2 ^ n - 1)) (fun u4 => if s = 2 ^ n - 1 then
          lpX8_layLetters_63 (nI (2 ^ n - 1)) (nI s) u4 (fun u20 M21 => lpX8_layLetters_11 (nI (2 ^ n - 1)) K f (nI s + -1) M21) ow_N (u4 + 1) (ow_up D 52 s 0)
        else
          lpX8_layLetters_63 (nI (2 ^ n - 1)) (nI s) u4 (fun u20 M21 => lpX8_layLetters_11 (nI (2 ^ n - 1)) K f (nI s + -1) M21) ow_N (u4 + 1) (ow_up D 52 s 1000)) ow_N 0 (by omega) (by unfold ow_N; omega)
      rw [nI_0] at ft
      refine ft.trans ?_
      rw [if_neg q]
      have step := ll_in (n := n) (lp := lp) (W := fun U => if U < 2 ^ n then LTb sm (bwf n lp) n U else none) (sm := sm) (T := cpl n s) (a := lbq (cpl n s)) h7 hT s1 (fun U u hu => by
        by_cases hU : U < 2 ^ n
        · simp only [if_pos hU] at hu; exact LTb_b h7 (bwf_b h7) hU hu
        · simp only [if_neg hU] at hu; cases hu) (nI (2 ^ n - 1)) ow_N (lbq (cpl n s) + 1) none (ow_up D 52 s 1000) (by rw [ow_up_c (by decide)]; exact hn) (by rw [ow_up_c (by decide)]; exact hl) (fun i j hi hj => by unfold smD; rw [ow_up_c (a := 41) (by decide)]; exact hsm i j hi hj) (fun U hU => by
          have hU2 : U < 2 ^ n := by omega
          have hcU := cp_lt n (by omega) U hU2
          have hgt : s < cpl n U := cp_gt n (by omega) s (by omega) U hU2 hU
          simp only [if_pos hU2]
          rw [ow_up_f (Or.inr (by omega)), hW (cpl n U) (by omega) hcU, cp_cp n (by omega) U hU2]) (by rw [ecc]; exact ow_up_s) (fun u hu => by cases hu) (by omega) (by omega) (by unfold ow_N; omega)
      have ef : fmn (hLt (fun U => if U < 2 ^ n then LTb sm (bwf n lp) n U else none) sm (bwf n lp) (cpl n s) (lbq (cpl n s))) (n - (lbq (cpl n s) + 1)) (lbq (cpl n s) + 1) none = LTb sm (bwf n lp) n (cpl n s) := by
        rw [LTb_eq h7 hT hT0]
        apply fmn_congr
        intro c k1 k2
        unfold hLt
        by_cases w : (cpl n s).testBit c = true ∧ sm (lbq (cpl n s)) c = false
        · have xl := x2_lt h7 hT s2 (show c < n by omega) (by omega) s1 w.1
          have xl2 : cpl n s ^^^ 2 ^ lbq (cpl n s) ^^^ 2 ^ c < 2 ^ n := by omega
          rw [if_pos w, if_pos w]
          simp only [if_pos xl2]
        · rw [if_neg w, if_neg w]
      rw [ef, ecc, up_up] at step
      rw [nI_1, step]
      exact k1 K
