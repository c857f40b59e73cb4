theorem e9_eq {x y : Option Nat} (hx : ∀ u, x = some u → u ≤ 906) (hy : ∀ u, y = some u → u ≤ 906) : (e9 x = e9 y) ↔ x = y := by
  constructor
  · intro h
    cases x with
    | none =>
      cases y with
      | none => rfl
      | some v => have := hy v rfl; exact absurd h.symm (fun w => (nI_m9 (by omega)).mp w)
    | some u =>
      have := hx u rfl
      cases y with
      | none => exact absurd h (fun w => (nI_m9 (by omega)).mp w)
      | some v => have := hy v rfl; rw [(nI_eq (by omega) (by omega)).mp h]
  · intro h; rw [h]
theorem mo_c {n : Nat} {lp : Bool} {W : Nat → Option Nat} {C : ow_M} {T a b : Nat} (h7 : n ≤ 7) (hn : C.1 2 0 = nI n) (hl : C.1 2 2 = bI lp) (hT : T < 2 ^ n) (ta : T.testBit a = true) (hb : b < n) (hW : ∀ U, U < 2 ^ n → C.1 20 U = e9 (W U)) (hB : ∀ U u, W U = some u → u ≤ 900)
    (h1 : hLt W (smC C) (bwf n lp) T a b = W T) (h2 : ∀ c, a < c → c < b → hLt W (smC C) (bwf n lp) T a c ≠ W T) (x2 x4 : Int32) (K : Int32 → Option Int32) : ∀ (f c : Nat), a < c → c ≤ b → b - c < f → lpX1_mateOf_37 x2 (nI T) x4 (nI a) C K f (nI c) = K (nI b) := by
  have hN := p2_128 h7
  have i1 : ow_inn (nI T) 128 := (inn_nI (by omega)).mpr (by omega)
  have c1 : (nI T).toNatClampNeg = T := nI_clamp (by omega)
  intro f
  induction f with
  | zero => intro c _ _ h; omega
  | succ f ih =>
    intro c hac hcb hf
    unfold lpX1_mateOf_37
    rw [hn, l_1, pk_sub (by omega)]
    by_cases h : n - 1 ≤ c
    · have : c = b := by omega
      subst this
      rw [if_pos ((nI_leI (by omega) (by omega)).mpr h)]
    · have z : ¬ nI (n - 1) ≤ nI c := by rw [nI_leI (by omega) (by omega)]; exact h
      rw [if_neg z, rdw (lp := lp) (W := W) h7 hn hl hac (show c < n by omega) hT ta (fun U hU => hW U (by omega)) hB, ow_obs, if_pos i1, c1, hW T hT]
      have ee := e9_eq (x := hLt W (smC C) (bwf n lp) T a c) (y := W T) (fun u hu => hLt_b (n := n) (bwf_b h7 a c (by omega) (by omega)) hB hu) (fun u hu => by have := hB T u hu; omega)
      by_cases q : c = b
      · subst q
        rw [if_pos (ee.mpr h1)]
      · rw [if_neg (fun w => h2 c hac (by omega) (ee.mp w)), ← l_1, nI_1]
        exact ih (c + 1) (by omega) (by omega) (by omega)
theorem mo_m4 {S a : Nat} (hS : S < 128) (ha : a < 7) (h1 : ∀ b, b < a → S.testBit b = true) (h2 : S.testBit a = false) {D : ow_M} (x1 : Int32) (K : Int32 → Option Int32) : ∀ (f c : Nat), c ≤ a → a - c < f → lpX8_mateOf_4 x1 (nI S) D K f (nI c) = K (nI a) := by
  intro f
  induction f with
  | zero => intro c _ h; omega
  | succ f ih =>
    intro c hc hf
    unfold lpX8_mateOf_4
    simp only [bit_e (show S < 2 ^ 31 by omega) (show c < 32 by omega), bI_1, nI_1]
    by_cases q : c = a
    · subst q
      rw [if_neg (by rw [h2]; decide)]
    · rw [if_pos (h1 c (by omega)), ih (c + 1) (by omega) (by omega)]
theorem mo_m {n : Nat} {lp : Bool} {W : Nat → Option Nat} {sm : Nat → Nat → Bool} {D : ow_M} {T a b v : Nat} (h7 : n ≤ 7) (hn : D.1 34 5 = nI n) (hl : D.1 34 6 = bI lp) (hsm : ∀ i j, i < n → j < n → smD D i j = sm i j) (hT : T < 2 ^ n) (ta : T.testBit a = true) (hb : b < n) (hW : ∀ U, U < 2 ^ n → D.1 52 (cpl n U) = eK (W U)) (hB : ∀ U u, W U = some u → u ≤ 900) (hv : W T = some v)
    (h1 : hLt W sm (bwf n lp) T a b = W T) (h2 : ∀ c, a < c → c < b → hLt W sm (bwf n lp) T a c ≠ W T) (x1 : Int32) (K : Int32 → Option Int32) : ∀ (f c : Nat), a < c → c ≤ b → b - c < f → lpX8_mateOf_24 x1 (nI (cpl n T)) (nI a) D K f (nI c) = K (nI b) := by
  have hN := p2_128 h7
  have hS := cp_lt n (by omega) T hT
  have i1 : ow_inn (nI (cpl n T)) 128 := (inn_nI (by omega)).mpr (by omega)
  have c1 : (nI (cpl n T)).toNatClampNeg = cpl n T := nI_clamp (by omega)
  have hv9 := hB _ _ hv
  intro f
  induction f with
  | zero => intro c _ _ h; omega
  | succ f ih =>
    intro c hac hcb hf
    unfold lpX8_mateOf_24
    simp only [bit_e (show cpl n T < 2 ^ 31 by omega) (show c < 32 by omega), bI_1, cp_bit n (show n < 8 by omega) T hT c (show c < n by omega), nI_1]
    have skip : hLt W sm (bwf n lp) T a c = none → lpX8_mateOf_24 x1 (nI (cpl n T)) (nI a) D K f (nI (c + 1)) = K (nI b) := by
      intro hh
      have : c ≠ b := by
        intro e; subst e; rw [hh, hv] at h1; cases h1
      exact ih (c + 1) (by omega) (by omega) (by omega)
    cases tc : T.testBit c with
    | false =>
      rw [if_pos (by rfl)]
      exact skip (by unfold hLt; rw [if_neg (by rw [tc]; simp)])
    | true =>
      have i2 : ow_inn (nI a) 7 := (inn_nI (by omega)).mpr (by omega)
      have i3 : ow_inn (nI c) 7 := (inn_nI (by omega)).mpr (by omega)
      have c2 : (nI a).toNatClampNeg = a := nI_clamp (by omega)
      have c3 : (nI c).toNatClampNeg = c := nI_clamp (by omega)
      rw [if_neg (by decide), if_pos i2, if_pos i3, c2, c3]
      have hs := hsm a c (by omega) (by omega)
      unfold smD at hs
      by_cases q : D.1 41 a = D.1 41 c
      · rw [decide_eq_true q] at hs
        rw [if_pos q]
        exact skip (by unfold hLt; rw [if_neg (by rw [← hs]; simp)])
      · rw [decide_eq_false q] at hs
        have xl := x2_lt h7 hT (show a < n by omega) (show c < n by omega) (by omega) ta tc
        have hU := cp_lt n (by omega) (T ^^^ 2 ^ a ^^^ 2 ^ c) (by omega)
        have i4 : ow_inn (nI (cpl n (T ^^^ 2 ^ a ^^^ 2 ^ c))) 128 := (inn_nI (by omega)).mpr (by omega)
        have c4 : (nI (cpl n (T ^^^ 2 ^ a ^^^ 2 ^ c))).toNatClampNeg = cpl n (T ^^^ 2 ^ a ^^^ 2 ^ c) := nI_clamp (by omega)
        have hbb := bwf_b (lp := lp) h7 a c (by omega) (by omega)
        simp only [if_neg q, btw_m h7 hn hl hac (show c < n by omega), ow_obs, one_e (show a < 32 by omega), one_e (show c < 32 by omega), nx_or, cp_or h7 hT (show a < n by omega) (show c < n by omega) (show a ≠ c by omega) ta tc, if_pos i4, if_pos i1, c4, c1, hW _ (show T ^^^ 2 ^ a ^^^ 2 ^ c < 2 ^ n by omega), hW T hT, hv]
        have hh : hLt W sm (bwf n lp) T a c = (W (T ^^^ 2 ^ a ^^^ 2 ^ c)).map (fun v => v + bwf n lp a c) := by unfold hLt; rw [if_pos ⟨tc, hs.symm⟩]
        cases hw : W (T ^^^ 2 ^ a ^^^ 2 ^ c) with
        | none =>
          rw [hw] at hh
          have ne : ¬ nI (bwf n lp a c) + eK none = eK (some v) := by
            show ¬ nI (bwf n lp a c) + nI 1000 = nI v
            rw [nI_add, nI_eq (by omega) (by omega)]; omega
          rw [if_neg ne]
          exact skip hh
        | some u =>
          rw [hw] at hh
          have hh2 : hLt W sm (bwf n lp) T a c = some (u + bwf n lp a c) := hh
          have hu := hB _ _ hw
          have e2 : (nI (bwf n lp a c) + eK (some u) = eK (some v)) = (u + bwf n lp a c = v) := by
            show (nI (bwf n lp a c) + nI u = nI v) = _
            rw [nI_add, Nat.add_comm]
            exact propext (nI_eq (by omega) (by omega))
          simp only [e2]
          by_cases q2 : c = b
          · subst q2
            rw [h1, hv] at hh2
            rw [if_pos (Option.some.inj hh2).symm]
          · rw [if_neg (fun w => h2 c hac (by omega) (by rw [hh2, hv, w]))]
            exact ih (c + 1) (by omega) (by omega) (by omega)
theorem clr0 : ∀ a, a < 7 → ∀ b, b < 7 → ∀ T, T < 128 → (a == b || !T.testBit a || !T.testBit b || (T &&& ((2 ^ a ||| 2 ^ b) ^^^ (2 ^ 32 - 1))) == (T ^^^ 2 ^ a ^^^ 2 ^ b)) = true := by decide +kernel
theorem clr1 (a : Nat) (ha : a < 7) (b : Nat) (hb : b < 7) (hab : a ≠ b) (T : Nat) (hT : T < 128) (ta : T.testBit a = true) (tb : T.testBit b = true) : T &&& ((2 ^ a ||| 2 ^ b) ^^^ (2 ^ 32 - 1)) = T ^^^ 2 ^ a ^^^ 2 ^ b := by
  have := clr0 a ha b hb T hT
  rw [ta, tb, beq_eq_false_iff_ne.mpr hab] at this
  exact beq_iff_eq.mp this
theorem mo_join {n : Nat} {lp : Bool} {C D : ow_M} (h7 : n ≤ 7) (hn : C.1 2 0 = nI n) (hl : C.1 2 2 = bI lp) (hn8 : D.1 34 5 = nI n) (hl8 : D.1 34 6 = bI lp) (hsm : ∀ i j, i < n → j < n → smD D i j = smC C i j)
    (hW : ∀ U, U < 2 ^ n → C.1 20 U = e9 (LTb (smC C) (bwf n lp) n U)) (hW8 : ∀ U, U < 2 ^ n → D.1 52 (cpl n U) = eK (LTb (smC C) (bwf n lp) n U)) {x : Nat} (hx : x < n) (k1 : Int32 → Int32 → Option Int32) (k2 : Int32 → Option Int32) :
    ∀ (f T m v : Nat), T < 2 ^ n → T.testBit x = true → LTb (smC C) (bwf n lp) n T = some v → (∀ b, b < m → T.testBit b = false) → n - m < f → ∃ r, lpX1_mateOf_12 (nI x) C k1 f (nI T) (nI m) = some r ∧ lpX8_mateOf_2 (nI x) D k2 f (nI (cpl n T)) = some r := by
  have hN := p2_128 h7
  intro f
  induction f with
  | zero => intro T m v _ _ _ _ h; omega
  | succ f ih =>
    intro T m v hT tx hv hm hf
    have hmx : m ≤ x := by
      rcases Nat.lt_or_ge x m with q | q
      · rw [hm x q] at tx; cases tx
      · exact q
    have hT0 : T ≠ 0 := by intro e; subst e; rw [Nat.zero_testBit] at tx; cases tx
    obtain ⟨s1, s2⟩ := lb_s n (by omega) T hT hT0
    have s3 := lb_m T (by omega)
    let W : Nat → Option Nat := fun U => if U < 2 ^ n then LTb (smC C) (bwf n lp) n U else none
    have hWB : ∀ U u, W U = some u → u ≤ 900 := by
      intro U u hu
      by_cases hU : U < 2 ^ n
      · simp only [W, if_pos hU] at hu; exact LTb_b h7 (bwf_b h7) hU hu
      · simp only [W, if_neg hU] at hu; cases hu
    have hWe : ∀ U, U < 2 ^ n → W U = LTb (smC C) (bwf n lp) n U := fun U hU => by simp only [W, if_pos hU]
    have hWT : W T = some v := by rw [hWe T hT, hv]
    have hfm : fmn (hLt W (smC C) (bwf n lp) T (lbq T)) (n - (lbq T + 1)) (lbq T + 1) none = some v := by
      rw [← hv, LTb_eq h7 hT hT0]
      apply fmn_congr
      intro c q1 q2
      unfold hLt
      by_cases w : T.testBit c = true ∧ smC C (lbq T) c = false
      · have xl := x2_lt h7 hT s2 (show c < n by omega) (by omega) s1 w.1
        rw [if_pos w, if_pos w, hWe _ (by omega)]
      · rw [if_neg w, if_neg w]
    obtain ⟨b, ⟨b1, b2, b3⟩, b4⟩ := pk_least (fun c => lbq T < c ∧ c < n ∧ hLt W (smC C) (bwf n lp) T (lbq T) c = some v) (by
      rcases fmn_some _ _ _ hfm with k | ⟨c, c1, c2, c3⟩
      · cases k
      · exact ⟨c, by omega, by omega, c3⟩)
    have b5 : ∀ c, lbq T < c → c < b → hLt W (smC C) (bwf n lp) T (lbq T) c ≠ W T := by
      intro c q1 q2 q3
      exact b4 c q2 ⟨q1, by omega, by rw [q3, hWT]⟩
    have b6 : hLt W (smC C) (bwf n lp) T (lbq T) b = W T := by rw [b3, hWT]
    have hC := mo_c (W := W) h7 hn hl hT s1 b2 (fun U hU => by rw [hW U hU, hWe U hU]) hWB b6 b5 (nI x) (nI m) (fun u10 => jX1_mateOf_73 (nI x) (nI T) (nI m) (nI (lbq T)) u10 (lpX1_mateOf_12 (nI x) C k1 f) k1 C) ow_N (lbq T + 1) (by omega) (by omega) (by unfold ow_N; omega)
    have hD := mo_m (W := W) h7 hn8 hl8 hsm hT s1 b2 (fun U hU => by rw [hW8 U hU, hWe U hU]) hWB hWT b6 b5 (nI x) (fun u12 => (if nI (lbq T) = nI x then jX8_mateOf_99 (nI x) (nI (lbq T)) u12 D else (if u12 = nI x then jX8_mateOf_99 (nI x) (nI (lbq T)) u12 D else lpX8_mateOf_2 (nI x) D k2 f (nI (cpl n T) ||| ((1 <<< (nI (lbq T) &&& 31)) ||| (1 <<< (u12 &&& 31))))))) ow_N (lbq T + 1) (by omega) (by omega) (by unfold ow_N; omega)
    have hS := cp_lt n (by omega) T hT
    have h4 := mo_m4 (S := cpl n T) (a := lbq T) (by omega) (by omega) (fun c hc => by rw [cp_bit n (by omega) T hT c (by omega), s3 c hc]; rfl) (by rw [cp_bit n (by omega) T hT _ s2, s1]; rfl) (D := D) (nI x) (fun u2 => lpX8_mateOf_24 (nI x) (nI (cpl n T)) u2 D (fun u12 => (if u2 = nI x then jX8_mateOf_99 (nI x) u2 u12 D else (if u12 = nI x then jX8_mateOf_99 (nI x) u2 u12 D else lpX8_mateOf_2 (nI x) D k2 f (nI (cpl n T) ||| ((1 <<< (u2 &&& 31)) ||| (1 <<< (u12 &&& 31))))))) ow_N (u2 + 1)) ow_N 0 (by omega) (by unfold ow_N; omega)
    rw [nI_0] at h4
    have tb : T.testBit b = true := by
      have b7 := b3
      unfold hLt at b7
      by_cases w : T.testBit b = true ∧ smC C (lbq T) b = false
      · exact w.1
      · rw [if_neg w] at b7; cases b7
    have xl := x2_lt h7 hT s2 b2 (by omega) s1 tb
    unfold lpX1_mateOf_12 lpX8_mateOf_2
    have z1 : ¬ C.1 2 0 ≤ nI m := by rw [hn, nI_leI (by omega) (by omega)]; omega
    have z2 : ¬ nI T = 0 := by rw [l_0, nI_eq (by omega) (by omega)]; exact hT0
    have e4 : nI (lbq T) + 1 = nI (lbq T + 1) := nI_1 _
    rw [h4, if_neg z1, if_neg z2, lb_c T (by omega), ow_obs, e4, hC, hD]
    unfold jX1_mateOf_73 jX1_mateOf_85 jX8_mateOf_99
    by_cases q1 : x = lbq T
    · rw [← q1]
      simp only [reduceIte]
      exact ⟨_, rfl, rfl⟩
    · have y1 : ¬ nI x = nI (lbq T) := by rw [nI_eq (by omega) (by omega)]; exact q1
      have y1' : ¬ nI (lbq T) = nI x := fun w => y1 w.symm
      rw [if_neg y1, if_neg y1']
      by_cases q2 : x = b
      · rw [← q2]
        simp only [reduceIte, if_neg y1, if_neg y1']
        exact ⟨_, rfl, rfl⟩
      · have y2 : ¬ nI x = nI b := by rw [nI_eq (by omega) (by omega)]; exact q2
        have y2' : ¬ nI b = nI x := fun w => y2 w.symm
        rw [if_neg y2, if_neg y2', one_e (by omega), one_e (by omega), nx_or, nx_or, show (-1 : Int32) = nI (2 ^ 32 - 1) by decide, nx_xor, nx_and, clr1 _ (by omega) b (by omega) (by omega) T (by omega) s1 tb, ← Nat.or_assoc, cp_or h7 hT s2 b2 (by omega) s1 tb, nI_1]
        have tx2 : (T ^^^ 2 ^ lbq T ^^^ 2 ^ b).testBit x = true := by
          rw [Nat.testBit_xor, Nat.testBit_xor, Nat.testBit_two_pow_of_ne (fun w => q1 w.symm), Nat.testBit_two_pow_of_ne (fun w => q2 w.symm), Bool.xor_false, Bool.xor_false]; exact tx
        obtain ⟨v2, hv2⟩ : ∃ v2, LTb (smC C) (bwf n lp) n (T ^^^ 2 ^ lbq T ^^^ 2 ^ b) = some v2 := by
          have b7 := b3
          unfold hLt at b7
          by_cases w : T.testBit b = true ∧ smC C (lbq T) b = false
          · rw [if_pos w, hWe _ (by omega)] at b7
            cases hq : LTb (smC C) (bwf n lp) n (T ^^^ 2 ^ lbq T ^^^ 2 ^ b) with
            | none => rw [hq] at b7; cases b7
            | some u => exact ⟨u, rfl⟩
          · rw [if_neg w] at b7; cases b7
        have hm2 : ∀ c, c < m + 1 → (T ^^^ 2 ^ lbq T ^^^ 2 ^ b).testBit c = false := by
          intro c hc
          have hml : m ≤ lbq T := by
            rcases Nat.lt_or_ge (lbq T) m with q | q
            · rw [hm _ q] at s1; cases s1
            · exact q
          by_cases q : c = lbq T
          · subst q
            rw [Nat.testBit_xor, Nat.testBit_xor, Nat.testBit_two_pow_self, Nat.testBit_two_pow_of_ne (by omega), s1]; rfl
          · rw [Nat.testBit_xor, Nat.testBit_xor, Nat.testBit_two_pow_of_ne (fun w => q w.symm), Nat.testBit_two_pow_of_ne (by omega), Bool.xor_false, Bool.xor_false]
            exact s3 c (by omega)
        exact ih (T ^^^ 2 ^ lbq T ^^^ 2 ^ b) (m + 1) v2 (by omega) tx2 hv2 hm2 (by omega)
theorem sp_letters {M : ow_M} (hI : ow_I M) (a1 : Int32) : ∃ r M1 M2, fX7_letters a1 M = some (r, M1) ∧ fX8_letters a1 M1 = some (r, M2) ∧ ow_I M2 := by
  obtain ⟨n, lp, g, rc, hA, hB, hR, hS, hT, hF⟩ := id hI
  obtain ⟨h0, h7, hn, he, hl, hg, hw, hv⟩ := id hA
  obtain ⟨b1, b2, b3, b4⟩ := id hB
  have hN := p2_128 h7
  have hN1 : 0 < 2 ^ n := Nat.pow_pos (by decide)
  have key : (a1 = -1 ∨ ∃ k, k < n ∧ a1 = nI k) → ∃ r M1 M2, jX7_letters_18 a1 M = some (r, M1) ∧ M1.1 34 = M.1 34 ∧ jX8_letters_15 a1 M1 = some (r, M2) ∧ ow_I M2 := by
    intro ha
    unfold jX7_letters_18
    rw [there_0 hn h7, ow_obs]
    by_cases n0 : n = 0
    · subst n0
      simp only [reduceIte]
      refine ⟨_, _, M, rfl, rfl, ?_, hI⟩
      unfold jX8_letters_15
      rw [b1, if_pos (by rfl)]
    · simp only [if_neg n0, ow_10, reduceIte]
      have e1 : (1 : Int32) <<< (M.1 2 0 &&& 31) = nI (2 ^ n) := by rw [hn]; exact one_e (by omega)
      have el : nI (2 ^ n) - 1 = nI (2 ^ n - 1) := by rw [l_1, pk_sub (by omega)]
      have il : ow_inn (nI (2 ^ n - 1)) 128 := (inn_nI (by omega)).mpr (by omega)
      have cl : (nI (2 ^ n - 1)).toNatClampNeg = 2 ^ n - 1 := nI_clamp (by omega)
      have hs0 : smC (ow_up M 20 0 0) = smC M := by funext x y; unfold smC; rw [ow_up_c (a := 6) (by decide)]
      obtain ⟨C2, k1, k2, k3⟩ := lr_out (lp := lp) (sm := smC M) h7 ow_N 1 (ow_up M 20 0 0) (by rw [ow_up_c (by decide)]; exact hn) (by rw [ow_up_c (by decide)]; exact hl) hs0 (by decide) (by omega) (by unfold ow_N; omega) (fun U hU => by
        have : U = 0 := by omega
        subst this
        rw [ow_up_s, LTb_0]; rfl)
      have k1' := k1 (fun u19 M20 => if ow_inn ((1 <<< ((M.1 2 0) &&& 31)) - 1) 128 then some ((M20.1 20 ((1 <<< ((M.1 2 0) &&& 31)) - 1).toNatClampNeg), M20) else none)
      have cls : fX1_leastReaders M = some (e9 (LTb (smC M) (bwf n lp) n (2 ^ n - 1)), C2) := by
        unfold fX1_leastReaders
        rw [if_pos (show ow_inn 0 128 by decide)]
        have c0 : (0 : Int32).toNatClampNeg = 0 := by decide
        rw [c0]
        rw [e1] at k1' ⊢
        refine k1'.trans ?_
        rw [el]
        simp only [if_pos il, cl, k3 (2 ^ n - 1) (by omega)]
      rw [cls, ow_bd_eq]
      have xC : ow_x 20 M C2 := ow_x_tr (ow_x_up ow_x_rf) k2
      have c34 : C2.1 34 = M.1 34 := xC 34 (by decide)
      have hsC : smC C2 = smC M := by funext x y; unfold smC; rw [xC 6 (by decide)]
      have hsm : ∀ (D : ow_M), D.1 41 = M.1 41 → ∀ i j, i < n → j < n → smD D i j = smC M i j := by
        intro D hD i j hi hj
        unfold smD smC
        rw [hD, (b4 i hi).2.2.2, (b4 j hj).2.2.2]
      obtain ⟨D2, m1, m2, m3⟩ := ll_out (lp := lp) (sm := smC M) h7 (2 ^ n) ow_N C2 (by rw [c34]; exact b1) (by rw [c34]; exact b2) (hsm C2 (xC 41 (by decide))) (Nat.le_refl _) (by unfold ow_N; omega) (fun S h1 h2 => by omega)
      have d34 : D2.1 34 = M.1 34 := by rw [m2 34 (by decide), c34]
      have ID : ow_I D2 := by
        refine ow_I_eq (M := M) (fun a ha => ?_) (fun j _ => by rw [d34]) hI
        rw [m2 a (all_ne ha (by decide)), xC a (all_ne ha (by decide))]
      have m1' := m1 (fun u22 M23 => some M23)
      have mdl : fX8_layLetters C2 = some D2 := by
        unfold fX8_layLetters
        have e2 : (1 : Int32) <<< (C2.1 34 5 &&& 31) = nI (2 ^ n) := by rw [c34, b1]; exact one_e (by omega)
        have e3 : nI (2 ^ n) + (-1) = nI (2 ^ n - 1) := by
          obtain ⟨q, hq⟩ : ∃ q, 2 ^ n = q + 1 := ⟨2 ^ n - 1, by omega⟩
          rw [hq, pk_m1]; rfl
        rw [e2, el]
        rw [e3] at m1'
        exact m1'
      have hc0 : cpl n 0 = 2 ^ n - 1 := by unfold cpl; exact Nat.xor_zero _
      have hcf : cpl n (2 ^ n - 1) = 0 := by rw [← hc0]; exact cp_cp n (by omega) 0 hN1
      have v0 : D2.1 52 0 = eK (LTb (smC M) (bwf n lp) n (2 ^ n - 1)) := by rw [m3 0 hN1, hc0]
      have head : jX8_letters_15 a1 C2 = (if eK (LTb (smC M) (bwf n lp) n (2 ^ n - 1)) < 1000 then (if a1 = (-1) then some (eK (LTb (smC M) (bwf n lp) n (2 ^ n - 1)), D2) else Option.bind (fX8_mateOf a1 D2) (fun v10 => some (v10, D2))) else some ((-9), D2)) := by
        unfold jX8_letters_15
        have z : ¬ C2.1 34 5 = 0 := by rw [c34, b1, l_0, nI_eq (by omega) (by omega)]; exact n0
        have i0 : ow_inn 0 128 := by decide
        have c0 : (0 : Int32).toNatClampNeg = 0 := by decide
        rw [if_neg z, mdl, ow_obs]
        simp only [if_pos i0, c0, v0]
      cases hv : LTb (smC M) (bwf n lp) n (2 ^ n - 1) with
      | none =>
        rw [hv] at head
        refine ⟨-9, C2, D2, ?_, c34, ?_, ID⟩
        · show (if a1 = -1 then some ((-9 : Int32), C2) else if (-9 : Int32) = -9 then some ((-9 : Int32), C2) else _) = _
          split
          · rfl
          · rw [if_pos rfl]
        · rw [head, if_neg (by decide)]
      | some v =>
        rw [hv] at head
        have hv9 := LTb_b h7 (bwf_b h7) (show 2 ^ n - 1 < 2 ^ n by omega) hv
        have lt : eK (some v) < 1000 := by rw [l_1000]; exact (nI_ltI (by omega) (by omega)).mpr (by omega)
        rw [if_pos lt] at head
        by_cases q : a1 = -1
        · rw [if_pos q] at head ⊢
          exact ⟨_, C2, D2, rfl, c34, head, ID⟩
        · rw [if_neg q] at head ⊢
          have z9 : ¬ e9 (some v) = -9 := fun w => (nI_m9 (by omega)).mp w
          rw [if_neg z9]
          obtain ⟨x, hx, ea⟩ := ha.resolve_left q
          subst ea
          obtain ⟨r, j1, j2⟩ := mo_join (C := C2) (D := D2) (lp := lp) h7 (by rw [xC 2 (by decide)]; exact hn) (by rw [xC 2 (by decide)]; exact hl) (by rw [d34]; exact b1) (by rw [d34]; exact b2) (by rw [hsC]; exact hsm D2 (by rw [m2 41 (by decide), xC 41 (by decide)])) (by rw [hsC]; exact k3) (by rw [hsC]; intro U hU; rw [m3 _ (cp_lt n (by omega) U hU), cp_cp n (by omega) U hU]) hx (fun u14 u15 => some (-9)) (fun u16 => none) ow_N (2 ^ n - 1) 0 v (by omega) (by rw [Nat.testBit_two_pow_sub_one]; exact decide_eq_true hx) (by rw [hsC]; exact hv) (fun b hb => by omega) (by unfold ow_N; omega)
          rw [hcf, nI_0] at j2
          rw [nI_0] at j1
          have j1' : fX1_mateOf (nI x) C2 = some r := by
            unfold fX1_mateOf
            rw [xC 2 (by decide), e1, el]; exact j1
          have j2' : fX8_mateOf (nI x) D2 = some r := j2
          rw [j2', ow_obs] at head
          rw [j1', ow_obs]
          exact ⟨_, C2, D2, rfl, c34, head, ID⟩
  unfold fX7_letters
  by_cases q : a1 = -1
  · rw [if_pos q]
    obtain ⟨r, M1, M2, k1, k2, k3, k4⟩ := key (Or.inl q)
    refine ⟨r, M1, M2, k1, ?_, k4⟩
    unfold fX8_letters
    rw [if_pos q]; exact k3
  · rw [if_neg q]
    rcases g_P (M := M) (N := M) hn b1 h7 a1 with ⟨k, hk, e, p1, p2⟩ | ⟨p1, p2⟩
    · obtain ⟨r, M1, M2, k1, k2, k3, k4⟩ := key (Or.inr ⟨k, hk, e⟩)
      rw [p1, ow_obs, if_neg (by decide)]
      refine ⟨r, M1, M2, k1, ?_, k4⟩
      rcases g_P8 (M := M1) (by rw [k2]; exact b1) h7 a1 with ⟨_, _, _, p3⟩ | ⟨hx, _⟩
      · unfold fX8_letters
        rw [if_neg q, p3, ow_obs, if_neg (by decide)]; exact k3
      · exact absurd ⟨k, hk, e⟩ hx
    · rw [p1, ow_obs, if_pos rfl]
      refine ⟨_, _, M, rfl, ?_, hI⟩
      unfold fX8_letters
      rw [if_neg q, p2, ow_obs, if_pos rfl]
