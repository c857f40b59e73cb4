theorem hd37 {D : ow_M} {n g : Nat} {lp : Bool} (hD : FD D n lp g) (h2 : 2 ≤ n) (h7 : n ≤ 7) (hg : g < 128) (x1 x2 x3 : Int32) (K : Int64 → Int32 → Option Int64) : ∀ (f e : Nat), e ≤ oed n lp → oed n lp - e < f → lpX8_heard_37 x1 x2 x3 D K f (lN (10 ^ cnB (fun e => !g.testBit e) e)) (nI e) = K (lN (10 ^ cnB (fun e => !g.testBit e) (oed n lp))) (nI (oed n lp)) := by
  obtain ⟨b1, b2, b3⟩ := id hD
  have he8 : fX8_edges D = some (nI (oed n lp)) := e_edges b1 b2 h7 (Or.inr h2)
  have hE7 := oed_le (lp := lp) h7
  intro f
  induction f with
  | zero => intro e _ h; omega
  | succ f ih =>
    intro e he hf
    unfold lpX8_heard_37
    by_cases q : oed n lp ≤ e
    · have : e = oed n lp := by omega
      rw [this, he8, ow_obs, if_pos ((nI_leI (by omega) (by omega)).mpr (Nat.le_refl _))]
    · have ih2 := ih (e + 1) (by omega) (by omega)
      have e1 : cnB (fun e => !g.testBit e) (e + 1) = cnB (fun e => !g.testBit e) e + if (!g.testBit e) = true then 1 else 0 := rfl
      rw [e1] at ih2
      have lone : (1 : Int64) = lN 1 := rfl
      have lten : (10 : Int64) = lN 10 := rfl
      rw [he8, ow_obs, if_neg (by rw [nI_leI (by omega) (by omega)]; exact q), e_open b3 (by omega) (by omega), ow_obs, lone, lten, lN_mul, lN_mul, nI_1]
      cases hgb : g.testBit e with
      | true =>
        rw [hgb] at ih2
        rw [if_pos (by rfl), Nat.mul_one]
        exact ih2
      | false =>
        rw [hgb] at ih2
        rw [if_neg (by decide), ← Nat.pow_succ]
        exact ih2
theorem tenths_w (x : Int32) : fX7_isTenths x = fX8_within x 0 10 := rfl
theorem tenths_c (x : Int32) : (fX8_within x 0 10 = some 0) ∨ (fX8_within x 0 10 = some 1 ∧ ∃ k, k ≤ 10 ∧ x = nI k) := by
  unfold fX8_within
  by_cases h0 : x < 0
  · rw [if_pos h0]; exact Or.inl rfl
  · rw [if_neg h0]
    by_cases h1 : (10 : Int32) < x
    · rw [if_pos h1]; exact Or.inl rfl
    · rw [if_neg h1]
      refine Or.inr ⟨rfl, ?_⟩
      obtain ⟨j, hj, e⟩ := nI_of h0
      refine ⟨j, ?_, e⟩
      rw [e, l_10, nI_ltI (by omega) hj] at h1
      omega
theorem heard_core {M : ow_M} {n g p x : Nat} {lp : Bool} (hC : FC M n lp g) (hD : FD M n lp g) (hg : g < 2 ^ oed n lp) (hp : p < n) (hx : x ≤ 10) (a3 : Int32) : ∃ r, (Option.bind (fX7_hearers (nI p) (nI x) M) (fun v10 => Option.bind (fX7_whole M) (fun v12 => Option.bind (fX7_commonDivisor v10 v12) (fun v14 => (if 0 ≤ (lg_cmp v14 1) then (if a3 = 0 then if v14 = 0 then none else some (v10 / v14) else if v14 = 0 then none else some (v12 / v14)) else some (-9223372036854775808)))))) = some r ∧ lpX8_heard_37 (nI p) (nI x) a3 M (fun u16 u17 => Option.bind (fX8_hearing (nI p) (nI x) M) (fun v19 => Option.bind (fX8_inLeastTerms v19 u16 a3) (fun v21 => some v21))) ow_N 1 0 = some r := by
  have h2 := hC.1
  have h7 := hC.2.1
  have he := hC.2.2.2.2.1
  have hE7 := oed_le (lp := lp) h7
  have hoE := opn_le (lp := lp) (g := g) h2
  obtain ⟨u1, u2⟩ := hearers_e hC hg hp hx
  have w1 : fX7_whole M = some (lN (10 ^ oed n lp)) := by
    unfold fX7_whole
    have := aw (k := 0) (x := 0) he hE7 (by omega) (by omega)
    rw [nI_0] at this
    rw [this, ow_obs, Nat.pow_zero, Nat.one_mul, Nat.sub_zero]
  have k := hd37 hD h2 h7 (g128 h7 hg) (nI p) (nI x) a3 (fun u16 u17 => Option.bind (fX8_hearing (nI p) (nI x) M) (fun v19 => Option.bind (fX8_inLeastTerms v19 u16 a3) (fun v21 => some v21))) ow_N 0 (by omega) (by unfold ow_N; omega)
  rw [← opn_E h2, nI_0] at k
  have e10 : lN (10 ^ cnB (fun e => !g.testBit e) 0) = 1 := rfl
  rw [e10] at k
  have t10 : 10 ^ oed n lp ≤ 10 ^ 7 := Nat.pow_le_pow_right (by decide) hE7
  have t11 : 10 ^ opn n lp g ≤ 10 ^ 7 := Nat.pow_le_pow_right (by decide) (by omega)
  have t12 : 0 < 10 ^ opn n lp g := Nat.pow_pos (by decide)
  have t13 : 0 < 10 ^ oed n lp := Nat.pow_pos (by decide)
  have t14 : 0 < 10 ^ (oed n lp - opn n lp g) := Nat.pow_pos (by decide)
  have hv1 : HV n lp g x p ≤ 10 ^ (oed n lp - opn n lp g) * HV n lp g x p := Nat.le_mul_of_pos_left _ t14
  rw [k, u1, ow_obs, w1, ow_obs, cd0 (by omega) t13 (by omega), ow_obs, hearing_e hD h2 h7 hg hp hx, ow_obs, cm0 a3 (by omega) t12 (by omega), ow_obs]
  have eE : 10 ^ oed n lp = 10 ^ (oed n lp - opn n lp g) * 10 ^ opn n lp g := by rw [← Nat.pow_add]; congr 1; omega
  have eg : Nat.gcd (10 ^ (oed n lp - opn n lp g) * HV n lp g x p) (10 ^ oed n lp) = 10 ^ (oed n lp - opn n lp g) * Nat.gcd (HV n lp g x p) (10 ^ opn n lp g) := by rw [eE, Nat.gcd_mul_left]
  have gp : 0 < Nat.gcd (10 ^ (oed n lp - opn n lp g) * HV n lp g x p) (10 ^ oed n lp) := Nat.gcd_pos_of_pos_right _ t13
  have gl : Nat.gcd (10 ^ (oed n lp - opn n lp g) * HV n lp g x p) (10 ^ oed n lp) ≤ 10 ^ oed n lp := Nat.gcd_le_right _ t13
  have c1 : 0 ≤ lg_cmp (lN (Nat.gcd (10 ^ (oed n lp - opn n lp g) * HV n lp g x p) (10 ^ oed n lp))) 1 := by
    have lone : (1 : Int64) = lN 1 := rfl
    unfold lg_cmp
    rw [lone]
    by_cases z : 1 < Nat.gcd (10 ^ (oed n lp - opn n lp g) * HV n lp g x p) (10 ^ oed n lp)
    · rw [if_pos (show lN _ > lN 1 from (pk_lLT (by omega) (by omega)).mpr z)]; decide
    · have z1 : Nat.gcd (10 ^ (oed n lp - opn n lp g) * HV n lp g x p) (10 ^ oed n lp) = 1 := by omega
      rw [z1, if_neg (show ¬ lN 1 > lN 1 from Int64.lt_irrefl), if_pos rfl]; decide
  have e0 : (0 : Int64) = lN 0 := rfl
  have z : ¬ lN (Nat.gcd (10 ^ (oed n lp - opn n lp g) * HV n lp g x p) (10 ^ oed n lp)) = 0 := by rw [e0, pk_lEQ (by omega) (by omega)]; omega
  rw [if_pos c1, if_neg z, if_neg z, pk_lDiv (by omega) gp (by omega), pk_lDiv (by omega) gp (by omega)]
  refine ⟨_, ?_, rfl⟩
  by_cases q : a3 = 0
  · rw [if_pos q, if_pos q, eg, Nat.mul_div_mul_left _ _ t14]
  · rw [if_neg q, if_neg q, eg, eE, Nat.mul_div_mul_left _ _ t14]
theorem sp_heard {M : ow_M} (hI : ow_I M) (a1 a2 a3 : Int32) : ∃ r, fX7_heard a1 a2 a3 M = some r ∧ fX8_heard a1 a2 a3 M = some r := by
  obtain ⟨n, lp, g, rc, hA, hB, hR, hS, hT, hF⟩ := id hI
  obtain ⟨h0, h7, hn, he, hl, hg, hw, hv⟩ := id hA
  obtain ⟨b1, b2, b3, b4⟩ := id hB
  unfold fX7_heard fX8_heard
  rcases g_P (M := M) (N := M) hn b1 h7 a1 with ⟨p, hp, e, p1, p2⟩ | ⟨p1, p2⟩
  · have n10 : ¬ (1 : Int32) = 0 := by decide
    rw [p1, ow_obs, if_neg n10, p2, ow_obs, if_neg n10, tenths_w]
    rcases tenths_c a2 with t | ⟨t, x, hx, ex⟩
    · rw [t, ow_obs, ow_obs, if_pos rfl, if_pos rfl]
      exact ⟨_, rfl, rfl⟩
    · rw [t, ow_obs, if_neg n10, ow_obs, if_neg n10]
      subst e
      subst ex
      have h2 := n2_of h0 hp
      have hC := FC_of hA h2
      have hD := FD_of (N := M) hB rfl
      have hE7 := oed_le (lp := lp) h7
      have hoE := opn_le (lp := lp) (g := g) h2
      unfold fX8_within
      by_cases q0 : a3 < 0
      · rw [if_pos q0, if_pos q0, ow_obs, if_pos rfl]
        exact ⟨_, rfl, rfl⟩
      · rw [if_neg q0, if_neg q0]
        by_cases q1 : (1 : Int32) < a3
        · rw [if_neg (Int32.not_le.mpr q1), if_pos q1, ow_obs, if_pos rfl]
          exact ⟨_, rfl, rfl⟩
        · rw [if_pos (Int32.not_lt.mp q1), if_neg q1, ow_obs, if_neg (by decide)]
          exact heard_core hC hD hg hp hx a3
  · rw [p1, p2, ow_obs, ow_obs, if_pos rfl, if_pos rfl]
    exact ⟨_, rfl, rfl⟩
theorem st_join {M : ow_M} {n g x : Nat} {lp : Bool} (hC : FC M n lp g) (hD : FD M n lp g) (hg : g < 2 ^ oed n lp) (hx : x ≤ 10) : ∀ (f d b p : Nat), b < n → p ≤ n → n - p < f → ∃ r, lpX7_stand_27 (nI x) M (fun u13 _ => some u13) (f + d) (nI b) (nI p) = some r ∧ lpX8_stand_31 (nI x) M (fun u10 _ _ => some u10) f (nI b) (lN (HV n lp g x b)) (nI p) = some r := by
  have h2 := hC.1
  have h7 := hC.2.1
  have hn := hC.2.2.2.1
  have b1 := hD.1
  have t14 : 0 < 10 ^ (oed n lp - opn n lp g) := Nat.pow_pos (by decide)
  have bd : ∀ q, q < n → HV n lp g x q < 2 ^ 63 ∧ 10 ^ (oed n lp - opn n lp g) * HV n lp g x q < 2 ^ 63 := by
    intro q hq
    have := (hearers_e hC hg hq hx).2
    have hv1 : HV n lp g x q ≤ 10 ^ (oed n lp - opn n lp g) * HV n lp g x q := Nat.le_mul_of_pos_left _ t14
    omega
  intro f
  induction f with
  | zero => intro d b p _ _ h; omega
  | succ f ih =>
    intro d b p hb hp hf
    rw [show f + 1 + d = (f + d) + 1 by omega]
    unfold lpX7_stand_27 lpX8_stand_31
    rw [hn, b1]
    by_cases q : n ≤ p
    · have z : nI n ≤ nI p := (nI_leI (by omega) (by omega)).mpr q
      rw [if_pos z, if_pos z]
      exact ⟨_, rfl, rfl⟩
    · have z : ¬ nI n ≤ nI p := by rw [nI_leI (by omega) (by omega)]; exact q
      rw [if_neg z, if_neg z, (hearers_e hC hg (show p < n by omega) hx).1, ow_obs, (hearers_e hC hg hb hx).1, ow_obs, hearing_e hD h2 h7 hg (show p < n by omega) hx, ow_obs, if_neg (fun w => (nI_m9 (by omega)).mp w), nI_1]
      have i1 : (lg_cmp (lN (10 ^ (oed n lp - opn n lp g) * HV n lp g x p)) (lN (10 ^ (oed n lp - opn n lp g) * HV n lp g x b)) ≤ 0) ↔ HV n lp g x p ≤ HV n lp g x b := by
        rw [lg_le (bd p (by omega)).2 (bd b hb).2]
        exact Nat.mul_le_mul_left_iff t14
      have i2 : (lg_cmp (lN (HV n lp g x p)) (lN (HV n lp g x b)) ≤ 0) ↔ HV n lp g x p ≤ HV n lp g x b := lg_le (bd p (by omega)).1 (bd b hb).1
      by_cases y : HV n lp g x p ≤ HV n lp g x b
      · rw [if_pos (i1.mpr y), if_pos (i2.mpr y)]
        exact ih d b (p + 1) hb (by omega) (by omega)
      · rw [if_neg (fun w => y (i1.mp w)), if_neg (fun w => y (i2.mp w))]
        exact ih d p (p + 1) (by omega) (by omega) (by omega)
theorem sp_stand {M : ow_M} (hI : ow_I M) (a1 : Int32) : ∃ r, fX7_stand a1 M = some r ∧ fX8_stand a1 M = some r := by
  obtain ⟨n, lp, g, rc, hA, hB, hR, hS, hT, hF⟩ := id hI
  obtain ⟨h0, h7, hn, he, hl, hg, hw, hv⟩ := id hA
  obtain ⟨b1, b2, b3, b4⟩ := id hB
  unfold fX7_stand fX8_stand
  rw [tenths_w]
  rcases tenths_c a1 with t | ⟨t, x, hx, ex⟩
  · rw [t, ow_obs, ow_obs, if_pos rfl, if_pos rfl]
    exact ⟨_, rfl, rfl⟩
  · simp only [t, ow_obs, ow_10, reduceIte, there_0 hn h7]
    subst ex
    by_cases n0 : n = 0
    · subst n0
      rw [if_pos rfl, if_pos rfl, b1, if_pos (by rfl)]
      exact ⟨_, rfl, rfl⟩
    · rw [if_neg n0, if_neg (by decide), if_neg (by rw [b1, l_0, nI_eq (by omega) (by omega)]; exact n0)]
      have h2 : 2 ≤ n := by rcases h0 with ⟨z, _⟩ | z; exact absurd z n0; exact z
      have hC := FC_of hA h2
      have hD := FD_of (N := M) hB rfl
      obtain ⟨r, k1, k2⟩ := st_join hC hD hg hx 19999 1 0 1 (by omega) (by omega) (by omega)
      have eN : ow_N = 19999 + 1 := rfl
      refine ⟨r, ?_, ?_⟩
      · rw [nI_0] at k1
        exact k1
      · rw [eN]
        unfold lpX8_stand_31
        have hh := hearing_e hD h2 h7 hg (show 0 < n by omega) hx
        rw [nI_0] at hh k2
        rw [b1, if_neg (by rw [l_0, nI_leI (by omega) (by omega)]; omega), hh, ow_obs, if_pos rfl]
        exact k2
