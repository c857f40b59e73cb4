/-! TRADE: the class -/
theorem odf_sub {n g s t : Nat} (hst : ∀ e, t.testBit e = true → s.testBit e = true) : ∀ (m b c e : Nat), (∀ i, c.testBit i = true → b.testBit i = true) → odf n g s m b e = true → odf n g t m c e = true := by
  intro m
  induction m with
  | zero => intro b c e _ _; rfl
  | succ m ih =>
    intro b c e hbc ho
    have e1 : ∀ s busy, odf n g s (m + 1) busy e = if s.testBit e then (if g.testBit e then false else if busy.testBit e || busy.testBit (ore n e) then false else odf n g s m (busy ||| (2 ^ e ||| 2 ^ ore n e)) (e + 1)) else odf n g s m busy (e + 1) := fun _ _ => rfl
    rw [e1] at ho ⊢
    cases ht : t.testBit e with
    | false =>
      simp only [Bool.false_eq_true, reduceIte]
      cases hs : s.testBit e with
      | false =>
        rw [hs] at ho
        simp only [Bool.false_eq_true, reduceIte] at ho
        exact ih b c (e + 1) hbc ho
      | true =>
        rw [hs] at ho
        simp only [reduceIte] at ho
        cases hg : g.testBit e with
        | true => rw [hg] at ho; simp at ho
        | false =>
          rw [hg] at ho
          cases hq : (b.testBit e || b.testBit (ore n e)) with
          | true => rw [hq] at ho; simp at ho
          | false =>
            rw [hq] at ho
            simp only [Bool.false_eq_true, reduceIte] at ho
            exact ih _ c (e + 1) (fun i hi => by rw [Nat.testBit_or, hbc i hi]; rfl) ho
    | true =>
      have hs := hst e ht
      rw [hs] at ho
      simp only [reduceIte] at ho ⊢
      cases hg : g.testBit e with
      | true => rw [hg] at ho; simp at ho
      | false =>
        rw [hg] at ho
        cases hq : (b.testBit e || b.testBit (ore n e)) with
        | true => rw [hq] at ho; simp at ho
        | false =>
          rw [hq] at ho
          have hq2 : (c.testBit e || c.testBit (ore n e)) = false := by
            rw [Bool.or_eq_false_iff] at hq ⊢
            constructor
            · cases hc : c.testBit e with
              | false => rfl
              | true => rw [hbc e hc] at hq; exact absurd hq.1 (by decide)
            · cases hc : c.testBit (ore n e) with
              | false => rfl
              | true => rw [hbc _ hc] at hq; exact absurd hq.2 (by decide)
          rw [hq2]
          simp only [Bool.false_eq_true, reduceIte] at ho ⊢
          exact ih _ _ (e + 1) (fun i hi => by
            rw [Nat.testBit_or] at hi ⊢
            rw [Bool.or_eq_true] at hi ⊢
            exact hi.elim (fun w => Or.inl (hbc i w)) Or.inr) ho
theorem od_cl {C : ow_M} {n g s : Nat} {lp : Bool} (h : FC C n lp g) (hs : s < 128) : ∀ (m f busy e : Nat), e + m = oed n lp → m < f → busy < 2 ^ n → lpX6_isOneDay_4 (nI s) C (fun _ _ => some 1) f (nI busy) (nI e) = some (bI (odf n g s m busy e)) := by
  obtain ⟨h2, h7, hg, hn, hed, hw, -⟩ := id h
  have hN := p2_128 h7
  have hE7 := oed_le (lp := lp) h7
  intro m
  induction m with
  | zero =>
    intro f busy e hm hf hb
    obtain ⟨f, rfl⟩ : ∃ q, f = q + 1 := ⟨f - 1, by omega⟩
    unfold lpX6_isOneDay_4
    rw [hed, if_pos ((nI_leI (by omega) (by omega)).mpr (by omega))]
    rfl
  | succ m ih =>
    intro f busy e hm hf hb
    obtain ⟨f, rfl⟩ : ∃ q, f = q + 1 := ⟨f - 1, by omega⟩
    unfold lpX6_isOneDay_4
    have hen : e < n := oed_n (lp := lp) (by omega)
    have ho := ore_7 h7 hen
    have e1 : odf n g s (m + 1) busy e = if s.testBit e then (if g.testBit e then false else if busy.testBit e || busy.testBit (ore n e) then false else odf n g s m (busy ||| (2 ^ e ||| 2 ^ ore n e)) (e + 1)) else odf n g s m busy (e + 1) := rfl
    rw [e1, hed, if_neg (by rw [nI_leI (by omega) (by omega)]; omega), bit_e (show s < 2 ^ 31 by omega) (show e < 32 by omega), e_re hn h7 hen, ow_obs, e_open0 h (by omega), ow_obs, one_e (by omega), one_e (by omega), nx_or, nx_and, nx_or, nI_1]
    have z : (nI (busy &&& (2 ^ e ||| 2 ^ ore n e)) = 0) ↔ ((busy.testBit e || busy.testBit (ore n e)) = false) := by
      rw [l_0]
      exact (nI_eq (Nat.lt_of_le_of_lt Nat.and_le_left (by omega)) (by omega)).trans (and_two1 busy (by omega) e (by omega) _ ho)
    rw [decide_eq_true (show e < oed n lp by omega), Bool.true_and]
    cases hsb : s.testBit e with
    | false =>
      rw [if_pos (by rfl)]
      simp only [Bool.false_eq_true, reduceIte]
      exact ih f busy (e + 1) (by omega) (by omega) hb
    | true =>
      rw [if_neg (by decide)]
      cases hgb : g.testBit e with
      | true => rfl
      | false =>
        rw [if_neg (by decide)]
        cases hq : (busy.testBit e || busy.testBit (ore n e)) with
        | true =>
          rw [if_neg (fun w => by rw [z.mp w] at hq; cases hq)]
          rfl
        | false =>
          rw [if_pos (z.mpr hq)]
          simp only [Bool.false_eq_true, reduceIte]
          exact ih f _ (e + 1) (by omega) (by omega) (Nat.or_lt_two_pow hb (Nat.or_lt_two_pow (Nat.pow_lt_pow_right (by decide) hen) (Nat.pow_lt_pow_right (by decide) (ore_lt (by omega)))))
theorem od_c {C : ow_M} {n g s : Nat} {lp : Bool} (h : FC C n lp g) (hs : s < 128) : fX6_isOneDay (nI s) C = some (bI (odf n g s (oed n lp) 0 0)) := by
  have hE7 := oed_le (lp := lp) h.2.1
  have := od_cl h hs (oed n lp) ow_N 0 0 (by omega) (by unfold ow_N; omega) (Nat.pow_pos (by decide))
  rw [nI_0] at this
  exact this
theorem od_ml {D : ow_M} {n g s : Nat} {lp : Bool} (hD : FD D n lp g) (h2 : 2 ≤ n) (h7 : n ≤ 7) (hg : g < 128) (hs : s < 128) : ∀ (m f busy e : Nat), e + m = oed n lp → m < f → busy < 2 ^ n → lpX8_mayBe_4 (nI s) D (fun _ _ => some 1) f (nI busy) (nI e) = some (bI (odf n g s m busy e)) := by
  obtain ⟨b1, b2, b3⟩ := id hD
  have he8 : fX8_edges D = some (nI (oed n lp)) := e_edges b1 b2 h7 (Or.inr h2)
  have hN := p2_128 h7
  have hE7 := oed_le (lp := lp) h7
  intro m
  induction m with
  | zero =>
    intro f busy e hm hf hb
    obtain ⟨f, rfl⟩ : ∃ q, f = q + 1 := ⟨f - 1, by omega⟩
    unfold lpX8_mayBe_4
    rw [he8, ow_obs, if_pos ((nI_leI (by omega) (by omega)).mpr (by omega))]
    rfl
  | succ m ih =>
    intro f busy e hm hf hb
    obtain ⟨f, rfl⟩ : ∃ q, f = q + 1 := ⟨f - 1, by omega⟩
    unfold lpX8_mayBe_4
    have hen : e < n := oed_n (lp := lp) (by omega)
    have ho := ore_7 h7 hen
    have e1 : odf n g s (m + 1) busy e = if s.testBit e then (if g.testBit e then false else if busy.testBit e || busy.testBit (ore n e) then false else odf n g s m (busy ||| (2 ^ e ||| 2 ^ ore n e)) (e + 1)) else odf n g s m busy (e + 1) := rfl
    rw [e1, he8, ow_obs, if_neg (by rw [nI_leI (by omega) (by omega)]; omega), bit_e (show s < 2 ^ 31 by omega) (show e < 32 by omega), e_fe b1 h7 hen, ow_obs, e_open b3 (by omega) (by omega), ow_obs, one_e (by omega), one_e (by omega), nx_or, nx_and, nx_or, nI_1]
    have z : (nI (busy &&& (2 ^ e ||| 2 ^ ore n e)) = 0) ↔ ((busy.testBit e || busy.testBit (ore n e)) = false) := by
      rw [l_0]
      exact (nI_eq (Nat.lt_of_le_of_lt Nat.and_le_left (by omega)) (by omega)).trans (and_two1 busy (by omega) e (by omega) _ ho)
    cases hsb : s.testBit e with
    | false =>
      rw [if_neg (by decide)]
      simp only [Bool.false_eq_true, reduceIte]
      exact ih f busy (e + 1) (by omega) (by omega) hb
    | true =>
      rw [if_pos (by rfl)]
      cases hgb : g.testBit e with
      | true => rfl
      | false =>
        rw [if_neg (by decide)]
        cases hq : (busy.testBit e || busy.testBit (ore n e)) with
        | true =>
          rw [if_neg (fun w => by rw [z.mp w] at hq; cases hq)]
          rfl
        | false =>
          rw [if_pos (z.mpr hq)]
          simp only [Bool.false_eq_true, reduceIte]
          exact ih f _ (e + 1) (by omega) (by omega) (Nat.or_lt_two_pow hb (Nat.or_lt_two_pow (Nat.pow_lt_pow_right (by decide) hen) (Nat.pow_lt_pow_right (by decide) (ore_lt (by omega)))))
theorem od_m {D : ow_M} {n g s : Nat} {lp : Bool} (hD : FD D n lp g) (h2 : 2 ≤ n) (h7 : n ≤ 7) (hg : g < 128) (hs : s < 128) : fX8_mayBe (nI s) D = some (bI (odf n g s (oed n lp) 0 0)) := by
  have hE7 := oed_le (lp := lp) h7
  have := od_ml hD h2 h7 hg hs (oed n lp) ow_N 0 0 (by omega) (by unfold ow_N; omega) (Nat.pow_pos (by decide))
  rw [nI_0] at this
  exact this
/-- which sets are steps -/
def okq (bd : Bool) (n : Nat) (lp : Bool) (g s : Nat) : Bool := decide (0 < s) && (bd || (s &&& (s - 1)) == 0) && odf n g s (oed n lp) 0 0
theorem one_b : ∀ s, s < 128 → ∀ q, q < 128 → ((s &&& q) < 128) := by intro s hs q _; exact Nat.lt_of_le_of_lt Nat.and_le_left hs
theorem and_pred {s : Nat} (h0 : 0 < s) (hs : s < 128) : (nI s &&& (nI s - 1) = 0) ↔ (s &&& (s - 1)) = 0 := by
  rw [l_1, pk_sub (by omega), nx_and, l_0, nI_eq (Nat.lt_of_le_of_lt Nat.and_le_left (by omega)) (by omega)]
def xS (C : ow_M) (ok : Nat → Bool) (s : Nat) : Prop := C.1 11 4 = nI (cnB ok s) ∧ ∀ t, t < s → ok t = true → C.1 14 (cnB ok t) = nI t
theorem cn_lt {ok : Nat → Bool} {s t : Nat} (hts : t < s) (ht : ok t = true) : cnB ok t < cnB ok s := by
  obtain ⟨q, rfl⟩ : ∃ q, s = (t + 1) + q := ⟨s - (t + 1), by omega⟩
  rw [cnB_split]
  have : cnB ok (t + 1) = cnB ok t + (if ok t then 1 else 0) := rfl
  rw [ht, if_pos rfl] at this
  omega
theorem gt_lp {n g : Nat} {lp bd : Bool} (x2 : Int32) (hx : x2 = bI bd) : ∀ (f s : Nat) (C : ow_M), FC C n lp g → 0 < s → s ≤ 2 ^ oed n lp → 2 ^ oed n lp - s < f → xS C (okq bd n lp g) s →
    ∃ C2, (∀ K, lpX6_gatherSteps_15 x2 (nI (2 ^ oed n lp)) K f (nI s) C = K (nI (2 ^ oed n lp)) C2) ∧ ow_xx 11 14 C C2 ∧ xS C2 (okq bd n lp g) (2 ^ oed n lp) := by
  subst hx
  intro f
  induction f with
  | zero => intro s C _ _ _ h; omega
  | succ f ih =>
    intro s C hC h0 hs hf hX
    have h7 := hC.2.1
    have hE7 := oed_le (lp := lp) h7
    have hN := p2_128 hE7
    unfold lpX6_gatherSteps_15
    by_cases q : 2 ^ oed n lp ≤ s
    · have e : s = 2 ^ oed n lp := by omega
      rw [e] at hX ⊢
      have z : nI (2 ^ oed n lp) ≤ nI (2 ^ oed n lp) := (nI_leI (by omega) (by omega)).mpr (Nat.le_refl _)
      simp only [if_pos z]
      exact ⟨C, fun _ => rfl, fun _ _ _ => rfl, hX⟩
    · have z : ¬ nI (2 ^ oed n lp) ≤ nI s := by rw [nI_leI (by omega) (by omega)]; exact q
      have hcs : cnB (okq bd n lp g) s ≤ s := cnB_le s
      have z2 : ¬ (128 : Int32) ≤ C.1 11 4 := by rw [hX.1, l_128, nI_leI (by omega) (by omega)]; omega
      have es : cnB (okq bd n lp g) (s + 1) = cnB (okq bd n lp g) s + (if okq bd n lp g s then 1 else 0) := rfl
      have skip : okq bd n lp g s = false → ∃ C2, (∀ K, lpX6_gatherSteps_15 (bI bd) (nI (2 ^ oed n lp)) K f (nI (s + 1)) C = K (nI (2 ^ oed n lp)) C2) ∧ ow_xx 11 14 C C2 ∧ xS C2 (okq bd n lp g) (2 ^ oed n lp) := by
        intro ho
        refine ih (s + 1) C hC (by omega) (by omega) (by omega) ⟨?_, ?_⟩
        · rw [es, ho]; exact hX.1
        · intro t ht hot
          have : t ≠ s := fun w => by rw [w, ho] at hot; cases hot
          exact hX.2 t (by omega) hot
      have i1 : ow_inn (C.1 11 4) 128 := by rw [hX.1]; exact (inn_nI (by omega)).mpr (by omega)
      have c1 : (C.1 11 4).toNatClampNeg = cnB (okq bd n lp g) s := by rw [hX.1]; exact nI_clamp (by omega)
      have take : okq bd n lp g s = true → ∃ C2, (∀ K, lpX6_gatherSteps_15 (bI bd) (nI (2 ^ oed n lp)) K f (nI (s + 1)) (ow_up (ow_up C 14 (cnB (okq bd n lp g) s) (nI s)) 11 4 (nI (cnB (okq bd n lp g) s + 1))) = K (nI (2 ^ oed n lp)) C2) ∧ ow_xx 11 14 C C2 ∧ xS C2 (okq bd n lp g) (2 ^ oed n lp) := by
        intro ho
        have fx : ow_xx 11 14 C (ow_up (ow_up C 14 (cnB (okq bd n lp g) s) (nI s)) 11 4 (nI (cnB (okq bd n lp g) s + 1))) := fun a h1 h2 => by rw [ow_up_c h1, ow_up_c h2]
        have hC2 : FC (ow_up (ow_up C 14 (cnB (okq bd n lp g) s) (nI s)) 11 4 (nI (cnB (okq bd n lp g) s + 1))) n lp g := by
          unfold FC at hC ⊢
          rw [fx 2 (by decide) (by decide), fx 7 (by decide) (by decide), fx 3 (by decide) (by decide)]
          exact hC
        obtain ⟨C2, k1, k2, k3⟩ := ih (s + 1) _ hC2 (by omega) (by omega) (by omega) ⟨by rw [es, ho, ow_up_s]; rfl, fun t ht hot => by
          rw [ow_up_c (by decide)]
          by_cases qt : t = s
          · rw [qt, ow_up_s]
          · have := cn_lt (ok := okq bd n lp g) (show t < s by omega) hot
            rw [ow_up_f (Or.inr (by omega))]
            exact hX.2 t (by omega) hot⟩
        exact ⟨C2, k1, fun a h1 h2 => by rw [k2 a h1 h2, fx a h1 h2], k3⟩
      have e14 : (ow_up C 14 (cnB (okq bd n lp g) s) (nI s)).1 11 4 + 1 = nI (cnB (okq bd n lp g) s + 1) := by rw [ow_up_c (by decide), hX.1, nI_1]
      unfold jX6_gatherSteps_48 jX6_gatherSteps_59
      simp only [if_neg z, if_neg z2, od_c hC (show s < 128 by omega), ow_obs, bI_0, if_pos i1, c1, e14, nI_1, ow_10, reduceIte, and_pred h0 (show s < 128 by omega)]
      have okv : okq bd n lp g s = ((bd || (s &&& (s - 1)) == 0) && odf n g s (oed n lp) 0 0) := by unfold okq; rw [decide_eq_true h0, Bool.true_and]
      cases ho : odf n g s (oed n lp) 0 0 with
      | false =>
        rw [ho, Bool.and_false] at okv
        obtain ⟨C2, k1, k2⟩ := skip okv
        refine ⟨C2, fun K => ?_, k2⟩
        simp only [reduceIte, ite_self]
        exact k1 K
      | true =>
        rw [ho, Bool.and_true] at okv
        simp only [Bool.true_eq_false, reduceIte]
        cases bd with
        | true =>
          obtain ⟨C2, k1, k2⟩ := take (by rw [okv]; rfl)
          refine ⟨C2, fun K => ?_, k2⟩
          simp only [Bool.true_eq_false, reduceIte, ite_self]
          exact k1 K
        | false =>
          by_cases qs : (s &&& (s - 1)) = 0
          · obtain ⟨C2, k1, k2⟩ := take (by rw [okv, qs]; rfl)
            refine ⟨C2, fun K => ?_, k2⟩
            simp only [if_pos qs, reduceIte]
            exact k1 K
          · obtain ⟨C2, k1, k2⟩ := skip (by rw [okv]; simp [qs])
            refine ⟨C2, fun K => ?_, k2⟩
            simp only [if_neg qs, reduceIte]
            exact k1 K
