/-- class and reference have the same NEWS -/
def RN (C D : ow_M) (n fr : Nat) (v : Int32) : Prop := (∀ q, q < n → D.1 47 q = C.1 10 q ∧ (C.1 10 q ≠ -9 → D.1 46 q = C.1 9 q) ∧ (C.1 10 q = -9 → C.1 9 q = -9)) ∧ C.1 9 fr = v ∧ C.1 10 fr ≠ -9
theorem t_m9 {t : Nat} (ht : t < 100) : nI t ≠ -9 := fun h => (nI_m9 (by omega)).mp h
theorem t_p9 {t : Nat} (h0 : 0 < t) (ht : t < 100) : nI t - 1 ≠ -9 := by
  rw [l_1, pk_sub (by omega)]
  exact fun h => (nI_m9 (by omega)).mp h
/-- one day, all PERSONS -/
theorem day_join {n : Nat} {lp : Bool} {g fr t : Nat} (hfr : fr < n) (h0 : 0 < t) (ht : t < 100) (v : Int32) : ∀ (f p : Nat) (C D : ow_M), FC C n lp g → FD D n lp g → KS C D n → RN C D n fr v → p ≤ n → n - p < f →
    ∃ C2 D2, (∀ K, lpX5_tellFrom_56 (nI fr) v (nI t) K f (nI p) C = K (nI n) C2) ∧ (∀ K, lpX8_spread_51 (nI fr) (nI t) K f (nI p) D = K (nI n) D2) ∧ ow_xx 9 10 C C2 ∧ ow_xx 46 47 D D2 ∧ RN C2 D2 n fr v := by
  intro f
  induction f with
  | zero => intro p C D _ _ _ _ _ h; omega
  | succ f ih =>
    intro p C D hC hD hK hR hp hf
    obtain ⟨c2, c7, cg, cn, ce, cw, ck⟩ := id hC
    obtain ⟨d5, d6, d7⟩ := id hD
    unfold lpX5_tellFrom_56 lpX8_spread_51
    by_cases hh : n ≤ p
    · have : p = n := by omega
      subst this
      have z : nI p ≤ nI p := (nI_leI (by omega) (by omega)).mpr hh
      simp only [cn, d5, if_pos z]
      exact ⟨C, D, fun _ => rfl, fun _ => rfl, xx_rf, xx_rf, hR⟩
    · have z : ¬ nI n ≤ nI p := by rw [nI_leI (by omega) (by omega)]; exact hh
      have hpn : p < n := by omega
      have i1 : ow_inn (nI p) 7 := (inn_nI (by omega)).mpr (by omega)
      have cc1 : (nI p).toNatClampNeg = p := nI_clamp (by omega)
      have pf : (nI p = nI fr) = (p = fr) := propext (nI_eq (by omega) (by omega))
      obtain ⟨D2, k1, k2, k3⟩ := m_in (lp := lp) (g := g) (fr := fr) c2 c7 cg hpn hfr (nI t) ow_N 0 D hD (Nat.zero_le _) (by unfold ow_N; omega)
      rw [nI_0] at k1
      obtain ⟨r1, r2, r3⟩ := id hR
      have rp := r1 p hpn
      -- the class's step
      have cls : ∃ C2, (∀ K, (if ow_inn (nI p) 7 then (if C.1 10 p = nI t - 1 then (if p = fr then Option.bind (fX5_passOn (nI p) v (nI t) C) (fun M25 => lpX5_tellFrom_56 (nI fr) v (nI t) K f (nI (p + 1)) M25) else if ow_inn (nI p) 7 then Option.bind (fX0_altered (nI p) (C.1 9 p) C) (fun v19 => Option.bind (fX5_passOn (nI p) v19 (nI t) C) (fun M22 => lpX5_tellFrom_56 (nI fr) v (nI t) K f (nI (p + 1)) M22)) else none) else lpX5_tellFrom_56 (nI fr) v (nI t) K f (nI (p + 1)) C) else none) = lpX5_tellFrom_56 (nI fr) v (nI t) K f (nI (p + 1)) C2) ∧ ow_xx 9 10 C C2 ∧ RN C2 D2 n fr v := by
        by_cases ha : C.1 10 p = nI t - 1
        · have hw : wpa D fr p = (if p = fr then v else alt (C.1 3 p) (C.1 4 p) (C.1 9 p)) := by
            unfold wpa
            have h46 : D.1 46 p = C.1 9 p := rp.2.1 (by rw [ha]; exact t_p9 h0 ht)
            rw [h46, (hK p hpn).1, (hK p hpn).2]
            by_cases q : p = fr
            · subst q; rw [if_pos rfl, if_pos rfl, r2]
            · rw [if_neg q, if_neg q]
          obtain ⟨C2, e1, e2, e3⟩ := e_pass hC hpn (wpa D fr p) (nI t) (t_m9 ht)
          refine ⟨C2, fun K => ?_, e2, ?_⟩
          · by_cases q : p = fr
            · rw [hw, if_pos q] at e1
              rw [if_pos i1, if_pos ha, if_pos q, e1, ow_obs]
            · rw [hw, if_neg q] at e1
              rw [if_pos i1, if_pos ha, if_neg q, if_pos i1, e_alt0 cn c7 hpn (ck p hpn), ow_obs, e1, ow_obs]
          · have step : ∀ q, q < n → (C2.1 10 q = D2.1 47 q ∧ (C2.1 10 q ≠ -9 → D2.1 46 q = C2.1 9 q) ∧ (C2.1 10 q = -9 → C2.1 9 q = -9)) := by
              intro q hq
              obtain ⟨m1, m2⟩ := k3 q hq
              obtain ⟨n1, n2⟩ := e3 q hq
              obtain ⟨u1, u2, u3⟩ := r1 q hq
              have hap : D.1 47 p = nI t - 1 := by rw [rp.1]; exact ha
              rw [u1] at m1 m2
              by_cases hb : bes n (oed n lp) g p q = true ∧ C.1 10 q = -9
              · rw [if_pos ⟨Nat.zero_le _, hap, hb⟩] at m1 m2
                rw [if_pos hb] at n1 n2
                rw [m1, m2, n1, n2]
                exact ⟨rfl, fun _ => rfl, fun h => absurd h (t_m9 ht)⟩
              · have nb : ¬ (0 ≤ q ∧ D.1 47 p = nI t - 1 ∧ bes n (oed n lp) g p q = true ∧ C.1 10 q = -9) := fun z => hb z.2.2
                rw [if_neg nb] at m1 m2
                rw [if_neg hb] at n1 n2
                rw [m1, m2, n1, n2]
                exact ⟨rfl, u2, u3⟩
            obtain ⟨n1, n2⟩ := e3 fr hfr
            rw [if_neg (fun z => r3 z.2)] at n1 n2
            exact ⟨fun q hq => ⟨(step q hq).1.symm, (step q hq).2⟩, by rw [n2]; exact r2, by rw [n1]; exact r3⟩
        · refine ⟨C, fun K => ?_, xx_rf, ?_⟩
          · rw [if_pos i1, if_neg ha]
          · have nap : ¬ D.1 47 p = nI t - 1 := by rw [rp.1]; exact ha
            refine ⟨fun q hq => ?_, r2, r3⟩
            obtain ⟨m1, m2⟩ := k3 q hq
            rw [if_neg (fun z => nap z.2.1)] at m1 m2
            rw [m1, m2]
            exact r1 q hq
      obtain ⟨C2, j1, j2, j3⟩ := cls
      obtain ⟨C3, D3, l1, l2, l3, l4, l5⟩ := ih (p + 1) C2 D2 (FC_xx hC j2) (FD_xx hD k2) (KS_xx hK j2 k2) j3 (by omega) (by omega)
      refine ⟨C3, D3, fun K => ?_, fun K => ?_, xx_tr j2 l3, xx_tr k2 l4, l5⟩
      · have := j1 K
        simp only [cn, if_neg z, cc1, pf, nI_1]
        rw [this]
        exact l1 K
      · simp only [d5, if_neg z, nI_1]
        rw [k1]
        exact l2 K
/-- all days -/
theorem days_join {n : Nat} {lp : Bool} {g fr : Nat} (hfr : fr < n) (v : Int32) : ∀ (f t : Nat) (C D : ow_M), FC C n lp g → FD D n lp g → KS C D n → RN C D n fr v → 0 < t → t ≤ n → n - t < f →
    ∃ C2 D2, (∀ K, lpX5_tellFrom_44 (nI fr) v K f (nI t) C = K (nI n) C2) ∧ (∀ K, lpX8_spread_40 (nI fr) K f (nI t) D = K (nI n) D2) ∧ ow_xx 9 10 C C2 ∧ ow_xx 46 47 D D2 ∧ RN C2 D2 n fr v := by
  intro f
  induction f with
  | zero => intro t C D _ _ _ _ _ _ h; omega
  | succ f ih =>
    intro t C D hC hD hK hR h0 ht hf
    obtain ⟨c2, c7, cg, cn, ce, cw, ck⟩ := id hC
    obtain ⟨d5, d6, d7⟩ := id hD
    unfold lpX5_tellFrom_44 lpX8_spread_40
    by_cases hh : n ≤ t
    · have : t = n := by omega
      subst this
      have z : nI t ≤ nI t := (nI_leI (by omega) (by omega)).mpr hh
      simp only [cn, d5, if_pos z]
      exact ⟨C, D, fun _ => rfl, fun _ => rfl, xx_rf, xx_rf, hR⟩
    · have z : ¬ nI n ≤ nI t := by rw [nI_leI (by omega) (by omega)]; exact hh
      obtain ⟨C2, D2, k1, k2, k3, k4, k5⟩ := day_join (lp := lp) (g := g) hfr h0 (show t < 100 by omega) v ow_N 0 C D hC hD hK hR (Nat.zero_le _) (by unfold ow_N; omega)
      rw [nI_0] at k1 k2
      obtain ⟨C3, D3, l1, l2, l3, l4, l5⟩ := ih (t + 1) C2 D2 (FC_xx hC k3) (FD_xx hD k4) (KS_xx hK k3 k4) k5 (by omega) (by omega) (by omega)
      refine ⟨C3, D3, fun K => ?_, fun K => ?_, xx_tr k3 l3, xx_tr k4 l4, l5⟩
      · simp only [cn, if_neg z, nI_1]
        rw [k1]
        exact l1 K
      · simp only [d5, if_neg z, nI_1]
        rw [k2]
        exact l2 K
theorem clr_lp {n : Nat} (x1 x2 : Int32) (h7 : n ≤ 7) (K : Int32 → ow_M → Option ow_M) : ∀ (f i : Nat) (D : ow_M), D.1 34 5 = nI n → i ≤ n → n - i < f → lpX8_spread_2 x1 x2 K f (nI i) D = K (nI n) (ow_fi D 47 i n (-9)) := by
  intro f
  induction f with
  | zero => intro i D _ _ h; omega
  | succ f ih =>
    intro i D hn hi hf
    unfold lpX8_spread_2
    by_cases h : n ≤ i
    · have : i = n := by omega
      subst this
      rw [hn, if_pos ((nI_leI (by omega) (by omega)).mpr h), fi_end]
    · have hin : ow_inn (nI i) 7 := (inn_nI (by omega)).mpr (by omega)
      rw [hn, if_neg (fun q => h ((nI_leI (by omega) (by omega)).mp q)), if_pos hin, nI_clamp (by omega), nI_1, ih (i + 1) _ (by rw [ow_up_c (by decide)]; exact hn) (by omega) (by omega), fi_step _ _ _ _ _ (by omega)]
theorem sprd {n : Nat} {lp : Bool} {g fr : Nat} {C D : ow_M} (hC : FC C n lp g) (hD : FD D n lp g) (hK : KS C D n) (hfr : fr < n) (v : Int32) : ∃ C2 D2, fX5_tellFrom (nI fr) v C = some C2 ∧ fX8_spread (nI fr) v D = some D2 ∧ ow_xx 9 10 C C2 ∧ ow_xx 46 47 D D2 ∧ RN C2 D2 n fr v := by
  obtain ⟨c2, c7, cg, cn, ce, cw, ck⟩ := id hC
  obtain ⟨d5, d6, d7⟩ := id hD
  have i1 : ow_inn (nI fr) 7 := (inn_nI (by omega)).mpr (by omega)
  have cc1 : (nI fr).toNatClampNeg = fr := nI_clamp (by omega)
  have x1 : ow_xx 9 10 C (ow_up (ow_up (ow_fi (ow_fi C 9 0 7 (-9)) 10 0 7 (-9)) 9 fr v) 10 fr 0) := by
    intro a ha hb
    rw [ow_up_c hb, ow_up_c ha, fi_c hb, fi_c ha]
  have x2 : ow_xx 46 47 D (ow_up (ow_up (ow_fi D 47 0 n (-9)) 47 fr 0) 46 fr v) := by
    intro a ha hb
    rw [ow_up_c ha, ow_up_c hb, fi_c hb]
  have hR : RN (ow_up (ow_up (ow_fi (ow_fi C 9 0 7 (-9)) 10 0 7 (-9)) 9 fr v) 10 fr 0) (ow_up (ow_up (ow_fi D 47 0 n (-9)) 47 fr 0) 46 fr v) n fr v := by
    refine ⟨fun q hq => ?_, ?_, ?_⟩
    · by_cases h : q = fr
      · subst h
        rw [ow_up_f (a := 47) (Or.inl (by decide)), ow_up_s, ow_up_s, ow_up_s, ow_up_f (a := 9) (Or.inl (by decide)), ow_up_s]
        exact ⟨rfl, fun _ => rfl, fun z => absurd z (by decide)⟩
      · rw [ow_up_f (a := 47) (Or.inl (by decide)), ow_up_f (a := 47) (Or.inr h), fi_in (by omega), ow_up_f (a := 10) (Or.inr h), ow_up_f (a := 10) (Or.inl (by decide)), fi_in (by omega), ow_up_f (a := 9) (Or.inl (by decide)), ow_up_f (a := 9) (Or.inr h), fi_c (by decide), fi_in (by omega)]
        exact ⟨rfl, fun z => absurd rfl z, fun _ => rfl⟩
    · rw [ow_up_f (a := 9) (Or.inl (by decide)), ow_up_s]
    · rw [ow_up_s]; decide
  obtain ⟨C2, D2, k1, k2, k3, k4, k5⟩ := days_join (lp := lp) (g := g) hfr v ow_N 1 _ _ (FC_xx hC x1) (FD_xx hD x2) (KS_xx hK x1 x2) hR (by decide) (by omega) (by unfold ow_N; omega)
  refine ⟨C2, D2, ?_, ?_, xx_tr x1 k3, xx_tr x2 k4, k5⟩
  · unfold fX5_tellFrom
    have hp : fX0_isPerson (nI fr) (ow_fi (ow_fi C 9 0 7 (-9)) 10 0 7 (-9)) = some 1 := P_is (by rw [fi_c (by decide), fi_c (by decide)]; exact cn) c7 hfr
    simp only [fill_eq _ _ _ (show 7 ≤ 1000 by decide), ow_obs, hp, ow_10, reduceIte, if_pos i1, cc1]
    exact k1 _
  · unfold fX8_spread
    have := clr_lp (n := n) (nI fr) v c7 (fun _ M4 => if ow_inn (nI fr) 7 then if ow_inn (nI fr) 7 then lpX8_spread_40 (nI fr) (fun u20 M21 => some M21) ow_N 1 (ow_up (ow_up M4 47 (nI fr).toNatClampNeg 0) 46 (nI fr).toNatClampNeg v) else none else none) ow_N 0 D d5 (Nat.zero_le _) (by unfold ow_N; omega)
    rw [nI_0] at this
    rw [this]
    simp only [if_pos i1, cc1]
    exact k2 _
