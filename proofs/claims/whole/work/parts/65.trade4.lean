theorem cnB_0 : ∀ m, cnB (fun _ => false) m = 0 := by
  intro m
  induction m with
  | zero => rfl
  | succ m ih =>
    have e : cnB (fun _ => false) (m + 1) = cnB (fun _ => false) m + 0 := rfl
    rw [e, ih]
def S00 : bS := (fun _ => 0, 0, fun _ => none)
theorem gS_00 {N : Nat} {A : Nat → Bool} : gS N A S00 := ⟨fun i h => absurd h (Nat.not_lt_zero _), fun x d h => (by cases h), fun x d h => (by cases h), cnB_0 N⟩
theorem S0_d {x0 : Nat} : ∀ y d, (psh S00 x0 0).2.2 y = some d → d ≤ 0 := by
  intro y d h
  have h2 : (if y = x0 then some 0 else none) = some d := h
  by_cases q : y = x0
  · rw [if_pos q] at h2; cases h2; exact Nat.le_refl _
  · rw [if_neg q] at h2; cases h2
theorem tr_join {M : ow_M} (hI : ow_I M) {n g rc : Nat} {lp : Bool} (hA : iA M n lp g) (hB : iB M n lp g) (hR : iR M n rc) (h2 : 2 ≤ n) (bd : Bool) (x2 : Int32) (hx2 : x2 = bI bd) : ∃ r M1 M2, fX6_leastSteps x2 M = some (r, M1) ∧ M1.1 34 = M.1 34 ∧ fX8_findSteps x2 M1 = some (r, M2) ∧ ow_I M2 := by
  obtain ⟨h0, h7, hn, he, hl, hg, hw, hv⟩ := id hA
  obtain ⟨b1, b2, b3, b4⟩ := id hB
  have hN14 : 2 ^ (2 * n) ≤ 2 ^ 14 := Nat.pow_le_pow_right (by decide) (by omega)
  have hE7 := oed_le (lp := lp) h7
  have hN := p2_128 hE7
  have hN1 : 0 < 2 ^ oed n lp := Nat.pow_pos (by decide)
  have hC := FC_of hA h2
  have hg128 := g128 h7 hg
  have n1 : nI 1 = 1 := rfl
  -- the goods
  have hv5 : ∀ i, i < n → (M.1 5 i).toNatClampNeg < 4 ∧ M.1 5 i = nI (M.1 5 i).toNatClampNeg := by
    intro i hi
    obtain ⟨u, u1, u2⟩ := (hv i hi).2.2.1
    rw [u2, nI_clamp (by omega)]; exact ⟨u1, rfl⟩
  have hv6 : ∀ i, i < n → (M.1 6 i).toNatClampNeg < 4 ∧ M.1 6 i = nI (M.1 6 i).toNatClampNeg := by
    intro i hi
    obtain ⟨u, u1, u2⟩ := (hv i hi).2.2.2
    rw [u2, nI_clamp (by omega)]; exact ⟨u1, rfl⟩
  generalize hvv : (fun i => (M.1 5 i).toNatClampNeg) = v at *
  generalize hww : (fun i => (M.1 6 i).toNatClampNeg) = w at *
  have hv5' : ∀ i, i < n → v i < 4 ∧ M.1 5 i = nI (v i) := fun i hi => by rw [← hvv]; exact hv5 i hi
  have hv6' : ∀ i, i < n → w i < 4 ∧ M.1 6 i = nI (w i) := fun i hi => by rw [← hww]; exact hv6 i hi
  have hx0 := hcd_lt (v := v) n (fun i hi => (hv5' i hi).1)
  have hgo := hcd_lt (v := w) n (fun i hi => (hv6' i hi).1)
  -- the class
  have k0 : fX6_held 6 (M.1 2 0) M = some (nI (hcd w n)) := by
    unfold fX6_held
    rw [hn]
    exact hd_c h7 hv6' (fun u4 _ => some u4) ow_N 0 (by omega) (by unfold ow_N; omega)
  have f11 : ∀ a, a ≠ 11 → (ow_up M 11 4 0).1 a = M.1 a := fun a ha => ow_up_c ha
  have hC0 : FC (ow_up M 11 4 0) n lp g := by
    unfold FC at hC ⊢
    rw [f11 2 (by decide), f11 7 (by decide), f11 3 (by decide)]; exact hC
  obtain ⟨C1, k1, k2, k3⟩ := gt_lp (n := n) (g := g) (lp := lp) (bd := bd) x2 hx2 ow_N 1 (ow_up M 11 4 0) hC0 (by omega) (by omega) (by unfold ow_N; omega) ⟨ow_up_s, fun t ht hot => by
    have : t = 0 := by omega
    rw [this, okq_0] at hot; cases hot⟩
  rw [n1] at k1
  have k4 : fX6_gatherSteps x2 M = some C1 := by
    unfold fX6_gatherSteps
    have e1 : (1 : Int32) <<< ((ow_up M 11 4 0).1 2 1 &&& 31) = nI (2 ^ oed n lp) := by rw [f11 2 (by decide), he]; exact one_e (by omega)
    rw [e1]
    exact k1 (fun _ M11 => some M11)
  obtain ⟨C2, k5, k6, k7⟩ := fl_lp ow_N 0 C1 (by omega) (by unfold ow_N; omega) (fun w hw => by omega)
  rw [nI_0] at k5
  have k5' : fJ7_fill_d0a16 0 C1 = some C2 := k5
  have x3 : ∀ a, a ≠ 11 → a ≠ 14 → (ow_up C2 11 2 0).1 a = M.1 a := fun a h1 h3 => by rw [ow_up_c h1, k6, k2 a h1 h3, f11 a h1]
  have hC3 : FC (ow_up C2 11 2 0) n lp g := by
    unfold FC at hC ⊢
    rw [x3 2 (by decide) (by decide), x3 7 (by decide) (by decide), x3 3 (by decide) (by decide)]; exact hC
  have hX3 : xS (ow_up C2 11 2 0) (okq bd n lp g) (2 ^ oed n lp) := ⟨by rw [ow_up_f (Or.inr (by decide)), k6]; exact k3.1, by rw [ow_up_c (by decide), k6]; exact k3.2⟩
  have k8 : fX6_held 5 ((ow_up C2 11 2 0).1 2 0) (ow_up C2 11 2 0) = some (nI (hcd v n)) := by
    unfold fX6_held
    rw [x3 2 (by decide) (by decide), hn]
    exact hd_c h7 (by rw [x3 5 (by decide) (by decide)]; exact hv5') (fun u4 _ => some u4) ow_N 0 (by omega) (by unfold ow_N; omega)
  have hR3 : RC (ow_up C2 11 2 0) S00 := by
    refine ⟨ow_up_s, fun i h => absurd h (Nat.not_lt_zero _), fun x hx => ?_⟩
    have e1 : (ow_up C2 11 2 0).2 12 (x / 64) = 0 := k7 (x / 64) (by omega)
    rw [e1]
    show (0#64).getLsbD (x % 64) = false
    exact BitVec.getLsbD_zero
  have hself := AW_self n (hcd v n)
  obtain ⟨C4, l1, l2, l3, -⟩ := meet_e (d := 0) h7 hR3 (gS_00 (A := AW n (hcd v n))) hself hx0
  have hgS0 : gS (2 ^ (2 * n)) (AW n (hcd v n)) (psh S00 (hcd v n) 0) := psh_g gS_00 hself hx0
  obtain ⟨r, C', m1, m2, m3⟩ := c52 (bd := bd) (lp := lp) (g := g) (goal := hcd w n) h2 h7 hgS0 hgo ow_N 0 0 C4 l2 (FC_fT hC3 l3) (xS_fT hX3 l3) (fun i h1 h3 => psh_E.2.2.2 i (Nat.zero_le _) h3) (by omega) (by omega) (by unfold ow_N; omega)
  rw [nI_0] at m1
  have xC : ∀ a, a ≠ 11 → a ≠ 13 → a ≠ 14 → a ≠ 15 → C'.1 a = M.1 a := fun a p q s t => by rw [m2.1 a p q t, l3.1 a p q t, x3 a p s]
  have c34 : C'.1 34 = M.1 34 := xC 34 (by decide) (by decide) (by decide) (by decide)
  refine ⟨r, C', ?_⟩
  have cls : fX6_leastSteps x2 M = some (r, C') := by
    unfold fX6_leastSteps
    rw [k0, ow_obs, k4, ow_obs, k5', ow_obs, k8, ow_obs, l1, ow_obs]
    exact m1
  -- the reference
  obtain ⟨D1, o1, o2, o3⟩ := m2_lp x2 ow_N 0 C' (by omega) (by unfold ow_N; omega) (fun x hx => by omega)
  rw [nI_0] at o1
  have d34 : D1.1 34 = M.1 34 := by rw [o2 34 (by decide), c34]
  have fD : FD (ow_up D1 34 23 0) n lp g := by
    refine ⟨?_, ?_, ?_⟩
    · rw [ow_up_f (Or.inr (by decide)), d34]; exact b1
    · rw [ow_up_f (Or.inr (by decide)), d34]; exact b2
    · rw [ow_up_f (Or.inr (by decide)), d34]; exact b3
  have hRD : RD (ow_up D1 34 23 0) S00 := ⟨ow_up_s, fun i h => absurd h (Nat.not_lt_zero _), fun x hx => by rw [ow_up_c (by decide)]; exact o3 x hx⟩
  obtain ⟨D2, p1, p2, p3⟩ := reach_e (d := 0) h7 hRD (gS_00 (A := AW n (hcd v n))) (fun y c h => by cases h) hself hx0
  obtain ⟨m, D', q1, q2, q3, q4, q5, q6⟩ := m89 (bd := bd) (lp := lp) (g := g) (goal := hcd w n) x2 hx2 h2 h7 hg128 hgS0 S0_d hgo ow_N 0 D2 p2 (FD_fM fD p3) (by omega) (by unfold ow_N; omega)
  rw [nI_0] at q4 p1
  have hd40 : ∀ i, i < n → v i < 4 ∧ D1.1 40 i = nI (v i) := fun i hi => by rw [o2 40 (by decide), xC 40 (by decide) (by decide) (by decide) (by decide), (b4 i hi).2.2.1]; exact hv5' i hi
  have hd41 : ∀ i, i < n → w i < 4 ∧ D1.1 41 i = nI (w i) := fun i hi => by rw [o2 41 (by decide), xC 41 (by decide) (by decide) (by decide) (by decide), (b4 i hi).2.2.2]; exact hv6' i hi
  have i1 : ow_inn (nI (hcd w n)) 16384 := (inn_nI (by omega)).mpr (by omega)
  have c1 : (nI (hcd w n)).toNatClampNeg = hcd w n := nI_clamp (by omega)
  have mdl : fX8_findSteps x2 C' = some (e9 ((stT bd n lp g (psh S00 (hcd v n) 0) m).2.2 (hcd w n)), D') := by
    unfold fX8_findSteps
    rw [o1]
    have t := hd_m (M := D1) h7 (by rw [d34]; exact b1) hd40 hd41 x2 (fun u8 u9 u10 => Option.bind (fX8_reach u8 0 (ow_up D1 34 23 0)) (fun M13 => lpX8_findSteps_89 x2 u9 (fun u35 M36 => if ow_inn u9 16384 then some ((M36.1 48 u9.toNatClampNeg), M36) else none) ow_N 0 M13)) ow_N 0 (by omega) (by unfold ow_N; omega)
    have z0 : hcd v 0 = 0 := rfl
    have z1 : hcd w 0 = 0 := rfl
    rw [z0, z1, nI_0] at t
    refine t.trans ?_
    rw [p1, ow_obs, q4, if_pos i1, c1, q5.2.2 _ (by omega)]
  have ID : ow_I D' := by
    have xD : ∀ a, a ≠ 34 → a ≠ 48 → a ≠ 49 → D'.1 a = C'.1 a := fun a p q s => by rw [q6.1 a p q s, p3.1 a p q s, ow_up_c p, o2 a q]
    have xD34 : ∀ j, j ≠ 23 → D'.1 34 j = M.1 34 j := fun j hj => by rw [q6.2 j hj, p3.2 j hj, ow_up_f (Or.inr hj), d34]
    refine ow_I_eq (M := M) (fun a ha => ?_) (fun j hj => xD34 j (fun w => by subst w; revert hj; decide)) hI
    rw [xD a (all_ne ha (by decide)) (all_ne ha (by decide)) (all_ne ha (by decide)), xC a (all_ne ha (by decide)) (all_ne ha (by decide)) (all_ne ha (by decide)) (all_ne ha (by decide))]
  have req : e9 ((stT bd n lp g (psh S00 (hcd v n) 0) m).2.2 (hcd w n)) = r := by
    have mono := fun {j k : Nat} (h : j ≤ k) => stT_m (bd := bd) (lp := lp) (g := g) h2 hgS0 h
    rcases m3 with ⟨i, c, -, j2, j3, j4, j5⟩ | ⟨m', -, j2, j3, j4⟩
    · rw [j5]
      rcases Nat.lt_or_ge i m with w | w
      · have := (q2 i (Nat.zero_le _) w).2
        rw [this] at j4; cases j4
      · rcases q3 with z | ⟨c2, z⟩
        · have e := stq_stop (ok := okq bd n lp g) (nb := nbq n (oed n lp)) (E2 := 2 ^ oed n lp) (S0 := psh S00 (hcd v n) 0) z i w
          have e' : stT bd n lp g (psh S00 (hcd v n) 0) i = stT bd n lp g (psh S00 (hcd v n) 0) m := e
          rw [e'] at j2; omega
        · rw [z]
          have := (mono w).2.2 _ _ z
          rw [this] at j4
          rw [Option.some.inj j4]; rfl
    · rw [j4]
      cases hz : (stT bd n lp g (psh S00 (hcd v n) 0) m).2.2 (hcd w n) with
      | none => rfl
      | some c =>
        exfalso
        obtain ⟨i, i2, i3⟩ := (stT_g (bd := bd) (lp := lp) (g := g) h2 hgS0 m).2.1 _ _ hz
        have hmm : m ≤ m' := by
          rcases Nat.lt_or_ge m' m with w | w
          · have := (q2 m' (Nat.zero_le _) w).1; omega
          · exact w
        have hLL := (mono hmm).1
        obtain ⟨t1, t2⟩ := j3 i (Nat.zero_le _) (by omega)
        apply t2
        rcases Nat.le_total i m with w | w
        · rw [← i3]; exact ((mono w).2.1 i t1).symm
        · rw [← i3]; exact (mono w).2.1 i i2
  rw [req] at mdl
  exact ⟨D', cls, c34, mdl, ID⟩
theorem sp_fewest {M : ow_M} (hI : ow_I M) : ∃ r M1 M2, fX7_fewest M = some (r, M1) ∧ fX8_fewest M1 = some (r, M2) ∧ ow_I M2 := by
  obtain ⟨n, lp, g, rc, hA, hB, hR, hS, hT, hF⟩ := id hI
  obtain ⟨h0, h7, hn, -⟩ := id hA
  obtain ⟨b1, -⟩ := id hB
  unfold fX7_fewest
  rw [there_0 hn h7, ow_obs]
  by_cases n0 : n = 0
  · subst n0
    rw [if_pos rfl, if_pos rfl]
    refine ⟨_, _, M, rfl, ?_, hI⟩
    unfold fX8_fewest
    rw [b1, if_pos (by rfl)]
  · have h2 : 2 ≤ n := by rcases h0 with ⟨z, _⟩ | z; exact absurd z n0; exact z
    rw [if_neg n0, if_neg (by decide)]
    obtain ⟨r, M1, M2, k1, k2, k3, k4⟩ := tr_join hI hA hB hR h2 false 0 rfl
    rw [k1, ow_bd_eq]
    refine ⟨r, M1, M2, rfl, ?_, k4⟩
    unfold fX8_fewest
    rw [k2, b1, if_neg (by rw [l_0, nI_eq (by omega) (by omega)]; exact n0), k3, ow_bd_eq]
theorem sp_soonest {M : ow_M} (hI : ow_I M) : ∃ r M1 M2, fX7_soonest M = some (r, M1) ∧ fX8_soonest M1 = some (r, M2) ∧ ow_I M2 := by
  obtain ⟨n, lp, g, rc, hA, hB, hR, hS, hT, hF⟩ := id hI
  obtain ⟨h0, h7, hn, -⟩ := id hA
  obtain ⟨b1, -⟩ := id hB
  unfold fX7_soonest
  rw [there_0 hn h7, ow_obs]
  by_cases n0 : n = 0
  · subst n0
    rw [if_pos rfl, if_pos rfl]
    refine ⟨_, _, M, rfl, ?_, hI⟩
    unfold fX8_soonest
    rw [b1, if_pos (by rfl)]
  · have h2 : 2 ≤ n := by rcases h0 with ⟨z, _⟩ | z; exact absurd z n0; exact z
    rw [if_neg n0, if_neg (by decide)]
    obtain ⟨r, M1, M2, k1, k2, k3, k4⟩ := tr_join hI hA hB hR h2 true 1 rfl
    rw [k1, ow_bd_eq]
    refine ⟨r, M1, M2, rfl, ?_, k4⟩
    unfold fX8_soonest
    rw [k2, b1, if_neg (by rw [l_0, nI_eq (by omega) (by omega)]; exact n0), k3, ow_bd_eq]
