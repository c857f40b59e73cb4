theorem vnar_b (b : Bool) : vp_nar .boolean (bI b) = bI b := by cases b <;> decide +kernel
theorem wl_join {M D0 : ow_M} {n : Nat} {lp : Bool} {g rc : Nat} (hM : FC M n lp g) (hD0 : FD D0 n lp g) (hK : KS M D0 n) (hR : RDs M D0 n rc) : ∀ (f e : Nat) (s : Int32) (C D : ow_M), ow_xx 9 10 M C → fk 46 47 34 7 D0 D → e ≤ oed n lp → oed n lp - e < f →
    ∃ s2 C2 D2, (∀ K, lpX7_walls_17 K f s (nI e) C = K s2 (nI (oed n lp)) C2) ∧ (∀ K, lpX8_walls_19 (nI g) K f s (nI e) D = K s2 (nI (oed n lp)) D2) ∧ ow_xx 9 10 M C2 ∧ fk 46 47 34 7 D0 D2 := by
  intro f
  induction f with
  | zero => intro e s C D _ _ _ h; omega
  | succ f ih =>
    intro e s C D hC hD hx hf
    obtain ⟨c2, c7, cg, cn, ce, cw, ck⟩ := id hM
    have ho := oed_le (lp := lp) c7
    obtain ⟨d5, d6, d7⟩ := id hD0
    have hE : fX8_edges D = some (nI (oed n lp)) := e_edges (by rw [hD.2 5 (by decide)]; exact d5) (by rw [hD.2 6 (by decide)]; exact d6) c7 (Or.inr c2)
    have hce : C.1 2 1 = nI (oed n lp) := by rw [hC 2 (by decide) (by decide)]; exact ce
    unfold lpX7_walls_17 lpX8_walls_19
    simp only [hE, ow_obs, hce]
    by_cases hh : oed n lp ≤ e
    · have : e = oed n lp := by omega
      subst this
      have z : nI (oed n lp) ≤ nI (oed n lp) := (nI_leI (by omega) (by omega)).mpr hh
      simp only [if_pos z]
      exact ⟨s, C, D, fun _ => rfl, fun _ => rfl, hC, hD⟩
    · have z : ¬ nI (oed n lp) ≤ nI e := by rw [nI_leI (by omega) (by omega)]; exact hh
      have ie : ow_inn (nI e) 7 := (inn_nI (by omega)).mpr (by omega)
      have ec : (nI e).toNatClampNeg = e := nI_clamp (by omega)
      have v1 : vp_nar .boolean 1 = 1 := by decide +kernel
      have he7 : C.1 7 e = bI (g.testBit e) := by rw [hC 7 (by decide) (by decide)]; exact cw e (by omega)
      have hg2 : g ||| 2 ^ e < 128 := Nat.or_lt_two_pow (n := 7) cg (Nat.pow_lt_pow_right (by decide) (by omega))
      have hFC : FC (ow_up C 7 e 1) n lp (g ||| 2 ^ e) := by
        refine ⟨c2, c7, hg2, ?_, ?_, fun i hi => ?_, fun i hi => ?_⟩
        · rw [ow_up_c (by decide), hC 2 (by decide) (by decide)]; exact cn
        · rw [ow_up_c (by decide), hC 2 (by decide) (by decide)]; exact ce
        · rw [Nat.testBit_or]
          by_cases q : i = e
          · subst q; rw [Nat.testBit_two_pow_self, Bool.or_true, ow_up_s]; rfl
          · rw [Nat.testBit_two_pow_of_ne (fun z => q z.symm), Bool.or_false, ow_up_f (Or.inr q), hC 7 (by decide) (by decide)]; exact cw i hi
        · rw [ow_up_c (by decide), hC 3 (by decide) (by decide)]; exact ck i hi
      have u2 : fk 46 47 34 7 D0 (ow_up D 34 7 (nI (g ||| 2 ^ e))) := fk_up hD
      have hFD : FD (ow_up D 34 7 (nI (g ||| 2 ^ e))) n lp (g ||| 2 ^ e) := ⟨by rw [u2.2 5 (by decide)]; exact d5, by rw [u2.2 6 (by decide)]; exact d6, ow_up_s⟩
      have hKS : KS (ow_up C 7 e 1) (ow_up D 34 7 (nI (g ||| 2 ^ e))) n := by
        intro i hi
        rw [ow_up_c (a := 3) (by decide), ow_up_c (a := 4) (by decide), hC 3 (by decide) (by decide), hC 4 (by decide) (by decide), u2.1 38 (by decide) (by decide) (by decide), u2.1 39 (by decide) (by decide) (by decide)]
        exact hK i hi
      have hRD : RDs (ow_up C 7 e 1) (ow_up D 34 7 (nI (g ||| 2 ^ e))) n rc := by
        unfold RDs
        rw [ow_up_c (a := 21) (by decide), ow_up_c (a := 22) (by decide), ow_up_c (a := 23) (by decide), ow_up_c (a := 24) (by decide), ow_up_c (a := 25) (by decide), hC 21 (by decide) (by decide), hC 22 (by decide) (by decide), hC 23 (by decide) (by decide), hC 24 (by decide) (by decide), hC 25 (by decide) (by decide), u2.2 27 (by decide), u2.1 53 (by decide) (by decide) (by decide), u2.1 54 (by decide) (by decide) (by decide), u2.1 55 (by decide) (by decide) (by decide), u2.1 56 (by decide) (by decide) (by decide)]
        exact hR
      obtain ⟨r, C2, D2, k1, k2, k3, k4, k5⟩ := so_eq hFC hFD hKS hRD
      have w2 := fk_xx (by decide) (by decide) u2 k4
      have w1 : ow_xx 9 10 M (ow_up C2 7 e (bI (g.testBit e))) := by
        intro a h1 h2
        by_cases q : a = 7
        · subst q
          funext b
          by_cases q2 : b = e
          · subst q2; rw [ow_up_s]; exact (cw b (by omega)).symm
          · rw [ow_up_f (Or.inr q2), k3 7 (by decide) (by decide), ow_up_f (Or.inr q2), hC 7 (by decide) (by decide)]
        · rw [ow_up_c q, k3 a h1 h2, ow_up_c q, hC a h1 h2]
      simp only [if_neg z, if_pos ie, ec, v1, one_e (show e < 32 by omega), nx_or, k1, k2, ow_bd_eq, nI_1, Int32.or_zero, he7, vnar_b]
      rcases k5 with rfl | rfl
      · simp only [reduceIte]
        exact ih (e + 1) _ _ D2 w1 w2 (by omega) (by omega)
      · simp only [ow_10, reduceIte]
        exact ih (e + 1) _ _ D2 w1 w2 (by omega) (by omega)
theorem there_0 {M : ow_M} {n : Nat} (hn : M.1 2 0 = nI n) (h7 : n ≤ 7) : fX0_isThere M = some (if n = 0 then 0 else 1) := by
  unfold fX0_isThere
  rw [hn]
  by_cases h : n = 0
  · subst h; rfl
  · rw [if_neg (nI_nle (by omega) (by omega)), if_neg h]
theorem sp_walls {M : ow_M} (hI : ow_I M) : ∃ r M1 M2, fX7_walls M = some (r, M1) ∧ fX8_walls M1 = some (r, M2) ∧ ow_I M2 := by
  obtain ⟨n, lp, g, rc, hA, hB, hR, hS, hT, hF⟩ := id hI
  obtain ⟨h0, h7, hn, he, hl, hg, hw, hv⟩ := id hA
  obtain ⟨b1, b2, b3, b4⟩ := id hB
  have ho := oed_le (lp := lp) h7
  unfold fX7_walls
  rw [there_0 hn h7, ow_obs]
  by_cases n0 : n = 0
  · subst n0
    simp only [reduceIte]
    refine ⟨_, _, M, rfl, ?_, hI⟩
    unfold fX8_walls
    rw [b1, if_pos (by rfl)]
  · have hn2 : 2 ≤ n := by
      rcases h0 with ⟨h, _⟩ | h
      · exact absurd h n0
      · exact h
    simp only [if_neg n0, ow_10, reduceIte]
    have join : ∀ D : ow_M, ow_xx 9 10 M D → _ := fun D x => wl_join (M := M) (D0 := D) (lp := lp) (g := g) (rc := rc) (FC_of hA hn2) (FD_of hB (x 34 (by decide) (by decide))) (KS_of hB (x 38 (by decide) (by decide)) (x 39 (by decide) (by decide))) (RD_of hR (x 34 (by decide) (by decide)) (x 53 (by decide) (by decide)) (x 54 (by decide) (by decide)) (x 55 (by decide) (by decide)) (x 56 (by decide) (by decide))) ow_N 0 0 M D xx_rf fk_rf (by omega) (by unfold ow_N; omega)
    obtain ⟨s2, C2, D2, k1, -, k3, -⟩ := join M xx_rf
    have k1' := k1 (fun u13 u14 M15 => some (u13, M15))
    rw [nI_0] at k1'
    rw [k1']
    obtain ⟨s3, C3, D3, l1, l2, l3, l4⟩ := join C2 k3
    have hs : s3 = s2 := by
      have := (k1 (fun a _ N => some (a, N))).symm.trans (l1 (fun a _ N => some (a, N)))
      exact (Prod.mk.inj (Option.some.inj this)).1.symm
    subst hs
    have c34 : C2.1 34 = M.1 34 := k3 34 (by decide) (by decide)
    have e7 : C2.1 34 7 = nI g := by rw [c34]; exact b3
    have l2' := l2 (fun u9 u10 M11 => some (u9, ow_up M11 34 7 (C2.1 34 7)))
    rw [nI_0] at l2'
    refine ⟨_, _, _, rfl, ?_, I_news hI k3 (fk_back l4)⟩
    unfold fX8_walls
    have z : ¬ C2.1 34 5 = 0 := by rw [c34, b1, l_0, nI_eq (by omega) (by omega)]; exact n0
    rw [if_neg z, e7]
    rw [e7] at l2'
    exact l2'
