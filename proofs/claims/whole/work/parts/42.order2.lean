/-- nothing but these cells, trace and fault is changed -/
theorem sp_order {M : ow_M} (hI : ow_I M) (a1 a2 a3 a4 a5 : Int32) : ∃ r M1 M2, fX7_order a1 a2 a3 a4 a5 M = some (r, M1) ∧ fX8_order a1 a2 a3 a4 a5 M1 = some (r, M2) ∧ ow_I M2 := by
  obtain ⟨n, lp, g, rc, hA, hB, hR, hS, hT, hF⟩ := id hI
  obtain ⟨h0, h7, hn, he, hl, hg, hw, hv⟩ := id hA
  obtain ⟨b1, b2, b3, b4⟩ := id hB
  unfold fX7_order
  rcases g_S a1 with ⟨k, hk, rfl, e1, e2⟩ | ⟨e1, e2⟩
  · have hi : ow_inn (nI k) 4 := (inn_nI (by omega)).mpr hk
    have hc : (nI k).toNatClampNeg = k := nI_clamp (by omega)
    rcases g_L a2 with ⟨la, hla, rfl, l1, l2⟩ | ⟨l1, l2⟩
    · simp only [e1, l1, ow_obs, ow_10, reduceIte, if_pos hi, hc]
      have fin2 : fX8_within a5 0 1 = some 0 → ∃ r M1 M2, some ((-2 : Int32), ow_up M 0 8 0) = some (r, M1) ∧ fX8_order (nI k) (nI la) a3 a4 a5 M1 = some (r, M2) ∧ ow_I M2 := by
        intro hw
        refine ⟨_, _, _, rfl, ?_, ow_I_ff hI 0⟩
        unfold fX8_order
        simp only [e2, l2, hw, ow_obs, ow_10, reduceIte]
      by_cases c0 : a5 < 0
      · rw [if_pos c0]
        exact fin2 (by unfold fX8_within; rw [if_pos c0])
      · rw [if_neg c0]
        by_cases c1 : a5 ≤ 1
        · rw [if_pos c1]
          have w1 : fX8_within a5 0 1 = some 1 := by
            unfold fX8_within
            rw [if_neg c0, if_neg (Int32.not_lt.mpr c1)]
          have hS1 : iS (ow_up M 0 8 0) := by
            intro q hq
            match q, hq with
            | 0, hq => exact hS 0 hq
            | 1, hq => exact hS 1 hq
            | 2, hq => exact hS 2 hq
            | 3, hq => exact hS 3 hq
          have ag : ∀ N : ow_M, N.1 35 = M.1 35 → N.1 36 = M.1 36 → ∀ f, fX8_against (nI k) (nI la) a3 a4 M = some f → fX8_against (nI k) (nI la) a3 a4 N = some f := by
            intro N h1 h2 f hf
            unfold fX8_against jX8_against_23 at hf ⊢
            rw [h1, h2]
            exact hf
          rcases g_F (M := ow_up M 0 8 0) (N := M) hS1 rfl rfl hk hla a3 a4 with ⟨a, b, len, hab, h5, rfl, rfl, hlen, ht, hln, f1, f2⟩ | ⟨f, hf, f1, f2⟩
          · simp only [f1, ow_obs, reduceIte]
            unfold fX0_isThere
            have hn2 : (ow_up M 0 8 0).1 2 0 = nI n := hn
            rw [hn2]
            by_cases n0 : n = 0
            · subst n0
              rw [if_pos (by decide), ow_obs, if_pos rfl]
              refine ⟨_, _, _, rfl, ?_, ow_I_ff hI 0⟩
              unfold fX8_order
              have z5 : (ow_up (ow_up M 0 8 0) 34 0 0).1 34 5 = 0 := b1
              simp only [e2, l2, w1, ag (ow_up (ow_up M 0 8 0) 34 0 0) rfl rfl _ f2, ow_obs, ow_10, reduceIte, if_pos z5]
            · have np : ¬ nI n ≤ 0 := nI_nle (by omega) (by omega)
              rw [if_neg np, ow_obs, if_neg (by decide)]
              by_cases hbn : nI b = nI n
              · have hb : b = n := (nI_eq (by omega) (by omega)).mp hbn
                subst hb
                rw [if_pos rfl]
                unfold fX2_readPlaces
                rw [fill_eq _ _ _ (by decide), ow_obs]
                have base : ∀ D : ow_M, D.1 34 5 = nI b → (∀ i, i < 50 → D.1 37 (50 * k + i) = M.1 (27 + 2 * k) i) → _ := fun D h1 h2 => rd_join (n := b) (k := k) (a := a) (len := len) h7 hk hab h5 a5 ow_N 0 0 (ow_fi (ow_up M 0 8 0) 17 0 7 (-9)) D (by omega) (by unfold ow_N; omega) (by decide) (cw_no b (by omega)) (by rw [fi_c (by decide)]; exact hn) h1 (by rw [fi_c (by omega)]; exact hlen) (fun i hi => by rw [fi_c (by omega), ow_up_c (by omega)]; exact h2 i hi) (fun q hq => Or.inl ⟨Nat.zero_testBit q, fi_in (by omega)⟩)
                have z5 : ∀ N : ow_M, N.1 34 5 = M.1 34 5 → ¬ N.1 34 5 = 0 := by
                  intro N h1 h2
                  rw [h1, b1, l_0, nI_eq (by omega) (by omega)] at h2
                  omega
                -- the class's walk does not depend on the reference's memory
                rcases base M b1 (fun i hi => (hS k hk).2.2 i hi) with ⟨C2, D2, c1, c2, c3, c4⟩ | ⟨C2, D2, S2, c1, c2, c3, c5, c6⟩
                · have c3' := c3 (fun _ M14 => some (1, M14))
                  rw [nI_0] at c3'
                  rw [c3', ow_bd_eq, if_pos rfl]
                  rcases base (ow_up C2 34 0 0) (by rw [ow_up_f (Or.inr (by decide)), c1 34 (by decide), fi_c (by decide), ow_up_c (by decide)]; exact b1) (fun i hi => by rw [ow_up_c (by decide), c1 37 (by decide), fi_c (by decide), ow_up_c (by decide)]; exact (hS k hk).2.2 i hi) with ⟨C3, D3, d1, d2, d3, d4⟩ | ⟨C3, D3, S3, d1, d2, d3, d5, d6⟩
                  · refine ⟨_, _, D3, rfl, ?_, ?_⟩
                    · unfold fX8_order
                      have w34 : (ow_up C2 34 0 0).1 34 5 = M.1 34 5 := by rw [ow_up_f (Or.inr (by decide)), c1 34 (by decide), fi_c (by decide), ow_up_c (by decide)]
                      have d4' := d4 (fun u22 u23 M24 => (if a5 = 1 then Option.bind (fX8_barred M24) (fun v32 => some (v32, M24)) else Option.bind (fX8_barred M24) (fun v27 => (if v27 = (-9) then Option.bind (fX8_changes M24) (fun v30 => some (v30, M24)) else some ((-9), M24)))))
                      rw [nI_0] at d4'
                      have q5 : nI b = (ow_up C2 34 0 0).1 34 5 := by rw [w34, b1]
                      simp only [e2, l2, w1, ag (ow_up C2 34 0 0) (by rw [ow_up_c (by decide), c1 35 (by decide), fi_c (by decide), ow_up_c (by decide)]) (by rw [ow_up_c (by decide), c1 36 (by decide), fi_c (by decide), ow_up_c (by decide)]) _ f2, ow_obs, ow_10, reduceIte, if_neg (z5 _ w34), if_pos q5, d4']
                    · refine ow_I_tf hI (fun x hx => ?_) (fun j hj => ?_) ?_ ?_
                      · have ne := key_s x hx
                        have n17 : x ≠ 17 := fun z => ne (by rw [z]; decide)
                        have n50 : x ≠ 50 := fun z => ne (by rw [z]; decide)
                        rw [d2 x n50, ow_up_c (key_0 x hx).2, c1 x n17, fi_c n17, ow_up_c (key_0 x hx).1]
                      · rw [d2 34 (by decide), j34 (Or.inl rfl) j hj, c1 34 (by decide), fi_c (by decide), ow_up_c (by decide)]
                      · rw [d2 34 (by decide), d2 0 (by decide), ow_up_f (Or.inr (by decide)), ow_up_c (by decide), c1 34 (by decide), c1 0 (by decide), fi_c (by decide), fi_c (by decide), ow_up_c (by decide), ow_up_f (Or.inr (by decide))]
                        exact hT
                      · rw [d2 34 (by decide), d2 0 (by decide), ow_up_s, ow_up_c (by decide), c1 0 (by decide), fi_c (by decide), ow_up_s]
                  · exfalso
                    have := (c3 (fun _ _ => none)).symm.trans (d5 (fun _ _ => none))
                    cases this
                · have c5' := c5 (fun _ M14 => some (1, M14))
                  rw [nI_0] at c5'
                  rw [c5', ow_bd_eq, if_neg (by decide)]
                  rcases base (ow_up C2 34 0 0) (by rw [ow_up_f (Or.inr (by decide)), c1 34 (by decide), fi_c (by decide), ow_up_c (by decide)]; exact b1) (fun i hi => by rw [ow_up_c (by decide), c1 37 (by decide), fi_c (by decide), ow_up_c (by decide)]; exact (hS k hk).2.2 i hi) with ⟨C3, D3, d1, d2, d3, d4⟩ | ⟨C3, D3, S3, d1, d2, d3, d5, d6⟩
                  · exfalso
                    have := (c5 (fun _ _ => none)).symm.trans (d3 (fun _ _ => none))
                    cases this
                  · have eC : C3 = C2 := by
                      have := (c5 (fun _ N => some (0, N))).symm.trans (d5 (fun _ N => some (0, N)))
                      exact (Prod.mk.inj (Option.some.inj this)).2.symm
                    subst eC
                    have w34 : (ow_up C3 34 0 0).1 34 5 = M.1 34 5 := by rw [ow_up_f (Or.inr (by decide)), c1 34 (by decide), fi_c (by decide), ow_up_c (by decide)]
                    have hO : iO C3 D3 b := by
                      refine ⟨?_, ?_, fun q hq => ⟨d3 q hq, ?_⟩⟩
                      · rw [c1 2 (by decide), fi_c (by decide)]; exact hn
                      · rw [d2 34 (by decide), w34]; exact b1
                      · rw [d2 39 (by decide), ow_up_c (by decide), c1 39 (by decide), fi_c (by decide), ow_up_c (by decide), c1 4 (by decide), fi_c (by decide), ow_up_c (by decide)]
                        exact (b4 q hq).2.1
                    obtain ⟨vb, p1, p2⟩ := bar_out h7 hO ow_N 0 (by omega) (by unfold ow_N; omega)
                    obtain ⟨vc, p3, p4⟩ := chg_out h7 hO ow_N 0 0 (by omega) (by unfold ow_N; omega)
                    rw [nI_0] at p1 p2 p3 p4
                    have p1 : fX2_firstBar C3 = some vb := p1
                    have p2 : fX8_barred D3 = some vb := p2
                    have p3 : fX2_changes C3 = some vc := p3
                    have p4 : fX8_changes D3 = some vc := p4
                    have d6' := d6 (fun u22 u23 M24 => (if a5 = 1 then Option.bind (fX8_barred M24) (fun v32 => some (v32, M24)) else Option.bind (fX8_barred M24) (fun v27 => (if v27 = (-9) then Option.bind (fX8_changes M24) (fun v30 => some (v30, M24)) else some ((-9), M24)))))
                    rw [nI_0] at d6'
                    have q5 : nI b = (ow_up C3 34 0 0).1 34 5 := by rw [w34, b1]
                    have hI2 : ow_I D3 := by
                      refine ow_I_tf hI (fun x hx => ?_) (fun j hj => ?_) ?_ ?_
                      · have ne := key_s x hx
                        have n17 : x ≠ 17 := fun z => ne (by rw [z]; decide)
                        have n50 : x ≠ 50 := fun z => ne (by rw [z]; decide)
                        rw [d2 x n50, ow_up_c (key_0 x hx).2, c1 x n17, fi_c n17, ow_up_c (key_0 x hx).1]
                      · rw [d2 34 (by decide), j34 (Or.inl rfl) j hj, c1 34 (by decide), fi_c (by decide), ow_up_c (by decide)]
                      · rw [d2 34 (by decide), d2 0 (by decide), ow_up_f (Or.inr (by decide)), ow_up_c (by decide), c1 34 (by decide), c1 0 (by decide), fi_c (by decide), fi_c (by decide), ow_up_c (by decide), ow_up_f (Or.inr (by decide))]
                        exact hT
                      · rw [d2 34 (by decide), d2 0 (by decide), ow_up_s, ow_up_c (by decide), c1 0 (by decide), fi_c (by decide), ow_up_s]
                    have model : fX8_order (nI k) (nI la) (nI a) (nI b) a5 C3 = (if a5 = 1 then some (vb, D3) else if vb = -9 then some (vc, D3) else some (-9, D3)) := by
                      unfold fX8_order
                      simp only [e2, l2, w1, ag (ow_up C3 34 0 0) (by rw [ow_up_c (by decide), c1 35 (by decide), fi_c (by decide), ow_up_c (by decide)]) (by rw [ow_up_c (by decide), c1 36 (by decide), fi_c (by decide), ow_up_c (by decide)]) _ f2, ow_obs, ow_10, reduceIte, if_neg (z5 _ w34), if_pos q5, d6', p2, p4]
                    rw [p1, ow_obs, p3, ow_obs]
                    by_cases x1 : a5 = 1
                    · rw [if_pos x1] at model ⊢
                      exact ⟨_, _, _, rfl, model, hI2⟩
                    · rw [if_neg x1] at model ⊢
                      by_cases x2 : vb = -9
                      · rw [if_pos x2] at model ⊢
                        exact ⟨_, _, _, rfl, model, hI2⟩
                      · rw [if_neg x2] at model ⊢
                        exact ⟨_, _, _, rfl, model, hI2⟩
              · rw [if_neg (fun z => hbn z)]
                refine ⟨_, _, _, rfl, ?_, ow_I_ff hI 0⟩
                unfold fX8_order
                have z5 : ¬ (ow_up (ow_up M 0 8 0) 34 0 0).1 34 5 = 0 := by
                  show ¬ M.1 34 5 = 0
                  rw [b1, l_0, nI_eq (by omega) (by omega)]
                  exact n0
                have z6 : ¬ nI b = (ow_up (ow_up M 0 8 0) 34 0 0).1 34 5 := fun z => hbn (z.trans b1)
                simp only [e2, l2, w1, ag (ow_up (ow_up M 0 8 0) 34 0 0) rfl rfl _ f2, ow_obs, ow_10, reduceIte, if_neg z5, if_neg z6]
          · have fne : ¬ f = 0 := by
              rcases hf with rfl | rfl | rfl | rfl <;> decide
            simp only [f1, ow_obs, if_neg fne]
            refine ⟨_, _, _, rfl, ?_, ow_I_ff2 hI f 0⟩
            unfold fX8_order
            simp only [e2, l2, w1, ag (ow_up (ow_up (ow_up M 0 8 0) 0 8 f) 34 0 0) rfl rfl _ f2, ow_obs, ow_10, reduceIte, if_neg fne]
            rfl
        · rw [if_neg c1]
          exact fin2 (by unfold fX8_within; rw [if_neg c0, if_pos (Int32.not_le.mp c1)])
    · simp only [e1, l1, ow_obs, ow_10, reduceIte]
      refine ⟨_, _, _, rfl, ?_, ow_I_ff hI 0⟩
      unfold fX8_order
      simp only [e2, l2, ow_obs, ow_10, reduceIte]
  · rw [e1]
    refine ⟨_, _, _, rfl, ?_, ow_I_ff hI 0⟩
    unfold fX8_order
    rw [e2]
    rfl
