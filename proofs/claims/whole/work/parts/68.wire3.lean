theorem kd_3 (c : Int32) : ∃ v, v < 3 ∧ kdf c = nI v := by
  unfold kdf
  split
  · exact ⟨2, by decide, rfl⟩
  · split
    · exact ⟨1, by decide, rfl⟩
    · exact ⟨0, by decide, rfl⟩
theorem dgt_v {T : Nat → Int32} {hi j : Nat} (hh : hi < 10) (h : dgO hi (T j) = true) : ∃ v, v < hi + 1 ∧ T j - 48 = nI v := by
  obtain ⟨d, d1, d2⟩ := dg_v hh h
  refine ⟨d, by omega, ?_⟩
  rw [d2, l_48, pk_sub (by omega)]
  congr 1; omega
theorem sp_wire {M : ow_M} (hI : ow_I M) (a1 a2 a3 a4 : Int32) : ∃ r M1 M2, fX7_wire a1 a2 a3 a4 M = some (r, M1) ∧ fX8_wire a1 a2 a3 a4 M1 = some (r, M2) ∧ ow_I M2 := by
  obtain ⟨n, lp0, g, rc, hA, hB, hR, hS, hT, hF⟩ := id hI
  unfold fX7_wire
  rcases g_S a1 with ⟨k, hk, rfl, e1, e2⟩ | ⟨e1, e2⟩
  · have hi : ow_inn (nI k) 4 := (inn_nI (by omega)).mpr hk
    have hc : (nI k).toNatClampNeg = k := nI_clamp (by omega)
    rcases g_L a2 with ⟨la, hla, rfl, l1, l2⟩ | ⟨l1, l2⟩
    · simp only [e1, l1, ow_obs, ow_10, reduceIte, if_pos hi, hc]
      have hS1 : iS (ow_up M 0 8 0) := by
        intro q hq
        match q, hq with
        | 0, hq => exact hS 0 hq
        | 1, hq => exact hS 1 hq
        | 2, hq => exact hS 2 hq
        | 3, hq => exact hS 3 hq
      have ag : ∀ N : ow_M, N.1 35 = M.1 35 → N.1 36 = M.1 36 → ∀ f, fX8_against (nI k) (nI la) a3 a4 M = some f → fX8_against (nI k) (nI la) a3 a4 N = some f := by
        intro N h1 h2 f hf
        unfold fX8_against jX8_against_23 at hf ⊢
        rw [h1, h2]
        exact hf
      rcases g_F (M := ow_up M 0 8 0) (N := M) hS1 rfl rfl hk hla a3 a4 with ⟨a, b, len, hab, h5, rfl, rfl, hlen, ht, hln, f1, f2⟩ | ⟨f, hf, f1, f2⟩
      · rw [f1, ow_obs, if_pos rfl]
        -- the text
        have hTc : ∃ T : Nat → Int32, (∀ j, j < b → M.1 (26 + 2 * k + 1) (a + j) = T j) := ⟨fun j => M.1 (26 + 2 * k + 1) (a + j), fun _ _ => rfl⟩
        obtain ⟨T, hTc⟩ := hTc
        have hTm : ∀ j, j < b → M.1 37 (50 * k + a + j) = T j := by
          intro j hj
          rw [← hTc j hj, show 26 + 2 * k + 1 = 27 + 2 * k by omega, Nat.add_assoc]
          exact (hS k hk).2.2 (a + j) (by omega)
        have hb200 : 50 * k + a + b ≤ 200 := by omega
        have eb : (50 : Int32) * nI k + nI a = nI (50 * k + a) := by rw [l_50, pk_mul, nI_add]
        have hmem : 26 + 2 * k ≠ 0 ∧ 26 + 2 * k + 1 ≠ 0 := by omega
        have hff := ff_c (M := ow_up M 0 8 0) (T := T) (o := 26 + 2 * k) (a := a) (b := b) hlen h5 hab (fun j hj => by rw [ow_up_c hmem.2]; exact hTc j hj) ow_N 0 (by omega) (fun i hi => by omega) (by unfold ow_N; omega)
        rw [nI_0] at hff
        have model : ∀ N : ow_M, (∀ x, x = 35 ∨ x = 36 ∨ x = 37 → N.1 x = M.1 x) → ∃ r D', fX8_readWire (nI (50 * k + a + b)) (ow_up (ow_up N 34 0 0) 34 12 (nI (50 * k + a))) = some (r, D') ∧ fU (ow_up (ow_up N 34 0 0) 34 12 (nI (50 * k + a))) D' ∧ ((r = 0 ∧ ∃ i, isF T b i ∧ D'.1 34 12 = nI (50 * k + a + i)) ∨ (r = 1 ∧ ∃ q, b = 2 + 5 * q ∧ 2 ≤ q ∧ q ≤ 7 ∧ OKt T b ∧ D'.1 34 13 = nI q ∧ D'.1 34 14 = T 1 - 48 ∧ rowsP T D' 42 43 44 45 q)) := by
          intro N hN
          exact rw_e hb200 (fun j hj => by rw [ow_up_c (by decide), ow_up_c (by decide), hN 37 (by decide)]; exact hTm j hj) ow_up_s
        have wire8 : ∀ N : ow_M, (∀ x, x = 35 ∨ x = 36 ∨ x = 37 → N.1 x = M.1 x) → fX8_wire (nI k) (nI la) (nI a) (nI b) N = ow_bd (fX8_readWire (nI (50 * k + a + b)) (ow_up (ow_up N 34 0 0) 34 12 (nI (50 * k + a)))) (fun v11 M12 => (if v11 = 0 then some (((-100) - ((M12.1 34 12) - nI (50 * k + a))), M12) else (if ((ow_up M12 34 5 (M12.1 34 13)).1 34 14) = 1 then jX8_wire_106 1 (ow_up M12 34 5 (M12.1 34 13)) else jX8_wire_106 0 (ow_up M12 34 5 (M12.1 34 13))))) := by
          intro N hN
          unfold fX8_wire
          rw [e2, ow_obs, if_neg (by decide), l2, ow_obs, if_neg (by decide), ag (ow_up N 34 0 0) (by rw [ow_up_c (by decide)]; exact hN 35 (by decide)) (by rw [ow_up_c (by decide)]; exact hN 36 (by decide)) _ f2, ow_obs, if_pos rfl, eb, nI_add]
        rcases hff with ⟨i, isf, hff⟩ | ⟨sc, hff⟩
        · have hff' : fX7_firstFault (26 + 2 * k) (nI a) (nI b) (ow_up M 0 8 0) = some (nI i) := by unfold fX7_firstFault; exact hff
          have hib := isf.1
          rw [hff', ow_obs, if_neg (fun w => (nI_m9 (by omega)).mp w)]
          have hN : ∀ x, x = 35 ∨ x = 36 ∨ x = 37 → (ow_up M 0 8 0).1 x = M.1 x := fun x hx => ow_up_c (by omega)
          obtain ⟨r, D', k1, k2, k3⟩ := model (ow_up M 0 8 0) hN
          rcases k3 with ⟨rfl, i2, j1, j2⟩ | ⟨_, q, j1, j2, j3, j4, _⟩
          · have : i2 = i := isF_u j1 isf
            subst this
            refine ⟨_, _, D', rfl, ?_, ?_⟩
            · rw [wire8 _ hN, k1, ow_bd_eq, if_pos rfl, j2, pk_sub (by omega), Nat.add_sub_cancel_left]
            · refine ow_I_tf hI (fun x hx => ?_) (fun j hj => ?_) ?_ ?_
              · have ne := key_s x hx
                have nx : x ∉ [34, 42, 43, 44, 45] := fun w => ne (by simp only [List.mem_cons, List.not_mem_nil, or_false] at w ⊢; omega)
                rw [k2.1 x nx, ow_up_c (key_0 x hx).2, ow_up_c (key_0 x hx).2, ow_up_c (key_0 x hx).1]
              · have nj : j ≠ 12 ∧ j ≠ 13 ∧ j ≠ 14 ∧ j ≠ 0 := by simp only [List.mem_cons, List.not_mem_nil, or_false] at hj; omega
                rw [k2.2 j nj.1 nj.2.1 nj.2.2.1, ow_up_f (Or.inr nj.1), ow_up_f (Or.inr nj.2.2.2), ow_up_c (by decide)]
              · rw [k2.2 1 (by decide) (by decide) (by decide), k2.1 0 (by decide), ow_up_f (Or.inr (by decide)), ow_up_f (Or.inr (by decide)), ow_up_c (by decide), ow_up_c (by decide), ow_up_c (by decide), ow_up_f (Or.inr (by decide))]
                exact hT
              · rw [k2.2 0 (by decide) (by decide) (by decide), k2.1 0 (by decide), ow_up_f (Or.inr (by decide)), ow_up_s, ow_up_c (by decide), ow_up_c (by decide), ow_up_s]
          · exfalso
            exact isF_s isf ⟨j4, by omega, by omega⟩
        · have hff' : fX7_firstFault (26 + 2 * k) (nI a) (nI b) (ow_up M 0 8 0) = some (-9) := by unfold fX7_firstFault; exact hff
          obtain ⟨sok, s12, s5⟩ := id sc
          have hb37 : b ≤ 37 := by
            rcases Nat.lt_or_ge 37 b with w | w
            · have := sok 37 w
              have z : gO 37 (T 37) = false := rfl
              rw [z] at this; cases this
            · exact w
          obtain ⟨q, hbq⟩ : ∃ q, b = 2 + 5 * q := ⟨(b - 2) / 5, by omega⟩
          obtain ⟨d, hd, hdT⟩ := dg_v (show 1 < 10 by decide) (by have := sok 1 (by omega); rw [gO_1] at this; exact this)
          have hlp : T 1 = nI (48 + (if decide (d = 1) then 1 else 0)) := by
            rw [hdT]
            rcases (show d = 0 ∨ d = 1 by omega) with w | w <;> rw [w] <;> rfl
          generalize decide (d = 1) = lp at hlp
          obtain ⟨C2, t1, t2, t3, t4, t5, t6, t7⟩ := tk_e (M := ow_up M 0 8 0) (T := T) (o := 26 + 2 * k) (a := a) (b := b) (len := len) (q := q) (lp := lp) (by omega) hlen h5 hab (by omega) (by omega) hbq (fun j hj => by rw [ow_up_c hmem.2]; exact hTc j hj) hlp
          rw [hff', ow_obs, if_pos rfl, t1, ow_obs]
          have hN : ∀ x, x = 35 ∨ x = 36 ∨ x = 37 → (ow_up C2 21 0 0).1 x = M.1 x := fun x hx => by
            rw [ow_up_c (by omega), t2 x (by simp only [List.mem_cons, List.not_mem_nil, or_false]; omega), ow_up_c (by omega)]
          obtain ⟨r, D', k1, k2, k3⟩ := model (ow_up C2 21 0 0) hN
          rcases k3 with ⟨_, i2, j1, _⟩ | ⟨rfl, q2, j1, j2, j3, j4, j5, j6, j7⟩
          · exact absurd sc (fun w => isF_s j1 w)
          · have : q2 = q := by omega
            subst this
            have e14 : D'.1 34 14 = bI lp := by
              rw [j6, hlp, l_48, pk_sub (by omega), Nat.add_sub_cancel_left]
              cases lp <;> rfl
            have base : ∃ D5, jX8_wire_106 (bI lp) (ow_up D' 34 5 (nI q2)) = some (nI q2, D5) ∧ ow_I D5 := by
              unfold jX8_wire_106
              rw [if_pos (bI_or lp)]
              obtain ⟨D5, m1, m2, m3⟩ := w122 (q := q2) j3 ow_N 0 (ow_up (ow_up (ow_up (ow_up D' 34 5 (nI q2)) 34 6 (bI lp)) 34 7 0) 34 27 0) (by rw [ow_up_f (Or.inr (by decide)), ow_up_f (Or.inr (by decide)), ow_up_f (Or.inr (by decide)), ow_up_s]) (by omega) (by unfold ow_N; omega) (fun j hj => by omega)
              rw [nI_0] at m1
              have d34 : D5.1 34 = (ow_up (ow_up (ow_up (ow_up D' 34 5 (nI q2)) 34 6 (bI lp)) 34 7 0) 34 27 0).1 34 := m2 34 (by decide)
              have v5 : D5.1 34 5 = nI q2 := by rw [d34, ow_up_f (Or.inr (by decide)), ow_up_f (Or.inr (by decide)), ow_up_f (Or.inr (by decide)), ow_up_s]
              have v6 : D5.1 34 6 = bI lp := by rw [d34, ow_up_f (Or.inr (by decide)), ow_up_f (Or.inr (by decide)), ow_up_s]
              have v7 : D5.1 34 7 = nI 0 := by rw [d34, ow_up_f (Or.inr (by decide)), ow_up_s]; rfl
              have v27 : D5.1 34 27 = nI 0 := by rw [d34, ow_up_s]; rfl
              have vj : ∀ j, j = 0 ∨ j = 1 → D5.1 34 j = (ow_up (ow_up C2 21 0 0) 34 0 0).1 34 j := fun j hj => by
                rw [d34, ow_up_f (Or.inr (by omega)), ow_up_f (Or.inr (by omega)), ow_up_f (Or.inr (by omega)), ow_up_f (Or.inr (by omega)), k2.2 j (by omega) (by omega) (by omega), ow_up_f (Or.inr (by omega))]
              have xx : ∀ x, x ∉ [34, 38, 39, 40, 41, 42, 43, 44, 45] → D5.1 x = (ow_up C2 21 0 0).1 x := fun x hx => by
                simp only [List.mem_cons, List.not_mem_nil, or_false] at hx
                rw [m2 x (by simp only [List.mem_cons, List.not_mem_nil, or_false]; omega), ow_up_c (by omega), ow_up_c (by omega), ow_up_c (by omega), ow_up_c (by omega), k2.1 x (by simp only [List.mem_cons, List.not_mem_nil, or_false]; omega), ow_up_c (by omega), ow_up_c (by omega)]
              have xM : ∀ x, x ∉ [0, 2, 3, 4, 5, 6, 7, 21, 34, 38, 39, 40, 41, 42, 43, 44, 45] → D5.1 x = M.1 x := fun x hx => by
                simp only [List.mem_cons, List.not_mem_nil, or_false] at hx
                rw [xx x (by simp only [List.mem_cons, List.not_mem_nil, or_false]; omega), ow_up_c (by omega), t2 x (by simp only [List.mem_cons, List.not_mem_nil, or_false]; omega), ow_up_c (by omega)]
              have x0 : D5.1 0 = (ow_up M 0 8 0).1 0 := by rw [xx 0 (by decide), ow_up_c (by decide), t2 0 (by decide)]
              have r42 : rowsP T D5 38 39 40 41 q2 := fun i hi => by
                obtain ⟨a1, a2, a3, a4⟩ := m3 i hi
                rw [a1, a2, a3, a4, m2 42 (by decide), m2 43 (by decide), m2 44 (by decide), m2 45 (by decide), ow_up_c (by decide), ow_up_c (by decide), ow_up_c (by decide), ow_up_c (by decide), ow_up_c (by decide), ow_up_c (by decide), ow_up_c (by decide), ow_up_c (by decide), ow_up_c (by decide), ow_up_c (by decide), ow_up_c (by decide), ow_up_c (by decide), ow_up_c (by decide), ow_up_c (by decide), ow_up_c (by decide), ow_up_c (by decide)]
                exact j7 i hi
              have r3 : rowsP T D5 3 4 5 6 q2 := fun i hi => by
                rw [xx 3 (by decide), xx 4 (by decide), xx 5 (by decide), xx 6 (by decide), ow_up_c (by decide), ow_up_c (by decide), ow_up_c (by decide), ow_up_c (by decide)]
                exact t6 i hi
              have d2 : D5.1 2 = C2.1 2 := by rw [xx 2 (by decide), ow_up_c (by decide)]
              have d7 : D5.1 7 = C2.1 7 := by rw [xx 7 (by decide), ow_up_c (by decide)]
              refine ⟨D5, ?_, q2, lp, 0, 0, ⟨Or.inr j2, j3, ?_, ?_, ?_, Nat.pow_pos (by decide), ?_, ?_⟩, ⟨v5, v6, v7, ?_⟩, ⟨by decide, ?_, v27, fun i hi => by omega⟩, ?_, ?_, ?_⟩
              · refine (m1 _).trans ?_
                rw [v5]
              · rw [d2]; exact t3
              · rw [d2]; exact t4
              · rw [d2]; exact t5
              · intro i hi7; rw [d7, t7 i hi7, Nat.zero_testBit]; rfl
              · intro i hi7
                obtain ⟨a1, a2, a3, a4⟩ := r3 i hi7
                rw [a1, a2, a3, a4]
                have o2 := sok (2 + 2 + 5 * i) (by omega)
                have o3 := sok (2 + 3 + 5 * i) (by omega)
                have o4 := sok (2 + 4 + 5 * i) (by omega)
                rw [gO_r (by omega) (by decide)] at o2 o3 o4
                exact ⟨kd_3 _, dgt_v (hi := 9) (by decide) o2, dgt_v (hi := 3) (by decide) o3, dgt_v (hi := 3) (by decide) o4⟩
              · intro i hi7
                obtain ⟨a1, a2, a3, a4⟩ := r3 i hi7
                obtain ⟨c1, c2, c3, c4⟩ := r42 i hi7
                rw [a1, a2, a3, a4, c1, c2, c3, c4]
                exact ⟨rfl, rfl, rfl, rfl⟩
              · rw [xx 21 (by decide), ow_up_s]; rfl
              · intro y hy
                have s1 : D5.1 (26 + 2 * y) = M.1 (26 + 2 * y) := xM _ (by simp only [List.mem_cons, List.not_mem_nil, or_false]; omega)
                have s2 : D5.1 (27 + 2 * y) = M.1 (27 + 2 * y) := xM _ (by simp only [List.mem_cons, List.not_mem_nil, or_false]; omega)
                rw [s1, s2, xM 35 (by decide), xM 36 (by decide), xM 37 (by decide)]
                exact hS y hy
              · rw [vj 1 (Or.inr rfl), x0, ow_up_f (Or.inr (by decide)), ow_up_c (by decide), t2 34 (by decide), ow_up_c (by decide), ow_up_f (Or.inr (by decide))]
                exact hT
              · rw [vj 0 (Or.inl rfl), x0, ow_up_s, ow_up_s]
            obtain ⟨D5, w1, w2⟩ := base
            have er : (ow_up C2 21 0 0).1 2 0 = nI q2 := by rw [ow_up_c (by decide)]; exact t3
            refine ⟨_, _, D5, rfl, ?_, w2⟩
            rw [er, wire8 _ hN, k1, ow_bd_eq, if_neg (by decide), j5, ow_up_f (Or.inr (by decide)), e14]
            cases lp with
            | true => rw [if_pos (by rfl)]; exact w1
            | false => rw [if_neg (by decide)]; exact w1
      · have fne : ¬ f = 0 := by
          rcases hf with rfl | rfl | rfl | rfl <;> decide
        simp only [f1, ow_obs, if_neg fne, fX7_failed, ow_bd_eq]
        refine ⟨_, _, _, rfl, ?_, ow_I_ff2 hI f 0⟩
        unfold fX8_wire
        simp only [e2, l2, ow_obs, ow_10, reduceIte, ag (ow_up (ow_up (ow_up M 0 8 0) 0 8 f) 34 0 0) rfl rfl _ f2, if_neg fne, fX8_fails, ow_bd_eq]
    · simp only [e1, l1, ow_obs, ow_10, reduceIte]
      refine ⟨_, _, _, rfl, ?_, ow_I_ff hI 0⟩
      unfold fX8_wire
      simp only [e2, l2, ow_obs, ow_10, reduceIte]
  · simp only [e1, ow_obs, reduceIte]
    refine ⟨_, _, _, rfl, ?_, ow_I_ff hI 0⟩
    unfold fX8_wire
    simp only [e2, ow_obs, reduceIte]
