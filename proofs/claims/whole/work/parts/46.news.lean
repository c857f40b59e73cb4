def ow_all : List Nat := [0, 2, 3, 4, 5, 6, 7, 21, 22, 23, 24, 25, 26, 27, 28, 29, 30, 31, 32, 33, 35, 36, 37, 38, 39, 40, 41, 53, 54, 55, 56]
theorem all_x : ∀ a, a ∈ ow_all → a ∉ [1, 8, 9, 10, 11, 12, 13, 14, 15, 16, 17, 18, 19, 20, 34, 42, 43, 44, 45, 46, 47, 48, 49, 50, 51, 52] := by decide
theorem all_ne {a b : Nat} (h : a ∈ ow_all) (hb : b ∈ [1, 8, 9, 10, 11, 12, 13, 14, 15, 16, 17, 18, 19, 20, 34, 42, 43, 44, 45, 46, 47, 48, 49, 50, 51, 52]) : a ≠ b := fun e => all_x a h (e ▸ hb)
theorem I_news {M C D : ow_M} (hI : ow_I M) (x : ow_xx 9 10 M C) (y : ow_xx 46 47 C D) : ow_I D := by
  refine ow_I_eq (M := M) (fun a ha => ?_) (fun j _ => ?_) hI
  · rw [y a (all_ne ha (by decide)) (all_ne ha (by decide)), x a (all_ne ha (by decide)) (all_ne ha (by decide))]
  · rw [y 34 (by decide) (by decide), x 34 (by decide) (by decide)]
theorem FC_of {M : ow_M} {n : Nat} {lp : Bool} {g : Nat} (hA : iA M n lp g) (h2 : 2 ≤ n) : FC M n lp g := by
  obtain ⟨h0, h7, hn, he, hl, hg, hw, hv⟩ := hA
  exact ⟨h2, h7, g128 h7 hg, hn, he, hw, fun i hi => (hv i hi).1⟩
theorem n2_of {n k : Nat} {lp : Bool} (h : n = 0 ∧ lp = false ∨ 2 ≤ n) (hk : k < n) : 2 ≤ n := by
  rcases h with ⟨h, _⟩ | h
  · omega
  · exact h
theorem FD_of {M N : ow_M} {n : Nat} {lp : Bool} {g : Nat} (hB : iB M n lp g) (e : N.1 34 = M.1 34) : FD N n lp g := by
  obtain ⟨b1, b2, b3, b4⟩ := hB
  unfold FD
  rw [e]
  exact ⟨b1, b2, b3⟩
theorem KS_of {M N : ow_M} {n : Nat} {lp : Bool} {g : Nat} (hB : iB M n lp g) (e : N.1 38 = M.1 38) (e2 : N.1 39 = M.1 39) : KS M N n := by
  obtain ⟨b1, b2, b3, b4⟩ := hB
  intro i hi
  rw [e, e2]
  exact ⟨(b4 i hi).1, (b4 i hi).2.1⟩
theorem sp_news {M : ow_M} (hI : ow_I M) (a1 a2 a3 a4 : Int32) : ∃ r M1 M2, fX7_news a1 a2 a3 a4 M = some (r, M1) ∧ fX8_news a1 a2 a3 a4 M1 = some (r, M2) ∧ ow_I M2 := by
  obtain ⟨n, lp, g, rc, hA, hB, hR, hS, hT, hF⟩ := id hI
  obtain ⟨h0, h7, hn, he, hl, hg, hw, hv⟩ := id hA
  obtain ⟨b1, b2, b3, b4⟩ := id hB
  unfold fX7_news
  rcases g_P hn b1 h7 a1 with ⟨f, hf, rfl, e1, e2⟩ | ⟨e1, e2⟩
  · rcases g_P hn b1 h7 a3 with ⟨t, ht, rfl, f1, f2⟩ | ⟨f1, f2⟩
    · rcases g_N a2 with ⟨v, hv, rfl, n1, n2⟩ | ⟨n1, n2⟩
      · simp only [e1, f1, n1, ow_obs, ow_10, reduceIte]
        have out : fX8_within a4 0 1 = some 0 → ∃ r M1 M2, some ((-2 : Int32), M) = some (r, M1) ∧ fX8_news (nI f) (nI v) (nI t) a4 M1 = some (r, M2) ∧ ow_I M2 := by
          intro w0
          refine ⟨_, _, M, rfl, ?_, hI⟩
          unfold fX8_news
          simp only [e2, f2, n2, w0, ow_obs, ow_10, reduceIte]
        by_cases c0 : a4 < 0
        · rw [if_pos c0]
          exact out (by unfold fX8_within; rw [if_pos c0])
        rw [if_neg c0]
        by_cases c1 : a4 ≤ 1
        · rw [if_pos c1]
          have w1 : fX8_within a4 0 1 = some 1 := by
            unfold fX8_within
            rw [if_neg c0, if_neg (Int32.not_lt.mpr c1)]
          have hn2 := n2_of h0 hf
          obtain ⟨C2, D0, k1, -, k3, -, -⟩ := sprd (FC_of hA hn2) (FD_of hB rfl) (KS_of hB rfl rfl) hf (nI v)
          obtain ⟨C3, D2, l1, l2, l3, l4, l5⟩ := sprd (D := C2) (FC_of hA hn2) (FD_of hB (k3 34 (by decide) (by decide))) (KS_of hB (k3 38 (by decide) (by decide)) (k3 39 (by decide) (by decide))) hf (nI v)
          have : C3 = C2 := Option.some.inj (l1.symm.trans k1)
          subst this
          have it : ow_inn (nI t) 7 := (inn_nI (by omega)).mpr (by omega)
          have ct : (nI t).toNatClampNeg = t := nI_clamp (by omega)
          have e3 : fX8_isPerson (nI f) C3 = some 1 := by
            rcases g_P8 (M := C3) (by rw [k3 34 (by decide) (by decide)]; exact b1) h7 (nI f) with ⟨_, _, _, h⟩ | ⟨hx, _⟩
            · exact h
            · exact absurd ⟨f, hf, rfl⟩ hx
          have f3 : fX8_isPerson (nI t) C3 = some 1 := by
            rcases g_P8 (M := C3) (by rw [k3 34 (by decide) (by decide)]; exact b1) h7 (nI t) with ⟨_, _, _, h⟩ | ⟨hx, _⟩
            · exact h
            · exact absurd ⟨t, ht, rfl⟩ hx
          obtain ⟨r1, r2, r3⟩ := l5.1 t ht
          simp only [k1, ow_obs, if_pos it, ct]
          have model : fX8_news (nI f) (nI v) (nI t) a4 C3 = (if D2.1 47 t = -9 then some (-9, D2) else if a4 = 0 then some (D2.1 46 t, D2) else some (D2.1 47 t, D2)) := by
            unfold fX8_news
            simp only [e3, f3, n2, w1, l2, ow_obs, ow_10, reduceIte, if_pos it, ct]
          have hI2 := I_news hI k3 l4
          by_cases q : C3.1 10 t = -9
          · rw [r1, if_pos q] at model
            rw [q, r3 q]
            by_cases q0 : a4 = 0
            · rw [if_pos q0]; exact ⟨_, _, _, rfl, model, hI2⟩
            · rw [if_neg q0]; exact ⟨_, _, _, rfl, model, hI2⟩
          · rw [r1, if_neg q, r2 q] at model
            by_cases q0 : a4 = 0
            · rw [if_pos q0] at model ⊢; exact ⟨_, _, _, rfl, model, hI2⟩
            · rw [if_neg q0] at model ⊢; exact ⟨_, _, _, rfl, model, hI2⟩
        · rw [if_neg c1]
          exact out (by unfold fX8_within; rw [if_neg c0, if_pos (Int32.not_le.mp c1)])
      · simp only [e1, f1, n1, ow_obs, ow_10, reduceIte]
        refine ⟨_, _, M, rfl, ?_, hI⟩
        unfold fX8_news
        simp only [e2, f2, n2, ow_obs, ow_10, reduceIte]
    · simp only [e1, f1, ow_obs, ow_10, reduceIte]
      refine ⟨_, _, M, rfl, ?_, hI⟩
      unfold fX8_news
      simp only [e2, f2, ow_obs, ow_10, reduceIte]
  · rw [e1]
    refine ⟨_, _, M, rfl, ?_, hI⟩
    unfold fX8_news
    rw [e2]
    rfl
theorem said_join {n : Nat} {lp : Bool} {g fr to v : Nat} (hfr : fr < n) (hto : to < n) (hv : v < 100) (x4 : Int32) : ∀ (f x : Nat) (c : Int32) (C D : ow_M), FC C n lp g → FD D n lp g → KS C D n → x ≤ 100 → 100 - x < f →
    (∃ y C2 D2, (∀ K, lpX7_said_46 (nI fr) (nI to) (nI v) x4 K f c (nI x) C = some (y, C2)) ∧ (∀ K, lpX8_said_40 (nI fr) (nI to) (nI v) x4 K f c (nI x) D = some (y, D2)) ∧ ow_xx 9 10 C C2 ∧ ow_xx 46 47 D D2) ∨
    (∃ y C2 D2, (∀ K, lpX7_said_46 (nI fr) (nI to) (nI v) x4 K f c (nI x) C = K y (nI 100) C2) ∧ (∀ K, lpX8_said_40 (nI fr) (nI to) (nI v) x4 K f c (nI x) D = K y (nI 100) D2) ∧ ow_xx 9 10 C C2 ∧ ow_xx 46 47 D D2) := by
  intro f
  induction f with
  | zero => intro x c C D _ _ _ _ h; omega
  | succ f ih =>
    intro x c C D hC hD hK hx hf
    unfold lpX7_said_46 lpX8_said_40
    by_cases hh : 100 ≤ x
    · have : x = 100 := by omega
      subst this
      have z : (100 : Int32) ≤ nI 100 := by decide
      simp only [if_pos z]
      exact Or.inr ⟨c, C, D, fun _ => rfl, fun _ => rfl, xx_rf, xx_rf⟩
    · have z : ¬ (100 : Int32) ≤ nI x := by rw [l_100, nI_leI (by omega) (by omega)]; exact hh
      have h7 := hC.2.1
      have it : ow_inn (nI to) 7 := (inn_nI (by omega)).mpr (by omega)
      have ct : (nI to).toNatClampNeg = to := nI_clamp (by omega)
      obtain ⟨C2, D2, k1, k2, k3, k4, k5⟩ := sprd hC hD hK hfr (nI x)
      obtain ⟨r1, r2, r3⟩ := k5.1 to hto
      have hC2 := FC_xx hC k3
      have hD2 := FD_xx hD k4
      have hK2 := KS_xx hK k3 k4
      have lift : ∀ c2, ((∃ y C3 D3, (∀ K, lpX7_said_46 (nI fr) (nI to) (nI v) x4 K f c2 (nI (x + 1)) C2 = some (y, C3)) ∧ (∀ K, lpX8_said_40 (nI fr) (nI to) (nI v) x4 K f c2 (nI (x + 1)) D2 = some (y, D3)) ∧ ow_xx 9 10 C C3 ∧ ow_xx 46 47 D D3) ∨ (∃ y C3 D3, (∀ K, lpX7_said_46 (nI fr) (nI to) (nI v) x4 K f c2 (nI (x + 1)) C2 = K y (nI 100) C3) ∧ (∀ K, lpX8_said_40 (nI fr) (nI to) (nI v) x4 K f c2 (nI (x + 1)) D2 = K y (nI 100) D3) ∧ ow_xx 9 10 C C3 ∧ ow_xx 46 47 D D3)) := by
        intro c2
        rcases ih (x + 1) c2 C2 D2 hC2 hD2 hK2 (by omega) (by omega) with ⟨y, C3, D3, m1, m2, m3, m4⟩ | ⟨y, C3, D3, m1, m2, m3, m4⟩
        · exact Or.inl ⟨y, C3, D3, m1, m2, xx_tr k3 m3, xx_tr k4 m4⟩
        · exact Or.inr ⟨y, C3, D3, m1, m2, xx_tr k3 m3, xx_tr k4 m4⟩
      simp only [if_neg z, k1, k2, ow_obs, if_pos it, ct, r1, nI_1]
      by_cases q : C2.1 10 to = -9
      · have q9 : ¬ C2.1 9 to = nI v := by rw [r3 q]; exact fun h => (nI_m9 (by omega)).mp h.symm
        simp only [if_pos q, if_neg q9]
        exact lift c
      · simp only [if_neg q, r2 q]
        by_cases q2 : C2.1 9 to = nI v
        · simp only [if_pos q2]
          by_cases q3 : c = x4
          · simp only [if_pos q3]
            exact Or.inl ⟨nI x, C2, D2, fun _ => rfl, fun _ => rfl, k3, k4⟩
          · simp only [if_neg q3]
            exact lift (c + 1)
        · simp only [if_neg q2]
          exact lift c
theorem sp_said {M : ow_M} (hI : ow_I M) (a1 a2 a3 a4 : Int32) : ∃ r M1 M2, fX7_said a1 a2 a3 a4 M = some (r, M1) ∧ fX8_said a1 a2 a3 a4 M1 = some (r, M2) ∧ ow_I M2 := by
  obtain ⟨n, lp, g, rc, hA, hB, hR, hS, hT, hF⟩ := id hI
  obtain ⟨h0, h7, hn, he, hl, hg, hw, hv⟩ := id hA
  obtain ⟨b1, b2, b3, b4⟩ := id hB
  unfold fX7_said
  rcases g_P hn b1 h7 a1 with ⟨f, hf, rfl, e1, e2⟩ | ⟨e1, e2⟩
  · rcases g_P hn b1 h7 a2 with ⟨t, ht, rfl, f1, f2⟩ | ⟨f1, f2⟩
    · simp only [e1, f1, ow_obs, ow_10, reduceIte]
      by_cases c0 : (-1) ≤ a4
      · rw [if_pos c0]
        rcases g_N a3 with ⟨v, hv, rfl, n1, n2⟩ | ⟨n1, n2⟩
        · simp only [n1, ow_obs, ow_10, reduceIte]
          have hn2 := n2_of h0 hf
          have join : ∀ D : ow_M, D.1 34 = M.1 34 → D.1 38 = M.1 38 → D.1 39 = M.1 39 → _ := fun D d1 d2 d3 => said_join (lp := lp) (g := g) hf ht hv a4 ow_N 0 0 M D (FC_of hA hn2) (FD_of hB d1) (KS_of hB d2 d3) (by omega) (by unfold ow_N; omega)
          have pers : ∀ C : ow_M, C.1 34 = M.1 34 → fX8_isPerson (nI f) C = some 1 ∧ fX8_isPerson (nI t) C = some 1 := by
            intro C hC
            constructor
            · rcases g_P8 (M := C) (by rw [hC]; exact b1) h7 (nI f) with ⟨_, _, _, h⟩ | ⟨hx, _⟩
              · exact h
              · exact absurd ⟨f, hf, rfl⟩ hx
            · rcases g_P8 (M := C) (by rw [hC]; exact b1) h7 (nI t) with ⟨_, _, _, h⟩ | ⟨hx, _⟩
              · exact h
              · exact absurd ⟨t, ht, rfl⟩ hx
          have model : ∀ C : ow_M, C.1 34 = M.1 34 → fX8_said (nI f) (nI t) (nI v) a4 C = lpX8_said_40 (nI f) (nI t) (nI v) a4 (fun u20 u21 M22 => (if a4 = (-1) then some (u20, M22) else some ((-9), M22))) ow_N 0 0 C := by
            intro C hC
            unfold fX8_said
            simp only [(pers C hC).1, (pers C hC).2, n2, ow_obs, ow_10, reduceIte, if_pos c0]
          rcases join M rfl rfl rfl with ⟨y, C2, D0, k1, -, k3, -⟩ | ⟨y, C2, D0, k1, -, k3, -⟩
          · have c34 := k3 34 (by decide) (by decide)
            rcases join C2 c34 (k3 38 (by decide) (by decide)) (k3 39 (by decide) (by decide)) with ⟨y2, C3, D2, l1, l2, l3, l4⟩ | ⟨y2, C3, D2, l1, l2, l3, l4⟩
            · have := (k1 (fun _ _ _ => none)).symm.trans (l1 (fun _ _ _ => none))
              obtain ⟨q1, q2⟩ := Prod.mk.inj (Option.some.inj this)
              subst q1; subst q2
              have k1' := k1 (fun u18 u19 M20 => (if a4 = (-1) then some (u18, M20) else some ((-9), M20)))
              have l2' := l2 (fun u20 u21 M22 => (if a4 = (-1) then some (u20, M22) else some ((-9), M22)))
              rw [nI_0] at k1' l2'
              rw [k1']
              exact ⟨_, _, _, rfl, (model _ c34).trans l2', I_news hI k3 l4⟩
            · exfalso
              have := (k1 (fun _ _ _ => none)).symm.trans (l1 (fun _ _ _ => none))
              cases this
          · have c34 := k3 34 (by decide) (by decide)
            rcases join C2 c34 (k3 38 (by decide) (by decide)) (k3 39 (by decide) (by decide)) with ⟨y2, C3, D2, l1, l2, l3, l4⟩ | ⟨y2, C3, D2, l1, l2, l3, l4⟩
            · exfalso
              have := (k1 (fun _ _ _ => none)).symm.trans (l1 (fun _ _ _ => none))
              cases this
            · have := (k1 (fun a _ N => some (a, N))).symm.trans (l1 (fun a _ N => some (a, N)))
              obtain ⟨q1, q2⟩ := Prod.mk.inj (Option.some.inj this)
              subst q1; subst q2
              have k1' := k1 (fun u18 u19 M20 => (if a4 = (-1) then some (u18, M20) else some ((-9), M20)))
              have l2' := l2 (fun u20 u21 M22 => (if a4 = (-1) then some (u20, M22) else some ((-9), M22)))
              rw [nI_0] at k1' l2'
              rw [k1']
              have md := (model _ c34).trans l2'
              have hI2 := I_news hI k3 l4
              by_cases q : a4 = -1
              · simp only [if_pos q] at md ⊢
                exact ⟨_, _, _, rfl, md, hI2⟩
              · simp only [if_neg q] at md ⊢
                exact ⟨_, _, _, rfl, md, hI2⟩
        · simp only [n1, ow_obs, ow_10, reduceIte]
          refine ⟨_, _, M, rfl, ?_, hI⟩
          unfold fX8_said
          simp only [e2, f2, n2, ow_obs, ow_10, reduceIte, if_pos c0]
      · rw [if_neg c0]
        refine ⟨_, _, M, rfl, ?_, hI⟩
        unfold fX8_said
        simp only [e2, f2, ow_obs, ow_10, reduceIte, if_neg c0]
    · simp only [e1, f1, ow_obs, ow_10, reduceIte]
      refine ⟨_, _, M, rfl, ?_, hI⟩
      unfold fX8_said
      simp only [e2, f2, ow_obs, ow_10, reduceIte]
  · rw [e1]
    refine ⟨_, _, M, rfl, ?_, hI⟩
    unfold fX8_said
    rw [e2]
    rfl
