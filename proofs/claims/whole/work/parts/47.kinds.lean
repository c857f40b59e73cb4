/-! READINGS -/
def RDs (C D : ow_M) (n rc : Nat) : Prop := rc ≤ 8 ∧ C.1 21 0 = nI rc ∧ D.1 34 27 = nI rc ∧ ∀ i, i < rc → (∃ t, t < n ∧ C.1 22 i = nI t ∧ D.1 53 i = nI t) ∧ (∃ v, v < 100 ∧ C.1 23 i = nI v ∧ D.1 54 i = nI v) ∧ (∃ t, t < n ∧ C.1 24 i = nI t ∧ D.1 55 i = nI t) ∧ D.1 56 i = C.1 25 i
theorem RD_xx {C C2 D D2 : ow_M} {n rc : Nat} (h : RDs C D n rc) (x : ow_xx 9 10 C C2) (y : ow_xx 46 47 D D2) : RDs C2 D2 n rc := by
  unfold RDs at *
  rw [x 21 (by decide) (by decide), x 22 (by decide) (by decide), x 23 (by decide) (by decide), x 24 (by decide) (by decide), x 25 (by decide) (by decide), y 34 (by decide) (by decide), y 53 (by decide) (by decide), y 54 (by decide) (by decide), y 55 (by decide) (by decide), y 56 (by decide) (by decide)]
  exact h
theorem so_join {n : Nat} {lp : Bool} {g rc : Nat} : ∀ (f i : Nat) (C D : ow_M), FC C n lp g → FD D n lp g → KS C D n → RDs C D n rc → i ≤ rc → rc - i < f →
    ∃ r C2 D2, lpX3_areAllSo_2 (fun _ M12 => some (1, M12)) f (nI i) C = some (r, C2) ∧ lpX8_areSo_2 (fun _ M14 => some (1, M14)) f (nI i) D = some (r, D2) ∧ ow_xx 9 10 C C2 ∧ ow_xx 46 47 D D2 ∧ (r = 0 ∨ r = 1) := by
  intro f
  induction f with
  | zero => intro i C D _ _ _ _ _ h; omega
  | succ f ih =>
    intro i C D hC hD hK hRd hi hf
    obtain ⟨r8, ra, rb, rr⟩ := id hRd
    have h7 := hC.2.1
    unfold lpX3_areAllSo_2 lpX8_areSo_2
    by_cases hh : rc ≤ i
    · have : i = rc := by omega
      subst this
      have z : nI i ≤ nI i := (nI_leI (by omega) (by omega)).mpr hh
      simp only [ra, rb, if_pos z]
      exact ⟨1, C, D, rfl, rfl, xx_rf, xx_rf, Or.inr rfl⟩
    · have z : ¬ nI rc ≤ nI i := by rw [nI_leI (by omega) (by omega)]; exact hh
      have i8 : ow_inn (nI i) 8 := (inn_nI (by omega)).mpr (by omega)
      have c8 : (nI i).toNatClampNeg = i := nI_clamp (by omega)
      obtain ⟨⟨t, ht, t1, t2⟩, ⟨v, hv, v1, v2⟩, ⟨u, hu, u1, u2⟩, w1⟩ := rr i (by omega)
      obtain ⟨C2, D2, k1, k2, k3, k4, k5⟩ := sprd hC hD hK ht (nI v)
      obtain ⟨r1, r2, r3⟩ := k5.1 u hu
      have iu : ow_inn (nI u) 7 := (inn_nI (by omega)).mpr (by omega)
      have cu : (nI u).toNatClampNeg = u := nI_clamp (by omega)
      have x24 := k3 24 (by decide) (by decide)
      have x25 := k3 25 (by decide) (by decide)
      have y55 := k4 55 (by decide) (by decide)
      have y56 := k4 56 (by decide) (by decide)
      obtain ⟨r, C3, D3, m1, m2, m3, m4, m5⟩ := ih (i + 1) C2 D2 (FC_xx hC k3) (FD_xx hD k4) (KS_xx hK k3 k4) (RD_xx hRd k3 k4) (by omega) (by omega)
      unfold jX8_areSo_55
      simp only [ra, rb, if_neg z, if_pos i8, c8, t1, t2, v1, v2, k1, k2, ow_obs, x24, x25, y55, y56, u1, u2, if_pos iu, cu, w1, r1, nI_1]
      by_cases q : C2.1 10 u = -9
      · simp only [if_pos q, r3 q]
        by_cases q2 : (-9 : Int32) = C.1 25 i
        · simp only [if_pos q2]
          exact ⟨r, C3, D3, m1, m2, xx_tr k3 m3, xx_tr k4 m4, m5⟩
        · simp only [if_neg q2]
          exact ⟨0, C2, D2, rfl, rfl, k3, k4, Or.inl rfl⟩
      · simp only [if_neg q, r2 q]
        by_cases q2 : C2.1 9 u = C.1 25 i
        · simp only [if_pos q2]
          exact ⟨r, C3, D3, m1, m2, xx_tr k3 m3, xx_tr k4 m4, m5⟩
        · simp only [if_neg q2]
          exact ⟨0, C2, D2, rfl, rfl, k3, k4, Or.inl rfl⟩
theorem so_eq {n : Nat} {lp : Bool} {g rc : Nat} {C D : ow_M} (hC : FC C n lp g) (hD : FD D n lp g) (hK : KS C D n) (hR : RDs C D n rc) : ∃ r C2 D2, fX3_areAllSo C = some (r, C2) ∧ fX8_areSo D = some (r, D2) ∧ ow_xx 9 10 C C2 ∧ ow_xx 46 47 D D2 ∧ (r = 0 ∨ r = 1) := by
  have := so_join (lp := lp) (g := g) ow_N 0 C D hC hD hK hR (Nat.zero_le _) (by have := hR.1; unfold ow_N; omega)
  rw [nI_0] at this
  exact this
/-- what kinds() leaves: the kind of p apart, and the rows of NEWS -/
def fk (c d k p : Nat) (M C : ow_M) : Prop := (∀ a, a ≠ c → a ≠ d → a ≠ k → C.1 a = M.1 a) ∧ ∀ b, b ≠ p → C.1 k b = M.1 k b
theorem fk_rf {c d k p : Nat} {M : ow_M} : fk c d k p M M := ⟨fun _ _ _ _ => rfl, fun _ _ => rfl⟩
theorem fk_up {c d k p : Nat} {v : Int32} {M C : ow_M} (h : fk c d k p M C) : fk c d k p M (ow_up C k p v) := ⟨fun a h1 h2 h3 => (ow_up_c h3).trans (h.1 a h1 h2 h3), fun b hb => (ow_up_f (Or.inr hb)).trans (h.2 b hb)⟩
theorem fk_xx {c d k p : Nat} {M C C2 : ow_M} (hk : k ≠ c) (hk2 : k ≠ d) (h : fk c d k p M C) (x : ow_xx c d C C2) : fk c d k p M C2 := ⟨fun a h1 h2 h3 => (x a h1 h2).trans (h.1 a h1 h2 h3), fun b hb => by rw [x k hk hk2]; exact h.2 b hb⟩
theorem kd_join {M D0 : ow_M} {n : Nat} {lp : Bool} {g rc p : Nat} (hM : FC M n lp g) (hD0 : FD D0 n lp g) (hK : KS M D0 n) (hR : RDs M D0 n rc) (hp : p < n) (o1 o2 : Int32) : ∀ (f x : Nat) (s : Int32) (C D : ow_M), fk 9 10 3 p M C → fk 46 47 38 p D0 D → x ≤ 3 → 3 - x < f →
    ∃ s2 C2 D2, (∀ K, lpX7_kinds_28 (nI p) o1 K f s (nI x) C = K s2 (nI 3) C2) ∧ (∀ K, lpX8_kinds_22 (nI p) o2 K f s (nI x) D = K s2 (nI 3) D2) ∧ fk 9 10 3 p M C2 ∧ fk 46 47 38 p D0 D2 := by
  intro f
  induction f with
  | zero => intro x s C D _ _ _ h; omega
  | succ f ih =>
    intro x s C D hC hD hx hf
    have h7 := hM.2.1
    unfold lpX7_kinds_28 lpX8_kinds_22
    by_cases hh : 3 ≤ x
    · have : x = 3 := by omega
      subst this
      have z : (3 : Int32) ≤ nI 3 := by decide
      simp only [if_pos z]
      exact ⟨s, C, D, fun _ => rfl, fun _ => rfl, hC, hD⟩
    · have z : ¬ (3 : Int32) ≤ nI x := by rw [l_3, nI_leI (by omega) (by omega)]; exact hh
      have ip : ow_inn (nI p) 7 := (inn_nI (by omega)).mpr (by omega)
      have cp : (nI p).toNatClampNeg = p := nI_clamp (by omega)
      have u1 : fk 9 10 3 p M (ow_up C 3 p (nI x)) := fk_up hC
      have u2 : fk 46 47 38 p D0 (ow_up D 38 p (nI x)) := fk_up hD
      have hFC : FC (ow_up C 3 p (nI x)) n lp g := by
        obtain ⟨c2, c7, cg, cn, ce, cw, ck⟩ := id hM
        refine ⟨c2, c7, cg, ?_, ?_, ?_, fun i hi => ?_⟩
        · rw [u1.1 2 (by decide) (by decide) (by decide)]; exact cn
        · rw [u1.1 2 (by decide) (by decide) (by decide)]; exact ce
        · rw [u1.1 7 (by decide) (by decide) (by decide)]; exact cw
        · by_cases q : i = p
          · subst q; exact ⟨x, by omega, ow_up_s⟩
          · rw [u1.2 i q]; exact ck i hi
      have hFD : FD (ow_up D 38 p (nI x)) n lp g := by
        unfold FD
        rw [u2.1 34 (by decide) (by decide) (by decide)]
        exact hD0
      have hKS : KS (ow_up C 3 p (nI x)) (ow_up D 38 p (nI x)) n := by
        intro i hi
        rw [u1.1 4 (by decide) (by decide) (by decide), u2.1 39 (by decide) (by decide) (by decide)]
        refine ⟨?_, (hK i hi).2⟩
        by_cases q : i = p
        · subst q; rw [ow_up_s, ow_up_s]
        · rw [u1.2 i q, u2.2 i q]; exact (hK i hi).1
      have hRD : RDs (ow_up C 3 p (nI x)) (ow_up D 38 p (nI x)) n rc := by
        unfold RDs
        rw [u1.1 21 (by decide) (by decide) (by decide), u1.1 22 (by decide) (by decide) (by decide), u1.1 23 (by decide) (by decide) (by decide), u1.1 24 (by decide) (by decide) (by decide), u1.1 25 (by decide) (by decide) (by decide), u2.1 34 (by decide) (by decide) (by decide), u2.1 53 (by decide) (by decide) (by decide), u2.1 54 (by decide) (by decide) (by decide), u2.1 55 (by decide) (by decide) (by decide), u2.1 56 (by decide) (by decide) (by decide)]
        exact hR
      obtain ⟨r, C2, D2, k1, k2, k3, k4, k5⟩ := so_eq hFC hFD hKS hRD
      have v1 := fk_xx (by decide) (by decide) u1 k3
      have v2 := fk_xx (by decide) (by decide) u2 k4
      simp only [if_neg z, if_pos ip, cp, k1, k2, ow_bd_eq, nI_1, Int32.or_zero]
      rcases k5 with rfl | rfl
      · simp only [reduceIte]
        exact ih (x + 1) _ C2 D2 v1 v2 (by omega) (by omega)
      · simp only [ow_10, reduceIte]
        exact ih (x + 1) _ C2 D2 v1 v2 (by omega) (by omega)
theorem fk_back {c d k p : Nat} {M C : ow_M} (h : fk c d k p M C) : ow_xx c d M (ow_up C k p (M.1 k p)) := by
  intro a h1 h2
  by_cases q : a = k
  · subst q
    funext b
    by_cases q2 : b = p
    · subst q2; rw [ow_up_s]
    · rw [ow_up_f (Or.inr q2)]; exact h.2 b q2
  · rw [ow_up_c q]; exact h.1 a h1 h2 q
theorem RD_of {M N : ow_M} {n rc : Nat} (hR : iR M n rc) (e34 : N.1 34 = M.1 34) (e53 : N.1 53 = M.1 53) (e54 : N.1 54 = M.1 54) (e55 : N.1 55 = M.1 55) (e56 : N.1 56 = M.1 56) : RDs M N n rc := by
  obtain ⟨r8, r1, r2, r3⟩ := hR
  unfold RDs
  rw [e34, e53, e54, e55, e56]
  exact ⟨r8, r1, r2, fun i hi => ⟨(r3 i hi).1, (r3 i hi).2.1, (r3 i hi).2.2.1, (r3 i hi).2.2.2.1⟩⟩
theorem sp_kinds {M : ow_M} (hI : ow_I M) (a1 : Int32) : ∃ r M1 M2, fX7_kinds a1 M = some (r, M1) ∧ fX8_kinds a1 M1 = some (r, M2) ∧ ow_I M2 := by
  obtain ⟨n, lp, g, rc, hA, hB, hR, hS, hT, hF⟩ := id hI
  obtain ⟨h0, h7, hn, he, hl, hg, hw, hv⟩ := id hA
  obtain ⟨b1, b2, b3, b4⟩ := id hB
  unfold fX7_kinds
  rcases g_P hn b1 h7 a1 with ⟨p, hp, rfl, e1, e2⟩ | ⟨e1, e2⟩
  · have ip : ow_inn (nI p) 7 := (inn_nI (by omega)).mpr (by omega)
    have cp : (nI p).toNatClampNeg = p := nI_clamp (by omega)
    have hn2 := n2_of h0 hp
    simp only [e1, ow_obs, ow_10, reduceIte, if_pos ip, cp]
    have join : ∀ D : ow_M, ow_xx 9 10 M D → ∀ o2, _ := fun D x o2 => kd_join (M := M) (D0 := D) (lp := lp) (g := g) (rc := rc) (p := p) (FC_of hA hn2) (FD_of hB (x 34 (by decide) (by decide))) (KS_of hB (x 38 (by decide) (by decide)) (x 39 (by decide) (by decide))) (RD_of hR (x 34 (by decide) (by decide)) (x 53 (by decide) (by decide)) (x 54 (by decide) (by decide)) (x 55 (by decide) (by decide)) (x 56 (by decide) (by decide))) hp (M.1 3 p) o2 ow_N 0 0 M D fk_rf fk_rf (by omega) (by unfold ow_N; omega)
    obtain ⟨s2, C2, D2, k1, -, k3, -⟩ := join M xx_rf (M.1 38 p)
    have k1' := k1 (fun u11 u12 M13 => some (u11, ow_up M13 3 p (M.1 3 p)))
    rw [nI_0] at k1'
    have xC := fk_back k3
    rw [k1']
    obtain ⟨s3, C3, D3, l1, l2, l3, l4⟩ := join (ow_up C2 3 p (M.1 3 p)) xC ((ow_up C2 3 p (M.1 3 p)).1 38 p)
    have hs : s3 = s2 := by
      have := (k1 (fun a _ N => some (a, N))).symm.trans (l1 (fun a _ N => some (a, N)))
      exact (Prod.mk.inj (Option.some.inj this)).1.symm
    subst hs
    have l2' := l2 (fun u11 u12 M13 => some (u11, ow_up M13 38 p ((ow_up C2 3 p (M.1 3 p)).1 38 p)))
    rw [nI_0] at l2'
    refine ⟨_, _, _, rfl, ?_, I_news hI xC (fk_back l4)⟩
    unfold fX8_kinds
    have e3 : fX8_isPerson (nI p) (ow_up C2 3 p (M.1 3 p)) = some 1 := by
      rcases g_P8 (M := ow_up C2 3 p (M.1 3 p)) (by rw [xC 34 (by decide) (by decide)]; exact b1) h7 (nI p) with ⟨_, _, _, h⟩ | ⟨hx, _⟩
      · exact h
      · exact absurd ⟨p, hp, rfl⟩ hx
    simp only [e3, ow_obs, ow_10, reduceIte, if_pos ip, cp]
    exact l2'
  · rw [e1]
    refine ⟨_, _, M, rfl, ?_, hI⟩
    unfold fX8_kinds
    rw [e2]
    rfl
