/-! TRADE: the reference -/
theorem fdS_d {ok : Nat → Bool} {nb : Nat → Nat} {d : Nat} : ∀ (m s : Nat) (S : bS) (x c : Nat), (fdS ok nb d m s S).2.2 x = some c → S.2.2 x = some c ∨ c = d := by
  intro m
  induction m with
  | zero => intro s S x c h; exact Or.inl h
  | succ m ih =>
    intro s S x c h
    have e : fdS ok nb d (m + 1) s S = fdS ok nb d m (s + 1) (if ok s then psh S (nb s) d else S) := rfl
    rw [e] at h
    rcases ih _ _ _ _ h with k | k
    · cases ho : ok s with
      | false => rw [ho] at k; exact Or.inl k
      | true =>
        rw [ho, if_pos rfl] at k
        unfold psh at k
        by_cases q : S.2.2 (nb s) = none
        · rw [if_pos q] at k
          have k2 : (if x = nb s then some d else S.2.2 x) = some c := k
          by_cases q2 : x = nb s
          · rw [if_pos q2] at k2; exact Or.inr (Option.some.inj k2).symm
          · rw [if_neg q2] at k2; exact Or.inl k2
        · rw [if_neg q] at k; exact Or.inl k
    · exact Or.inr k
/-- the reference's memory holds the search -/
def RD (D : ow_M) (S : bS) : Prop := D.1 34 23 = nI S.2.1 ∧ (∀ i, i < S.2.1 → D.1 49 i = nI (S.1 i)) ∧ ∀ x, x < 16384 → D.1 48 x = e9 (S.2.2 x)
def fM (C D : ow_M) : Prop := (∀ a, a ≠ 34 → a ≠ 48 → a ≠ 49 → D.1 a = C.1 a) ∧ ∀ j, j ≠ 23 → D.1 34 j = C.1 34 j
theorem fM_rf {C : ow_M} : fM C C := ⟨fun _ _ _ _ => rfl, fun _ _ => rfl⟩
theorem fM_tr {C D E : ow_M} (h : fM C D) (h2 : fM D E) : fM C E := ⟨fun a p q r => (h2.1 a p q r).trans (h.1 a p q r), fun j p => (h2.2 j p).trans (h.2 j p)⟩
theorem FD_fM {C D : ow_M} {n g : Nat} {lp : Bool} (h : FD C n lp g) (x : fM C D) : FD D n lp g := by
  unfold FD at *
  rw [x.2 5 (by decide), x.2 6 (by decide), x.2 7 (by decide)]
  exact h
theorem reach_e {n x0 x d : Nat} {D : ow_M} {S : bS} (h7 : n ≤ 7) (hD : RD D S) (hg : gS (2 ^ (2 * n)) (AW n x0) S) (hdb : ∀ y c, S.2.2 y = some c → c ≤ 1000) (hx : AW n x0 x = true) (hN : x < 2 ^ (2 * n)) : ∃ D2, fX8_reach (nI x) (nI d) D = some D2 ∧ RD D2 (psh S x d) ∧ fM D D2 := by
  have hN14 : 2 ^ (2 * n) ≤ 2 ^ 14 := Nat.pow_le_pow_right (by decide) (by omega)
  obtain ⟨r1, r2, r3⟩ := id hD
  have i1 : ow_inn (nI x) 16384 := (inn_nI (by omega)).mpr (by omega)
  have c1 : (nI x).toNatClampNeg = x := nI_clamp (by omega)
  have e1 : ∀ (M : ow_M) (v : Int32), (ow_up M 48 x v).1 34 23 = M.1 34 23 := fun M v => by rw [ow_up_c (by decide)]
  have e2 : ∀ (M : ow_M) (j : Nat) (v : Int32), (ow_up M 49 j v).1 34 23 = M.1 34 23 := fun M j v => by rw [ow_up_c (by decide)]
  unfold fX8_reach
  simp only [if_pos i1, c1, r3 x (show x < 16384 by omega), e1, e2, r1]
  by_cases z : S.2.2 x = none
  · have hL := psh_lt (AW_cn (x0 := x0) h7) hg hx hN z
    have i2 : ow_inn (nI S.2.1) 16384 := (inn_nI (by omega)).mpr (by omega)
    have c2 : (nI S.2.1).toNatClampNeg = S.2.1 := nI_clamp (by omega)
    simp only [z, if_pos (show e9 none = -9 from rfl), if_pos i2, c2, nI_1]
    refine ⟨_, rfl, ?_, ⟨fun a h1 h2 h3 => ?_, fun j hj => ?_⟩⟩
    · unfold psh
      rw [if_pos z]
      refine ⟨ow_up_s, ?_, ?_⟩
      · intro i hi
        have hi2 : i < S.2.1 + 1 := hi
        show _ = nI (if i = S.2.1 then x else S.1 i)
        rw [ow_up_c (by decide)]
        by_cases qi : i = S.2.1
        · rw [if_pos qi, qi, ow_up_s]
        · rw [if_neg qi, ow_up_f (Or.inr qi), ow_up_c (by decide)]
          exact r2 i (by omega)
      · intro y hy
        show _ = e9 (if y = x then some d else S.2.2 y)
        rw [ow_up_c (by decide), ow_up_c (by decide)]
        by_cases qy : y = x
        · rw [if_pos qy, qy, ow_up_s]; rfl
        · rw [if_neg qy, ow_up_f (Or.inr qy)]; exact r3 y hy
    · rw [ow_up_c h1, ow_up_c h3, ow_up_c h2]
    · rw [ow_up_f (Or.inr hj), ow_up_c (by decide), ow_up_c (by decide)]
  · cases hz : S.2.2 x with
    | none => exact absurd hz z
    | some c =>
      have hc := hdb x c hz
      have z2 : ¬ e9 (some c) = -9 := fun w => (nI_m9 (by omega)).mp w
      simp only [if_neg z2]
      refine ⟨D, rfl, ?_, fM_rf⟩
      unfold psh
      rw [if_neg z]; exact hD
theorem gi_e {x e : Nat} (hx : x < 2 ^ 14) (he : e < 7) : fX8_goodIn (nI x) (nI e) = some (nI ((x / 2 ^ (2 * e)) &&& 3)) := by
  have i3 : (3 : Int32) = nI 3 := rfl
  unfold fX8_goodIn
  rw [l_2, pk_mul, shr_e (by omega) (by omega), i3, nx_and]
theorem ex_e {D : ow_M} {n g x e : Nat} {lp : Bool} (hD : FD D n lp g) (h7 : n ≤ 7) (hx : x < 2 ^ (2 * n)) (he : e < n) : fX8_exchanged (nI x) (nI e) D = some (nI (sw x e (ore n e))) := by
  have hN14 : 2 ^ (2 * n) ≤ 2 ^ 14 := Nat.pow_le_pow_right (by decide) (by omega)
  have hr := ore_7 h7 he
  have hu := uq_lt x e (ore n e)
  have u1 := u_sh hu (show e < 7 by omega)
  have u2 := u_sh hu hr
  have eu : (x / 2 ^ (2 * e) &&& 3) ^^^ (x / 2 ^ (2 * ore n e) &&& 3) = uq x e (ore n e) := by unfold uq; rw [Nat.and_xor_distrib_right]
  unfold fX8_exchanged
  rw [gi_e (by omega) (by omega), ow_obs, e_fe hD.1 h7 he, ow_obs, gi_e (by omega) hr, ow_obs, ow_obs, nx_xor, eu, l_2, pk_mul, pk_mul, shl_e (by omega) (by omega), shl_e (by omega) (by omega), nx_xor, nx_xor]
  rfl
theorem af_lp {D : ow_M} {n g s : Nat} {lp : Bool} (hD : FD D n lp g) (h2 : 2 ≤ n) (h7 : n ≤ 7) (hs : s < 128) : ∀ (m f e x : Nat), e + m = oed n lp → m < f → x < 2 ^ (2 * n) → lpX8_after_5 (nI s) D (fun u7 _ => some u7) f (nI x) (nI e) = some (nI (aft n s m e x)) := by
  obtain ⟨b1, b2, b3⟩ := id hD
  have he8 : fX8_edges D = some (nI (oed n lp)) := e_edges b1 b2 h7 (Or.inr h2)
  have hE7 := oed_le (lp := lp) h7
  intro m
  induction m with
  | zero =>
    intro f e x hm hf hx
    obtain ⟨f, rfl⟩ : ∃ q, f = q + 1 := ⟨f - 1, by omega⟩
    unfold lpX8_after_5
    rw [he8, ow_obs, if_pos ((nI_leI (by omega) (by omega)).mpr (by omega))]
    rfl
  | succ m ih =>
    intro f e x hm hf hx
    obtain ⟨f, rfl⟩ : ∃ q, f = q + 1 := ⟨f - 1, by omega⟩
    have hen : e < n := oed_n (lp := lp) (by omega)
    have e2 : aft n s (m + 1) e x = aft n s m (e + 1) (if s.testBit e then sw x e (ore n e) else x) := rfl
    unfold lpX8_after_5
    rw [e2, he8, ow_obs, if_neg (by rw [nI_leI (by omega) (by omega)]; omega), bit_e (show s < 2 ^ 31 by omega) (show e < 32 by omega), ex_e hD h7 hx hen, ow_obs, nI_1]
    cases s.testBit e with
    | false =>
      rw [if_neg (by decide)]
      exact ih f (e + 1) x (by omega) (by omega) hx
    | true =>
      rw [if_pos (by rfl)]
      exact ih f (e + 1) _ (by omega) (by omega) (sw_lt hx hen (ore_lt (by omega)))
theorem m121 {n g x x0 c : Nat} {lp bd : Bool} (x1 : Int32) (hx1 : x1 = bI bd) (x3 x4 : Int32) (h2 : 2 ≤ n) (h7 : n ≤ 7) (hg128 : g < 128) (hAx : AW n x0 x = true) (hxN : x < 2 ^ (2 * n)) (hc : c < 1000) : ∀ (m s f : Nat) (S : bS) (D : ow_M), FD D n lp g → RD D S → gS (2 ^ (2 * n)) (AW n x0) S → (∀ y d, S.2.2 y = some d → d ≤ 1000) → S.2.2 x = some c → 0 < s → s + m = 2 ^ oed n lp → m < f →
    ∃ D2, (∀ K, lpX8_findSteps_121 x1 x3 x4 (nI x) K f (nI s) D = K (nI (2 ^ oed n lp)) D2) ∧ fM D D2 ∧ RD D2 (fdS (okq bd n lp g) (nbq n (oed n lp) x) (c + 1) m s S) := by
  subst hx1
  have hE7 := oed_le (lp := lp) h7
  have hEn := oed_le_n (n := n) (lp := lp)
  have hN := p2_128 hE7
  have hN14 : 2 ^ (2 * n) ≤ 2 ^ 14 := Nat.pow_le_pow_right (by decide) (by omega)
  intro m
  induction m with
  | zero =>
    intro s f S D hD hR hg hdb hSx h0 hm hf
    obtain ⟨f, rfl⟩ : ∃ q, f = q + 1 := ⟨f - 1, by omega⟩
    have he8 : fX8_edges D = some (nI (oed n lp)) := e_edges hD.1 hD.2.1 h7 (Or.inr h2)
    have e : s = 2 ^ oed n lp := by omega
    unfold lpX8_findSteps_121
    have z : nI (2 ^ oed n lp) ≤ nI s := (nI_leI (by omega) (by omega)).mpr (by omega)
    simp only [he8, ow_obs, one_e (show oed n lp < 32 by omega), if_pos z, e]
    have z2 : nI (2 ^ oed n lp) ≤ nI (2 ^ oed n lp) := (nI_leI (by omega) (by omega)).mpr (Nat.le_refl _)
    simp only [if_pos z2]
    exact ⟨D, fun _ => rfl, fM_rf, hR⟩
  | succ m ih =>
    intro s f S D hD hR hg hdb hSx h0 hm hf
    obtain ⟨f, rfl⟩ : ∃ q, f = q + 1 := ⟨f - 1, by omega⟩
    have he8 : fX8_edges D = some (nI (oed n lp)) := e_edges hD.1 hD.2.1 h7 (Or.inr h2)
    have z : ¬ nI (2 ^ oed n lp) ≤ nI s := by rw [nI_leI (by omega) (by omega)]; omega
    have efd : fdS (okq bd n lp g) (nbq n (oed n lp) x) (c + 1) (m + 1) s S = fdS (okq bd n lp g) (nbq n (oed n lp) x) (c + 1) m (s + 1) (if okq bd n lp g s then psh S (nbq n (oed n lp) x s) (c + 1) else S) := rfl
    rw [efd]
    have i1 : ow_inn (nI x) 16384 := (inn_nI (by omega)).mpr (by omega)
    have c1 : (nI x).toNatClampNeg = x := nI_clamp (by omega)
    have ed : D.1 48 x + 1 = nI (c + 1) := by rw [hR.2.2 x (by omega), hSx]; exact nI_1 c
    have skip : okq bd n lp g s = false → ∃ D2, (∀ K, lpX8_findSteps_121 (bI bd) x3 x4 (nI x) K f (nI (s + 1)) D = K (nI (2 ^ oed n lp)) D2) ∧ fM D D2 ∧ RD D2 (fdS (okq bd n lp g) (nbq n (oed n lp) x) (c + 1) m (s + 1) (if okq bd n lp g s then psh S (nbq n (oed n lp) x s) (c + 1) else S)) := by
      intro ho
      rw [ho]
      exact ih (s + 1) f S D hD hR hg hdb hSx (by omega) (by omega) (by omega)
    have okv : okq bd n lp g s = ((bd || (s &&& (s - 1)) == 0) && odf n g s (oed n lp) 0 0) := by unfold okq; rw [decide_eq_true h0, Bool.true_and]
    unfold lpX8_findSteps_121 jX8_findSteps_147 jX8_findSteps_158
    cases ho : odf n g s (oed n lp) 0 0 with
    | false =>
      rw [ho, Bool.and_false] at okv
      obtain ⟨D2, k1, k2⟩ := skip okv
      refine ⟨D2, fun K => ?_, k2⟩
      simp only [he8, ow_obs, one_e (show oed n lp < 32 by omega), if_neg z, od_m hD h2 h7 hg128 (show s < 128 by omega), ho, show bI false = 0 from rfl, reduceIte, ite_self, nI_1]
      exact k1 K
    | true =>
      rw [ho, Bool.and_true] at okv
      have nA := nbq_A (E := oed n lp) h2 hEn ho hAx hxN
      obtain ⟨D1, r1, r2, r3⟩ := reach_e (d := c + 1) h7 hR hg hdb nA.1 nA.2
      have haf : fX8_after (nI x) (nI s) D = some (nI (nbq n (oed n lp) x s)) := by
        have := af_lp hD h2 h7 (show s < 128 by omega) (oed n lp) ow_N 0 x (by omega) (by unfold ow_N; omega) hxN
        rw [nbq_aft h2 ho, nI_0] at this
        exact this
      have take : okq bd n lp g s = true → ∃ D2, (∀ K, lpX8_findSteps_121 (bI bd) x3 x4 (nI x) K f (nI (s + 1)) D1 = K (nI (2 ^ oed n lp)) D2) ∧ fM D D2 ∧ RD D2 (fdS (okq bd n lp g) (nbq n (oed n lp) x) (c + 1) m (s + 1) (if okq bd n lp g s then psh S (nbq n (oed n lp) x s) (c + 1) else S)) := by
        intro hok
        rw [hok]
        obtain ⟨D2, k1, k2, k3⟩ := ih (s + 1) f (psh S (nbq n (oed n lp) x s) (c + 1)) D1 (FD_fM hD r3) r2 (psh_g hg nA.1 nA.2) (fun y d hy => by
          have := fdS_d (ok := fun _ => true) (nb := fun _ => nbq n (oed n lp) x s) (d := c + 1) 1 0 S y d hy
          rcases this with w | w
          · exact hdb y d w
          · omega) (psh_E.2.2.1 _ _ hSx) (by omega) (by omega) (by omega)
        exact ⟨D2, k1, fM_tr r3 k2, k3⟩
      have b10 : (bI true = 0) = False := by simp [bI]
      cases bd with
      | true =>
        obtain ⟨D2, k1, k2⟩ := take (by rw [okv]; rfl)
        refine ⟨D2, fun K => ?_, k2⟩
        simp only [he8, ow_obs, one_e (show oed n lp < 32 by omega), if_neg z, od_m hD h2 h7 hg128 (show s < 128 by omega), ho, b10, reduceIte, ite_self, nI_1, haf, if_pos i1, c1, ed, r1]
        exact k1 K
      | false =>
        by_cases qs : (s &&& (s - 1)) = 0
        · obtain ⟨D2, k1, k2⟩ := take (by rw [okv, qs]; rfl)
          refine ⟨D2, fun K => ?_, k2⟩
          simp only [he8, ow_obs, one_e (show oed n lp < 32 by omega), if_neg z, od_m hD h2 h7 hg128 (show s < 128 by omega), ho, b10, show bI false = 0 from rfl, ow_10, reduceIte, nI_1, haf, if_pos i1, c1, ed, r1, if_pos ((and_pred h0 (show s < 128 by omega)).mpr qs)]
          exact k1 K
        · obtain ⟨D2, k1, k2⟩ := skip (by rw [okv]; simp [qs])
          refine ⟨D2, fun K => ?_, k2⟩
          simp only [he8, ow_obs, one_e (show oed n lp < 32 by omega), if_neg z, show bI false = 0 from rfl, reduceIte, nI_1, if_neg (fun w => qs ((and_pred h0 (show s < 128 by omega)).mp w))]
          exact k1 K
section
variable {n g x0 goal : Nat} {lp bd : Bool} {S0 : bS}
theorem stT_d (h2 : 2 ≤ n) (h0 : gS (2 ^ (2 * n)) (AW n x0) S0) (hd0 : ∀ y d, S0.2.2 y = some d → d ≤ 0) : ∀ k y d, (stT bd n lp g S0 k).2.2 y = some d → d ≤ k := by
  intro k
  induction k with
  | zero => exact hd0
  | succ k ih =>
    intro y d hy
    by_cases q : k < (stT bd n lp g S0 k).2.1
    · obtain ⟨c, hc⟩ := (stT_g (bd := bd) (lp := lp) (g := g) h2 h0 k).1 k q
      have hck := ih _ _ hc
      rw [(stT_E h2 h0 q hc).1] at hy
      rcases fdS_d _ _ _ _ _ hy with w | w
      · have := ih y d w; omega
      · omega
    · have e : stT bd n lp g S0 (k + 1) = stT bd n lp g S0 k := stq_n q
      rw [e] at hy
      have := ih y d hy; omega
theorem m89 (x1 : Int32) (hx1 : x1 = bI bd) (h2 : 2 ≤ n) (h7 : n ≤ 7) (hg128 : g < 128) (h0 : gS (2 ^ (2 * n)) (AW n x0) S0) (hd0 : ∀ y d, S0.2.2 y = some d → d ≤ 0) (hgl : goal < 2 ^ (2 * n)) : ∀ (f k : Nat) (D : ow_M), RD D (stT bd n lp g S0 k) → FD D n lp g → k ≤ 630 → 630 - k < f →
    ∃ m D', k ≤ m ∧ (∀ i, k ≤ i → i < m → i < (stT bd n lp g S0 i).2.1 ∧ (stT bd n lp g S0 i).2.2 goal = none) ∧ ((stT bd n lp g S0 m).2.1 ≤ m ∨ ∃ c, (stT bd n lp g S0 m).2.2 goal = some c) ∧ (∀ K, lpX8_findSteps_89 x1 (nI goal) K f (nI k) D = K (nI m) D') ∧ RD D' (stT bd n lp g S0 m) ∧ fM D D' := by
  have hN14 : 2 ^ (2 * n) ≤ 2 ^ 14 := Nat.pow_le_pow_right (by decide) (by omega)
  have hN := p2_128 (oed_le (lp := lp) h7)
  have hN1 : 0 < 2 ^ oed n lp := Nat.pow_pos (by decide)
  intro f
  induction f with
  | zero => intro k D _ _ _ h; omega
  | succ f ih =>
    intro k D hR hD hk hf
    have hg := stT_g (bd := bd) (lp := lp) (g := g) h2 h0 k
    have hL := gS_le (AW_cn (x0 := x0) h7) hg
    have hdk := stT_d (bd := bd) (lp := lp) (g := g) h2 h0 hd0 k
    unfold lpX8_findSteps_89
    by_cases q : (stT bd n lp g S0 k).2.1 ≤ k
    · have z : D.1 34 23 ≤ nI k := by rw [hR.1]; exact (nI_leI (by omega) (by omega)).mpr q
      simp only [if_pos z]
      exact ⟨k, D, Nat.le_refl _, fun i h1 h3 => by omega, Or.inl q, fun _ => rfl, hR, fM_rf⟩
    · have z : ¬ D.1 34 23 ≤ nI k := by rw [hR.1, nI_leI (by omega) (by omega)]; exact q
      have i1 : ow_inn (nI goal) 16384 := (inn_nI (by omega)).mpr (by omega)
      have c1 : (nI goal).toNatClampNeg = goal := nI_clamp (by omega)
      have i2 : ow_inn (nI k) 16384 := (inn_nI (by omega)).mpr (by omega)
      have c2 : (nI k).toNatClampNeg = k := nI_clamp (by omega)
      simp only [if_neg z, if_pos i1, c1, hR.2.2 goal (show goal < 16384 by omega), if_pos i2, c2, hR.2.1 k (by omega)]
      cases hgd : (stT bd n lp g S0 k).2.2 goal with
      | some c =>
        have := hdk goal c hgd
        have z2 : ¬ e9 (some c) = -9 := fun w => (nI_m9 (by omega)).mp w
        simp only [if_neg z2]
        exact ⟨k, D, Nat.le_refl _, fun i h1 h3 => by omega, Or.inr ⟨c, hgd⟩, fun _ => rfl, hR, fM_rf⟩
      | none =>
        obtain ⟨c, hc⟩ := hg.1 k (by omega)
        obtain ⟨a1, a2⟩ := hg.2.2.1 _ _ hc
        have hck := hdk _ _ hc
        obtain ⟨D1, k1, k2, k3⟩ := m121 (bd := bd) (lp := lp) x1 hx1 (nI goal) (nI k) h2 h7 hg128 a1 a2 (show c < 1000 by omega) (2 ^ oed n lp - 1) 1 ow_N (stT bd n lp g S0 k) D hD hR hg (fun y d hy => by have := hdk y d hy; omega) hc (by omega) (by omega) (by unfold ow_N; omega)
        rw [← (stT_E h2 h0 (show k < (stT bd n lp g S0 k).2.1 by omega) hc).1] at k3
        obtain ⟨m, D', j1, j2, j3, j4, j5, j6⟩ := ih (k + 1) D1 k3 (FD_fM hD k2) (by omega) (by omega)
        have n1 : nI 1 = 1 := rfl
        rw [n1] at k1
        refine ⟨m, D', by omega, fun i h1 h3 => ?_, j3, fun K => ?_, j5, fM_tr k2 j6⟩
        · by_cases qi : i = k
          · rw [qi]; exact ⟨by omega, hgd⟩
          · exact j2 i (by omega) h3
        · simp only [show e9 none = -9 from rfl, reduceIte]
          rw [k1, nI_1]
          exact j4 K
end
theorem m2_lp (x1 : Int32) : ∀ (f i : Nat) (D : ow_M), i ≤ 16384 → 16384 - i < f → (∀ x, x < i → D.1 48 x = -9) → ∃ D2, (∀ K, lpX8_findSteps_2 x1 K f (nI i) D = K (nI 16384) D2) ∧ (∀ a, a ≠ 48 → D2.1 a = D.1 a) ∧ ∀ x, x < 16384 → D2.1 48 x = -9 := by
  intro f
  induction f with
  | zero => intro i D _ h; omega
  | succ f ih =>
    intro i D hi hf hz
    unfold lpX8_findSteps_2
    by_cases q : 16384 ≤ i
    · have e : i = 16384 := by omega
      have z : (16384 : Int32) ≤ nI 16384 := by decide
      subst e
      simp only [if_pos z]
      exact ⟨D, fun _ => rfl, fun _ _ => rfl, hz⟩
    · have i1 : ow_inn (nI i) 16384 := (inn_nI (by omega)).mpr (by omega)
      have c1 : (nI i).toNatClampNeg = i := nI_clamp (by omega)
      have z : ¬ (16384 : Int32) ≤ nI i := by rw [l_16384, nI_leI (by omega) (by omega)]; exact q
      obtain ⟨D2, k1, k2, k3⟩ := ih (i + 1) (ow_up D 48 i (-9)) (by omega) (by omega) (fun x hx => by
        by_cases qx : x = i
        · rw [qx, ow_up_s]
        · rw [ow_up_f (Or.inr qx)]; exact hz x (by omega))
      refine ⟨D2, fun K => ?_, fun a ha => by rw [k2 a ha, ow_up_c ha], k3⟩
      rw [if_neg z, if_pos i1, c1, nI_1]
      exact k1 K
