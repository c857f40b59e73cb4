theorem okq_0 {bd : Bool} {n : Nat} {lp : Bool} {g : Nat} : okq bd n lp g 0 = false := rfl
theorem FC_fT {C D : ow_M} {n g : Nat} {lp : Bool} (h : FC C n lp g) (x : fT C D) : FC D n lp g := by
  unfold FC at *
  rw [x.1 2 (by decide) (by decide) (by decide), x.1 7 (by decide) (by decide) (by decide), x.1 3 (by decide) (by decide) (by decide)]
  exact h
theorem xS_fT {C D : ow_M} {ok : Nat → Bool} {s : Nat} (h : xS C ok s) (x : fT C D) : xS D ok s := ⟨by rw [x.2]; exact h.1, by rw [x.1 14 (by decide) (by decide) (by decide)]; exact h.2⟩
theorem go_e {n g x x0 d : Nat} {lp bd : Bool} {S : bS} {C : ow_M} (hC : FC C n lp g) (hR : RC C S) (hg : gS (2 ^ (2 * n)) (AW n x0) S) (hX : xS C (okq bd n lp g) (2 ^ oed n lp)) (hAx : AW n x0 x = true) (hxN : x < 2 ^ (2 * n)) :
    ∃ C2, fX6_goOnFrom (nI x) C = some C2 ∧ fT C C2 ∧ RC C2 (fdS (okq bd n lp g) (nbq n (oed n lp) x) d (2 ^ oed n lp - 1) 1 S) := by
  have h7 := hC.2.1
  have hE7 := oed_le (lp := lp) h7
  have hN := p2_128 hE7
  have hN1 : 0 < 2 ^ oed n lp := Nat.pow_pos (by decide)
  have hN14 : 2 ^ (2 * n) ≤ 2 ^ 14 := Nat.pow_le_pow_right (by decide) (by omega)
  have c0 : (0 : Int32).toNatClampNeg = 0 := by decide
  have f0 : fT C (ow_up C 15 0 0) := ⟨fun a _ _ h3 => ow_up_c h3, by rw [ow_up_c (by decide)]⟩
  obtain ⟨C1, k1, k2, k3, k4⟩ := g9 (n := n) (g := g) (x := x) (lp := lp) (by omega) ow_N 0 (ow_up C 15 0 0) (FC_fT hC f0) (by omega) (by unfold ow_N; omega) (fun j hj => by omega)
  have f1 : fT (ow_up C 15 0 0) C1 := ⟨fun a _ _ h3 => k2 a h3, by rw [k2 11 (by decide)]⟩
  have f2 := fT_tr f0 f1
  have hR1 : RC C1 S := by
    refine ⟨?_, ?_, ?_⟩
    · rw [k2 11 (by decide), ow_up_c (by decide)]; exact hR.1
    · rw [k2 13 (by decide), ow_up_c (by decide)]; exact hR.2.1
    · rw [k3]; exact hR.2.2
  obtain ⟨C2, l1, l2, l3⟩ := g43 (d := d) (bd := bd) hAx hxN (2 ^ oed n lp - 1) 1 ow_N S C1 (FC_fT hC f2) hR1 hg (xS_fT hX f2) (by omega) (by omega) (by unfold ow_N; omega) k4 (fun t ht hot => by
    have : t = 0 := by omega
    rw [this, okq_0] at hot; cases hot)
  refine ⟨C2, ?_, fT_tr f2 l2, l3⟩
  unfold fX6_goOnFrom
  rw [if_pos (show ow_inn 0 128 by decide), c0]
  have k1' := k1 (fun u8 M9 => lpX6_goOnFrom_43 (nI x) (fun u21 M22 => some M22) ow_N 0 M9)
  rw [nI_0] at k1'
  refine k1'.trans ?_
  have e1 : cnB (okq bd n lp g) 1 = 0 := rfl
  rw [e1, nI_0] at l1
  exact l1
section
variable {n g x0 goal : Nat} {lp bd : Bool} {S0 : bS}
theorem hnbA (h2 : 2 ≤ n) : ∀ x s, AW n x0 x = true → x < 2 ^ (2 * n) → s < 2 ^ oed n lp → okq bd n lp g s = true → AW n x0 (nbq n (oed n lp) x s) = true ∧ nbq n (oed n lp) x s < 2 ^ (2 * n) := by
  intro x s h1 h3 _ ho
  have hod : odf n g s (oed n lp) 0 0 = true := by unfold okq at ho; rw [Bool.and_eq_true] at ho; exact ho.2
  exact nbq_A h2 oed_le_n hod h1 h3
/-- the states of the search -/
def stT (bd : Bool) (n : Nat) (lp : Bool) (g : Nat) (S0 : bS) (k : Nat) : bS := stq (okq bd n lp g) (nbq n (oed n lp)) (2 ^ oed n lp) S0 k
theorem stT_g (h2 : 2 ≤ n) (h0 : gS (2 ^ (2 * n)) (AW n x0) S0) (k : Nat) : gS (2 ^ (2 * n)) (AW n x0) (stT bd n lp g S0 k) := stq_g (Nat.pow_pos (by decide)) (hnbA h2) h0 k
theorem stT_m (h2 : 2 ≤ n) (h0 : gS (2 ^ (2 * n)) (AW n x0) S0) {j k : Nat} (h : j ≤ k) : (stT bd n lp g S0 j).2.1 ≤ (stT bd n lp g S0 k).2.1 ∧ (∀ i, i < (stT bd n lp g S0 j).2.1 → (stT bd n lp g S0 k).1 i = (stT bd n lp g S0 j).1 i) ∧ ∀ x d, (stT bd n lp g S0 j).2.2 x = some d → (stT bd n lp g S0 k).2.2 x = some d := stq_m (A := AW n x0) (N := 2 ^ (2 * n)) (Nat.pow_pos (by decide)) (hnbA h2) h0 k h
theorem stT_E (h2 : 2 ≤ n) (h0 : gS (2 ^ (2 * n)) (AW n x0) S0) {k c : Nat} (hk : k < (stT bd n lp g S0 k).2.1) (hc : (stT bd n lp g S0 k).2.2 ((stT bd n lp g S0 k).1 k) = some c) : stT bd n lp g S0 (k + 1) = fdS (okq bd n lp g) (nbq n (oed n lp) ((stT bd n lp g S0 k).1 k)) (c + 1) (2 ^ oed n lp - 1) 1 (stT bd n lp g S0 k) ∧ bE (c + 1) (stT bd n lp g S0 k) (stT bd n lp g S0 (k + 1)) := by
  have e := stq_s (ok := okq bd n lp g) (nb := nbq n (oed n lp)) (E2 := 2 ^ oed n lp) (S0 := S0) hk
  have e2 := (exA_gE (A := AW n x0) (N := 2 ^ (2 * n)) (ok := okq bd n lp g) (nb := nbq n (oed n lp)) (E2 := 2 ^ oed n lp) (Nat.pow_pos (by decide)) (hnbA h2) (stT_g (bd := bd) (lp := lp) (g := g) h2 h0 k) hk).2
  unfold exA at e e2
  have hc' : (stq (okq bd n lp g) (nbq n (oed n lp)) (2 ^ oed n lp) S0 k).2.2 ((stq (okq bd n lp g) (nbq n (oed n lp)) (2 ^ oed n lp) S0 k).1 k) = some c := hc
  rw [hc'] at e
  rw [hc] at e2
  have e3 : stT bd n lp g S0 (k + 1) = fdS (okq bd n lp g) (nbq n (oed n lp) ((stT bd n lp g S0 k).1 k)) (c + 1) (2 ^ oed n lp - 1) 1 (stT bd n lp g S0 k) := e
  refine ⟨e3, ?_⟩
  rw [e3]
  exact e2
theorem c75 (h2 : 2 ≤ n) (h7 : n ≤ 7) (h0 : gS (2 ^ (2 * n)) (AW n x0) S0) (hgl : goal < 2 ^ (2 * n)) (cnt e : Nat) : ∀ (f k : Nat) (C : ow_M), RC C (stT bd n lp g S0 k) → FC C n lp g → xS C (okq bd n lp g) (2 ^ oed n lp) → k ≤ e → e ≤ (stT bd n lp g S0 k).2.1 → (∀ i, k ≤ i → i < e → (stT bd n lp g S0 k).2.2 ((stT bd n lp g S0 k).1 i) = some cnt) → (∀ i, e ≤ i → i < (stT bd n lp g S0 k).2.1 → (stT bd n lp g S0 k).2.2 ((stT bd n lp g S0 k).1 i) = some (cnt + 1)) → e - k < f →
    (∃ i C', k ≤ i ∧ i < (stT bd n lp g S0 i).2.1 ∧ (stT bd n lp g S0 i).1 i = goal ∧ (stT bd n lp g S0 i).2.2 goal = some cnt ∧ (∀ K, lpX6_leastSteps_75 (nI goal) (nI cnt) (nI e) K f (nI k) C = some (nI cnt, C')) ∧ fT C C') ∨
    (∃ C', (∀ i, k ≤ i → i < e → i < (stT bd n lp g S0 i).2.1 ∧ (stT bd n lp g S0 i).1 i ≠ goal) ∧ (∀ K, lpX6_leastSteps_75 (nI goal) (nI cnt) (nI e) K f (nI k) C = K (nI e) C') ∧ RC C' (stT bd n lp g S0 e) ∧ fT C C' ∧ ∀ i, e ≤ i → i < (stT bd n lp g S0 e).2.1 → (stT bd n lp g S0 e).2.2 ((stT bd n lp g S0 e).1 i) = some (cnt + 1)) := by
  have hN14 : 2 ^ (2 * n) ≤ 2 ^ 14 := Nat.pow_le_pow_right (by decide) (by omega)
  intro f
  induction f with
  | zero => intro k C _ _ _ _ _ _ _ h; omega
  | succ f ih =>
    intro k C hR hC hX hk he hl1 hl2 hf
    have hg := stT_g (bd := bd) (lp := lp) (g := g) h2 h0 k
    have hL := gS_le (AW_cn (x0 := x0) h7) hg
    unfold lpX6_leastSteps_75
    by_cases q : e ≤ k
    · have : k = e := by omega
      subst this
      have z : nI k ≤ nI k := (nI_leI (by omega) (by omega)).mpr (Nat.le_refl _)
      simp only [if_pos z]
      exact Or.inr ⟨C, fun i h1 h3 => by omega, fun _ => rfl, hR, fT_rf, hl2⟩
    · have z : ¬ nI e ≤ nI k := by rw [nI_leI (by omega) (by omega)]; exact q
      have i1 : ow_inn (nI k) 630 := (inn_nI (by omega)).mpr (by omega)
      have c1 : (nI k).toNatClampNeg = k := nI_clamp (by omega)
      have hq := hR.2.1 k (by omega)
      have hd := hl1 k (by omega) (by omega)
      obtain ⟨a1, a2⟩ := hg.2.2.1 _ _ hd
      simp only [if_neg z, if_pos i1, c1, hq]
      by_cases qg : (stT bd n lp g S0 k).1 k = goal
      · have z2 : nI ((stT bd n lp g S0 k).1 k) = nI goal := by rw [qg]
        simp only [if_pos z2]
        exact Or.inl ⟨k, C, Nat.le_refl _, by omega, qg, by rw [← qg]; exact hd, fun _ => rfl, fT_rf⟩
      · have z2 : ¬ nI ((stT bd n lp g S0 k).1 k) = nI goal := by rw [nI_eq (by omega) (by omega)]; exact qg
        obtain ⟨e1, e2, e3, e4, e5⟩ := stT_E (bd := bd) (lp := lp) (g := g) h2 h0 (show k < (stT bd n lp g S0 k).2.1 by omega) hd
        obtain ⟨C1, k1, k2, k3⟩ := go_e (d := cnt + 1) (bd := bd) hC hR hg hX a1 a2
        rw [← e1] at k3
        simp only [if_neg z2, k1, ow_obs, nI_1]
        have step := ih (k + 1) C1 k3 (FC_fT hC k2) (xS_fT hX k2) (by omega) (by omega) (fun i h1 h3 => by
          rw [e3 i (by omega)]
          exact e4 _ _ (hl1 i (by omega) h3)) (fun i h1 h3 => by
          by_cases qi : i < (stT bd n lp g S0 k).2.1
          · rw [e3 i qi]; exact e4 _ _ (hl2 i h1 qi)
          · exact e5 i (by omega) h3) (by omega)
        rcases step with ⟨i, C', j1, j2, j3, j4, j5, j6⟩ | ⟨C', j1, j2, j3, j4, j5⟩
        · exact Or.inl ⟨i, C', by omega, j2, j3, j4, j5, fT_tr k2 j6⟩
        · refine Or.inr ⟨C', fun i h1 h3 => ?_, j2, j3, fT_tr k2 j4, j5⟩
          by_cases qi : i = k
          · rw [qi]; exact ⟨by omega, qg⟩
          · exact j1 i (by omega) h3
theorem c52 (h2 : 2 ≤ n) (h7 : n ≤ 7) (h0 : gS (2 ^ (2 * n)) (AW n x0) S0) (hgl : goal < 2 ^ (2 * n)) : ∀ (f k cnt : Nat) (C : ow_M), RC C (stT bd n lp g S0 k) → FC C n lp g → xS C (okq bd n lp g) (2 ^ oed n lp) → (∀ i, k ≤ i → i < (stT bd n lp g S0 k).2.1 → (stT bd n lp g S0 k).2.2 ((stT bd n lp g S0 k).1 i) = some cnt) → cnt ≤ k → k ≤ 630 → 630 - k < f →
    ∃ r C', lpX6_leastSteps_52 (nI goal) (fun _ _ M27 => some ((-9), M27)) f (nI k) (nI cnt) C = some (r, C') ∧ fT C C' ∧ ((∃ i c, k ≤ i ∧ i < (stT bd n lp g S0 i).2.1 ∧ (stT bd n lp g S0 i).1 i = goal ∧ (stT bd n lp g S0 i).2.2 goal = some c ∧ r = nI c) ∨ (∃ m, k ≤ m ∧ (stT bd n lp g S0 m).2.1 ≤ m ∧ (∀ i, k ≤ i → i < m → i < (stT bd n lp g S0 i).2.1 ∧ (stT bd n lp g S0 i).1 i ≠ goal) ∧ r = -9)) := by
  intro f
  induction f with
  | zero => intro k cnt C _ _ _ _ _ _ h; omega
  | succ f ih =>
    intro k cnt C hR hC hX hl hck hk hf
    have hg := stT_g (bd := bd) (lp := lp) (g := g) h2 h0 k
    have hL := gS_le (AW_cn (x0 := x0) h7) hg
    unfold lpX6_leastSteps_52
    by_cases q : (stT bd n lp g S0 k).2.1 ≤ k
    · have z : C.1 11 2 ≤ nI k := by rw [hR.1]; exact (nI_leI (by omega) (by omega)).mpr q
      rw [if_pos z, ite_self]
      exact ⟨_, C, rfl, fT_rf, Or.inr ⟨k, Nat.le_refl _, q, fun i h1 h3 => by omega, rfl⟩⟩
    · have z : ¬ C.1 11 2 ≤ nI k := by rw [hR.1, nI_leI (by omega) (by omega)]; exact q
      rw [if_neg (by rw [l_630, nI_leI (by omega) (by omega)]; omega), if_neg z, hR.1]
      rcases c75 (bd := bd) (lp := lp) (g := g) h2 h7 h0 hgl cnt (stT bd n lp g S0 k).2.1 ow_N k C hR hC hX (by omega) (Nat.le_refl _) hl (fun i h1 h3 => by omega) (by unfold ow_N; omega) with ⟨i, C', j1, j2, j3, j4, j5, j6⟩ | ⟨C', j1, j2, j3, j4, j5⟩
      · rw [j5]
        exact ⟨_, C', rfl, j6, Or.inl ⟨i, cnt, j1, j2, j3, j4, rfl⟩⟩
      · rw [j2, nI_1]
        obtain ⟨r, C2, l1, l2, l3⟩ := ih (stT bd n lp g S0 k).2.1 (cnt + 1) C' j3 (FC_fT hC j4) (xS_fT hX j4) j5 (by omega) hL (by omega)
        refine ⟨r, C2, l1, fT_tr j4 l2, ?_⟩
        rcases l3 with ⟨i, c, m1, m2, m3, m4, m5⟩ | ⟨m, m1, m2, m3, m4⟩
        · exact Or.inl ⟨i, c, by omega, m2, m3, m4, m5⟩
        · refine Or.inr ⟨m, by omega, m2, fun i h1 h3 => ?_, m4⟩
          by_cases qi : i < (stT bd n lp g S0 k).2.1
          · exact j1 i h1 qi
          · exact m3 i (by omega) h3
end
/-! what each holds, as one number -/
def hcd (v : Nat → Nat) : Nat → Nat
  | 0 => 0
  | m + 1 => hcd v m ||| v m * 2 ^ (2 * m)
theorem hcd_lt {v : Nat → Nat} : ∀ m, (∀ i, i < m → v i < 4) → hcd v m < 2 ^ (2 * m) := by
  intro m
  induction m with
  | zero => intro _; show 0 < 2 ^ 0; decide
  | succ m ih =>
    intro h
    have a1 : v m * 2 ^ (2 * m) < 4 * 2 ^ (2 * m) := Nat.mul_lt_mul_of_pos_right (h m (by omega)) (Nat.pow_pos (by decide))
    have a2 : 4 * 2 ^ (2 * m) = 2 ^ (2 * (m + 1)) := by rw [show 2 * (m + 1) = 2 + 2 * m by omega, Nat.pow_add]
    have a3 : 2 ^ (2 * m) ≤ 2 ^ (2 * (m + 1)) := Nat.pow_le_pow_right (by decide) (by omega)
    have a4 := ih (fun i hi => h i (by omega))
    exact Nat.or_lt_two_pow (by omega) (by omega)
theorem hd_c {M : ow_M} {o n : Nat} {v : Nat → Nat} (h7 : n ≤ 7) (hv : ∀ i, i < n → v i < 4 ∧ M.1 o i = nI (v i)) (K : Int32 → Int32 → Option Int32) : ∀ (f i : Nat), i ≤ n → n - i < f → lpX6_held_4 o (nI n) M K f (nI (hcd v i)) (nI i) = K (nI (hcd v n)) (nI n) := by
  intro f
  induction f with
  | zero => intro i _ h; omega
  | succ f ih =>
    intro i hi hf
    unfold lpX6_held_4
    by_cases q : n ≤ i
    · have : i = n := by omega
      subst this
      rw [if_pos ((nI_leI (by omega) (by omega)).mpr (Nat.le_refl _))]
    · obtain ⟨v1, v2⟩ := hv i (by omega)
      have i1 : ow_inn (nI i) 7 := (inn_nI (by omega)).mpr (by omega)
      have c1 : (nI i).toNatClampNeg = i := nI_clamp (by omega)
      have e7 : Int32.ofNat 7 = nI 7 := rfl
      have u1 := u_sh v1 (show i < 7 by omega)
      rw [if_neg (by rw [nI_leI (by omega) (by omega)]; exact q), if_neg (by rw [e7, nI_leI (by omega) (by omega)]; omega), if_pos i1, c1, v2, l_2, pk_mul, shl_e (by omega) (by omega), nx_or, nI_1]
      exact ih (i + 1) (by omega) (by omega)
theorem hd_m {M : ow_M} {n : Nat} {v w : Nat → Nat} (h7 : n ≤ 7) (hn : M.1 34 5 = nI n) (hv : ∀ i, i < n → v i < 4 ∧ M.1 40 i = nI (v i)) (hw : ∀ i, i < n → w i < 4 ∧ M.1 41 i = nI (w i)) (x1 : Int32) (K : Int32 → Int32 → Int32 → Option (Int32 × ow_M)) : ∀ (f i : Nat), i ≤ n → n - i < f → lpX8_findSteps_30 x1 M K f (nI (hcd v i)) (nI (hcd w i)) (nI i) = K (nI (hcd v n)) (nI (hcd w n)) (nI n) := by
  intro f
  induction f with
  | zero => intro i _ h; omega
  | succ f ih =>
    intro i hi hf
    unfold lpX8_findSteps_30
    by_cases q : n ≤ i
    · have : i = n := by omega
      subst this
      rw [hn, if_pos ((nI_leI (by omega) (by omega)).mpr (Nat.le_refl _))]
    · obtain ⟨v1, v2⟩ := hv i (by omega)
      obtain ⟨w1, w2⟩ := hw i (by omega)
      have i1 : ow_inn (nI i) 7 := (inn_nI (by omega)).mpr (by omega)
      have c1 : (nI i).toNatClampNeg = i := nI_clamp (by omega)
      have u1 := u_sh v1 (show i < 7 by omega)
      have u2 := u_sh w1 (show i < 7 by omega)
      rw [hn, if_neg (by rw [nI_leI (by omega) (by omega)]; exact q), if_pos i1, if_pos i1, c1, v2, w2, l_2, pk_mul, shl_e (by omega) (by omega), shl_e (by omega) (by omega), nx_or, nx_or, nI_1]
      exact ih (i + 1) (by omega) (by omega)
