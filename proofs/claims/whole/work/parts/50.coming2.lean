/-- the reference's rows, while sets below s (and of s itself PERSONS below p) have been passed on -/
def QR (W V : Nat → Int32) (br : Nat → Nat → Bool) (n s p : Nat) : Prop := ∀ T, T < 2 ^ n → V T = (if T = 0 then 1 else 0) + smr (fun q => if T.testBit q = true ∧ (T ^^^ 2 ^ q < s ∨ (T ^^^ 2 ^ q = s ∧ q < p)) ∧ okf (br q) (T ^^^ 2 ^ q) q 0 = true then W (T ^^^ 2 ^ q) else 0) n 0
theorem ok_x {br : Nat → Bool} {T q : Nat} : okf br (T ^^^ 2 ^ q) q 0 = okf br T q 0 := by
  rw [Bool.eq_iff_iff, okf_iff, okf_iff]
  have e : ∀ b, b < q → (T ^^^ 2 ^ q).testBit b = T.testBit b := by
    intro b hb
    rw [Nat.testBit_xor, Nat.testBit_two_pow_of_ne (by omega), Bool.xor_false]
  constructor
  · intro h b h1 h2 h3
    rw [← e b (by omega)]; exact h b h1 h2 h3
  · intro h b h1 h2 h3
    rw [e b (by omega)]; exact h b h1 h2 h3
theorem QR_at2 {W V : Nat → Int32} {br : Nat → Nat → Bool} {n s p t : Nat} (h7 : n ≤ 7) (hW : WR W br n (2 ^ n)) (hQ : QR W V br n s p) (hs : t < 2 ^ n) (hts : t ≤ s) : V t = W t := by
  rw [hQ t hs]
  by_cases h0 : t = 0
  · subst h0
    rw [if_pos rfl, smr_congr (h2 := fun _ => 0) n 0 (fun q _ _ => by rw [if_neg]; rintro ⟨z, _⟩; rw [Nat.zero_testBit] at z; cases z), smr_0, Int32.add_zero]
    exact hW.1.symm
  · rw [if_neg h0, Int32.zero_add, hW.2 t (by omega) hs]
    apply smr_congr
    intro q _ hq
    rw [ok_x]
    by_cases w : t.testBit q = true ∧ okf (br q) t q 0 = true
    · rw [if_pos w, if_pos ⟨w.1, Or.inl (Nat.lt_of_lt_of_le (x_lt n (by omega) t hs q (by omega) w.1).1 hts), w.2⟩]
    · rw [if_neg w, if_neg (fun z => w ⟨z.1, z.2.2⟩)]
theorem QR_at {W V : Nat → Int32} {br : Nat → Nat → Bool} {n s p : Nat} (h7 : n ≤ 7) (hW : WR W br n (2 ^ n)) (hQ : QR W V br n s p) (hs : s < 2 ^ n) : V s = W s := QR_at2 h7 hW hQ hs (Nat.le_refl _)
theorem QR_next {W V : Nat → Int32} {br : Nat → Nat → Bool} {n s : Nat} (hQ : QR W V br n s n) : QR W V br n (s + 1) 0 := by
  intro T hT
  rw [hQ T hT]
  congr 1
  apply smr_congr
  intro q _ hq
  have e : (T ^^^ 2 ^ q < s ∨ (T ^^^ 2 ^ q = s ∧ q < n)) = (T ^^^ 2 ^ q < s + 1 ∨ (T ^^^ 2 ^ q = s + 1 ∧ q < 0)) := propext (by omega)
  simp only [e]
theorem md_in {W : Nat → Int32} {br : Nat → Nat → Bool} {n s : Nat} (h7 : n ≤ 7) (hs : s < 2 ^ n) (hW : WR W br n (2 ^ n)) (x1 : Int32) : ∀ (f p : Nat) (D : ow_M), D.1 34 5 = nI n → (∀ q, q < n → ∀ a, a < q → br q a = decide (D.1 39 q < D.1 39 a)) → QR W (D.1 51) br n s p → p ≤ n → n - p < f →
    ∃ D2, (∀ K, lpX8_coming_54 x1 (nI s) K f (nI p) D = K (nI n) D2) ∧ ow_x 51 D D2 ∧ QR W (D2.1 51) br n s n := by
  have hN : 2 ^ n ≤ 128 := Nat.pow_le_pow_right (n := 2) (i := n) (j := 7) (by decide) h7
  intro f
  induction f with
  | zero => intro p D _ _ _ _ h; omega
  | succ f ih =>
    intro p D hn hbr hQ hp hf
    unfold lpX8_coming_54
    by_cases h : n ≤ p
    · have : p = n := by omega
      subst this
      have z : D.1 34 5 ≤ nI p := by rw [hn]; exact (nI_leI (by omega) (by omega)).mpr h
      simp only [if_pos z]
      exact ⟨D, fun _ => rfl, ow_x_rf, hQ⟩
    · have z : ¬ D.1 34 5 ≤ nI p := by rw [hn, nI_leI (by omega) (by omega)]; exact h
      have hbit : (nI s >>> (nI p &&& 31)) &&& 1 = bI (s.testBit p) := bit_e (by omega) (by omega)
      simp only [if_neg z, hbit, nI_1, one_e (show p < 32 by omega), nx_or]
      have same : (∀ T, T < 2 ^ n → T.testBit p = true → T ^^^ 2 ^ p = s → okf (br p) s p 0 = true → False) → QR W (D.1 51) br n s (p + 1) := by
        intro hno T hT
        rw [hQ T hT]
        congr 1
        apply smr_congr
        intro q _ hq
        by_cases hqp : q = p
        · subst hqp
          by_cases w : T.testBit q = true ∧ (T ^^^ 2 ^ q < s ∨ (T ^^^ 2 ^ q = s ∧ q < q)) ∧ okf (br q) (T ^^^ 2 ^ q) q 0 = true
          · rw [if_pos w, if_pos ⟨w.1, by rcases w.2.1 with x | x; exact Or.inl x; omega, w.2.2⟩]
          · rw [if_neg w, if_neg]
            rintro ⟨x1, x2 | x2, x3⟩
            · exact w ⟨x1, Or.inl x2, x3⟩
            · rw [x2.1] at x3; exact hno T hT x1 x2.1 x3
        · have e : (T ^^^ 2 ^ q < s ∨ (T ^^^ 2 ^ q = s ∧ q < p)) = (T ^^^ 2 ^ q < s ∨ (T ^^^ 2 ^ q = s ∧ q < p + 1)) := propext (by omega)
          simp only [e]
      by_cases q : s.testBit p = true
      · have nb : ¬ bI (s.testBit p) = 0 := by rw [q]; decide
        simp only [if_neg nb]
        refine ih (p + 1) D hn hbr (same ?_) (by omega) (by omega)
        intro T hT t1 t2 _
        have := (x_lt n (by omega) T hT p (by omega) t1).2
        rw [t2, q] at this
        cases this
      · have qf : s.testBit p = false := by revert q; cases s.testBit p <;> simp
        have nb : bI (s.testBit p) = 0 := by rw [qf]; rfl
        simp only [if_pos nb, mst_eq (D := D) (br := br p) (p := p) (S := s) (by omega) (by omega) (hbr p (by omega)), ow_obs]
        by_cases o : okf (br p) s p 0 = true
        · obtain ⟨g1, g2, g3, g4⟩ := or_gt n (by omega) s hs p (by omega) qf
          have no : ¬ bI (okf (br p) s p 0) = 0 := by rw [o]; decide
          have i1 : ow_inn (nI s) 128 := (inn_nI (by omega)).mpr (by omega)
          have c1 : (nI s).toNatClampNeg = s := nI_clamp (by omega)
          have i2 : ow_inn (nI (s ||| 2 ^ p)) 128 := (inn_nI (by omega)).mpr (by omega)
          have c2 : (nI (s ||| 2 ^ p)).toNatClampNeg = s ||| 2 ^ p := nI_clamp (by omega)
          simp only [if_neg no, if_pos i1, if_pos i2, c1, c2]
          have hWs : D.1 51 s = W s := QR_at h7 hW hQ hs
          have hQ2 : QR W ((ow_up D 51 (s ||| 2 ^ p) (D.1 51 (s ||| 2 ^ p) + D.1 51 s)).1 51) br n s (p + 1) := by
            intro T hT
            by_cases hT0 : T = s ||| 2 ^ p
            · subst hT0
              rw [ow_up_s, hWs, hQ _ hT, Int32.add_assoc]
              congr 1
              symm
              refine smr_one n 0 (Nat.zero_le p) (by omega) ?_ ?_
              · simp only [g3, g4]
                rw [if_pos ⟨trivial, Or.inr ⟨trivial, by omega⟩, o⟩, if_neg (by omega), Int32.zero_add]
              · intro x hx
                have e : ((s ||| 2 ^ p) ^^^ 2 ^ x < s ∨ ((s ||| 2 ^ p) ^^^ 2 ^ x = s ∧ x < p + 1)) = ((s ||| 2 ^ p) ^^^ 2 ^ x < s ∨ ((s ||| 2 ^ p) ^^^ 2 ^ x = s ∧ x < p)) := propext (by omega)
                simp only [e]
            · rw [ow_up_f (Or.inr hT0), hQ T hT]
              congr 1
              apply smr_congr
              intro x _ hx
              by_cases hxp : x = p
              · subst hxp
                have hne : T.testBit x = true → ¬ T ^^^ 2 ^ x = s := by
                  intro t1 t2
                  apply hT0
                  rw [← t2]
                  apply Nat.eq_of_testBit_eq
                  intro b
                  rw [Nat.testBit_or, Nat.testBit_xor]
                  by_cases hb : b = x
                  · subst hb; rw [t1, Nat.testBit_two_pow_self]; rfl
                  · rw [Nat.testBit_two_pow_of_ne (fun z => hb z.symm), Bool.xor_false, Bool.or_false]
                by_cases t1 : T.testBit x = true
                · have e : (T ^^^ 2 ^ x < s ∨ (T ^^^ 2 ^ x = s ∧ x < x)) = (T ^^^ 2 ^ x < s ∨ (T ^^^ 2 ^ x = s ∧ x < x + 1)) := propext ⟨fun h => h.elim Or.inl (fun h => absurd h.2 (by omega)), fun h => h.elim Or.inl (fun h => absurd h.1 (hne t1))⟩
                  simp only [e]
                · rw [if_neg (fun z => t1 z.1), if_neg (fun z => t1 z.1)]
              · have e : (T ^^^ 2 ^ x < s ∨ (T ^^^ 2 ^ x = s ∧ x < p)) = (T ^^^ 2 ^ x < s ∨ (T ^^^ 2 ^ x = s ∧ x < p + 1)) := propext (by omega)
                simp only [e]
          obtain ⟨D2, k1, k2, k3⟩ := ih (p + 1) _ (by rw [ow_up_c (by decide)]; exact hn) (by rw [ow_up_c (by decide)]; exact hbr) hQ2 (by omega) (by omega)
          exact ⟨D2, k1, ow_x_tr (ow_x_up ow_x_rf) k2, k3⟩
        · have of' : okf (br p) s p 0 = false := by revert o; cases okf (br p) s p 0 <;> simp
          have no : bI (okf (br p) s p 0) = 0 := by rw [of']; rfl
          simp only [if_pos no]
          exact ih (p + 1) D hn hbr (same (fun _ _ _ _ x => o x)) (by omega) (by omega)
theorem md_out {W : Nat → Int32} {br : Nat → Nat → Bool} {n : Nat} (h7 : n ≤ 7) (hW : WR W br n (2 ^ n)) : ∀ (f s : Nat) (D : ow_M), D.1 34 5 = nI n → (∀ q, q < n → ∀ a, a < q → br q a = decide (D.1 39 q < D.1 39 a)) → QR W (D.1 51) br n s 0 → s ≤ 2 ^ n → 2 ^ n - s < f →
    ∃ D2, (∀ K, lpX8_coming_47 (nI (2 ^ n)) K f (nI s) D = K (nI (2 ^ n)) D2) ∧ ow_x 51 D D2 ∧ QR W (D2.1 51) br n (2 ^ n) 0 := by
  have hN : 2 ^ n ≤ 128 := Nat.pow_le_pow_right (n := 2) (i := n) (j := 7) (by decide) h7
  intro f
  induction f with
  | zero => intro s D _ _ _ _ h; omega
  | succ f ih =>
    intro s D hn hbr hQ hs hf
    unfold lpX8_coming_47
    by_cases h : 2 ^ n ≤ s
    · have e : s = 2 ^ n := by omega
      rw [e] at hQ ⊢
      have z : nI (2 ^ n) ≤ nI (2 ^ n) := (nI_leI (by omega) (by omega)).mpr (Nat.le_refl _)
      simp only [if_pos z]
      exact ⟨D, fun _ => rfl, ow_x_rf, hQ⟩
    · have z : ¬ nI (2 ^ n) ≤ nI s := by rw [nI_leI (by omega) (by omega)]; exact h
      obtain ⟨D2, k1, k2, k3⟩ := md_in (s := s) h7 (by omega) hW (nI (2 ^ n)) ow_N 0 D hn hbr hQ (by omega) (by unfold ow_N; omega)
      rw [nI_0] at k1
      obtain ⟨D3, l1, l2, l3⟩ := ih (s + 1) D2 (by rw [k2 34 (by decide)]; exact hn) (by rw [k2 39 (by decide)]; exact hbr) (QR_next k3) (by omega) (by omega)
      refine ⟨D3, fun K => ?_, ow_x_tr k2 l2, l3⟩
      simp only [if_neg z, nI_1]
      rw [k1]
      exact l1 K
theorem mi_lp {n : Nat} (h7 : n ≤ 7) : ∀ (f s : Nat) (D : ow_M), s ≤ 2 ^ n → 2 ^ n - s < f → (∀ T, T < s → D.1 51 T = if T = 0 then 1 else 0) →
    ∃ D2, (∀ K, lpX8_coming_19 (nI (2 ^ n)) K f (nI s) D = K (nI (2 ^ n)) D2) ∧ ow_x 51 D D2 ∧ ∀ T, T < 2 ^ n → D2.1 51 T = if T = 0 then 1 else 0 := by
  have hN : 2 ^ n ≤ 128 := Nat.pow_le_pow_right (n := 2) (i := n) (j := 7) (by decide) h7
  intro f
  induction f with
  | zero => intro s D _ h; omega
  | succ f ih =>
    intro s D hs hf hD
    unfold lpX8_coming_19
    by_cases h : 2 ^ n ≤ s
    · have e : s = 2 ^ n := by omega
      rw [e] at hD ⊢
      have z : nI (2 ^ n) ≤ nI (2 ^ n) := (nI_leI (by omega) (by omega)).mpr (Nat.le_refl _)
      simp only [if_pos z]
      exact ⟨D, fun _ => rfl, ow_x_rf, hD⟩
    · have z : ¬ nI (2 ^ n) ≤ nI s := by rw [nI_leI (by omega) (by omega)]; exact h
      have i1 : ow_inn (nI s) 128 := (inn_nI (by omega)).mpr (by omega)
      have c1 : (nI s).toNatClampNeg = s := nI_clamp (by omega)
      have z0 : (nI s = 0) = (s = 0) := by rw [l_0]; exact propext (nI_eq (by omega) (by omega))
      have nxt : ∀ v, (v = if s = 0 then 1 else 0) → ∃ D2, (∀ K, lpX8_coming_19 (nI (2 ^ n)) K f (nI (s + 1)) (ow_up D 51 s v) = K (nI (2 ^ n)) D2) ∧ ow_x 51 D D2 ∧ ∀ T, T < 2 ^ n → D2.1 51 T = if T = 0 then 1 else 0 := by
        intro v hv
        obtain ⟨D2, k1, k2, k3⟩ := ih (s + 1) (ow_up D 51 s v) (by omega) (by omega) (fun T hT => by
          by_cases q : T = s
          · subst q; rw [ow_up_s]; exact hv
          · rw [ow_up_f (Or.inr q)]; exact hD T (by omega))
        exact ⟨D2, k1, ow_x_tr (ow_x_up ow_x_rf) k2, k3⟩
      simp only [if_neg z, if_pos i1, c1, z0, nI_1]
      by_cases q : s = 0
      · simp only [if_pos q]; exact nxt 1 (by rw [if_pos q])
      · simp only [if_neg q]; exact nxt 0 (by rw [if_neg q])
theorem sp_coming {M : ow_M} (hI : ow_I M) : ∃ r M1 M2, fX7_coming M = some (r, M1) ∧ fX8_coming M1 = some (r, M2) ∧ ow_I M2 := by
  obtain ⟨n, lp, g, rc, hA, hB, hR, hS, hT, hF⟩ := id hI
  obtain ⟨h0, h7, hn, he, hl, hg, hw, hv⟩ := id hA
  obtain ⟨b1, b2, b3, b4⟩ := id hB
  have hN : 2 ^ n ≤ 128 := Nat.pow_le_pow_right (n := 2) (i := n) (j := 7) (by decide) h7
  have hN1 : 0 < 2 ^ n := Nat.pow_pos (by decide)
  unfold fX7_coming
  rw [there_0 hn h7, ow_obs]
  by_cases n0 : n = 0
  · subst n0
    simp only [reduceIte]
    refine ⟨_, _, M, rfl, ?_, hI⟩
    unfold fX8_coming
    rw [b1, if_pos (by rfl)]
  · simp only [if_neg n0, ow_10, reduceIte]
    have e1 : (1 : Int32) <<< (M.1 2 0 &&& 31) = nI (2 ^ n) := by rw [hn]; exact one_e (by omega)
    have el : nI (2 ^ n) - 1 = nI (2 ^ n - 1) := by rw [l_1, pk_sub (by omega)]
    have il : ow_inn (nI (2 ^ n - 1)) 128 := (inn_nI (by omega)).mpr (by omega)
    have cl : (nI (2 ^ n - 1)).toNatClampNeg = 2 ^ n - 1 := nI_clamp (by omega)
    obtain ⟨C2, k1, k2, k3⟩ := cm_out h7 (brC M) ow_N 1 (ow_up M 18 0 1) (by rw [ow_up_c (by decide)]; exact hn) (fun p => by funext b; unfold brC; rw [ow_up_c (a := 4) (by decide)]) (by decide) (by omega) (by unfold ow_N; omega) ⟨ow_up_s, fun T h1 h2 => by omega⟩
    have k1' := k1 (fun u15 M16 => if ow_inn ((1 <<< ((M.1 2 0) &&& 31)) - 1) 128 then some ((M16.1 18 ((1 <<< ((M.1 2 0) &&& 31)) - 1).toNatClampNeg), M16) else none)
    have cls : fX2_howManyCome M = some (C2.1 18 (2 ^ n - 1), C2) := by
      unfold fX2_howManyCome
      rw [if_pos (show ow_inn 0 128 by decide)]
      have c0 : (0 : Int32).toNatClampNeg = 0 := by decide
      rw [c0]
      rw [e1] at k1' ⊢
      refine k1'.trans ?_
      rw [el]
      simp only [if_pos il, cl]
    rw [cls, ow_bd_eq]
    have xC : ow_x 18 M C2 := ow_x_tr (ow_x_up ow_x_rf) k2
    have c34 : C2.1 34 = M.1 34 := xC 34 (by decide)
    have c39 : C2.1 39 = M.1 39 := xC 39 (by decide)
    obtain ⟨D1, l1, l2, l3⟩ := mi_lp (n := n) h7 ow_N 0 C2 (by omega) (by unfold ow_N; omega) (fun T h => by omega)
    have hbr : ∀ q, q < n → ∀ a, a < q → brC M q a = decide (D1.1 39 q < D1.1 39 a) := by
      intro q hq a ha
      unfold brC
      rw [l2 39 (by decide), c39, (b4 q hq).2.1, (b4 a (by omega)).2.1]
    have hQ0 : QR (C2.1 18) (D1.1 51) (brC M) n 0 0 := by
      intro T hT
      rw [l3 T hT, smr_congr (h2 := fun _ => 0) n 0 (fun q _ _ => by rw [if_neg]; rintro ⟨_, z, _⟩; omega), smr_0, Int32.add_zero]
    obtain ⟨D2, m1, m2, m3⟩ := md_out h7 k3 ow_N 0 D1 (by rw [l2 34 (by decide), c34]; exact b1) hbr hQ0 (by omega) (by unfold ow_N; omega)
    have hlast : D2.1 51 (2 ^ n - 1) = C2.1 18 (2 ^ n - 1) := QR_at2 h7 k3 m3 (by omega) (by omega)
    refine ⟨_, _, D2, rfl, ?_, ?_⟩
    · unfold fX8_coming
      have e5 : C2.1 34 5 = nI n := by rw [c34]; exact b1
      have z : ¬ C2.1 34 5 = 0 := by rw [e5, l_0, nI_eq (by omega) (by omega)]; exact n0
      have e2 : (1 : Int32) <<< (C2.1 34 5 &&& 31) = nI (2 ^ n) := by rw [e5]; exact one_e (by omega)
      rw [if_neg z, e2]
      have l1' := l1 (fun u6 M7 => lpX8_coming_47 (nI (2 ^ n)) (fun u19 M20 => if ow_inn (nI (2 ^ n) - 1) 128 then some ((M20.1 51 (nI (2 ^ n) - 1).toNatClampNeg), M20) else none) ow_N 0 M7)
      rw [nI_0] at l1' m1
      refine l1'.trans ?_
      rw [m1, el]
      simp only [if_pos il, cl, hlast]
    · refine ow_I_eq (M := M) (fun a ha => ?_) (fun j _ => ?_) hI
      · rw [m2 a (all_ne ha (by decide)), l2 a (all_ne ha (by decide)), xC a (all_ne ha (by decide))]
      · rw [m2 34 (by decide), l2 34 (by decide), c34]
