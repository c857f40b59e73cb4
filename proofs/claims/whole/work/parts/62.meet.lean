theorem lgz (a : Int64) : (lg_cmp a 0 = 0) ↔ a = 0 := by
  unfold lg_cmp
  by_cases q : a > 0
  · rw [if_pos q]
    constructor
    · intro h; exact absurd h (by decide)
    · intro h; rw [h] at q; exact absurd q Int64.lt_irrefl
  · rw [if_neg q]
    by_cases q2 : a = 0
    · rw [if_pos q2]; exact ⟨fun _ => q2, fun _ => rfl⟩
    · rw [if_neg q2]; exact ⟨fun h => absurd h (by decide), fun h => absurd h q2⟩
theorem sh64 : ∀ k, k < 64 → (1 : Int64) <<< ((nI k).toInt64 &&& 63) = Int64.ofBitVec (BitVec.twoPow 64 k) := by decide +kernel
theorem bt_and {v : Int64} {k : Nat} (hk : k < 64) : (v &&& Int64.ofBitVec (BitVec.twoPow 64 k) = 0) ↔ v.toBitVec.getLsbD k = false := by
  rw [← Int64.toBitVec_inj, Int64.toBitVec_and]
  show (v.toBitVec &&& BitVec.twoPow 64 k = 0#64) ↔ _
  rw [BitVec.and_twoPow]
  cases h : v.toBitVec.getLsbD k with
  | false => simp
  | true =>
    simp only [reduceIte, Bool.true_eq_false, iff_false]
    intro w
    have := congrArg (fun z => z.getLsbD k) w
    simp only [BitVec.getLsbD_twoPow, BitVec.getLsbD_zero, decide_eq_true hk] at this
    simp at this
theorem bt_or {v : Int64} {k j : Nat} (hk : k < 64) : (v ||| Int64.ofBitVec (BitVec.twoPow 64 k)).toBitVec.getLsbD j = (v.toBitVec.getLsbD j || decide (j = k)) := by
  rw [Int64.toBitVec_or, BitVec.getLsbD_or]
  show (v.toBitVec.getLsbD j || (BitVec.twoPow 64 k).getLsbD j) = _
  rw [BitVec.getLsbD_twoPow, decide_eq_true hk, Bool.true_and]
  congr 1
  by_cases q : j = k
  · rw [decide_eq_true q, decide_eq_true q.symm]
  · rw [decide_eq_false q, decide_eq_false (fun w => q w.symm)]
/-- the class's memory holds the search -/
def RC (C : ow_M) (S : bS) : Prop := C.1 11 2 = nI S.2.1 ∧ (∀ i, i < S.2.1 → C.1 13 i = nI (S.1 i)) ∧ ∀ x, x < 16384 → (C.2 12 (x / 64)).toBitVec.getLsbD (x % 64) = (S.2.2 x).isSome
/-- what the search of the class leaves as it is -/
def fT (C D : ow_M) : Prop := (∀ a, a ≠ 11 → a ≠ 13 → a ≠ 15 → D.1 a = C.1 a) ∧ D.1 11 4 = C.1 11 4
theorem fT_rf {C : ow_M} : fT C C := ⟨fun _ _ _ _ => rfl, rfl⟩
theorem fT_tr {C D E : ow_M} (h : fT C D) (h2 : fT D E) : fT C E := ⟨fun a p q r => (h2.1 a p q r).trans (h.1 a p q r), h2.2.trans h.2⟩
theorem meet_e {n x0 x d : Nat} {C : ow_M} {S : bS} (h7 : n ≤ 7) (hC : RC C S) (hg : gS (2 ^ (2 * n)) (AW n x0) S) (hx : AW n x0 x = true) (hN : x < 2 ^ (2 * n)) : ∃ C2, fX6_meet (nI x) C = some C2 ∧ RC C2 (psh S x d) ∧ fT C C2 ∧ C2.1 15 = C.1 15 := by
  have hN14 : 2 ^ (2 * n) ≤ 2 ^ 14 := Nat.pow_le_pow_right (by decide) (by omega)
  obtain ⟨r1, r2, r3⟩ := id hC
  have hL := gS_le (AW_cn (x0 := x0) h7) hg
  have hxb := r3 x (by omega)
  have hw : x / 64 < 256 := by omega
  have hm : x % 64 < 64 := Nat.mod_lt _ (by decide)
  have e1 : nI x / 64 = nI (x / 64) := by rw [l_64, pk_div (by omega) (by decide) (by decide)]
  have e2 : nI x - nI x / 64 * 64 = nI (x % 64) := by rw [l_64, pk_rem (by omega) (by decide) (by decide)]
  have i1 : ow_inn (nI (x / 64)) 256 := (inn_nI (by omega)).mpr hw
  have c1 : (nI (x / 64)).toNatClampNeg = x / 64 := nI_clamp (by omega)
  unfold fX6_meet
  rw [if_neg (nI_pos (by omega))]
  rw [e2, e1, sh64 _ hm]
  rw [if_neg (by rw [l_256, nI_leI (by omega) (by omega)]; omega), r1]
  by_cases q : S.2.1 < 630
  · have iq : ow_inn (nI S.2.1) 630 := (inn_nI (by omega)).mpr q
    have cq : (nI S.2.1).toNatClampNeg = S.2.1 := nI_clamp (by omega)
    have e3 : (ow_upL C 12 (x / 64) (C.2 12 (x / 64) ||| Int64.ofBitVec (BitVec.twoPow 64 (x % 64)))).1 = C.1 := rfl
    have e4 : ∀ (M : ow_M) (v : Int32), (ow_up M 13 S.2.1 v).1 11 2 = M.1 11 2 := fun M v => by rw [ow_up_c (by decide)]
    rw [if_pos (by rw [l_630]; exact (nI_ltI (by omega) (by omega)).mpr q)]
    simp only [if_pos i1, c1, e3, r1, if_pos iq, cq, e4, nI_1]
    by_cases z : S.2.2 x = none
    · rw [z] at hxb
      rw [if_pos ((lgz _).mpr ((bt_and hm).mpr hxb))]
      refine ⟨_, rfl, ?_, ⟨fun a h1 h2 h3 => ?_, ?_⟩, ?_⟩
      · unfold psh
        rw [if_pos z]
        refine ⟨ow_up_s, ?_, ?_⟩
        · intro i hi
          have hi2 : i < S.2.1 + 1 := hi
          show _ = nI (if i = S.2.1 then x else S.1 i)
          rw [ow_up_c (by decide)]
          by_cases qi : i = S.2.1
          · rw [if_pos qi, qi, ow_up_s]
          · rw [if_neg qi, ow_up_f (Or.inr qi), e3]
            exact r2 i (by omega)
        · intro y hy
          show ((ow_upL C 12 (x / 64) (C.2 12 (x / 64) ||| Int64.ofBitVec (BitVec.twoPow 64 (x % 64)))).2 12 (y / 64)).toBitVec.getLsbD (y % 64) = (if y = x then some d else S.2.2 y).isSome
          have e5 : (ow_upL C 12 (x / 64) (C.2 12 (x / 64) ||| Int64.ofBitVec (BitVec.twoPow 64 (x % 64)))).2 12 (y / 64) = if 12 = 12 ∧ y / 64 = x / 64 then (C.2 12 (x / 64) ||| Int64.ofBitVec (BitVec.twoPow 64 (x % 64))) else C.2 12 (y / 64) := rfl
          rw [e5]
          by_cases qw : y / 64 = x / 64
          · rw [if_pos ⟨rfl, qw⟩, bt_or hm, ← qw, r3 y hy]
            by_cases qy : y = x
            · rw [if_pos qy, decide_eq_true (by rw [qy])]
              simp
            · rw [if_neg qy, decide_eq_false (by omega)]
              simp
          · rw [if_neg (fun w => qw w.2), r3 y hy, if_neg (fun w => qw (by rw [w]))]
      · rw [ow_up_c h1, ow_up_c h2]; rfl
      · rw [ow_up_f (Or.inr (by decide)), ow_up_c (by decide)]; rfl
      · rw [ow_up_c (by decide), ow_up_c (by decide)]; rfl
    · have hxb2 : (C.2 12 (x / 64)).toBitVec.getLsbD (x % 64) = true := by
        rw [hxb]
        cases hz : S.2.2 x with
        | none => exact absurd hz z
        | some d => rfl
      rw [if_neg (fun w => by rw [(bt_and hm).mp ((lgz _).mp w)] at hxb2; cases hxb2)]
      refine ⟨C, rfl, ?_, fT_rf, rfl⟩
      unfold psh
      rw [if_neg z]; exact hC
  · rw [if_neg (by rw [l_630, nI_ltI (by omega) (by omega)]; exact q)]
    refine ⟨C, rfl, ?_, fT_rf, rfl⟩
    unfold psh
    rw [if_neg (fun z => q (psh_lt (AW_cn (x0 := x0) h7) hg hx hN z))]
    exact hC
theorem fl_lp : ∀ (f i : Nat) (C : ow_M), i ≤ 256 → 256 - i < f → (∀ w, w < i → C.2 12 w = 0) → ∃ C2, lpJ7_fill_d0a16_6 0 256 (fun _ M4 => some M4) f (nI i) C = some C2 ∧ C2.1 = C.1 ∧ ∀ w, w < 256 → C2.2 12 w = 0 := by
  intro f
  induction f with
  | zero => intro i C _ h; omega
  | succ f ih =>
    intro i C hi hf hz
    unfold lpJ7_fill_d0a16_6
    by_cases q : 256 ≤ i
    · rw [if_pos (by rw [l_256]; exact (nI_leI (by omega) (by omega)).mpr q)]
      exact ⟨C, rfl, rfl, fun w hw => hz w (by omega)⟩
    · have i1 : ow_inn (nI i) 256 := (inn_nI (by omega)).mpr (by omega)
      have c1 : (nI i).toNatClampNeg = i := nI_clamp (by omega)
      rw [if_neg (by rw [l_256, nI_leI (by omega) (by omega)]; exact q), if_pos i1, c1, nI_1]
      obtain ⟨C2, k1, k2, k3⟩ := ih (i + 1) (ow_upL C 12 i 0) (by omega) (by omega) (fun w hw => by
        show (if 12 = 12 ∧ w = i then (0 : Int64) else C.2 12 w) = 0
        by_cases qw : w = i
        · rw [if_pos ⟨rfl, qw⟩]
        · rw [if_neg (fun z => qw z.2)]; exact hz w (by omega))
      exact ⟨C2, k1, k2, k3⟩
theorem or_x : ∀ u, u < 4 → ∀ e, e < 7 → ∀ r, r < 7 → e = r ∨ (u * 2 ^ (2 * e) ||| u * 2 ^ (2 * r)) = (u * 2 ^ (2 * e)) ^^^ (u * 2 ^ (2 * r)) := by decide +kernel
theorem u_sh {u e : Nat} (hu : u < 4) (he : e < 7) : u * 2 ^ (2 * e) < 2 ^ 14 := by
  have a1 : u * 2 ^ (2 * e) < 4 * 2 ^ (2 * e) := Nat.mul_lt_mul_of_pos_right hu (Nat.pow_pos (by decide))
  have a2 : 4 * 2 ^ (2 * e) = 2 ^ (2 + 2 * e) := by rw [Nat.pow_add]
  have a3 : 2 ^ (2 + 2 * e) ≤ 2 ^ 14 := Nat.pow_le_pow_right (by decide) (by omega)
  omega
theorem tb_e {n x e : Nat} (h2 : 2 ≤ n) (h7 : n ≤ 7) (hx : x < 2 ^ 14) (he : e < n) : fX6_turnedBy (nI x) (nI e) (nI (ore n e)) = some (nI (tq n x e)) := by
  have hr := ore_7 h7 he
  have hu := uq_lt x e (ore n e)
  have i3 : (3 : Int32) = nI 3 := rfl
  have u1 := u_sh hu (show e < 7 by omega)
  have u2 := u_sh hu hr
  unfold fX6_turnedBy
  rw [l_2, pk_mul, pk_mul, shr_e (by omega) (by omega), shr_e (by omega) (by omega), nx_xor, i3, nx_and]
  show some ((nI (uq x e (ore n e)) <<< (nI (2 * e) &&& 31)) ||| (nI (uq x e (ore n e)) <<< (nI (2 * ore n e) &&& 31))) = _
  rw [shl_e (by omega) (by omega), shl_e (by omega) (by omega), nx_or, (or_x _ hu e (by omega) _ hr).resolve_left (ore_ne h2)]
  rfl
theorem tq_lt {n x e : Nat} (h7 : n ≤ 7) (he : e < n) : tq n x e < 2 ^ 14 := by
  have hr := ore_7 h7 he
  have hu := uq_lt x e (ore n e)
  unfold tq
  exact Nat.xor_lt_two_pow (u_sh hu (by omega)) (u_sh hu hr)
theorem g9 {n g x : Nat} {lp : Bool} (hx : x < 2 ^ 14) : ∀ (f e : Nat) (C : ow_M), FC C n lp g → e ≤ oed n lp → oed n lp - e < f → (∀ j, j < e → C.1 15 (2 ^ j) = nI (tq n x j)) →
    ∃ C2, (∀ K, lpX6_goOnFrom_9 (nI x) K f (nI e) C = K (nI (oed n lp)) C2) ∧ (∀ a, a ≠ 15 → C2.1 a = C.1 a) ∧ C2.2 = C.2 ∧ ∀ j, j < oed n lp → C2.1 15 (2 ^ j) = nI (tq n x j) := by
  intro f
  induction f with
  | zero => intro e C _ _ h; omega
  | succ f ih =>
    intro e C hC he hf ht
    obtain ⟨h2, h7, hg, hn, hed, hw, -⟩ := id hC
    have hE7 := oed_le (lp := lp) h7
    unfold lpX6_goOnFrom_9
    by_cases q : oed n lp ≤ e
    · have : e = oed n lp := by omega
      subst this
      have z : C.1 2 1 ≤ nI (oed n lp) := by rw [hed]; exact (nI_leI (by omega) (by omega)).mpr q
      simp only [if_pos z]
      exact ⟨C, fun _ => rfl, fun _ _ => rfl, rfl, fun j hj => ht j (by omega)⟩
    · have z : ¬ C.1 2 1 ≤ nI e := by rw [hed, nI_leI (by omega) (by omega)]; exact q
      have hen : e < n := oed_n (lp := lp) (by omega)
      have p7 : 2 ^ e < 2 ^ 7 := Nat.pow_lt_pow_right (by decide) (by omega)
      have i1 : ow_inn (nI (2 ^ e)) 128 := (inn_nI (by omega)).mpr (by omega)
      have c1 : (nI (2 ^ e)).toNatClampNeg = 2 ^ e := nI_clamp (by omega)
      have hC2 : FC (ow_up C 15 (2 ^ e) (nI (tq n x e))) n lp g := by
        unfold FC at hC ⊢
        rw [ow_up_c (a := 2) (by decide), ow_up_c (a := 7) (by decide), ow_up_c (a := 3) (by decide)]
        exact hC
      obtain ⟨C2, k1, k2, k3, k4⟩ := ih (e + 1) (ow_up C 15 (2 ^ e) (nI (tq n x e))) hC2 (by omega) (by omega) (fun j hj => by
        by_cases qj : j = e
        · rw [qj, ow_up_s]
        · have : 2 ^ j < 2 ^ e := Nat.pow_lt_pow_right (by decide) (by omega)
          rw [ow_up_f (Or.inr (by omega))]; exact ht j (by omega))
      refine ⟨C2, fun K => ?_, fun a ha => by rw [k2 a ha, ow_up_c ha], k3, k4⟩
      rw [if_neg z, e_re hn h7 hen, ow_obs, tb_e h2 h7 hx hen, ow_obs, one_e (by omega), if_pos i1, c1, nI_1]
      exact k1 K
theorem low_b : ∀ s, s < 128 → s = 0 ∨ ∃ j, j < 7 ∧ s ^^^ (s &&& (s - 1)) = 2 ^ j ∧ s.testBit j = true := by decide +kernel
theorem pw_and : ∀ i, i < 7 → (2 ^ i &&& (2 ^ i - 1)) = 0 := by decide +kernel
theorem rest_lt : ∀ s, s < 128 → s = 0 ∨ (s &&& (s - 1)) < s := by decide +kernel
theorem bit_hi {s E j : Nat} (hs : s < 2 ^ E) (h : s.testBit j = true) : j < E := by
  rcases Nat.lt_or_ge j E with q | q
  · exact q
  · rw [Nat.testBit_lt_two_pow (Nat.lt_of_lt_of_le hs (Nat.pow_le_pow_right (by decide) q))] at h; cases h
theorem Tt_lt {n x s : Nat} (h7 : n ≤ 7) : ∀ (m e : Nat), e + m ≤ n → Tt n x s m e < 2 ^ 14 := by
  intro m
  induction m with
  | zero => intro e _; show 0 < 2 ^ 14; decide
  | succ m ih =>
    intro e he
    show (if s.testBit e then tq n x e else 0) ^^^ Tt n x s m (e + 1) < 2 ^ 14
    refine Nat.xor_lt_two_pow ?_ (ih (e + 1) (by omega))
    split
    · exact tq_lt h7 (by omega)
    · decide
theorem oed_le_n {n : Nat} {lp : Bool} : oed n lp ≤ n := by unfold oed; split <;> omega
theorem g43 {n g x x0 d : Nat} {lp bd : Bool} (hAx : AW n x0 x = true) (hxN : x < 2 ^ (2 * n)) : ∀ (m s f : Nat) (S : bS) (C : ow_M), FC C n lp g → RC C S → gS (2 ^ (2 * n)) (AW n x0) S → xS C (okq bd n lp g) (2 ^ oed n lp) → 0 < s → s + m = 2 ^ oed n lp → m < f → (∀ j, j < oed n lp → C.1 15 (2 ^ j) = nI (tq n x j)) → (∀ t, t < s → okq bd n lp g t = true → C.1 15 t = nI (Tt n x t (oed n lp) 0)) →
    ∃ C2, lpX6_goOnFrom_43 (nI x) (fun _ M22 => some M22) f (nI (cnB (okq bd n lp g) s)) C = some C2 ∧ fT C C2 ∧ RC C2 (fdS (okq bd n lp g) (nbq n (oed n lp) x) d m s S) := by
  intro m
  induction m with
  | zero =>
    intro s f S C hC hR hg hX h0 hm hf ht1 ht2
    obtain ⟨f, rfl⟩ : ∃ q, f = q + 1 := ⟨f - 1, by omega⟩
    have h7 := hC.2.1
    have hN := p2_128 (oed_le (lp := lp) h7)
    have hcs : cnB (okq bd n lp g) s ≤ s := cnB_le s
    have htot : cnB (okq bd n lp g) (2 ^ oed n lp) ≤ 2 ^ oed n lp := cnB_le _
    unfold lpX6_goOnFrom_43
    rw [hX.1, if_pos (by rw [show s = 2 ^ oed n lp by omega]; exact (nI_leI (by omega) (by omega)).mpr (Nat.le_refl _))]
    exact ⟨C, rfl, fT_rf, hR⟩
  | succ m ih =>
    intro s f S C hC hR hg hX h0 hm hf ht1 ht2
    have h2 := hC.1
    have h7 := hC.2.1
    have hE7 := oed_le (lp := lp) h7
    have hEn := oed_le_n (n := n) (lp := lp)
    have hN := p2_128 hE7
    have hN14 : 2 ^ (2 * n) ≤ 2 ^ 14 := Nat.pow_le_pow_right (by decide) (by omega)
    have hcs : cnB (okq bd n lp g) s ≤ s := cnB_le s
    have es : cnB (okq bd n lp g) (s + 1) = cnB (okq bd n lp g) s + (if okq bd n lp g s then 1 else 0) := rfl
    have efd : fdS (okq bd n lp g) (nbq n (oed n lp) x) d (m + 1) s S = fdS (okq bd n lp g) (nbq n (oed n lp) x) d m (s + 1) (if okq bd n lp g s then psh S (nbq n (oed n lp) x s) d else S) := rfl
    rw [efd]
    cases ho : okq bd n lp g s with
    | false =>
      rw [ho] at es
      have es2 : cnB (okq bd n lp g) (s + 1) = cnB (okq bd n lp g) s := es
      rw [← es2]
      exact ih (s + 1) f S C hC hR hg hX (by omega) (by omega) (by omega) ht1 (fun t ht hot => by
        have : t ≠ s := fun w => by rw [w, ho] at hot; cases hot
        exact ht2 t (by omega) hot)
    | true =>
      rw [ho] at es
      have es2 : cnB (okq bd n lp g) (s + 1) = cnB (okq bd n lp g) s + 1 := es
      obtain ⟨f, rfl⟩ : ∃ q, f = q + 1 := ⟨f - 1, by omega⟩
      have hlt := cn_lt (ok := okq bd n lp g) (show s < 2 ^ oed n lp by omega) ho
      have htot : cnB (okq bd n lp g) (2 ^ oed n lp) ≤ 2 ^ oed n lp := cnB_le _
      have i1 : ow_inn (nI (cnB (okq bd n lp g) s)) 128 := (inn_nI (by omega)).mpr (by omega)
      have c1 : (nI (cnB (okq bd n lp g) s)).toNatClampNeg = cnB (okq bd n lp g) s := nI_clamp (by omega)
      have hst := hX.2 s (by omega) ho
      have i2 : ow_inn (nI s) 128 := (inn_nI (by omega)).mpr (by omega)
      have c2 : (nI s).toNatClampNeg = s := nI_clamp (by omega)
      have hod : odf n g s (oed n lp) 0 0 = true := by unfold okq at ho; rw [Bool.and_eq_true] at ho; exact ho.2
      obtain ⟨j, j7, jx, jb⟩ := (low_b s (by omega)).resolve_left (by omega)
      have jE := bit_hi (show s < 2 ^ oed n lp by omega) jb
      have nA := nbq_A (E := oed n lp) h2 hEn hod hAx hxN
      unfold lpX6_goOnFrom_43
      rw [hX.1, if_neg (by rw [nI_leI (by omega) (by omega)]; omega), if_neg (by rw [l_128, nI_leI (by omega) (by omega)]; omega), if_pos i1]
      have e5 : nI s - 1 = nI (s - 1) := by rw [l_1, pk_sub (by omega)]
      simp only [c1, hst, e5, nx_and, c2]
      have hrl : s &&& (s - 1) ≤ s := Nat.and_le_left
      -- what is done with the memory C', whose row 15 has the set's own entry
      have fin : ∀ C', FC C' n lp g → RC C' S → xS C' (okq bd n lp g) (2 ^ oed n lp) → fT C C' → (∀ j, j < oed n lp → C'.1 15 (2 ^ j) = nI (tq n x j)) → (∀ t, t < s + 1 → okq bd n lp g t = true → C'.1 15 t = nI (Tt n x t (oed n lp) 0)) →
          ∃ C2, jX6_goOnFrom_107 (nI x) (nI (cnB (okq bd n lp g) s)) (nI s) (lpX6_goOnFrom_43 (nI x) (fun _ M22 => some M22) f) (fun _ M22 => some M22) C' = some C2 ∧ fT C C2 ∧ RC C2 (fdS (okq bd n lp g) (nbq n (oed n lp) x) d m (s + 1) (psh S (nbq n (oed n lp) x s) d)) := by
        intro C' p1 p2 p3 p4 p5 p6
        have e15 := p6 s (by omega) ho
        obtain ⟨C3, k1, k2, k3, k4⟩ := meet_e (d := d) h7 p2 hg nA.1 nA.2
        unfold jX6_goOnFrom_107
        rw [if_pos i2, c2, e15, nx_xor]
        have k1' : fX6_meet (nI (x ^^^ Tt n x s (oed n lp) 0)) C' = some C3 := k1
        rw [k1', ow_obs, nI_1, ← es2]
        have p1' : FC C3 n lp g := by
          unfold FC at p1 ⊢
          rw [k3.1 2 (by decide) (by decide) (by decide), k3.1 7 (by decide) (by decide) (by decide), k3.1 3 (by decide) (by decide) (by decide)]
          exact p1
        obtain ⟨C4, l1, l2, l3⟩ := ih (s + 1) f (psh S (nbq n (oed n lp) x s) d) C3 p1' k2 (psh_g hg nA.1 nA.2) ⟨by rw [k3.2]; exact p3.1, by rw [k3.1 14 (by decide) (by decide) (by decide)]; exact p3.2⟩ (by omega) (by omega) (by omega) (by rw [k4]; exact p5) (by rw [k4]; exact p6)
        exact ⟨C4, l1, fT_tr p4 (fT_tr k3 l2), l3⟩
      by_cases q : (s &&& (s - 1)) = 0
      · rw [if_pos (by rw [q]; rfl)]
        refine fin C hC hR hX fT_rf ht1 (fun t ht hot => ?_)
        by_cases qt : t = s
        · rw [q, Nat.xor_zero] at jx
          rw [qt, jx, ht1 j jE, Tt_one, if_pos (by omega)]
        · exact ht2 t (by omega) hot
      · have hr := (rest_lt s (by omega)).resolve_left (by omega)
        have i3 : ow_inn (nI (s &&& (s - 1))) 128 := (inn_nI (by omega)).mpr (by omega)
        have c3 : (nI (s &&& (s - 1))).toNatClampNeg = s &&& (s - 1) := nI_clamp (by omega)
        have pj : 2 ^ j < 2 ^ 7 := Nat.pow_lt_pow_right (by decide) j7
        have i4 : ow_inn (nI (2 ^ j)) 128 := (inn_nI (by omega)).mpr (by omega)
        have c4 : (nI (2 ^ j)).toNatClampNeg = 2 ^ j := nI_clamp (by omega)
        have hbd : bd = true := by
          unfold okq at ho
          rw [Bool.and_eq_true, Bool.and_eq_true, Bool.or_eq_true, beq_iff_eq] at ho
          exact ho.1.2.resolve_right q
        have okr : okq bd n lp g (s &&& (s - 1)) = true := by
          unfold okq
          rw [hbd, decide_eq_true (show 0 < s &&& (s - 1) by omega)]
          show odf n g (s &&& (s - 1)) (oed n lp) 0 0 = true
          exact odf_sub (s := s) (fun e he => by rw [Nat.testBit_and, Bool.and_eq_true] at he; exact he.1) _ 0 0 0 (fun _ h => h) hod
        have e15 : C.1 15 (s &&& (s - 1)) ^^^ C.1 15 (2 ^ j) = nI (Tt n x s (oed n lp) 0) := by
          rw [ht2 _ hr okr, ht1 j jE, nx_xor]
          have : Tt n x (2 ^ j) (oed n lp) 0 = tq n x j := by rw [Tt_one, if_pos (by omega)]
          rw [← this, ← Tt_lin]
          congr 2
          rw [← jx, Nat.xor_comm s, ← Nat.xor_assoc, Nat.xor_self, Nat.zero_xor]
        rw [if_neg (by rw [l_0, nI_eq (by omega) (by omega)]; exact q), nx_xor, jx]
        simp only [if_pos i3, if_pos i4, if_pos i2, c3, c4, e15]
        have hsj : ∀ i, i < oed n lp → 2 ^ i ≠ s := by
          intro i hi w
          apply q
          rw [← w]
          have hi7 : i < 7 := by omega
          exact pw_and i hi7
        refine fin (ow_up C 15 s (nI (Tt n x s (oed n lp) 0))) ?_ ?_ ⟨?_, ?_⟩ ⟨?_, ?_⟩ ?_ ?_
        · unfold FC at hC ⊢
          rw [ow_up_c (a := 2) (by decide), ow_up_c (a := 7) (by decide), ow_up_c (a := 3) (by decide)]
          exact hC
        · refine ⟨?_, ?_, ?_⟩
          · rw [ow_up_c (by decide)]; exact hR.1
          · rw [ow_up_c (by decide)]; exact hR.2.1
          · exact hR.2.2
        · rw [ow_up_c (by decide)]; exact hX.1
        · rw [ow_up_c (by decide)]; exact hX.2
        · intro a _ _ h3; exact ow_up_c h3
        · rw [ow_up_c (by decide)]
        · intro i hi; rw [ow_up_f (Or.inr (hsj i hi))]; exact ht1 i hi
        · intro t ht hot
          by_cases qt : t = s
          · rw [qt, ow_up_s]
          · rw [ow_up_f (Or.inr qt)]; exact ht2 t (by omega) hot
