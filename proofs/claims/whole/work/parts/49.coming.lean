/-! COMING -/
def okf (br : Nat → Bool) (S : Nat) : Nat → Nat → Bool
  | 0, _ => true
  | m + 1, a => (!(br a) || S.testBit a) && okf br S m (a + 1)
theorem okf_iff {br : Nat → Bool} {S : Nat} : ∀ (m a : Nat), okf br S m a = true ↔ ∀ b, a ≤ b → b < a + m → br b = true → S.testBit b = true := by
  intro m
  induction m with
  | zero => intro a; constructor; · intro _ b h1 h2; omega
            · intro _; rfl
  | succ m ih =>
    intro a
    unfold okf
    rw [Bool.and_eq_true, ih, Bool.or_eq_true, Bool.not_eq_true']
    constructor
    · rintro ⟨h1, h2⟩ b h3 h4 h5
      by_cases hb : b = a
      · subst hb
        rcases h1 with h1 | h1
        · rw [h1] at h5; cases h5
        · exact h1
      · exact h2 b (by omega) (by omega) h5
    · intro h
      refine ⟨?_, fun b h3 h4 h5 => h b (by omega) (by omega) h5⟩
      cases hb : br a
      · exact Or.inl rfl
      · exact Or.inr (h a (by omega) (by omega) hb)
def smr (h : Nat → Int32) : Nat → Nat → Int32
  | 0, _ => 0
  | m + 1, p => h p + smr h m (p + 1)
theorem smr_congr {h h2 : Nat → Int32} : ∀ (m p : Nat), (∀ q, p ≤ q → q < p + m → h q = h2 q) → smr h m p = smr h2 m p := by
  intro m
  induction m with
  | zero => intro p _; rfl
  | succ m ih =>
    intro p he
    unfold smr
    rw [he p (by omega) (by omega), ih (p + 1) (fun q h1 h2 => he q (by omega) (by omega))]
theorem smr_one {h h2 : Nat → Int32} {p0 : Nat} {w : Int32} : ∀ (m p : Nat), p ≤ p0 → p0 < p + m → h2 p0 = h p0 + w → (∀ q, q ≠ p0 → h2 q = h q) → smr h2 m p = smr h m p + w := by
  intro m
  induction m with
  | zero => intro p h1 h2; omega
  | succ m ih =>
    intro p h1 h3 h4 h5
    unfold smr
    by_cases hp : p = p0
    · subst hp
      rw [h4, smr_congr m (p + 1) (fun q hq _ => h5 q (by omega)), Int32.add_assoc, Int32.add_comm w, ← Int32.add_assoc]
    · rw [h5 p hp, ih (p + 1) (by omega) (by omega) h4 h5, Int32.add_assoc]
theorem smr_0 : ∀ (m p : Nat), smr (fun _ => 0) m p = 0 := by
  intro m
  induction m with
  | zero => intro p; rfl
  | succ m ih => intro p; unfold smr; rw [ih]; rfl
theorem up_up {M : ow_M} {o k : Nat} {u v : Int32} : ow_up (ow_up M o k u) o k v = ow_up M o k v := by
  apply Prod.ext
  · funext a b
    rw [ow_up_1, ow_up_1, ow_up_1]
    split <;> rfl
  · rfl
/-- who must be ahead of p -/
def brC (C : ow_M) (p a : Nat) : Bool := decide (C.1 4 p < C.1 4 a)
theorem mba {C : ow_M} {p : Nat} (hp : p < 7) (k : Int32 → Int32 → Option Int32) : ∀ (f a x : Nat), a ≤ p → p - a < f → x < 128 → ∃ y, y < 128 ∧ lpX2_mustBeAhead_4 (nI p) C k f (nI x) (nI a) = k (nI y) (nI p) ∧ ∀ b, y.testBit b = (x.testBit b || (decide (a ≤ b ∧ b < p) && brC C p b)) := by
  intro f
  induction f with
  | zero => intro a x _ h; omega
  | succ f ih =>
    intro a x ha hf hx
    unfold lpX2_mustBeAhead_4
    by_cases h : p ≤ a
    · have : a = p := by omega
      subst this
      rw [if_pos ((nI_leI (by omega) (by omega)).mpr h)]
      refine ⟨x, hx, rfl, fun b => ?_⟩
      rw [decide_eq_false (by omega), Bool.false_and, Bool.or_false]
    · have i1 : ow_inn (nI p) 7 := (inn_nI (by omega)).mpr hp
      have i2 : ow_inn (nI a) 7 := (inn_nI (by omega)).mpr (by omega)
      have c1 : (nI p).toNatClampNeg = p := nI_clamp (by omega)
      have c2 : (nI a).toNatClampNeg = a := nI_clamp (by omega)
      have z : ¬ nI p ≤ nI a := by rw [nI_leI (by omega) (by omega)]; exact h
      unfold fX2_mayChange
      simp only [if_neg z, if_pos i1, if_pos i2, c1, c2, one_e (show a < 32 by omega), nx_or, nI_1]
      by_cases q : C.1 4 p < C.1 4 a
      · simp only [if_pos q, ow_obs, reduceIte]
        obtain ⟨y, y1, y2, y3⟩ := ih (a + 1) (x ||| 2 ^ a) (by omega) (by omega) (Nat.or_lt_two_pow (n := 7) hx (Nat.pow_lt_pow_right (by decide) (by omega)))
        refine ⟨y, y1, y2, fun b => ?_⟩
        rw [y3, Nat.testBit_or]
        by_cases hb : b = a
        · subst hb
          have : brC C p b = true := decide_eq_true q
          rw [Nat.testBit_two_pow_self, this, decide_eq_true (show b ≤ b ∧ b < p by omega)]
          simp
        · rw [Nat.testBit_two_pow_of_ne (fun z => hb z.symm), Bool.or_false]
          have e : (a + 1 ≤ b ∧ b < p) = (a ≤ b ∧ b < p) := propext (by omega)
          simp only [e]
      · simp only [if_neg q, ow_obs, ow_10, reduceIte]
        obtain ⟨y, y1, y2, y3⟩ := ih (a + 1) x (by omega) (by omega) hx
        refine ⟨y, y1, y2, fun b => ?_⟩
        rw [y3]
        by_cases hb : b = a
        · subst hb
          have : brC C p b = false := decide_eq_false q
          rw [this, Bool.and_false, Bool.and_false]
        · have e : (a + 1 ≤ b ∧ b < p) = (a ≤ b ∧ b < p) := propext (by omega)
          simp only [e]
theorem sub_mask {y S : Nat} (hy : y < 128) (hS : S < 128) : (nI y &&& (nI S ^^^ (-1)) = 0) ↔ ∀ b, y.testBit b = true → S.testBit b = true := by
  have e1 : (-1 : Int32) = nI (2 ^ 32 - 1) := by decide
  have hlt : y &&& (S ^^^ (2 ^ 32 - 1)) < 2 ^ 31 := Nat.lt_of_le_of_lt Nat.and_le_left (by omega)
  rw [e1, nx_xor, nx_and, l_0, nI_eq hlt (by decide)]
  constructor
  · intro h b hb
    have h1 := congrArg (fun z => z.testBit b) h
    simp only [Nat.testBit_and, Nat.testBit_xor, Nat.zero_testBit, Nat.testBit_two_pow_sub_one] at h1
    have hb7 : b < 32 := by
      rcases Nat.lt_or_ge b 32 with q | q
      · exact q
      · have : y.testBit b = false := Nat.testBit_lt_two_pow (Nat.lt_of_lt_of_le hy (Nat.pow_le_pow_right (n := 2) (i := 7) (by decide) (by omega)))
        rw [this] at hb; cases hb
    rw [hb, decide_eq_true hb7] at h1
    revert h1
    cases S.testBit b <;> decide
  · intro h
    apply Nat.eq_of_testBit_eq
    intro b
    rw [Nat.testBit_and, Nat.testBit_xor, Nat.zero_testBit, Nat.testBit_two_pow_sub_one]
    cases hb : y.testBit b
    · rfl
    · rw [h b hb]
      have hb7 : b < 32 := by
        rcases Nat.lt_or_ge b 32 with q | q
        · exact q
        · have : y.testBit b = false := Nat.testBit_lt_two_pow (Nat.lt_of_lt_of_le hy (Nat.pow_le_pow_right (n := 2) (i := 7) (by decide) (by omega)))
          rw [this] at hb; cases hb
      rw [decide_eq_true hb7]
      rfl
theorem mba_ok {C : ow_M} {p S : Nat} (hp : p < 7) (hS : S < 128) : ∃ y, fX2_mustBeAhead (nI p) C = some (nI y) ∧ ((nI y &&& (nI S ^^^ (-1)) = 0) ↔ okf (brC C p) S p 0 = true) := by
  obtain ⟨y, y1, y2, y3⟩ := mba (C := C) hp (fun u5 _ => some u5) ow_N 0 0 (by omega) (by unfold ow_N; omega) (by decide)
  rw [nI_0] at y2
  refine ⟨y, y2, ?_⟩
  rw [sub_mask y1 hS, okf_iff]
  constructor
  · intro h b _ hb2 hb3
    refine h b ?_
    rw [y3, decide_eq_true (show 0 ≤ b ∧ b < p by omega), hb3, Nat.zero_testBit]
    rfl
  · intro h b hb
    rw [y3, Nat.zero_testBit, Bool.false_or, Bool.and_eq_true, decide_eq_true_eq] at hb
    exact h b hb.1.1 (by omega) hb.2
theorem mst {D : ow_M} {br : Nat → Bool} {p S : Nat} (hp : p < 7) (hS : S < 128) (hb : ∀ a, a < p → br a = decide (D.1 39 p < D.1 39 a)) (k : Int32 → Option Int32) : ∀ (f a : Nat), a ≤ p → p - a < f → lpX8_mayStand_2 (nI p) (nI S) D k f (nI a) = if okf br S (p - a) a = true then k (nI p) else some 0 := by
  intro f
  induction f with
  | zero => intro a _ h; omega
  | succ f ih =>
    intro a ha hf
    unfold lpX8_mayStand_2
    by_cases h : p ≤ a
    · have : a = p := by omega
      subst this
      rw [if_pos ((nI_leI (by omega) (by omega)).mpr h), Nat.sub_self]
      rfl
    · have i1 : ow_inn (nI p) 7 := (inn_nI (by omega)).mpr hp
      have i2 : ow_inn (nI a) 7 := (inn_nI (by omega)).mpr (by omega)
      have c1 : (nI p).toNatClampNeg = p := nI_clamp (by omega)
      have c2 : (nI a).toNatClampNeg = a := nI_clamp (by omega)
      have z : ¬ nI p ≤ nI a := by rw [nI_leI (by omega) (by omega)]; exact h
      simp only [if_neg z, if_pos i1, if_pos i2, c1, c2, bit_e (show S < 2 ^ 31 by omega) (show a < 32 by omega), nI_1]
      rw [show p - a = (p - (a + 1)) + 1 by omega]
      have eo : okf br S (p - (a + 1) + 1) a = ((!(br a) || S.testBit a) && okf br S (p - (a + 1)) (a + 1)) := rfl
      rw [eo, hb a (by omega)]
      by_cases q : D.1 39 a ≤ D.1 39 p
      · rw [if_pos q, ih (a + 1) (by omega) (by omega), decide_eq_false (Int32.not_lt.mpr q)]
        simp
      · rw [if_neg q, decide_eq_true (Int32.not_le.mp q)]
        cases hs : S.testBit a
        · rw [if_pos (by rfl)]
          simp
        · rw [if_neg (by decide), ih (a + 1) (by omega) (by omega)]
          simp
theorem mst_eq {D : ow_M} {br : Nat → Bool} {p S : Nat} (hp : p < 7) (hS : S < 128) (hb : ∀ a, a < p → br a = decide (D.1 39 p < D.1 39 a)) : fX8_mayStand (nI p) (nI S) D = some (bI (okf br S p 0)) := by
  unfold fX8_mayStand
  have := mst (D := D) hp hS hb (fun _ => some 1) ow_N 0 (by omega) (by unfold ow_N; omega)
  rw [nI_0, Nat.sub_zero] at this
  rw [this]
  cases okf br S p 0 <;> rfl
theorem and_b : ∀ S, S < 128 → ∀ p, p < 7 → ((S &&& 2 ^ p) = 0 ↔ S.testBit p = false) := by decide +kernel
theorem and_bit {S p : Nat} (hS : S < 128) (hp : p < 7) : (nI S &&& nI (2 ^ p) = 0) ↔ S.testBit p = false := by
  have hlt : S &&& 2 ^ p < 2 ^ 31 := Nat.lt_of_le_of_lt Nat.and_le_left (by omega)
  rw [nx_and, l_0, nI_eq hlt (by decide)]
  exact and_b S hS p hp
theorem x_lt : ∀ n, n < 8 → ∀ S, S < 2 ^ n → ∀ p, p < n → S.testBit p = true → S ^^^ 2 ^ p < S ∧ (S ^^^ 2 ^ p).testBit p = false := by decide +kernel
theorem or_gt1 : ∀ n, n < 8 → ∀ S, S < 2 ^ n → ∀ p, p < n → S.testBit p = false → S < (S ||| 2 ^ p) := by decide +kernel
theorem or_gt2 : ∀ n, n < 8 → ∀ S, S < 2 ^ n → ∀ p, p < n → (S ||| 2 ^ p) < 2 ^ n := by decide +kernel
theorem or_gt3 : ∀ n, n < 8 → ∀ S, S < 2 ^ n → ∀ p, p < n → S.testBit p = false → ((S ||| 2 ^ p) ^^^ 2 ^ p) = S := by decide +kernel
theorem or_gt4 : ∀ n, n < 8 → ∀ S, S < 2 ^ n → ∀ p, p < n → (S ||| 2 ^ p).testBit p = true := by decide +kernel
theorem or_gt (n : Nat) (hn : n < 8) (S : Nat) (hS : S < 2 ^ n) (p : Nat) (hp : p < n) (h : S.testBit p = false) : S < (S ||| 2 ^ p) ∧ (S ||| 2 ^ p) < 2 ^ n ∧ ((S ||| 2 ^ p) ^^^ 2 ^ p) = S ∧ (S ||| 2 ^ p).testBit p = true := ⟨or_gt1 n hn S hS p hp h, or_gt2 n hn S hS p hp, or_gt3 n hn S hS p hp h, or_gt4 n hn S hS p hp⟩
/-- the class: one set -/
theorem cm_in {n S : Nat} (h7 : n ≤ 7) (hS : S < 2 ^ n) (x2 : Int32) : ∀ (f p : Nat) (C : ow_M), C.1 2 0 = nI n → p ≤ n → n - p < f → ∀ K, lpX2_howManyCome_40 x2 (nI S) K f (nI p) C = K (nI n) (ow_up C 18 S (C.1 18 S + smr (fun q => if S.testBit q = true ∧ okf (brC C q) S q 0 = true then C.1 18 (S ^^^ 2 ^ q) else 0) (n - p) p)) := by
  have hS7 : S < 128 := Nat.lt_of_lt_of_le hS (Nat.pow_le_pow_right (n := 2) (i := n) (j := 7) (by decide) h7)
  intro f
  induction f with
  | zero => intro p C _ _ h; omega
  | succ f ih =>
    intro p C hn hp hf K
    unfold lpX2_howManyCome_40
    by_cases h : n ≤ p
    · have : p = n := by omega
      subst this
      rw [hn, if_pos ((nI_leI (by omega) (by omega)).mpr h), Nat.sub_self]
      have e : C.1 18 S + smr (fun q => if S.testBit q = true ∧ okf (brC C q) S q 0 = true then C.1 18 (S ^^^ 2 ^ q) else 0) 0 p = C.1 18 S := Int32.add_zero _
      rw [e, ow_up_id rfl]
    · have z : ¬ nI n ≤ nI p := by rw [nI_leI (by omega) (by omega)]; exact h
      rw [hn, if_neg z, one_e (show p < 32 by omega), show n - p = (n - (p + 1)) + 1 by omega]
      have es : smr (fun q => if S.testBit q = true ∧ okf (brC C q) S q 0 = true then C.1 18 (S ^^^ 2 ^ q) else 0) (n - (p + 1) + 1) p = (if S.testBit p = true ∧ okf (brC C p) S p 0 = true then C.1 18 (S ^^^ 2 ^ p) else 0) + smr (fun q => if S.testBit q = true ∧ okf (brC C q) S q 0 = true then C.1 18 (S ^^^ 2 ^ q) else 0) (n - (p + 1)) (p + 1) := rfl
      rw [es]
      by_cases q : S.testBit p = false
      · rw [if_pos ((and_bit hS7 (by omega)).mpr q), nI_1, ih (p + 1) C hn (by omega) (by omega), if_neg (by rw [q]; simp), Int32.zero_add]
      · have qt : S.testBit p = true := by revert q; cases S.testBit p <;> simp
        obtain ⟨y, y1, y2⟩ := mba_ok (C := C) (p := p) (S := S) (by omega) hS7
        rw [if_neg (fun w => q ((and_bit hS7 (by omega)).mp w)), y1, ow_obs]
        obtain ⟨xl, xb⟩ := x_lt n (by omega) S hS p (by omega) qt
        by_cases o : okf (brC C p) S p 0 = true
        · have i1 : ow_inn (nI S) 128 := (inn_nI (by omega)).mpr hS7
          have c1 : (nI S).toNatClampNeg = S := nI_clamp (by omega)
          have i2 : ow_inn (nI (S ^^^ 2 ^ p)) 128 := (inn_nI (by omega)).mpr (by omega)
          have c2 : (nI (S ^^^ 2 ^ p)).toNatClampNeg = S ^^^ 2 ^ p := nI_clamp (by omega)
          rw [if_pos (y2.mpr o)]
          simp only [nx_xor, if_pos i1, if_pos i2, c1, c2, nI_1]
          rw [ih (p + 1) _ (by rw [ow_up_c (by decide)]; exact hn) (by omega) (by omega), up_up, ow_up_s, if_pos ⟨qt, o⟩, Int32.add_assoc]
          have eb : ∀ x, brC (ow_up C 18 S (C.1 18 S + C.1 18 (S ^^^ 2 ^ p))) x = brC C x := by
            intro x
            funext b
            unfold brC
            rw [ow_up_c (a := 4) (by decide)]
          congr 4
          apply smr_congr
          intro x hx1 hx2
          simp only [eb]
          by_cases w : S.testBit x = true ∧ okf (brC C x) S x 0 = true
          · rw [if_pos w, if_pos w]
            obtain ⟨xl2, _⟩ := x_lt n (by omega) S hS x (by omega) w.1
            exact ow_up_f (Or.inr (by omega))
          · rw [if_neg w, if_neg w]
        · rw [if_neg (fun w => o (y2.mp w)), nI_1, ih (p + 1) C hn (by omega) (by omega), if_neg (fun w => o w.2), Int32.zero_add]
/-- the recurrence -/
def WR (W : Nat → Int32) (br : Nat → Nat → Bool) (n s : Nat) : Prop := W 0 = 1 ∧ ∀ T, 0 < T → T < s → W T = smr (fun q => if T.testBit q = true ∧ okf (br q) T q 0 = true then W (T ^^^ 2 ^ q) else 0) n 0
theorem cm_out {n : Nat} (h7 : n ≤ 7) (br : Nat → Nat → Bool) : ∀ (f S : Nat) (C : ow_M), C.1 2 0 = nI n → (∀ p, brC C p = br p) → 0 < S → S ≤ 2 ^ n → 2 ^ n - S < f → WR (C.1 18) br n S → ∃ C2, (∀ K, lpX2_howManyCome_16 (nI (2 ^ n)) K f (nI S) C = K (nI (2 ^ n)) C2) ∧ ow_x 18 C C2 ∧ WR (C2.1 18) br n (2 ^ n) := by
  have hN : 2 ^ n ≤ 128 := Nat.pow_le_pow_right (n := 2) (i := n) (j := 7) (by decide) h7
  intro f
  induction f with
  | zero => intro S C _ _ _ _ h; omega
  | succ f ih =>
    intro S C hn hbr h0 hS hf hW
    unfold lpX2_howManyCome_16
    by_cases h : 2 ^ n ≤ S
    · have e : S = 2 ^ n := by omega
      rw [e] at hW ⊢
      have z : nI (2 ^ n) ≤ nI (2 ^ n) := (nI_leI (by omega) (by omega)).mpr (Nat.le_refl _)
      simp only [if_pos z]
      exact ⟨C, fun _ => rfl, ow_x_rf, hW⟩
    · have z : ¬ nI (2 ^ n) ≤ nI S := by rw [nI_leI (by omega) (by omega)]; exact h
      have z2 : ¬ (128 : Int32) ≤ nI S := by rw [l_128, nI_leI (by omega) (by omega)]; omega
      have i1 : ow_inn (nI S) 128 := (inn_nI (by omega)).mpr (by omega)
      have c1 : (nI S).toNatClampNeg = S := nI_clamp (by omega)
      have eb : ∀ v p, brC (ow_up C 18 S v) p = br p := by
        intro v p
        rw [← hbr p]
        funext b
        unfold brC
        rw [ow_up_c (a := 4) (by decide)]
      have step := cm_in (S := S) h7 (by omega) (nI (2 ^ n)) ow_N 0 (ow_up C 18 S 0) (by rw [ow_up_c (by decide)]; exact hn) (by omega) (by unfold ow_N; omega)
      rw [nI_0, up_up, ow_up_s, Int32.zero_add, Nat.sub_zero] at step
      have hW2 : WR ((ow_up C 18 S (smr (fun q => if S.testBit q = true ∧ okf (brC (ow_up C 18 S 0) q) S q 0 = true then (ow_up C 18 S 0).1 18 (S ^^^ 2 ^ q) else 0) n 0)).1 18) br n (S + 1) := by
        refine ⟨by rw [ow_up_f (Or.inr (by omega))]; exact hW.1, fun T hT1 hT2 => ?_⟩
        by_cases hTS : T = S
        · subst hTS
          rw [ow_up_s]
          apply smr_congr
          intro x _ hx
          simp only [eb]
          by_cases w : T.testBit x = true ∧ okf (br x) T x 0 = true
          · rw [if_pos w, if_pos w]
            obtain ⟨xl, _⟩ := x_lt n (by omega) T (by omega) x (by omega) w.1
            rw [ow_up_f (Or.inr (by omega)), ow_up_f (Or.inr (by omega))]
          · rw [if_neg w, if_neg w]
        · rw [ow_up_f (Or.inr hTS), hW.2 T hT1 (by omega)]
          apply smr_congr
          intro x _ hx
          by_cases w : T.testBit x = true ∧ okf (br x) T x 0 = true
          · rw [if_pos w, if_pos w]
            obtain ⟨xl, _⟩ := x_lt n (by omega) T (by omega) x (by omega) w.1
            rw [ow_up_f (Or.inr (by omega))]
          · rw [if_neg w, if_neg w]
      obtain ⟨C2, k1, k2, k3⟩ := ih (S + 1) _ (by rw [ow_up_c (by decide)]; exact hn) (eb _) (by omega) (by omega) (by omega) hW2
      refine ⟨C2, fun K => ?_, ow_x_tr (ow_x_up ow_x_rf) k2, k3⟩
      simp only [if_neg z, if_neg z2, if_pos i1, c1]
      rw [step, nI_1]
      exact k1 K
