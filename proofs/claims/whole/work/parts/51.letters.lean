/-! LETTERS -/
def omn : Option Nat → Option Nat → Option Nat
  | none, y => y
  | some a, none => some a
  | some a, some b => some (if a ≤ b then a else b)
def fmn (h : Nat → Option Nat) : Nat → Nat → Option Nat → Option Nat
  | 0, _, acc => acc
  | m + 1, b, acc => fmn h m (b + 1) (omn acc (h b))
theorem fmn_congr {h h2 : Nat → Option Nat} : ∀ (m b : Nat) (acc : Option Nat), (∀ c, b ≤ c → c < b + m → h c = h2 c) → fmn h m b acc = fmn h2 m b acc := by
  intro m
  induction m with
  | zero => intro b acc _; rfl
  | succ m ih =>
    intro b acc he
    unfold fmn
    rw [he b (by omega) (by omega), ih (b + 1) _ (fun c h1 h2 => he c (by omega) (by omega))]
theorem fmn_some {h : Nat → Option Nat} {v : Nat} : ∀ (m b : Nat) (acc : Option Nat), fmn h m b acc = some v → acc = some v ∨ ∃ c, b ≤ c ∧ c < b + m ∧ h c = some v := by
  intro m
  induction m with
  | zero => intro b acc e; exact Or.inl e
  | succ m ih =>
    intro b acc e
    unfold fmn at e
    rcases ih (b + 1) _ e with k | ⟨c, c1, c2, c3⟩
    · revert k
      cases acc with
      | none => intro k; exact Or.inr ⟨b, by omega, by omega, k⟩
      | some u =>
        cases hb : h b with
        | none => intro k; exact Or.inl k
        | some w =>
          intro k
          have k2 : (if u ≤ w then u else w) = v := Option.some.inj k
          by_cases q : u ≤ w
          · rw [if_pos q] at k2; exact Or.inl (by rw [k2])
          · rw [if_neg q] at k2; exact Or.inr ⟨b, by omega, by omega, by rw [hb, k2]⟩
    · exact Or.inr ⟨c, by omega, by omega, c3⟩
def lbt (T : Nat) : Nat → Nat → Nat
  | 0, a => a
  | m + 1, a => if T.testBit a then a else lbt T m (a + 1)
def lbq (T : Nat) : Nat := lbt T 6 0
theorem lb_c : ∀ T, T < 128 → fX1_leastOf (nI T) = some (nI (lbq T)) := by decide +kernel
theorem lb_s : ∀ n, n < 8 → ∀ T, T < 2 ^ n → T ≠ 0 → T.testBit (lbq T) = true ∧ lbq T < n := by decide +kernel
theorem lb_m : ∀ T, T < 128 → ∀ b, b < lbq T → T.testBit b = false := by decide +kernel
theorem x2_lt {n T a b : Nat} (h7 : n ≤ 7) (hT : T < 2 ^ n) (ha : a < n) (hb : b < n) (hab : a ≠ b) (ta : T.testBit a = true) (tb : T.testBit b = true) : T ^^^ 2 ^ a ^^^ 2 ^ b < T := by
  have h1 := (x_lt n (by omega) T hT a ha ta).1
  have e : (T ^^^ 2 ^ a).testBit b = true := by rw [Nat.testBit_xor, Nat.testBit_two_pow_of_ne hab, Bool.xor_false]; exact tb
  have h2 := (x_lt n (by omega) (T ^^^ 2 ^ a) (by omega) b hb e).1
  omega
def hLt (W : Nat → Option Nat) (sm : Nat → Nat → Bool) (bw : Nat → Nat → Nat) (T a b : Nat) : Option Nat := if T.testBit b = true ∧ sm a b = false then (W (T ^^^ 2 ^ a ^^^ 2 ^ b)).map (fun v => v + bw a b) else none
def Lft (sm : Nat → Nat → Bool) (bw : Nat → Nat → Nat) (n : Nat) : Nat → Nat → Option Nat
  | 0, _ => none
  | f + 1, T => if T = 0 then some 0 else fmn (hLt (Lft sm bw n f) sm bw T (lbq T)) (n - (lbq T + 1)) (lbq T + 1) none
theorem p2_128 {n : Nat} (h7 : n ≤ 7) : 2 ^ n ≤ 128 := Nat.pow_le_pow_right (n := 2) (i := n) (j := 7) (by decide) h7
theorem Lft_st {sm : Nat → Nat → Bool} {bw : Nat → Nat → Nat} {n : Nat} (h7 : n ≤ 7) : ∀ (f T : Nat), T < f → T < 2 ^ n → Lft sm bw n (f + 1) T = Lft sm bw n f T := by
  intro f
  induction f with
  | zero => intro T h; omega
  | succ f ih =>
    intro T hf hT
    unfold Lft
    by_cases h0 : T = 0
    · rw [if_pos h0, if_pos h0]
    · rw [if_neg h0, if_neg h0]
      obtain ⟨s1, s2⟩ := lb_s n (by omega) T hT h0
      apply fmn_congr
      intro c c1 c2
      unfold hLt
      by_cases w : T.testBit c = true ∧ sm (lbq T) c = false
      · rw [if_pos w, if_pos w]
        have := x2_lt h7 hT s2 (show c < n by omega) (by omega) s1 w.1
        rw [ih _ (by omega) (by omega)]
      · rw [if_neg w, if_neg w]
def LTb (sm : Nat → Nat → Bool) (bw : Nat → Nat → Nat) (n T : Nat) : Option Nat := Lft sm bw n 200 T
theorem LTb_0 {sm : Nat → Nat → Bool} {bw : Nat → Nat → Nat} {n : Nat} : LTb sm bw n 0 = some 0 := rfl
theorem LTb_eq {sm : Nat → Nat → Bool} {bw : Nat → Nat → Nat} {n T : Nat} (h7 : n ≤ 7) (hT : T < 2 ^ n) (h0 : T ≠ 0) : LTb sm bw n T = fmn (hLt (LTb sm bw n) sm bw T (lbq T)) (n - (lbq T + 1)) (lbq T + 1) none := by
  have hN := p2_128 h7
  have := Lft_st (sm := sm) (bw := bw) h7 200 T (by omega) hT
  have e : Lft sm bw n (200 + 1) T = if T = 0 then some 0 else fmn (hLt (Lft sm bw n 200) sm bw T (lbq T)) (n - (lbq T + 1)) (lbq T + 1) none := rfl
  rw [e, if_neg h0] at this
  exact this.symm
theorem Lft_b {sm : Nat → Nat → Bool} {bw : Nat → Nat → Nat} {n : Nat} (h7 : n ≤ 7) (hb : ∀ a b, a < n → b < n → bw a b ≤ 6) : ∀ (f T v : Nat), T < 2 ^ n → Lft sm bw n f T = some v → v ≤ 6 * T := by
  intro f
  induction f with
  | zero => intro T v _ h; cases h
  | succ f ih =>
    intro T v hT e
    unfold Lft at e
    by_cases h0 : T = 0
    · rw [if_pos h0] at e; cases e; omega
    · rw [if_neg h0] at e
      obtain ⟨s1, s2⟩ := lb_s n (by omega) T hT h0
      rcases fmn_some _ _ _ e with k | ⟨c, c1, c2, c3⟩
      · cases k
      · unfold hLt at c3
        by_cases w : T.testBit c = true ∧ sm (lbq T) c = false
        · rw [if_pos w] at c3
          have xl := x2_lt h7 hT s2 (show c < n by omega) (by omega) s1 w.1
          have hbb := hb (lbq T) c s2 (by omega)
          cases hW : Lft sm bw n f (T ^^^ 2 ^ lbq T ^^^ 2 ^ c) with
          | none => rw [hW] at c3; cases c3
          | some u =>
            rw [hW] at c3
            have c4 : u + bw (lbq T) c = v := Option.some.inj c3
            have := ih _ u (by omega) hW
            omega
        · rw [if_neg w] at c3; cases c3
theorem LTb_b {sm : Nat → Nat → Bool} {bw : Nat → Nat → Nat} {n T v : Nat} (h7 : n ≤ 7) (hb : ∀ a b, a < n → b < n → bw a b ≤ 6) (hT : T < 2 ^ n) (h : LTb sm bw n T = some v) : v ≤ 900 := by
  have hN := p2_128 h7
  have := Lft_b h7 hb 200 T v hT h
  omega
def e9 : Option Nat → Int32
  | none => -9
  | some v => nI v
def eK : Option Nat → Int32
  | none => nI 1000
  | some v => nI v
theorem hLt_b {W : Nat → Option Nat} {sm : Nat → Nat → Bool} {bw : Nat → Nat → Nat} {n T a b v : Nat} (hb : bw a b ≤ 6) (hW : ∀ U u, W U = some u → u ≤ 900) (h : hLt W sm bw T a b = some v) : v ≤ 906 := by
  unfold hLt at h
  by_cases w : T.testBit b = true ∧ sm a b = false
  · rw [if_pos w] at h
    cases hw : W (T ^^^ 2 ^ a ^^^ 2 ^ b) with
    | none => rw [hw] at h; cases h
    | some u =>
      rw [hw] at h
      have c4 : u + bw a b = v := Option.some.inj h
      have := hW _ _ hw
      omega
  · rw [if_neg w] at h; cases h
def bwf (n : Nat) (lp : Bool) (a b : Nat) : Nat := if lp then (if n - 2 - (b - a - 1) < b - a - 1 then n - 2 - (b - a - 1) else b - a - 1) else b - a - 1
theorem bwf_b {n : Nat} {lp : Bool} (h7 : n ≤ 7) (a b : Nat) (_ : a < n) (hb : b < n) : bwf n lp a b ≤ 6 := by
  unfold bwf; split
  · split <;> omega
  · omega
theorem btw_c {C : ow_M} {n : Nat} {lp : Bool} (h7 : n ≤ 7) (hn : C.1 2 0 = nI n) (hl : C.1 2 2 = bI lp) {a b : Nat} (hab : a < b) (hb : b < n) : fX1_between (nI a) (nI b) C = some (nI (bwf n lp a b)) := by
  unfold fX1_between bwf
  rw [hn, hl, l_1, l_2, pk_sub (by omega), pk_sub (by omega), pk_sub (by omega), pk_sub (by omega), l_0]
  cases lp with
  | false => rfl
  | true =>
    rw [if_neg (show ¬ bI true = nI 0 by decide)]
    simp only [nI_ltI (show n - 2 - (b - a - 1) < 2 ^ 31 by omega) (show b - a - 1 < 2 ^ 31 by omega), reduceIte]
    by_cases q : n - 2 - (b - a - 1) < b - a - 1
    · rw [if_pos q, if_pos q]
    · rw [if_neg q, if_neg q]
theorem btw_m {D : ow_M} {n : Nat} {lp : Bool} (h7 : n ≤ 7) (hn : D.1 34 5 = nI n) (hl : D.1 34 6 = bI lp) {a b : Nat} (hab : a < b) (hb : b < n) : fX8_readers (nI a) (nI b) D = some (nI (bwf n lp a b)) := by
  unfold fX8_readers bwf
  rw [hn, hl, l_1, l_0, pk_sub (by omega), pk_sub (by omega), pk_sub (by omega), pk_sub (by omega)]
  cases lp with
  | false => rfl
  | true =>
    rw [if_neg (show ¬ bI true = nI 0 by decide)]
    simp only [nI_leI (show b - a < 2 ^ 31 by omega) (show n - (b - a) < 2 ^ 31 by omega), reduceIte]
    by_cases q : b - a ≤ n - (b - a)
    · rw [if_pos q, if_neg (by omega)]
    · rw [if_neg q]
      congr 2
      split <;> omega
def smC (C : ow_M) (a b : Nat) : Bool := decide (C.1 6 a = C.1 6 b)
theorem rdw {C : ow_M} {n : Nat} {lp : Bool} {W : Nat → Option Nat} {T a b : Nat} (h7 : n ≤ 7) (hn : C.1 2 0 = nI n) (hl : C.1 2 2 = bI lp) (hab : a < b) (hb : b < n) (hT : T < 2 ^ n) (ta : T.testBit a = true) (hW : ∀ U, U < T → C.1 20 U = e9 (W U)) (hB : ∀ U u, W U = some u → u ≤ 900) : fX1_readersWith (nI T) (nI a) (nI b) C = some (e9 (hLt W (smC C) (bwf n lp) T a b)) := by
  have hN := p2_128 h7
  have i1 : ow_inn (nI a) 7 := (inn_nI (by omega)).mpr (by omega)
  have i2 : ow_inn (nI b) 7 := (inn_nI (by omega)).mpr (by omega)
  have c1 : (nI a).toNatClampNeg = a := nI_clamp (by omega)
  have c2 : (nI b).toNatClampNeg = b := nI_clamp (by omega)
  unfold fX1_readersWith jX1_readersWith_29 jX1_readersWith_30 hLt smC
  simp only [bit_e (show T < 2 ^ 31 by omega) (show b < 32 by omega), one_e (show a < 32 by omega), one_e (show b < 32 by omega), nx_xor, if_pos i1, if_pos i2, c1, c2, reduceIte, bI_0]
  cases tb : T.testBit b with
  | false => simp [e9]
  | true =>
    simp only [Bool.true_eq_false, reduceIte]
    by_cases q : C.1 6 a = C.1 6 b
    · rw [if_pos q]; simp [q, e9]
    · have xl := x2_lt h7 hT (show a < n by omega) hb (by omega) ta tb
      have i3 : ow_inn (nI (T ^^^ 2 ^ a ^^^ 2 ^ b)) 128 := (inn_nI (by omega)).mpr (by omega)
      have c3 : (nI (T ^^^ 2 ^ a ^^^ 2 ^ b)).toNatClampNeg = T ^^^ 2 ^ a ^^^ 2 ^ b := nI_clamp (by omega)
      simp only [if_neg q, ow_10, reduceIte, if_pos i3, c3, hW _ xl, btw_c h7 hn hl hab hb, ow_obs, decide_eq_false q, true_and]
      cases hw : W (T ^^^ 2 ^ a ^^^ 2 ^ b) with
      | none => rfl
      | some u =>
        have := hB _ _ hw
        have z : ¬ e9 (some u) = -9 := fun w => (nI_m9 (by omega)).mp w
        rw [if_neg z]
        show some (nI u + nI (bwf n lp a b)) = some (nI (u + bwf n lp a b))
        rw [nI_add]
