/-! TRADE: in how many ways goods can stand -/
theorem cnB_split {f : Nat → Bool} (a : Nat) : ∀ b, cnB f (a + b) = cnB f a + cnB (fun i => f (a + i)) b := by
  intro b
  induction b with
  | zero => rfl
  | succ b ih =>
    show cnB f (a + b) + (if f (a + b) then 1 else 0) = cnB f a + (cnB (fun i => f (a + i)) b + (if f (a + b) then 1 else 0))
    rw [ih, Nat.add_assoc]
theorem cnB_mono {f h : Nat → Bool} : ∀ m, (∀ i, i < m → f i = true → h i = true) → cnB f m ≤ cnB h m := by
  intro m
  induction m with
  | zero => intro _; exact Nat.le_refl _
  | succ m ih =>
    intro he
    unfold cnB
    have h1 := ih (fun i hi => he i (by omega))
    have h2 := he m (by omega)
    cases hf : f m with
    | false => simp; omega
    | true => rw [h2 hf]; simp; exact h1
theorem cnB_set {f : Nat → Bool} {e : Nat} {v : Bool} : ∀ m, e < m → cnB (fun i => if i = e then v else f i) m + (if f e then 1 else 0) = cnB f m + (if v then 1 else 0) := by
  intro m
  induction m with
  | zero => intro h; omega
  | succ m ih =>
    intro h
    show cnB (fun i => if i = e then v else f i) m + (if (if m = e then v else f m) = true then 1 else 0) + (if f e then 1 else 0) = cnB f m + (if f m then 1 else 0) + (if v then 1 else 0)
    by_cases q : m = e
    · subst q
      rw [if_pos rfl, cnB_congr (h := f) m (fun i hi => if_neg (by omega))]
      omega
    · rw [if_neg q]
      have := ih (by omega)
      omega
theorem cnB_up {f : Nat → Bool} {x m : Nat} (hx : x < m) (hf : f x = false) : cnB (fun i => if i = x then true else f i) m = cnB f m + 1 := by
  have := cnB_set (f := f) (e := x) (v := true) m hx
  rw [hf] at this
  simpa using this
def swp (e r i : Nat) : Nat := if i = e then r else if i = r then e else i
theorem cnB_swp {f : Nat → Bool} {e r m : Nat} (he : e < m) (hr : r < m) (her : e ≠ r) : cnB (fun i => f (swp e r i)) m = cnB f m := by
  have h1 := cnB_set (f := f) (e := e) (v := f r) m he
  have h2 := cnB_set (f := fun i => if i = e then f r else f i) (e := r) (v := f e) m hr
  simp only [if_neg (fun w : r = e => her w.symm)] at h2
  have h3 : cnB (fun i => f (swp e r i)) m = cnB (fun i => if i = r then f e else if i = e then f r else f i) m := by
    apply cnB_congr
    intro i _
    unfold swp
    by_cases q : i = e
    · subst q; rw [if_pos rfl, if_neg her, if_pos rfl]
    · rw [if_neg q]
      by_cases q2 : i = r
      · rw [if_pos q2, if_pos q2]
      · rw [if_neg q2, if_neg q2, if_neg q]
  rw [h3]
  omega
def dgt (x i : Nat) : Nat := (x / 2 ^ (2 * i)) % 4
theorem dgt_bit (x i b : Nat) : (dgt x i).testBit b = (decide (b < 2) && x.testBit (2 * i + b)) := by
  unfold dgt
  rw [show (4 : Nat) = 2 ^ 2 from rfl, Nat.testBit_mod_two_pow, Nat.testBit_div_two_pow, Nat.add_comm]
theorem dgt_ext {x y i j : Nat} (h : ∀ b, b < 2 → x.testBit (2 * i + b) = y.testBit (2 * j + b)) : dgt x i = dgt y j := by
  apply Nat.eq_of_testBit_eq
  intro b
  rw [dgt_bit, dgt_bit]
  by_cases q : b < 2
  · rw [h b q]
  · rw [decide_eq_false q]; rfl
theorem dgt_lt (x i : Nat) : dgt x i < 4 := Nat.mod_lt _ (by decide)
def hsg (n x k : Nat) : Nat := cnB (fun i => dgt x i == k) n
theorem hsg_sum {x : Nat} : ∀ n, hsg n x 0 + hsg n x 1 + hsg n x 2 + hsg n x 3 = n := by
  intro n
  induction n with
  | zero => rfl
  | succ n ih =>
    unfold hsg at ih ⊢
    unfold cnB
    have := dgt_lt x n
    rcases (show dgt x n = 0 ∨ dgt x n = 1 ∨ dgt x n = 2 ∨ dgt x n = 3 by omega) with h | h | h | h <;> rw [h] <;> simp <;> omega
def PN (n a b c d x : Nat) : Bool := hsg n x 0 == a && hsg n x 1 == b && hsg n x 2 == c && hsg n x 3 == d
def NN : Nat → Nat → Nat → Nat → Nat → Nat
  | 0, a, b, c, d => if a + b + c + d = 0 then 1 else 0
  | n + 1, a, b, c, d => (if a = 0 then 0 else NN n (a - 1) b c d) + (if b = 0 then 0 else NN n a (b - 1) c d) + (if c = 0 then 0 else NN n a b (c - 1) d) + (if d = 0 then 0 else NN n a b c (d - 1))
theorem NN_ck : ∀ n, n < 8 → ∀ a, a < 8 → ∀ b, b < 8 → ∀ c, c < 8 → (if a + b + c ≤ n then NN n a b c (n - a - b - c) ≤ 630 else True) := by decide +kernel
theorem top_dgt {n y q : Nat} (hy : y < 2 ^ (2 * n)) (hq : q < 4) : dgt (2 ^ (2 * n) * q + y) n = q := by
  unfold dgt
  rw [Nat.mul_add_div (Nat.pow_pos (by decide)), Nat.div_eq_of_lt hy, Nat.add_zero]
  exact Nat.mod_eq_of_lt hq
theorem low_dgt {n y q i : Nat} (hy : y < 2 ^ (2 * n)) (hi : i < n) : dgt (2 ^ (2 * n) * q + y) i = dgt y i := by
  apply dgt_ext
  intro b hb
  rw [Nat.testBit_two_pow_mul_add q hy, if_pos (by omega)]
theorem hsg_top {n y q k : Nat} (hy : y < 2 ^ (2 * n)) (hq : q < 4) : hsg (n + 1) (2 ^ (2 * n) * q + y) k = hsg n y k + (if q = k then 1 else 0) := by
  have e : hsg (n + 1) (2 ^ (2 * n) * q + y) k = hsg n (2 ^ (2 * n) * q + y) k + (if (dgt (2 ^ (2 * n) * q + y) n == k) = true then 1 else 0) := rfl
  rw [e, top_dgt hy hq]
  congr 1
  · apply cnB_congr
    intro i hi
    rw [low_dgt hy hi]
  · simp
theorem PN_cn : ∀ n a b c d, cnB (PN n a b c d) (2 ^ (2 * n)) = NN n a b c d := by
  intro n
  induction n with
  | zero =>
    intro a b c d
    have e : cnB (PN 0 a b c d) (2 ^ (2 * 0)) = 0 + (if PN 0 a b c d 0 = true then 1 else 0) := rfl
    have e2 : NN 0 a b c d = if a + b + c + d = 0 then 1 else 0 := rfl
    have e3 : PN 0 a b c d 0 = ((0 == a) && (0 == b) && (0 == c) && (0 == d)) := rfl
    rw [e, e2, Nat.zero_add, e3]
    by_cases q : a + b + c + d = 0
    · obtain ⟨rfl, rfl, rfl, rfl⟩ : a = 0 ∧ b = 0 ∧ c = 0 ∧ d = 0 := by omega
      rfl
    · rw [if_neg q, if_neg]
      intro w
      simp only [Bool.and_eq_true, beq_iff_eq] at w
      omega
  | succ n ih =>
    intro a b c d
    have e1 : 2 ^ (2 * (n + 1)) = ((2 ^ (2 * n) + 2 ^ (2 * n)) + 2 ^ (2 * n)) + 2 ^ (2 * n) := by
      rw [show 2 * (n + 1) = 2 * n + 2 by omega, Nat.pow_add]; omega
    rw [e1, cnB_split, cnB_split, cnB_split]
    have e2 : NN (n + 1) a b c d = (if a = 0 then 0 else NN n (a - 1) b c d) + (if b = 0 then 0 else NN n a (b - 1) c d) + (if c = 0 then 0 else NN n a b (c - 1) d) + (if d = 0 then 0 else NN n a b c (d - 1)) := rfl
    rw [e2]
    have zero : ∀ m, cnB (fun _ => false) m = 0 := by
      intro m
      induction m with
      | zero => rfl
      | succ m ih => unfold cnB; rw [ih]; rfl
    have b0 : cnB (PN (n + 1) a b c d) (2 ^ (2 * n)) = if a = 0 then 0 else NN n (a - 1) b c d := by
      by_cases q : a = 0
      · rw [if_pos q, cnB_congr (h := fun _ => false), zero]
        intro y hy
        have := hsg_top (q := 0) (k := 0) hy (by omega)
        rw [Nat.mul_zero, Nat.zero_add] at this
        unfold PN
        rw [this, q]; simp
      · rw [if_neg q, ← ih, cnB_congr]
        intro y hy
        have h0 := hsg_top (q := 0) (k := 0) hy (by omega)
        have h1 := hsg_top (q := 0) (k := 1) hy (by omega)
        have h2 := hsg_top (q := 0) (k := 2) hy (by omega)
        have h3 := hsg_top (q := 0) (k := 3) hy (by omega)
        rw [Nat.mul_zero, Nat.zero_add] at h0 h1 h2 h3
        unfold PN
        rw [h0, h1, h2, h3, Bool.eq_iff_iff]
        simp only [Bool.and_eq_true, beq_iff_eq]
        simp
        omega
    have b1 : cnB (fun i => PN (n + 1) a b c d (2 ^ (2 * n) + i)) (2 ^ (2 * n)) = if b = 0 then 0 else NN n a (b - 1) c d := by
      by_cases q : b = 0
      · rw [if_pos q, cnB_congr (h := fun _ => false), zero]
        intro y hy
        have := hsg_top (q := 1) (k := 1) hy (by omega)
        rw [Nat.mul_one] at this
        unfold PN
        rw [this, q]; simp
      · rw [if_neg q, ← ih, cnB_congr]
        intro y hy
        have h0 := hsg_top (q := 1) (k := 0) hy (by omega)
        have h1 := hsg_top (q := 1) (k := 1) hy (by omega)
        have h2 := hsg_top (q := 1) (k := 2) hy (by omega)
        have h3 := hsg_top (q := 1) (k := 3) hy (by omega)
        rw [Nat.mul_one] at h0 h1 h2 h3
        unfold PN
        rw [h0, h1, h2, h3, Bool.eq_iff_iff]
        simp only [Bool.and_eq_true, beq_iff_eq]
        simp
        omega
    have b2 : cnB (fun i => PN (n + 1) a b c d (2 ^ (2 * n) + 2 ^ (2 * n) + i)) (2 ^ (2 * n)) = if c = 0 then 0 else NN n a b (c - 1) d := by
      by_cases q : c = 0
      · rw [if_pos q, cnB_congr (h := fun _ => false), zero]
        intro y hy
        have := hsg_top (q := 2) (k := 2) hy (by omega)
        rw [Nat.mul_two] at this
        unfold PN
        rw [this, q]; simp
      · rw [if_neg q, ← ih, cnB_congr]
        intro y hy
        have h0 := hsg_top (q := 2) (k := 0) hy (by omega)
        have h1 := hsg_top (q := 2) (k := 1) hy (by omega)
        have h2 := hsg_top (q := 2) (k := 2) hy (by omega)
        have h3 := hsg_top (q := 2) (k := 3) hy (by omega)
        rw [Nat.mul_two] at h0 h1 h2 h3
        unfold PN
        rw [h0, h1, h2, h3, Bool.eq_iff_iff]
        simp only [Bool.and_eq_true, beq_iff_eq]
        simp
        omega
    have b3 : cnB (fun i => PN (n + 1) a b c d (2 ^ (2 * n) + 2 ^ (2 * n) + 2 ^ (2 * n) + i)) (2 ^ (2 * n)) = if d = 0 then 0 else NN n a b c (d - 1) := by
      have e3 : 2 ^ (2 * n) + 2 ^ (2 * n) + 2 ^ (2 * n) = 2 ^ (2 * n) * 3 := by omega
      rw [e3]
      by_cases q : d = 0
      · rw [if_pos q, cnB_congr (h := fun _ => false), zero]
        intro y hy
        have := hsg_top (q := 3) (k := 3) hy (by omega)
        unfold PN
        rw [this, q]; simp
      · rw [if_neg q, ← ih, cnB_congr]
        intro y hy
        have h0 := hsg_top (q := 3) (k := 0) hy (by omega)
        have h1 := hsg_top (q := 3) (k := 1) hy (by omega)
        have h2 := hsg_top (q := 3) (k := 2) hy (by omega)
        have h3 := hsg_top (q := 3) (k := 3) hy (by omega)
        unfold PN
        rw [h0, h1, h2, h3, Bool.eq_iff_iff]
        simp only [Bool.and_eq_true, beq_iff_eq]
        simp
        omega
    rw [b0, b1, b2, b3]
/-- the ways of one stock -/
def AW (n x0 x : Nat) : Bool := PN n (hsg n x0 0) (hsg n x0 1) (hsg n x0 2) (hsg n x0 3) x
theorem AW_cn {n x0 : Nat} (h7 : n ≤ 7) : cnB (AW n x0) (2 ^ (2 * n)) ≤ 630 := by
  have e : cnB (AW n x0) (2 ^ (2 * n)) = NN n (hsg n x0 0) (hsg n x0 1) (hsg n x0 2) (hsg n x0 3) := PN_cn n _ _ _ _
  have hs := hsg_sum (x := x0) n
  have hc := NN_ck n (by omega) (hsg n x0 0) (by omega) (hsg n x0 1) (by omega) (hsg n x0 2) (by omega)
  rw [if_pos (by omega), show n - hsg n x0 0 - hsg n x0 1 - hsg n x0 2 = hsg n x0 3 by omega] at hc
  rw [e]; exact hc
/-- a HAND -/
def uq (x e r : Nat) : Nat := ((x / 2 ^ (2 * e)) ^^^ (x / 2 ^ (2 * r))) &&& 3
def sw (x e r : Nat) : Nat := x ^^^ (uq x e r * 2 ^ (2 * e)) ^^^ (uq x e r * 2 ^ (2 * r))
theorem uq_lt (x e r : Nat) : uq x e r < 4 := Nat.lt_of_le_of_lt Nat.and_le_right (by decide)
theorem uq_bit (x e r b : Nat) : (uq x e r).testBit b = (decide (b < 2) && (x.testBit (2 * e + b) ^^ x.testBit (2 * r + b))) := by
  unfold uq
  rw [Nat.testBit_and, Nat.testBit_xor, Nat.testBit_div_two_pow, Nat.testBit_div_two_pow, show (3 : Nat) = 2 ^ 2 - 1 from rfl, Nat.testBit_two_pow_sub_one, Bool.and_comm, Nat.add_comm, Nat.add_comm b (2 * r)]
theorem mul_bit (u e i b : Nat) (hu : u < 4) (hb : b < 2) : (u * 2 ^ (2 * e)).testBit (2 * i + b) = (decide (i = e) && u.testBit b) := by
  rw [Nat.mul_comm, Nat.testBit_two_pow_mul]
  by_cases q : i = e
  · subst q
    rw [decide_eq_true (show 2 * i + b ≥ 2 * i by omega), decide_eq_true rfl, Nat.add_sub_cancel_left]
  · rw [decide_eq_false q]
    by_cases q2 : 2 * i + b ≥ 2 * e
    · have : u.testBit (2 * i + b - 2 * e) = false := Nat.testBit_lt_two_pow (Nat.lt_of_lt_of_le hu (show 2 ^ 2 ≤ 2 ^ (2 * i + b - 2 * e) from Nat.pow_le_pow_right (by decide) (by omega)))
      rw [this]; simp
    · rw [decide_eq_false q2]; rfl
theorem sw_bit {x e r i b : Nat} (her : e ≠ r) (hb : b < 2) : (sw x e r).testBit (2 * i + b) = x.testBit (2 * swp e r i + b) := by
  unfold sw swp
  rw [Nat.testBit_xor, Nat.testBit_xor, mul_bit _ _ _ _ (uq_lt x e r) hb, mul_bit _ _ _ _ (uq_lt x e r) hb, uq_bit, decide_eq_true hb]
  by_cases q : i = e
  · subst q
    rw [if_pos rfl, decide_eq_true rfl, decide_eq_false her]
    cases x.testBit (2 * i + b) <;> cases x.testBit (2 * r + b) <;> rfl
  · rw [if_neg q, decide_eq_false q]
    by_cases q2 : i = r
    · subst q2
      rw [if_pos rfl, decide_eq_true rfl]
      cases x.testBit (2 * i + b) <;> cases x.testBit (2 * e + b) <;> rfl
    · rw [if_neg q2, decide_eq_false q2]
      simp
theorem sw_AW {n x0 x e r : Nat} (he : e < n) (hr : r < n) (her : e ≠ r) : AW n x0 (sw x e r) = AW n x0 x := by
  have : ∀ k, hsg n (sw x e r) k = hsg n x k := by
    intro k
    unfold hsg
    rw [← cnB_swp (f := fun i => dgt x i == k) he hr her]
    apply cnB_congr
    intro i _
    rw [dgt_ext (y := x) (j := swp e r i) (fun b hb => sw_bit her hb)]
  unfold AW PN
  rw [this, this, this, this]
theorem sw_lt {n x e r : Nat} (hx : x < 2 ^ (2 * n)) (he : e < n) (hr : r < n) : sw x e r < 2 ^ (2 * n) := by
  have hu := uq_lt x e r
  have h1 : ∀ i, i < n → uq x e r * 2 ^ (2 * i) < 2 ^ (2 * n) := by
    intro i hi
    have a1 : uq x e r * 2 ^ (2 * i) < 4 * 2 ^ (2 * i) := Nat.mul_lt_mul_of_pos_right hu (Nat.pow_pos (by decide))
    have a2 : 4 * 2 ^ (2 * i) = 2 ^ (2 + 2 * i) := by rw [Nat.pow_add]
    have a3 : 2 ^ (2 + 2 * i) ≤ 2 ^ (2 * n) := Nat.pow_le_pow_right (by decide) (by omega)
    omega
  unfold sw
  exact Nat.xor_lt_two_pow (Nat.xor_lt_two_pow hx (h1 e he)) (h1 r hr)
theorem AW_self (n x : Nat) : AW n x x = true := by unfold AW PN; simp
